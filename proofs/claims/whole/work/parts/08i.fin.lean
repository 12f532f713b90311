/-! PURE: Poly1305 of the class: its key, its end -/
theorem and_clamp (n : Nat) : n &&& 268435452 = (n / 4 % 2 ^ 26) * 4 := by
  have e : (268435452 : Nat) = (2 ^ 26 - 1) * 2 ^ 2 := by decide
  have e2 : (n / 4 % 2 ^ 26) * 4 = (n / 2 ^ 2 % 2 ^ 26) * 2 ^ 2 := by rw [show (2 ^ 2 : Nat) = 4 by decide]
  rw [e, e2]
  apply Nat.eq_of_testBit_eq
  intro i
  rw [Nat.testBit_and, Nat.testBit_mul_two_pow, Nat.testBit_mul_two_pow, Nat.testBit_two_pow_sub_one, Nat.testBit_mod_two_pow, Nat.testBit_div_two_pow]
  by_cases h : 2 ≤ i
  · rw [show i - 2 + 2 = i by omega]
    simp [h]
    exact Bool.and_comm _ _
  · simp [h]
theorem cl0 (x : Int32) : x &&& (268435455 : Int32) = nI (u32 x % 2 ^ 28) := pk_and x 28 (by decide)
theorem cl1 (x : Int32) : x &&& (268435452 : Int32) = nI (u32 x / 4 % 2 ^ 26 * 4) := by
  have hx := u32_lt x
  apply Int32.toBitVec_inj.mp
  apply BitVec.eq_of_toNat_eq
  rw [Int32.toBitVec_and, BitVec.toNat_and, pk_tn (by omega), show ((268435452 : Int32).toBitVec).toNat = 268435452 from rfl]
  exact and_clamp _
def rcl (w : Nat → Nat) (i : Nat) : Nat := if i = 0 then w 0 % 2 ^ 28 else w i / 4 % 2 ^ 26 * 4
theorem rcl_lt (w : Nat → Nat) (i : Nat) : rcl w i < 2 ^ 32 := by
  unfold rcl
  split <;> omega
theorem cmp0 {x : Nat} (h : x < 2 ^ 62) : lg_cmp (lN x) 0 = 0 ↔ x = 0 := by
  have e : (lN x).toInt = (x : Int) := pk_lT (by omega)
  unfold lg_cmp
  constructor
  · intro hc
    by_cases h0 : x = 0
    · exact h0
    · exfalso
      have h1 : ¬ lN x < 0 := by rw [Int64.lt_iff_toInt_lt, e]; simp
      have h2 : ¬ lN x = 0 := fun q => by
        have := congrArg Int64.toInt q
        rw [e] at this
        simp at this
        omega
      simp [h1, h2] at hc
      split at hc <;> exact absurd hc (by decide)
  · intro h0
    subst h0
    rfl
theorem nI_mod (n : Nat) : nI n = nI (n % 2 ^ 32) := by
  apply Int32.toBitVec_inj.mp
  apply BitVec.eq_of_toNat_eq
  show (BitVec.ofNat 32 n).toNat = (BitVec.ofNat 32 (n % 2 ^ 32)).toNat
  rw [BitVec.toNat_ofNat, BitVec.toNat_ofNat, Nat.mod_mod]
theorem leB4 {a b c d k : Nat} (ha : a < 256) (hb : b < 256) (hc : c < 256) (hd : d < 256) : leB (a + b * 256 + c * 65536 + d * 16777216 + k * 4294967296) 4 = [BitVec.ofNat 8 a, BitVec.ofNat 8 b, BitVec.ofNat 8 c, BitVec.ofNat 8 d] := by
  simp only [leB]
  rw [show (a + b * 256 + c * 65536 + d * 16777216 + k * 4294967296) / 256 = b + c * 256 + d * 65536 + k * 16777216 by omega, show (b + c * 256 + d * 65536 + k * 16777216) / 256 = c + d * 256 + k * 65536 by omega, show (c + d * 256 + k * 65536) / 256 = d + k * 256 by omega]
  rw [ofNat8 (a := a + b * 256 + c * 65536 + d * 16777216 + k * 4294967296) (b := a) (by omega), ofNat8 (a := b + c * 256 + d * 65536 + k * 16777216) (b := b) (by omega), ofNat8 (a := c + d * 256 + k * 65536) (b := c) (by omega), ofNat8 (a := d + k * 256) (b := d) (by omega)]
theorem leB_mod {n m : Nat} (h : n % 2 ^ 32 = m % 2 ^ 32) : leB n 4 = leB m 4 := by
  obtain ⟨a, b, c, d, ha, hb, hc, hd, e⟩ := by4 (n % 2 ^ 32) (Nat.mod_lt _ (by decide))
  have e1 : n = a + b * 256 + c * 65536 + d * 16777216 + n / 2 ^ 32 * 4294967296 := by omega
  have e2 : m = a + b * 256 + c * 65536 + d * 16777216 + m / 2 ^ 32 * 4294967296 := by omega
  rw [e1, e2, leB4 ha hb hc hd, leB4 ha hb hc hd]
theorem leB_16 (N : Nat) : leB N 16 = leB N 4 ++ leB (N / 2 ^ 32) 4 ++ leB (N / 2 ^ 64) 4 ++ leB (N / 2 ^ 96) 4 := by
  rw [show (16 : Nat) = 4 + 4 + 4 + 4 from rfl, leB_add, leB_add, leB_add]
theorem fin_bytes {f0 f1 f2 f3 f4 s0 s1 s2 s3 : Nat} : leB (f0 + s0) 4 ++ leB ((f0 + s0) / 2 ^ 32 + (f1 + s1)) 4 ++ leB (((f0 + s0) / 2 ^ 32 + (f1 + s1)) / 2 ^ 32 + (f2 + s2)) 4 ++ leB ((((f0 + s0) / 2 ^ 32 + (f1 + s1)) / 2 ^ 32 + (f2 + s2)) / 2 ^ 32 + (f3 + s3)) 4 =
    leB ((f0 + f1 * 2 ^ 32 + f2 * 2 ^ 64 + f3 * 2 ^ 96 + f4 * 2 ^ 128) + (s0 + s1 * 2 ^ 32 + s2 * 2 ^ 64 + s3 * 2 ^ 96)) 16 := by
  rw [leB_16]
  generalize hN : (f0 + f1 * 2 ^ 32 + f2 * 2 ^ 64 + f3 * 2 ^ 96 + f4 * 2 ^ 128) + (s0 + s1 * 2 ^ 32 + s2 * 2 ^ 64 + s3 * 2 ^ 96) = N
  generalize h0 : f0 + s0 = y0 at *
  generalize h1 : y0 / 2 ^ 32 + (f1 + s1) = y1 at *
  generalize h2 : y1 / 2 ^ 32 + (f2 + s2) = y2 at *
  generalize h3 : y2 / 2 ^ 32 + (f3 + s3) = y3 at *
  have e1 : N / 2 ^ 32 = y1 + (f2 + s2) * 2 ^ 32 + (f3 + s3) * 2 ^ 64 + f4 * 2 ^ 96 := by omega
  have e2 : N / 2 ^ 64 = y2 + (f3 + s3) * 2 ^ 32 + f4 * 2 ^ 64 := by
    rw [show (64 : Nat) = 32 + 32 from rfl, dv, e1]
    omega
  have e3 : N / 2 ^ 96 = y3 + f4 * 2 ^ 32 := by
    rw [show (96 : Nat) = 64 + 32 from rfl, dv, e2]
    omega
  rw [e1, e2, e3, leB_mod (n := y0) (m := N) (by omega), leB_mod (n := y1) (m := y1 + (f2 + s2) * 2 ^ 32 + (f3 + s3) * 2 ^ 64 + f4 * 2 ^ 96) (by omega), leB_mod (n := y2) (m := y2 + (f3 + s3) * 2 ^ 32 + f4 * 2 ^ 64) (by omega), leB_mod (n := y3) (m := y3 + f4 * 2 ^ 32) (by omega)]
/-- the 32 bit words of five limbs of 26 bits -/
theorem limb_words {f : Nat → Nat} (h : ∀ i, i < 5 → f i < 2 ^ 26) : ∃ g0 g1 g2 g3 g4 : Nat, g0 < 2 ^ 32 ∧ g1 < 2 ^ 32 ∧ g2 < 2 ^ 32 ∧ g3 < 2 ^ 32 ∧ vl f = g0 + g1 * 2 ^ 32 + g2 * 2 ^ 64 + g3 * 2 ^ 96 + g4 * 2 ^ 128 ∧ (f 0 + f 1 * 2 ^ 26) % 2 ^ 32 = g0 ∧ (f 1 / 2 ^ 6 + f 2 * 2 ^ 20) % 2 ^ 32 = g1 ∧ (f 2 / 2 ^ 12 + f 3 * 2 ^ 14) % 2 ^ 32 = g2 ∧ (f 3 / 2 ^ 18 + f 4 * 2 ^ 8) % 2 ^ 32 = g3 := by
  have h0 := h 0 (by omega)
  have h1 := h 1 (by omega)
  have h2 := h 2 (by omega)
  have h3 := h 3 (by omega)
  have h4 := h 4 (by omega)
  refine ⟨(f 0 + f 1 * 2 ^ 26) % 2 ^ 32, (f 1 / 2 ^ 6 + f 2 * 2 ^ 20) % 2 ^ 32, (f 2 / 2 ^ 12 + f 3 * 2 ^ 14) % 2 ^ 32, (f 3 / 2 ^ 18 + f 4 * 2 ^ 8) % 2 ^ 32, f 4 / 2 ^ 24, Nat.mod_lt _ (by decide), Nat.mod_lt _ (by decide), Nat.mod_lt _ (by decide), Nat.mod_lt _ (by decide), ?_, rfl, rfl, rfl, rfl⟩
  simp only [vl]
  generalize f 0 = a0 at *
  generalize f 1 = a1 at *
  generalize f 2 = a2 at *
  generalize f 3 = a3 at *
  generalize f 4 = a4 at *
  have e0 : (a0 + a1 * 2 ^ 26) % 2 ^ 32 = a0 + (a1 % 2 ^ 6) * 2 ^ 26 := by omega
  have e1 : (a1 / 2 ^ 6 + a2 * 2 ^ 20) % 2 ^ 32 = a1 / 2 ^ 6 + (a2 % 2 ^ 12) * 2 ^ 20 := by omega
  have e2 : (a2 / 2 ^ 12 + a3 * 2 ^ 14) % 2 ^ 32 = a2 / 2 ^ 12 + (a3 % 2 ^ 18) * 2 ^ 14 := by omega
  have e3 : (a3 / 2 ^ 18 + a4 * 2 ^ 8) % 2 ^ 32 = a3 / 2 ^ 18 + (a4 % 2 ^ 24) * 2 ^ 8 := by omega
  rw [e0, e1, e2, e3]
  omega
