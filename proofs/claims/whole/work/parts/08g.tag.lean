/-! PURE: Poly1305 of the class: a block -/
def WN (w : Nat → Nat) : Nat := w 0 + w 1 * 2 ^ 32 + w 2 * 2 ^ 64 + w 3 * 2 ^ 96
def dg (W i : Nat) : Nat := W / 2 ^ (26 * i) % 2 ^ 26
theorem dg_lt (W i : Nat) : dg W i < 2 ^ 26 := Nat.mod_lt _ (by decide)
theorem dv (W a b : Nat) : W / 2 ^ (a + b) = W / 2 ^ a / 2 ^ b := by rw [Nat.div_div_eq_div_mul, Nat.pow_add]
theorem vl_dg {W : Nat} (h : W < 2 ^ 130) : vl (dg W) = W := by
  simp only [vl, dg]
  rw [show 26 * 0 = 0 from rfl, show 26 * 1 = 26 from rfl, show 26 * 2 = 26 + 26 from rfl, show 26 * 3 = 26 + 26 + 26 from rfl, show 26 * 4 = 26 + 26 + 26 + 26 from rfl, dv, dv W (26 + 26), dv, dv W (26 + 26 + 26), dv W (26 + 26), dv]
  have e0 : W / 2 ^ 0 = W := by simp
  rw [e0]
  generalize h1 : W / 2 ^ 26 = x1
  generalize h2 : x1 / 2 ^ 26 = x2
  generalize h3 : x2 / 2 ^ 26 = x3
  generalize h4 : x3 / 2 ^ 26 = x4
  omega
theorem i2l_limb (x : Int32) : x.toInt64 &&& (67108863 : Int64) = lN (u32 x % 2 ^ 26) := by
  apply Int64.toBitVec_inj.mp
  apply BitVec.eq_of_toNat_eq
  have hx := x.toBitVec.isLt
  rw [Int64.toBitVec_and, BitVec.toNat_and, show ((67108863 : Int64).toBitVec).toNat = 2 ^ 26 - 1 from rfl, Nat.and_two_pow_sub_one_eq_mod]
  show (BitVec.signExtend 64 x.toBitVec).toNat % 2 ^ 26 = (BitVec.ofNat 64 (u32 x % 2 ^ 26)).toNat
  rw [BitVec.toNat_signExtend, BitVec.toNat_ofNat, BitVec.toNat_setWidth]
  unfold u32
  split <;> omega
theorem WN_lt {w : Nat → Nat} (h : ∀ i, i < 4 → w i < 2 ^ 32) : WN w < 2 ^ 128 := by
  have h0 := h 0 (by omega)
  have h1 := h 1 (by omega)
  have h2 := h 2 (by omega)
  have h3 := h 3 (by omega)
  simp only [WN]
  omega
theorem dg_W {w : Nat → Nat} (h : ∀ i, i < 4 → w i < 2 ^ 32) : dg (WN w) 0 = w 0 % 2 ^ 26 ∧ dg (WN w) 1 = (w 1 * 2 ^ 32 + w 0) / 2 ^ 26 % 2 ^ 26 ∧ dg (WN w) 2 = (w 2 * 2 ^ 32 + w 1) / 2 ^ 20 % 2 ^ 26 ∧ dg (WN w) 3 = (w 3 * 2 ^ 32 + w 2) / 2 ^ 14 % 2 ^ 26 ∧ dg (WN w) 4 = w 3 / 2 ^ 8 % 2 ^ 26 := by
  have h0 := h 0 (by omega)
  have h1 := h 1 (by omega)
  have h2 := h 2 (by omega)
  have h3 := h 3 (by omega)
  simp only [dg, WN]
  generalize w 0 = a at *
  generalize w 1 = b at *
  generalize w 2 = c at *
  generalize w 3 = d at *
  refine ⟨by simp; omega, ?_, ?_, ?_, ?_⟩
  · rw [show 26 * 1 = 26 from rfl]
    omega
  · rw [show 26 * 2 = 32 + 20 from rfl, dv, show (a + b * 2 ^ 32 + c * 2 ^ 64 + d * 2 ^ 96) / 2 ^ 32 = b + c * 2 ^ 32 + d * 2 ^ 64 by omega]
    omega
  · rw [show 26 * 3 = 64 + 14 from rfl, dv, show (a + b * 2 ^ 32 + c * 2 ^ 64 + d * 2 ^ 96) / 2 ^ 64 = c + d * 2 ^ 32 by omega]
    omega
  · rw [show 26 * 4 = 96 + 8 from rfl, dv, show (a + b * 2 ^ 32 + c * 2 ^ 64 + d * 2 ^ 96) / 2 ^ 96 = d by omega]
def cf (r : Nat → Nat) (k i : Nat) : Nat := if i ≤ k then r (k - i) else 5 * r (k + 5 - i)
def mm (s r : Nat → Nat) (k : Nat) : Nat → Nat
  | 0 => 0
  | i + 1 => mm s r k i + s i * cf r k i
theorem poly_id (X a0 a1 a2 a3 a4 b0 b1 b2 b3 b4 : Nat) : (a0 + a1 * X + a2 * X ^ 2 + a3 * X ^ 3 + a4 * X ^ 4) * (b0 + b1 * X + b2 * X ^ 2 + b3 * X ^ 3 + b4 * X ^ 4) + 5 * (a1 * b4 + a2 * b3 + a3 * b2 + a4 * b1 + (a2 * b4 + a3 * b3 + a4 * b2) * X + (a3 * b4 + a4 * b3) * X ^ 2 + a4 * b4 * X ^ 3) =
    (0 + a0 * b0 + a1 * (5 * b4) + a2 * (5 * b3) + a3 * (5 * b2) + a4 * (5 * b1)) + (0 + a0 * b1 + a1 * b0 + a2 * (5 * b4) + a3 * (5 * b3) + a4 * (5 * b2)) * X + (0 + a0 * b2 + a1 * b1 + a2 * b0 + a3 * (5 * b4) + a4 * (5 * b3)) * X ^ 2 + (0 + a0 * b3 + a1 * b2 + a2 * b1 + a3 * b0 + a4 * (5 * b4)) * X ^ 3 + (0 + a0 * b4 + a1 * b3 + a2 * b2 + a3 * b1 + a4 * b0) * X ^ 4
    + X ^ 5 * (a1 * b4 + a2 * b3 + a3 * b2 + a4 * b1 + (a2 * b4 + a3 * b3 + a4 * b2) * X + (a3 * b4 + a4 * b3) * X ^ 2 + a4 * b4 * X ^ 3) := by
  grind
theorem vl_mm (s r : Nat → Nat) : vl s * vl r % P130 = vl (fun k => mm s r k 5) % P130 := by
  have h := poly_id (2 ^ 26) (s 0) (s 1) (s 2) (s 3) (s 4) (r 0) (r 1) (r 2) (r 3) (r 4)
  generalize (s 1 * r 4 + s 2 * r 3 + s 3 * r 2 + s 4 * r 1 + (s 2 * r 4 + s 3 * r 3 + s 4 * r 2) * 2 ^ 26 + (s 3 * r 4 + s 4 * r 3) * (2 ^ 26) ^ 2 + s 4 * r 4 * (2 ^ 26) ^ 3) = E at h
  have e1 : vl s * vl r = (s 0 + s 1 * 2 ^ 26 + s 2 * (2 ^ 26) ^ 2 + s 3 * (2 ^ 26) ^ 3 + s 4 * (2 ^ 26) ^ 4) * (r 0 + r 1 * 2 ^ 26 + r 2 * (2 ^ 26) ^ 2 + r 3 * (2 ^ 26) ^ 3 + r 4 * (2 ^ 26) ^ 4) := rfl
  have e2 : vl (fun k => mm s r k 5) = (0 + s 0 * r 0 + s 1 * (5 * r 4) + s 2 * (5 * r 3) + s 3 * (5 * r 2) + s 4 * (5 * r 1)) + (0 + s 0 * r 1 + s 1 * r 0 + s 2 * (5 * r 4) + s 3 * (5 * r 3) + s 4 * (5 * r 2)) * 2 ^ 26 + (0 + s 0 * r 2 + s 1 * r 1 + s 2 * r 0 + s 3 * (5 * r 4) + s 4 * (5 * r 3)) * (2 ^ 26) ^ 2 + (0 + s 0 * r 3 + s 1 * r 2 + s 2 * r 1 + s 3 * r 0 + s 4 * (5 * r 4)) * (2 ^ 26) ^ 3 + (0 + s 0 * r 4 + s 1 * r 3 + s 2 * r 2 + s 3 * r 1 + s 4 * r 0) * (2 ^ 26) ^ 4 := rfl
  rw [← e1, ← e2] at h
  generalize vl s * vl r = x at *
  generalize vl (fun k => mm s r k 5) = y at *
  have e3 : x = y + P130 * E := by
    have : (2 ^ 26) ^ 5 * E = P130 * E + 5 * E := by
      rw [← Nat.add_mul]
      rfl
    omega
  rw [e3, Nat.add_mul_mod_self_left]
theorem ix5 : ∀ k, k < 5 → ∀ i, i < 5 → k < i → (nI k - nI i) + (5 : Int32) = nI (k + 5 - i) := by decide +kernel
section PTB
variable {G : pG} {p : Nat} {Q : Option Value → TS → Prop}
theorem p_limb {S : TS} {Q : Option Value → Prop} {w : Nat → Nat} {i : Nat} (hs : PS S p) (hw : ∀ j, j < 4 → tI S (p + 4) j = nI (w j)) (hwl : ∀ j, j < 4 → w j < 2 ^ 32) (hi : i < 5) (hQ : Q (some (.long (lN (dg (WN w) i))))) : CP G J_Poly_limbOfWords [.ref p, .int (nI i)] S Q := by
  obtain ⟨d0, d1, d2, d3, d4⟩ := dg_W hwl
  have w0 := hwl 0 (by omega)
  have w1 := hwl 1 (by omega)
  have w2 := hwl 2 (by omega)
  have w3 := hwl 3 (by omega)
  have mk : ∀ j, j < 4 → ((nI (w j)).toInt64 &&& (4294967295 : Int64)) = lN (w j) := fun j hj => by rw [i2l_mask, u32_nI (hwl j hj)]
  have hin : ∀ j, j < 4 → vp_in (nI j) 4 := fun j hj => vp_in_nI hj (by omega)
  have sh : ∀ x : Nat, lN x <<< (((32 : Int32).toInt64) &&& 63) = lN (x * 2 ^ 32) := fun x => wb_shl x (k := 32) (by omega)
  rcases (show i = 0 ∨ i = 1 ∨ i = 2 ∨ i = 3 ∨ i = 4 by omega) with rfl | rfl | rfl | rfl | rfl
  · refine v_Poly_limbOfWords p (nI 0) S Q ⟨fun c => absurd rfl c, fun _ => ⟨hs.1, p + 4, hs.2.2.2.2.2.2.2.1, 4, hs.2.2.2.2.2.2.2.2.1, hin 0 (by omega), ?_⟩⟩
    rw [hw 0 (by omega), i2l_limb, u32_nI w0, ← d0]
    exact hQ
  · refine v_Poly_limbOfWords p (nI 1) S Q ⟨fun _ => ⟨fun c => absurd c (by decide), fun _ => ⟨hs.1, p + 4, hs.2.2.2.2.2.2.2.1, 4, hs.2.2.2.2.2.2.2.2.1, hin 1 (by omega), fun y12 e12 => ⟨hin 0 (by omega), fun y13 e13 => ?_⟩⟩⟩, fun c => absurd c (by decide)⟩
    have f1 : tI S (p + 4) (nI 1).toNatClampNeg = nI (w 1) := hw 1 (by omega)
    have f0 : tI S (p + 4) (nI 1 - (1 : Int32)).toNatClampNeg = nI (w 0) := hw 0 (by omega)
    rw [f1, mk 1 (by omega)] at e12
    rw [f0, mk 0 (by omega), e12, sh, lor_lN w0 (by omega)] at e13
    rw [e13, show (32 : Int32) - ((6 : Int32) * nI 1) = nI 26 from rfl, lushr_lN (by omega) (by omega), land_lN (by omega), ← d1]
    exact hQ
  · refine v_Poly_limbOfWords p (nI 2) S Q ⟨fun _ => ⟨fun c => absurd c (by decide), fun _ => ⟨hs.1, p + 4, hs.2.2.2.2.2.2.2.1, 4, hs.2.2.2.2.2.2.2.2.1, hin 2 (by omega), fun y12 e12 => ⟨hin 1 (by omega), fun y13 e13 => ?_⟩⟩⟩, fun c => absurd c (by decide)⟩
    have f1 : tI S (p + 4) (nI 2).toNatClampNeg = nI (w 2) := hw 2 (by omega)
    have f0 : tI S (p + 4) (nI 2 - (1 : Int32)).toNatClampNeg = nI (w 1) := hw 1 (by omega)
    rw [f1, mk 2 (by omega)] at e12
    rw [f0, mk 1 (by omega), e12, sh, lor_lN w1 (by omega)] at e13
    rw [e13, show (32 : Int32) - ((6 : Int32) * nI 2) = nI 20 from rfl, lushr_lN (by omega) (by omega), land_lN (by omega), ← d2]
    exact hQ
  · refine v_Poly_limbOfWords p (nI 3) S Q ⟨fun _ => ⟨fun c => absurd c (by decide), fun _ => ⟨hs.1, p + 4, hs.2.2.2.2.2.2.2.1, 4, hs.2.2.2.2.2.2.2.2.1, hin 3 (by omega), fun y12 e12 => ⟨hin 2 (by omega), fun y13 e13 => ?_⟩⟩⟩, fun c => absurd c (by decide)⟩
    have f1 : tI S (p + 4) (nI 3).toNatClampNeg = nI (w 3) := hw 3 (by omega)
    have f0 : tI S (p + 4) (nI 3 - (1 : Int32)).toNatClampNeg = nI (w 2) := hw 2 (by omega)
    rw [f1, mk 3 (by omega)] at e12
    rw [f0, mk 2 (by omega), e12, sh, lor_lN w2 (by omega)] at e13
    rw [e13, show (32 : Int32) - ((6 : Int32) * nI 3) = nI 14 from rfl, lushr_lN (by omega) (by omega), land_lN (by omega), ← d3]
    exact hQ
  · refine v_Poly_limbOfWords p (nI 4) S Q ⟨fun _ => ⟨fun _ => ⟨hs.1, p + 4, hs.2.2.2.2.2.2.2.1, 4, hs.2.2.2.2.2.2.2.2.1, hin 3 (by omega), fun y6 e6 => ?_⟩, fun c => absurd (by decide) c⟩, fun c => absurd c (by decide)⟩
    have f0 : tI S (p + 4) (nI 4 - (1 : Int32)).toNatClampNeg = nI (w 3) := hw 3 (by omega)
    rw [f0, mk 3 (by omega), show (0 : Int64) = lN 0 from rfl, sh, lor_lN w3 (by omega), show 0 * 2 ^ 32 + w 3 = w 3 by omega] at e6
    rw [e6, show (32 : Int32) - ((6 : Int32) * nI 4) = nI 8 from rfl, lushr_lN (by omega) (by omega), land_lN (by omega), ← d4]
    exact hQ
end PTB
