/-! PURE: Poly1305 by five limbs of 26 bits -/
def P130 : Nat := 2 ^ 130 - 5
def vl (a : Nat → Nat) : Nat := a 0 + a 1 * 2 ^ 26 + a 2 * 2 ^ 52 + a 3 * 2 ^ 78 + a 4 * 2 ^ 104
def cc (a : Nat → Nat) : Nat → Nat
  | 0 => 0
  | i + 1 => (a i + cc a i) / 2 ^ 26
def bb (a : Nat → Nat) (i : Nat) : Nat := (a i + cc a i) % 2 ^ 26
theorem bb_lt (a : Nat → Nat) (i : Nat) : bb a i < 2 ^ 26 := Nat.mod_lt _ (by decide)
theorem vl_bb (a : Nat → Nat) : vl a = vl (bb a) + cc a 5 * 2 ^ 130 := by
  have h0 : a 0 + 0 = bb a 0 + cc a 1 * 2 ^ 26 := by simp only [bb, cc]; omega
  have h1 : a 1 + cc a 1 = bb a 1 + cc a 2 * 2 ^ 26 := by simp only [bb, cc]; omega
  have h2 : a 2 + cc a 2 = bb a 2 + cc a 3 * 2 ^ 26 := by simp only [bb, cc]; omega
  have h3 : a 3 + cc a 3 = bb a 3 + cc a 4 * 2 ^ 26 := by simp only [bb, cc]; omega
  have h4 : a 4 + cc a 4 = bb a 4 + cc a 5 * 2 ^ 26 := by simp only [bb, cc]; omega
  simp only [vl]
  generalize bb a 0 = b0 at *
  generalize bb a 1 = b1 at *
  generalize bb a 2 = b2 at *
  generalize bb a 3 = b3 at *
  generalize bb a 4 = b4 at *
  generalize cc a 1 = c1 at *
  generalize cc a 2 = c2 at *
  generalize cc a 3 = c3 at *
  generalize cc a 4 = c4 at *
  generalize cc a 5 = c5 at *
  omega
theorem vl_lt {a : Nat → Nat} (h : ∀ i, i < 5 → a i < 2 ^ 26) : vl a < 2 ^ 130 := by
  have h0 := h 0 (by omega)
  have h1 := h 1 (by omega)
  have h2 := h 2 (by omega)
  have h3 := h 3 (by omega)
  have h4 := h 4 (by omega)
  simp only [vl]
  omega
theorem vl_cong {a b : Nat → Nat} (h : ∀ i, i < 5 → a i = b i) : vl a = vl b := by
  simp only [vl, h 0 (by omega), h 1 (by omega), h 2 (by omega), h 3 (by omega), h 4 (by omega)]
/-- a row of five longs -/
def LL (S : TS) (q : Nat) (a : Nat → Nat) : Prop := ∀ i, i < 5 → tL S q i = lN (a i)
def ups (f : Nat → Nat) (k v : Nat) : Nat → Nat := fun j => if j = k then v else f j
theorem LL.ex {P : Nat → Prop} {S S' : TS} {q : Nat} {a : Nat → Nat} (h : LL S q a) (e : Ex P S S') (hq : ¬ P q) : LL S' q a := fun i hi => by rw [(e.2 q hq).2]; exact h i hi
theorem LL.cong {S : TS} {q : Nat} {a b : Nat → Nat} (h : LL S q a) (e : ∀ i, i < 5 → a i = b i) : LL S q b := fun i hi => by rw [h i hi, e i hi]
section PPOLY
variable {G : pG} {q : Nat} {Q : Option Value → TS → Prop}
theorem cc_lt {a : Nat → Nat} (ha : ∀ i, i < 5 → a i < 2 ^ 60) : ∀ i, i ≤ 5 → cc a i < 2 ^ 36 := by
  intro i
  induction i with
  | zero => intro _; simp only [cc]; omega
  | succ i ih =>
    intro hi
    have h1 := ih (by omega)
    have h2 := ha i (by omega)
    simp only [cc]
    omega
theorem p_carry1 {a : Nat → Nat} (ha : ∀ i, i < 5 → a i < 2 ^ 60) : ∀ (n i : Nat) (S : TS), i + n = 5 → te S q = some (.inl (.long, 5)) → (∀ j, j < i → tL S q j = lN (bb a j)) → (∀ j, i ≤ j → j < 5 → tL S q j = lN (a j)) →
    (∀ S', Ex (fun z => z = q) S S' → LL S' q (bb a) → Q (some (.long (lN (cc a 5)))) S') → T0 G J_Poly_carry 4 [(0, .ref q), (1, .long (lN (cc a i))), (3, .int (nI i))] [] S Q := by
  intro n
  induction n with
  | zero =>
    intro i S hi ht h1 h2 hQ
    have : i = 5 := by omega
    subst this
    exact v_Poly_carry_4 q _ (nI 5) S Q ⟨fun _ => hQ S (Ex.rf S) h1, fun c => absurd (Int32.le_refl _) c⟩
  | succ n ih =>
    intro i S hi ht h1 h2 hQ
    have hin : vp_in (nI i) 5 := vp_in_nI (by omega) (by omega)
    have hc := cc_lt ha i (by omega)
    have hai := ha i (by omega)
    refine v_Poly_carry_4 q _ (nI i) S Q ⟨fun c => absurd c (nI_ge (b := 5) (by omega) (by omega)), fun _ => ⟨5, ht, hin, hin, ?_⟩⟩
    rw [nI_clamp (by omega), h2 i (Nat.le_refl i) (by omega), lN_add]
    intro S3 e3
    have r3 : tL S3 q = vp_updL (tL S q) i (lN (a i + cc a i)) := by rw [e3, tL_sL, up_s]
    refine ⟨hin, ?_⟩
    rw [r3, pk_uLs]
    intro y4 e4
    rw [show (26 : Int32) = nI 26 from rfl, lushr_lN (by omega) (by omega)] at e4
    refine ⟨hin, hin, ?_⟩
    rw [land_lN (by omega)]
    intro S5 e5 y6 e6
    have x3 : Ex (fun z => z = q) S S3 := by rw [e3]; exact (Ex.rf S).L rfl
    have x5 : Ex (fun z => z = q) S S5 := by rw [e5]; exact x3.L rfl
    have r5 : tL S5 q = vp_updL (vp_updL (tL S q) i (lN (a i + cc a i))) i (lN (bb a i)) := by rw [e5, tL_sL, up_s]; rfl
    rw [e4, e6, nI_1]
    refine ih (i + 1) S5 (by omega) (by rw [x5.1.1]; exact ht) (fun j hj => ?_) (fun j hj hj5 => ?_) (fun S' x' h' => hQ S' (x5.tr x') h')
    · rw [r5]
      by_cases hji : j = i
      · subst hji; rw [pk_uLs]
      · rw [pk_uLn hji, pk_uLn hji]; exact h1 j (by omega)
    · rw [r5, pk_uLn (by omega), pk_uLn (by omega)]
      exact h2 j (by omega) hj5
theorem p_carry {a : Nat → Nat} {S : TS} (ha : ∀ i, i < 5 → a i < 2 ^ 60) (ht : te S q = some (.inl (.long, 5))) (hl : LL S q a) (hQ : ∀ S', Ex (fun z => z = q) S S' → LL S' q (bb a) → Q (some (.long (lN (cc a 5)))) S') : C0 G J_Poly_carry [.ref q] S Q :=
  v_Poly_carry q S Q (p_carry1 ha 5 0 S (by omega) ht (fun j hj => absurd hj (by omega)) (fun j _ hj => hl j hj) hQ)
/-! the object -/
def PS (S : TS) (p : Nat) : Prop := te S p = some (.inr 3) ∧ tR S p 0 = some (p + 1) ∧ te S (p + 1) = some (.inl (.long, 5)) ∧ tR S p 1 = some (p + 2) ∧ te S (p + 2) = some (.inl (.long, 5)) ∧ tR S p 2 = some (p + 3) ∧ te S (p + 3) = some (.inl (.long, 5)) ∧ tR S p 3 = some (p + 4) ∧ te S (p + 4) = some (.inl (.int, 4)) ∧ tR S p 4 = some (p + 5) ∧ BS S (p + 5) 248
theorem PS.sm {S S' : TS} {p : Nat} (k : PS S p) (e : Sm0 S S') : PS S' p := by
  obtain ⟨h1, h2, h3, h4, h5, h6, h7, h8, h9, h10, h11⟩ := k
  exact ⟨by rw [e.1]; exact h1, by rw [e.R]; exact h2, by rw [e.1]; exact h3, by rw [e.R]; exact h4, by rw [e.1]; exact h5, by rw [e.R]; exact h6, by rw [e.1]; exact h7, by rw [e.R]; exact h8, by rw [e.1]; exact h9, by rw [e.R]; exact h10, h11.sm e⟩
/-- what reduce makes of five limbs -/
def rd (a : Nat → Nat) (i : Nat) : Nat := if i = 0 then (bb a 0 + 5 * cc a 5) % 2 ^ 26 else if i = 1 then bb a 1 + (bb a 0 + 5 * cc a 5) / 2 ^ 26 else bb a i
theorem vl_rd (a : Nat → Nat) : vl (rd a) = vl (bb a) + 5 * cc a 5 := by
  simp only [vl, rd]
  simp
  omega
theorem vl_rd2 (a : Nat → Nat) : vl (rd a) = vl a % 2 ^ 130 + 5 * (vl a / 2 ^ 130) := by
  have h1 := vl_bb a
  have h2 := vl_lt (fun i _ => bb_lt a i)
  rw [vl_rd]
  omega
theorem rd_b {a : Nat → Nat} (ha : ∀ i, i < 5 → a i < 2 ^ 60) : rd a 0 < 2 ^ 26 ∧ rd a 1 < 2 ^ 26 + 2 ^ 14 ∧ rd a 2 < 2 ^ 26 ∧ rd a 3 < 2 ^ 26 ∧ rd a 4 < 2 ^ 26 := by
  have h5 := cc_lt ha 5 (by omega)
  have h0 := bb_lt a 0
  have h1 := bb_lt a 1
  have h2 := bb_lt a 2
  have h3 := bb_lt a 3
  have h4 := bb_lt a 4
  refine ⟨by simp only [rd]; simp; omega, by simp only [rd]; simp; omega, by simp only [rd]; simp; omega, by simp only [rd]; simp; omega, by simp only [rd]; simp; omega⟩
theorem p_reduce {p : Nat} {a : Nat → Nat} {S : TS} (hs : PS S p) (ha : ∀ i, i < 5 → a i < 2 ^ 60) (hl : LL S (p + 2) a) (hQ : ∀ S', Ex (fun z => z = p + 2) S S' → LL S' (p + 2) (rd a) → Q none S') : C0 G J_Poly_reduce [.ref p] S Q := by
  have hin0 : vp_in 0 5 := vp_in_nI (n := 0) (by omega) (by omega)
  have hin1 : vp_in 1 5 := vp_in_nI (n := 1) (by omega) (by omega)
  have h5 := cc_lt ha 5 (by omega)
  have b0 := bb_lt a 0
  refine v_Poly_reduce p S Q ⟨hs.1, p + 2, hs.2.2.2.1, ?_⟩
  refine p_carry ha hs.2.2.2.2.1 hl (fun S4 x4 l4 => ⟨_, rfl, 5, (hs.sm x4.1).2.2.2.2.1, hin0, hin0, ?_⟩)
  rw [l4 0 (by omega), show (5 : Int64) = lN 5 from rfl, lN_mul, lN_add]
  intro S8 e8
  have r8 : tL S8 (p + 2) = vp_updL (tL S4 (p + 2)) 0 (lN (bb a 0 + 5 * cc a 5)) := by rw [e8, tL_sL, up_s]
  refine ⟨hin1, hin0, hin1, ?_⟩
  rw [r8, pk_uLs, pk_uLn (by omega), l4 1 (by omega), show (26 : Int32) = nI 26 from rfl, lushr_lN (by omega) (by omega), lN_add]
  intro S9 e9
  have r9 : tL S9 (p + 2) = vp_updL (tL S8 (p + 2)) 1 (lN (bb a 1 + (bb a 0 + 5 * cc a 5) / 2 ^ 26)) := by rw [e9, r8, tL_sL, up_s]
  refine ⟨hin0, hin0, ?_⟩
  rw [r9, pk_uLn (by omega), r8, pk_uLs, land_lN (by omega)]
  intro S10 e10
  have x8 : Ex (fun z => z = p + 2) S S8 := by rw [e8]; exact x4.L rfl
  have x9 : Ex (fun z => z = p + 2) S S9 := by rw [e9]; exact x8.L rfl
  have x10 : Ex (fun z => z = p + 2) S S10 := by rw [e10]; exact x9.L rfl
  refine hQ S10 x10 (fun i hi => ?_)
  have r10 : tL S10 (p + 2) = vp_updL (vp_updL (vp_updL (tL S4 (p + 2)) 0 (lN (bb a 0 + 5 * cc a 5))) 1 (lN (bb a 1 + (bb a 0 + 5 * cc a 5) / 2 ^ 26))) 0 (lN ((bb a 0 + 5 * cc a 5) % 2 ^ 26)) := by rw [e10, tL_sL, up_s]
  rw [r10]
  by_cases i0 : i = 0
  · subst i0; rw [pk_uLs]; rfl
  · rw [pk_uLn i0]
    by_cases i1 : i = 1
    · subst i1; rw [pk_uLs]; rfl
    · rw [pk_uLn i1, pk_uLn i0, l4 i hi]
      simp [rd, i0, i1]
end PPOLY
