/-! PURE: Poly1305 of the class: blocks, text and tag -/
def blkN (t : List B8) (j : Nat) : Nat := le4n t j + le4n t (j + 4) * 2 ^ 32 + le4n t (j + 8) * 2 ^ 64 + le4n t (j + 12) * 2 ^ 96
theorem blkN_lt (t : List B8) (j : Nat) : blkN t j < 2 ^ 128 := by
  have h0 := le4n_lt t j
  have h1 := le4n_lt t (j + 4)
  have h2 := le4n_lt t (j + 8)
  have h3 := le4n_lt t (j + 12)
  unfold blkN
  omega
theorem blkN_W (t : List B8) (j : Nat) : WN (fun i => le4n t (j + 4 * i)) = blkN t j := rfl
/-- the limbs of the sum with a block added -/
def sAdd (a : Nat → Nat) (W : Nat) (i : Nat) : Nat := a i + dg W i + (if i = 4 then 16777216 else 0)
theorem sAdd4 (a : Nat → Nat) (W : Nat) : sAdd a W 4 = a 4 + dg W 4 + 16777216 := by unfold sAdd; rw [if_pos rfl]
theorem sAddn (a : Nat → Nat) (W : Nat) {i : Nat} (h : i ≠ 4) : sAdd a W i = a i + dg W i := by unfold sAdd; rw [if_neg h]; rfl
theorem l24 : (16777216 : Int64) = lN 16777216 := rfl
theorem vl_sAdd {a : Nat → Nat} {W : Nat} (h : W < 2 ^ 130) : vl (sAdd a W) = vl a + W + 2 ^ 128 := by
  have e := vl_dg h
  unfold vl at *
  rw [sAdd4, sAddn _ _ (show (0 : Nat) ≠ 4 by decide), sAddn _ _ (show (1 : Nat) ≠ 4 by decide), sAddn _ _ (show (2 : Nat) ≠ 4 by decide), sAddn _ _ (show (3 : Nat) ≠ 4 by decide)]
  omega
section PBK
variable {G : pG} {p : Nat} {Q : Option Value → TS → Prop}
theorem p_tb1 {t : List B8} {j0 : Nat} (hj0 : j0 + 16 ≤ t.length) : ∀ (n k : Nat) (S : TS), k + n = 4 → PS S p → BT S (p + 5) 248 t → (∀ j, j < k → tI S (p + 4) j = nI (le4n t (j0 + 4 * j))) →
    (∀ S', Ex (fun z => z = p + 4) S S' → (∀ j, j < 4 → tI S' (p + 4) j = nI (le4n t (j0 + 4 * j))) → T0 G J_Poly_takeBlock 36 [(0, .ref p), (1, .int (nI j0)), (2, .int 0)] [] S' Q) → T0 G J_Poly_takeBlock 2 [(0, .ref p), (1, .int (nI j0)), (2, .int (nI k))] [] S Q := by
  intro n
  induction n with
  | zero =>
    intro k S hk hs ht h1 hQ
    have : k = 4 := by omega
    subst this
    exact v_Poly_takeBlock_2 p (nI j0) (nI 4) S Q ⟨fun _ => hQ S (Ex.rf S) h1, fun c => absurd (Int32.le_refl _) c⟩
  | succ n ih =>
    intro k S hk hs ht h1 hQ
    have hN := ht.1.2.2.2
    have hl := ht.2.2
    refine v_Poly_takeBlock_2 p (nI j0) (nI k) S Q ⟨fun c => absurd c (nI_ge (b := 4) (by omega) (by omega)), fun _ => ⟨hs.1, p + 4, hs.2.2.2.2.2.2.2.1, p + 5, hs.2.2.2.2.2.2.2.2.2.1, ht.1.1, ?_⟩⟩
    rw [show (4 : Int32) = nI 4 from rfl, pk_mul, nI_add]
    refine p_numberAt ht (by omega) ⟨_, rfl, p_rvb ⟨_, rfl, 4, hs.2.2.2.2.2.2.2.2.1, vp_in_nI (by omega) (by omega), ?_⟩⟩
    rw [nI_clamp (by omega), rvb_num4]
    intro S1 e1 y ey
    have x1 : Ex (fun z => z = p + 4) S S1 := by rw [e1]; exact (Ex.rf S).I rfl
    rw [ey, nI_1]
    refine ih (k + 1) S1 (by omega) (hs.sm x1.1) (ht.ex x1 (by omega) (by omega)) (fun j hj => ?_) (fun S' x' h' => hQ S' (x1.tr x') h')
    rw [e1, tI_sI, up_s]
    by_cases hjk : j = k
    · subst hjk; rw [pk_us]
    · rw [pk_un hjk]; exact h1 j (by omega)
theorem p_tb2 {x1 : Int32} {w a : Nat → Nat} (hwl : ∀ j, j < 4 → w j < 2 ^ 32) : ∀ (n k : Nat) (S : TS), k + n = 5 → PS S p → (∀ j, j < 4 → tI S (p + 4) j = nI (w j)) → (∀ j, j < k → tL S (p + 2) j = lN (a j + dg (WN w) j)) → (∀ j, k ≤ j → j < 5 → tL S (p + 2) j = lN (a j)) →
    (∀ S', Ex (fun z => z = p + 2) S S' → LL S' (p + 2) (sAdd a (WN w)) → T0 G J_Poly_takeBlock 75 [(0, .ref p), (1, .int x1), (2, .int 0)] [] S' Q) → T0 G J_Poly_takeBlock 36 [(0, .ref p), (1, .int x1), (2, .int (nI k))] [] S Q := by
  intro n
  induction n with
  | zero =>
    intro k S hk hs hw h1 h2 hQ
    have : k = 5 := by omega
    subst this
    have hin : vp_in 4 5 := vp_in_nI (n := 4) (by omega) (by omega)
    refine v_Poly_takeBlock_36 p x1 (nI 5) S Q ⟨fun _ => ⟨hs.1, p + 2, hs.2.2.2.1, 5, hs.2.2.2.2.1, hin, hin, ?_⟩, fun c => absurd (Int32.le_refl _) c⟩
    rw [h1 4 (by omega), l24, lN_add]
    intro S6 e6
    have x6 : Ex (fun z => z = p + 2) S S6 := by rw [e6]; exact (Ex.rf S).L rfl
    refine hQ S6 x6 (fun i hi => ?_)
    rw [e6, tL_sL, up_s]
    by_cases hi4 : i = 4
    · subst hi4; rw [pk_uLs, sAdd4]
    · rw [pk_uLn hi4, h1 i (by omega), sAddn _ _ hi4]
  | succ n ih =>
    intro k S hk hs hw h1 h2 hQ
    have hin : vp_in (nI k) 5 := vp_in_nI (by omega) (by omega)
    refine v_Poly_takeBlock_36 p x1 (nI k) S Q ⟨fun c => absurd c (nI_ge (b := 5) (by omega) (by omega)), fun _ => ⟨hs.1, p + 2, hs.2.2.2.1, 5, hs.2.2.2.2.1, hin, ?_⟩⟩
    refine p_limb hs hw hwl (by omega) ⟨_, rfl, hin, ?_⟩
    rw [nI_clamp (by omega), h2 k (Nat.le_refl k) (by omega), lN_add]
    intro S1 e1 y ey
    have x1' : Ex (fun z => z = p + 2) S S1 := by rw [e1]; exact (Ex.rf S).L rfl
    have r1 : tL S1 (p + 2) = vp_updL (tL S (p + 2)) k (lN (a k + dg (WN w) k)) := by rw [e1, tL_sL, up_s]
    rw [ey, nI_1]
    refine ih (k + 1) S1 (by omega) (hs.sm x1'.1) (fun j hj => ?_) (fun j hj => ?_) (fun j hj hj5 => ?_) (fun S' x' h' => hQ S' (x1'.tr x') h')
    · rw [(x1'.2 (p + 4) (by omega)).1]; exact hw j hj
    · rw [r1]
      by_cases hjk : j = k
      · subst hjk; rw [pk_uLs]
      · rw [pk_uLn hjk]; exact h1 j (by omega)
    · rw [r1, pk_uLn (by omega)]; exact h2 j (by omega) hj5
theorem p_tb4 {x1 : Int32} {s r : Nat → Nat} {k : Nat} (hk : k < 5) : ∀ (n i : Nat) (S : TS), i + n = 5 → PS S p → LL S (p + 1) r → LL S (p + 2) s → tL S (p + 3) k = lN (mm s r k i) →
    (∀ S', Ex (fun z => z = p + 3) S S' → tL S' (p + 3) k = lN (mm s r k 5) → (∀ j, j ≠ k → tL S' (p + 3) j = tL S (p + 3) j) → ∀ y : Int32, y = nI k + 1 → T0 G J_Poly_takeBlock 75 [(0, .ref p), (1, .int x1), (2, .int y)] [] S' Q) → T0 G J_Poly_takeBlock 89 [(0, .ref p), (1, .int x1), (2, .int (nI k)), (3, .int (nI i))] [] S Q := by
  intro n
  induction n with
  | zero =>
    intro i S hi hs hr hl ho hQ
    have : i = 5 := by omega
    subst this
    exact v_Poly_takeBlock_89 p x1 (nI k) (nI 5) S Q ⟨fun _ => hQ S (Ex.rf S) ho (fun _ _ => rfl), fun c => absurd (Int32.le_refl _) c⟩
  | succ n ih =>
    intro i S hi hs hr hl ho hQ
    have hik : vp_in (nI k) 5 := vp_in_nI (by omega) (by omega)
    have hii : vp_in (nI i) 5 := vp_in_nI (by omega) (by omega)
    have step : ∀ (S1 : TS), S1 = sL S (p + 3) (vp_updL (tL S (p + 3)) k (lN (mm s r k (i + 1)))) → ∀ y : Int32, y = nI i + 1 → T0 G J_Poly_takeBlock 89 [(0, .ref p), (1, .int x1), (2, .int (nI k)), (3, .int y)] [] S1 Q := by
      intro S1 e1 y ey
      have x1' : Ex (fun z => z = p + 3) S S1 := by rw [e1]; exact (Ex.rf S).L rfl
      have r1 : tL S1 (p + 3) = vp_updL (tL S (p + 3)) k (lN (mm s r k (i + 1))) := by rw [e1, tL_sL, up_s]
      rw [ey, nI_1]
      refine ih (i + 1) S1 (by omega) (hs.sm x1'.1) (hr.ex x1' (by omega)) (hl.ex x1' (by omega)) (by rw [r1, pk_uLs]) (fun S' x' h' ho' => hQ S' (x1'.tr x') h' (fun j hj => ?_))
      rw [ho' j hj, r1, pk_uLn hj]
    refine v_Poly_takeBlock_89 p x1 (nI k) (nI i) S Q ⟨fun c => absurd c (nI_ge (b := 5) (by omega) (by omega)), fun _ => ⟨hs.1, p + 3, hs.2.2.2.2.2.1, 5, hs.2.2.2.2.2.2.1, hik, p + 2, hs.2.2.2.1, 5, hs.2.2.2.2.1, hii, ?_⟩⟩
    rw [nI_clamp (show k < 2 ^ 31 by omega), nI_clamp (show i < 2 ^ 31 by omega), ho, hl i (by omega)]
    refine ⟨fun c => ?_, fun c => ?_⟩
    · have hc : k < i := (nI_ltI (by omega) (by omega)).mp c
      refine ⟨p + 1, hs.2.1, 5, hs.2.2.1, ?_⟩
      rw [ix5 k hk i (by omega) hc, nI_clamp (by omega), hr _ (by omega), show (5 : Int64) = lN 5 from rfl, lN_mul, lN_mul, lN_add]
      refine ⟨vp_in_nI (by omega) (by omega), hik, ?_⟩
      have e : mm s r k i + s i * (5 * r (k + 5 - i)) = mm s r k (i + 1) := by simp only [mm, cf]; rw [if_neg (by omega)]
      rw [e]
      exact step
    · have hc : i ≤ k := Nat.le_of_not_lt (fun z => c ((nI_ltI (a := k) (b := i) (by omega) (by omega)).mpr z))
      refine ⟨p + 1, hs.2.1, 5, hs.2.2.1, ?_⟩
      rw [pk_sub hc, nI_clamp (by omega), hr _ (by omega), lN_mul, lN_add]
      refine ⟨vp_in_nI (by omega) (by omega), hik, ?_⟩
      have e : mm s r k i + s i * r (k - i) = mm s r k (i + 1) := by simp only [mm, cf]; rw [if_pos hc]
      rw [e]
      exact step
theorem mm_lt {s r : Nat → Nat} (hs : ∀ i, i < 5 → s i < 2 ^ 28) (hr : ∀ i, i < 5 → r i < 2 ^ 26) (k : Nat) (hk : k < 5) : ∀ i, i ≤ 5 → mm s r k i ≤ i * 2 ^ 57 := by
  intro i
  induction i with
  | zero => intro _; simp [mm]
  | succ i ih =>
    intro hi
    have h1 := ih (by omega)
    have h2 := hs i (by omega)
    have h3 : cf r k i ≤ 2 ^ 29 := by
      unfold cf
      split
      · have := hr (k - i) (by omega); omega
      · have := hr (k + 5 - i) (by omega); omega
    have h4 : s i * cf r k i ≤ 2 ^ 28 * 2 ^ 29 := Nat.mul_le_mul (by omega) h3
    simp only [mm]
    omega
theorem p_tb3 {x1 : Int32} {s r : Nat → Nat} (hsl : ∀ i, i < 5 → s i < 2 ^ 28) (hrl : ∀ i, i < 5 → r i < 2 ^ 26) : ∀ (n k : Nat) (S : TS), k + n = 5 → PS S p → LL S (p + 1) r → LL S (p + 2) s → (∀ j, j < k → tL S (p + 3) j = lN (mm s r j 5)) →
    (∀ S', Ex (fun z => z = p + 2 ∨ z = p + 3) S S' → LL S' (p + 2) (rd (fun j => mm s r j 5)) → Q none S') → T0 G J_Poly_takeBlock 75 [(0, .ref p), (1, .int x1), (2, .int (nI k))] [] S Q := by
  intro n
  induction n with
  | zero =>
    intro k S hk hs hr hl ho hQ
    have : k = 5 := by omega
    subst this
    refine v_Poly_takeBlock_75 p x1 (nI 5) S Q ⟨fun _ => ⟨hs.1, p + 3, hs.2.2.2.2.2.1, p + 2, hs.2.2.2.1, 5, hs.2.2.2.2.2.2.1, 5, hs.2.2.2.2.1, by decide, by decide, by decide, by decide, by decide, fun S1 e1 => ?_⟩, fun c => absurd (Int32.le_refl _) c⟩
    have x1' : Ex (fun z => z = p + 2 ∨ z = p + 3) S S1 := by rw [e1]; exact (Ex.rf S).L (Or.inl rfl)
    have l1 : LL S1 (p + 2) (fun j => mm s r j 5) := by
      intro j hj
      rw [e1, tL_sL, up_s, sb_cl0, show (5 : Int32).toNatClampNeg = 5 from rfl, pk_cpy_in (Nat.zero_le _) (by omega), Nat.zero_add, Nat.sub_zero]
      exact ho j hj
    exact p_reduce (hs.sm x1'.1) (fun i hi => by have := mm_lt hsl hrl i hi 5 (by omega); omega) l1 (fun S2 x2 l2 => ⟨rfl, hQ S2 (x1'.tr (x2.mono (fun z hz => Or.inl hz))) l2⟩)
  | succ n ih =>
    intro k S hk hs hr hl ho hQ
    refine v_Poly_takeBlock_75 p x1 (nI k) S Q ⟨fun c => absurd c (nI_ge (b := 5) (by omega) (by omega)), fun _ => ⟨hs.1, p + 3, hs.2.2.2.2.2.1, 5, hs.2.2.2.2.2.2.1, vp_in_nI (by omega) (by omega), ?_⟩⟩
    rw [nI_clamp (by omega)]
    intro S1 e1
    have x1' : Ex (fun z => z = p + 3) S S1 := by rw [e1]; exact (Ex.rf S).L rfl
    have r1 : tL S1 (p + 3) = vp_updL (tL S (p + 3)) k 0 := by rw [e1, tL_sL, up_s]
    refine p_tb4 (by omega) 5 0 S1 (by omega) (hs.sm x1'.1) (hr.ex x1' (by omega)) (hl.ex x1' (by omega)) (by rw [r1, pk_uLs]; rfl) (fun S2 x2 h2 ho2 y ey => ?_)
    have x12 := x1'.tr x2
    rw [ey, nI_1]
    refine ih (k + 1) S2 (by omega) (hs.sm x12.1) (hr.ex x12 (by omega)) (hl.ex x12 (by omega)) (fun j hj => ?_) (fun S' x' h' => hQ S' ((x12.mono (fun z hz => Or.inr hz)).tr x') h')
    by_cases hjk : j = k
    · subst hjk; exact h2
    · rw [ho2 j hjk, r1, pk_uLn hjk]; exact ho j (by omega)
/-- the sum's limbs between two blocks -/
def sB (a : Nat → Nat) : Prop := a 0 < 2 ^ 26 ∧ a 1 < 2 ^ 26 + 2 ^ 14 ∧ a 2 < 2 ^ 26 ∧ a 3 < 2 ^ 26 ∧ a 4 < 2 ^ 26
theorem sB.b {a : Nat → Nat} (h : sB a) : ∀ i, i < 5 → a i < 2 ^ 27 := by
  obtain ⟨h0, h1, h2, h3, h4⟩ := h
  intro i hi
  rcases (show i = 0 ∨ i = 1 ∨ i = 2 ∨ i = 3 ∨ i = 4 by omega) with rfl | rfl | rfl | rfl | rfl <;> omega
theorem p_takeBlock {S : TS} {t : List B8} {j0 : Nat} {a r : Nat → Nat} (hs : PS S p) (ht : BT S (p + 5) 248 t) (hj0 : j0 + 16 ≤ t.length) (hr : LL S (p + 1) r) (hrl : ∀ i, i < 5 → r i < 2 ^ 26) (hl : LL S (p + 2) a) (ha : sB a)
    (hQ : ∀ S' b, Ex (fun z => z = p + 2 ∨ z = p + 3 ∨ z = p + 4) S S' → LL S' (p + 2) b → sB b → vl b % P130 = (vl a + blkN t j0 + 2 ^ 128) * vl r % P130 → Q none S') : C0 G J_Poly_takeBlock [.ref p, .int (nI j0)] S Q := by
  have hW : blkN t j0 < 2 ^ 130 := by have := blkN_lt t j0; omega
  have hsl : ∀ i, i < 5 → sAdd a (blkN t j0) i < 2 ^ 28 := by
    intro i hi
    have h1 := ha.b i hi
    have h2 := dg_lt (blkN t j0) i
    simp only [sAdd]
    split <;> omega
  refine v_Poly_takeBlock p (nI j0) S Q ?_
  refine p_tb1 hj0 4 0 S (by omega) hs ht (fun j hj => absurd hj (by omega)) (fun S1 x1 w1 => ?_)
  refine p_tb2 (w := fun i => le4n t (j0 + 4 * i)) (a := a) (fun j _ => le4n_lt t _) 5 0 S1 (by omega) (hs.sm x1.1) w1 (fun j hj => absurd hj (by omega)) (fun j _ hj => (hl.ex x1 (by omega)) j hj) (fun S2 x2 l2 => ?_)
  rw [blkN_W] at l2
  have hr2 : LL S2 (p + 1) r := (hr.ex x1 (by omega)).ex x2 (by omega)
  refine p_tb3 hsl hrl 5 0 S2 (by omega) ((hs.sm x1.1).sm x2.1) hr2 l2 (fun j hj => absurd hj (by omega)) (fun S3 x3 l3 => ?_)
  have hmm : ∀ i, i < 5 → (fun j => mm (sAdd a (blkN t j0)) r j 5) i < 2 ^ 60 := fun i hi => by have := mm_lt hsl hrl i hi 5 (by omega); show mm _ _ i 5 < _; omega
  refine hQ S3 _ (((x1.mono (fun z hz => Or.inr (Or.inr hz))).tr (x2.mono (fun z hz => Or.inl hz))).tr (x3.mono (fun z hz => hz.elim Or.inl (fun y => Or.inr (Or.inl y))))) l3 (rd_b hmm) ?_
  · rw [vl_rd2, ← vl_sAdd hW, vl_mm]
    generalize vl (fun j => mm (sAdd a (blkN t j0)) r j 5) = V
    have e : V = V % 2 ^ 130 + 2 ^ 130 * (V / 2 ^ 130) := (Nat.mod_add_div V (2 ^ 130)).symm
    have e2 : 2 ^ 130 * (V / 2 ^ 130) = P130 * (V / 2 ^ 130) + 5 * (V / 2 ^ 130) := by
      rw [← Nat.add_mul]
      rfl
    have e3 : V = (V % 2 ^ 130 + 5 * (V / 2 ^ 130)) + P130 * (V / 2 ^ 130) := by omega
    generalize V / 2 ^ 130 = x at *
    generalize V % 2 ^ 130 = y at *
    rw [e3, Nat.add_mul_mod_self_left]
end PBK
