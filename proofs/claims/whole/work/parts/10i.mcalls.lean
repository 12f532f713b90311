/-! PURE: calls of the reference -/
theorem rngI {x : Int32} {N : Nat} (hN : N < 2 ^ 31) (h0 : ¬ x < 0) (h1 : x < nI N) : ∃ j, j < N ∧ x = nI j := by
  obtain ⟨j, hj, rfl⟩ := nI_of h0
  exact ⟨j, (nI_ltI hj hN).mp h1, rfl⟩
theorem rngJ {x : Int32} {N : Nat} (hN : N < 2 ^ 31) (h0 : ¬ x < 0) (h1 : x ≤ nI N) : ∃ j, j < N + 1 ∧ x = nI j := by
  obtain ⟨j, hj, rfl⟩ := nI_of h0
  have := (nI_leI hj hN).mp h1
  exact ⟨j, by omega, rfl⟩
theorem nle {x y : Int32} (h : ¬ x ≤ y) : y < x := by
  rw [Int32.le_iff_toInt_le] at h
  rw [Int32.lt_iff_toInt_lt]
  omega
theorem nlt {x y : Int32} (h : ¬ x < y) : y ≤ x := by
  rw [Int32.lt_iff_toInt_lt] at h
  rw [Int32.le_iff_toInt_le]
  omega
theorem BR.take {S : TS} {a o : Nat} {l : List B8} (h : BR S a o l) (k : Nat) : BR S a o (l.take k) := by
  intro j hj
  rw [List.length_take] at hj
  rw [h j (by omega), List.getD_eq_getElem?_getD, List.getD_eq_getElem?_getD, List.getElem?_take, if_pos (by omega)]
theorem BR.nil (S : TS) (a o : Nat) : BR S a o [] := fun j hj => absurd hj (by simp)
theorem BR.row {S S' : TS} {a o : Nat} {l : List B8} (h : BR S a o l) (e : ∀ i, o ≤ i → i < o + l.length → tI S' a i = tI S a i) : BR S' a o l := fun j hj => by rw [e _ (by omega) (by omega)]; exact h j hj
theorem BR.at0 {S : TS} {a : Nat} {l : List B8} (h : BR S a 0 l) {j : Nat} (hj : j < l.length) : tI S a j = sx (l.getD j 0) := by
  have := h j hj
  rw [Nat.zero_add] at this
  exact this
theorem cBL.app {y f r : Nat} {S S' : TS} {l : List B8} {b : B8} (h : cBL y f r S l) (e1 : tI S' y f = nI (l.length + 1)) (e2 : tI S' (y + r) = upd (tI S (y + r)) l.length (sx b)) : cBL y f r S' (l ++ [b]) := ⟨by rw [e1]; simp, h.2.snoc e2⟩
theorem AOK.tp {A : AS} (ok : AOK A) : (aB A 0).length ≤ 200 := ok.2.2.2.2.2.2.2.2.2.1
theorem AOK.an {A : AS} (ok : AOK A) : (aB A 3).length ≤ 65 := ok.2.2.2.2.2.2.2.2.2.2.1
theorem AOK.ot {A : AS} (ok : AOK A) : (aB A 1).length ≤ 65 := ok.2.2.2.2.2.2.2.2.2.2.2
theorem AOK.nm {A : AS} (ok : AOK A) : 1 ≤ (aB A 2).length ∧ (aB A 2).length ≤ 16 := ok.2.2.2.2.2.1
theorem AOK.ky {A : AS} (ok : AOK A) {j : Nat} (hj : j < 16) : aB A (4 + j) = [] ∨ (aB A (4 + j)).length = 32 := ok.2.1 j hj
theorem AOK.kl {A : AS} (ok : AOK A) {j : Nat} (hj : j < 16) : (aB A (4 + j)).length ≤ 32 := by
  rcases ok.ky hj with h | h
  · rw [h]; simp
  · omega
theorem AOK.wl {A : AS} (ok : AOK A) {w : Nat} (hw : w < 2) : (aW A w).length ≤ 12 := (ok.2.2.2.2.2.2.2.1 w hw).1
theorem AOK.wr {A : AS} (ok : AOK A) {w : Nat} (hw : w < 2) : ∀ l ∈ aW A w, 3 ≤ l.length ∧ l.length ≤ 200 := (ok.2.2.2.2.2.2.2.1 w hw).2
theorem AOK.ts {A : AS} (ok : AOK A) : (aT A).length ≤ 20 ∧ ∀ e ∈ aT A, 1 ≤ e.1.length ∧ e.1.length ≤ 16 ∧ e.2.length ≤ 64 := ok.2.2.2.2.2.2.2.2.1
section MC1
variable {G : pG} {y : Nat} {S : TS} {A : AS}
theorem m_side {S : TS} {Q : Option Value → Prop} {x : Int32} (h1 : ∀ j, j < 2 → x = nI j → Q (some (.int 1))) (h0 : (∀ j, j < 2 → x ≠ nI j) → Q (some (.int 0))) : CP G J_M_side [.int x] S Q := by
  refine v_M_side x S Q ⟨fun c => h1 0 (by omega) c, fun c => ⟨fun c2 => h0 (fun j hj e => ?_), fun c2 => h1 1 (by omega) c2⟩⟩
  rcases (show j = 0 ∨ j = 1 by omega) with rfl | rfl
  · exact c e
  · exact c2 e
def pTp (y : Nat) : Nat → Prop := fun a => a = y + 1
def fTp : Nat → Prop := fun f => f = 1
theorem m_put3 {Q : Option Value → TS → Prop} {x : Int32} : ∀ (j : Nat) (S : TS) (l : List B8), j ≤ 4 → MS y S → cBL y 1 1 S l → l.length + j ≤ 200 →
    (∀ S', MX y (pTp y) fTp S S' → cBL y 1 1 S' (l ++ (be4 x).drop (4 - j)) → Q none S') → T0 G J_M_put 3 [(0, .ref y), (1, .int x), (2, .int (nI (8 * j) - 8))] [] S Q := by
  intro j
  induction j with
  | zero =>
    intro S l hj hs hb hl hQ
    refine v_M_put_3 y x _ S Q ⟨fun _ => hQ S (MX.rf S) (by simpa [be4] using hb), fun c => absurd (by decide) c⟩
  | succ j ih =>
    intro S l hj hs hb hl hQ
    have e8 : nI (8 * (j + 1)) - (8 : Int32) = nI (8 * j) := pk_sub (b := 8) (by omega)
    rw [e8]
    refine v_M_put_3 y x _ S Q ⟨fun c => absurd c (nI_pos (by omega)), fun _ => ⟨hs.1, y + 1, hs.r 1 (by omega) (by omega), 200, hs.t 1 (by omega) (by omega), ?_⟩⟩
    rw [hb.1, nI_clamp (by omega), nar2, b8_neg8 x j (by omega)]
    refine ⟨vp_in_nI (by omega) (by omega), fun S6 e6 S7 e7 z ez => ?_⟩
    have r6 : tI S6 y = tI S y := by rw [e6, tI_sI, up_n _ _ (by omega)]
    have ry : tI S7 y = upd (tI S y) 1 (nI (l.length + 1)) := by rw [e7, tI_sI, up_s, r6, hb.1, nI_1]
    have r1 : tI S7 (y + 1) = upd (tI S (y + 1)) l.length (sx (b8 (ushr x (nI (8 * j))))) := by rw [e7, tI_sI, up_n _ _ (by omega), e6, tI_sI, up_s]
    have x7 : MX y (pTp y) fTp S S7 := ⟨by rw [e7, e6]; exact ((Ex.rf S).I (Or.inr rfl)).I (Or.inl rfl), fun k hk => by rw [ry, pk_un hk]⟩
    rw [ez, show nI (8 * j) + (-8 : Int32) = nI (8 * j) - 8 from (Int32.sub_eq_add_neg _ _).symm]
    refine ih S7 (l ++ [b8 (ushr x (nI (8 * j)))]) (by omega) (hs.sm x7.sm) (hb.app (by rw [ry, pk_us]) r1) (by simp; omega) (fun S' x' b' => hQ S' (x7.tr x') ?_)
    have ed : (be4 x).drop (4 - (j + 1)) = b8 (ushr x (nI (8 * j))) :: (be4 x).drop (4 - j) := by
      rcases (show j = 0 ∨ j = 1 ∨ j = 2 ∨ j = 3 by omega) with rfl | rfl | rfl | rfl
      · show [b8 x] = [b8 (ushr x 0)]
        congr 2
      · rfl
      · rfl
      · rfl
    rw [ed]
    simpa using b'
theorem m_put {Q : Option Value → TS → Prop} {x : Int32} {l : List B8} (hs : MS y S) (hb : cBL y 1 1 S l) (hl : l.length + 4 ≤ 200) (hQ : ∀ S', MX y (pTp y) fTp S S' → cBL y 1 1 S' (l ++ be4 x) → Q none S') : C0 G J_M_put [.ref y, .int x] S Q :=
  v_M_put y x S Q (m_put3 (x := x) 4 S l (by omega) hs hb hl hQ)
theorem r_feed (h : RM y S A) (ok : AOK A) (a b c d e : Int32) : C0 G J_M_feed [.ref y, .int a, .int b, .int c, .int d, .int e] S (fun r S' => r = some (.int (fFeed A a b c d e).1) ∧ RMF y S S' (fFeed A a b c d e).2) := by
  have R := h.f
  have hl := ok.tp
  refine v_M_feed y a b c d e S _ ⟨R.ms.1, ?_⟩
  rw [R.tp.1, show nI (aB A 0).length + (20 : Int32) = nI ((aB A 0).length + 20) from nI_add _ 20]
  unfold fFeed
  refine ⟨fun c1 => ?_, fun c1 => ?_⟩
  · have hc : (aB A 0).length + 20 ≤ 200 := (nI_leI (b := 200) (by omega) (by omega)).mp c1
    rw [if_pos hc]
    refine m_put R.ms R.tp (by omega) (fun S1 x1 b1 => ⟨rfl, m_put (R.ms.sm x1.sm) b1 (by simp [be4_len]; omega) (fun S2 x2 b2 => ⟨rfl, m_put ((R.ms.sm x1.sm).sm x2.sm) b2 (by simp [be4_len]; omega) (fun S3 x3 b3 => ⟨rfl, m_put (((R.ms.sm x1.sm).sm x2.sm).sm x3.sm) b3 (by simp [be4_len]; omega) (fun S4 x4 b4 => ⟨rfl, m_put ((((R.ms.sm x1.sm).sm x2.sm).sm x3.sm).sm x4.sm) b4 (by simp [be4_len]; omega) (fun S5 x5 b5 => ⟨rfl, ?_, R.tape ((((x1.tr x2).tr x3).tr x4).tr x5) b5⟩)⟩)⟩)⟩)⟩)
    rw [b5.1]
    congr 3
    simp only [List.length_append, be4_len]
  · rw [if_neg (fun z => c1 (nI_le (b := 200) z (by omega)))]
    exact ⟨rfl, R⟩
/-- the tape's length is set -/
theorem RMF.cut {S0 S S' : TS} {k : Nat} (R : RMF y S0 S A) (hk : k ≤ (aB A 0).length) (e : S' = sI S y (upd (tI S y) 1 (nI k))) : RMF y S0 S' (wB A 0 ((aB A 0).take k)) := by
  have ry : tI S' y = upd (tI S y) 1 (nI k) := by rw [e, tI_sI, up_s]
  have r1 : tI S' (y + 1) = tI S (y + 1) := by rw [e, tI_sI, up_n _ _ (by omega)]
  refine R.tape ⟨by rw [e]; exact (Ex.rf S).I (Or.inl rfl), fun f hf => by rw [ry, pk_un hf]⟩ ⟨by rw [ry, pk_us, List.length_take]; congr 1; omega, (R.tp.2.take k).eq r1⟩
theorem r_end (h : RM y S A) (ok : AOK A) (n : Int32) : C0 G J_M_end [.ref y, .int n] S (fun r S' => r = some (.int (fEnd A n).1) ∧ RMF y S S' (fEnd A n).2) := by
  have R := h.f
  have hl := ok.tp
  unfold fEnd
  refine v_M_end y n S _ ⟨fun c => ?_, fun c => ⟨R.ms.1, ?_⟩⟩
  · rw [nof_none (fun j hj e => by rw [e] at c; exact nI_pos (by omega) c)]
    exact ⟨rfl, R⟩
  · rw [R.tp.1]
    refine ⟨fun c2 S2 e2 => ?_, fun c2 => ?_⟩
    · obtain ⟨j, hj, rfl⟩ := rngJ (by omega) c c2
      rw [nof_some hj (by omega)]
      exact ⟨rfl, R.cut (by omega) e2⟩
    · rw [nof_none (fun j hj e => c2 (by rw [e]; exact nI_le (by omega) (by omega)))]
      exact ⟨rfl, R⟩
theorem r_octet (h : RM y S A) (ok : AOK A) (i : Int32) : CP G J_M_octet [.ref y, .int i] S (fun r => r = some (.int (bos (aB A 1) i))) := by
  have R := h.f
  have hl := ok.ot
  unfold bos
  refine v_M_octet y i S _ ⟨fun c => ?_, fun c => ⟨R.ms.1, by rw [if_pos c, R.ot.1]⟩⟩
  rw [if_neg c]
  refine ⟨fun c2 => ?_, fun c2 => ⟨R.ms.1, ?_⟩⟩
  · rw [nof_none (fun j hj e => by rw [e] at c2; exact nI_pos (by omega) c2)]
  · rw [R.ot.1]
    refine ⟨fun c3 => ?_, fun c3 => ?_⟩
    · obtain ⟨j, hj, rfl⟩ := rngI (by omega) c2 c3
      refine ⟨y + 2, R.ms.r 2 (by omega) (by omega), 128, R.ms.t 2 (by omega) (by omega), vp_in_nI (by omega) (by omega), ?_⟩
      rw [nof_some hj (by omega), nI_clamp (by omega), R.ot.2.at0 hj, sx_and]
    · rw [nof_none (fun j hj e => c3 (by rw [e]; exact nI_lt (by omega) (by omega)))]
theorem RMF.keyU {S0 S S' : TS} {i : Nat} {l : List B8} {P F : Nat → Prop} (R : RMF y S0 S A) (hi : i < 16) (ok : ∀ j, j < 16 → (aB A (4 + j)).length ≤ 32) (e : MX y P F S S') (hp : ∀ a, P a → mscr y a ∨ a = y + 9 ∨ a = y + 10) (hf : ∀ f, F f → fscr f)
    (r9 : tI S' (y + 9) = upd (tI S (y + 9)) i (if l = [] then 0 else 1)) (hb : BR S' (y + 10) (32 * i) l) (ho : ∀ j, (j < 32 * i ∨ 32 * i + 32 ≤ j) → tI S' (y + 10) j = tI S (y + 10) j) : RMF y S0 S' (wB A (4 + i) l) := by
  have n : ∀ k, k ≠ 9 → k ≠ 10 → ¬ mscr y (y + k) → ¬ P (y + k) := fun k h9 h10 hk z => (hp _ z).elim hk (fun z => by omega)
  have m : ∀ k, (k ≠ 6 ∧ k ≠ 12 ∧ k ≠ 46) → ¬ F k := fun k hk z => by have := hf _ z; unfold fscr at this; omega
  have ne : ∀ j, j ≠ 4 + i → aB (wB A (4 + i) l) j = aB A j := fun j hj => by rw [aB_wB, up_n _ _ hj]
  refine R.gen e (fun a z => (hp a z).elim mscr_in (fun z => by show y ≤ a ∧ a < y + 45; omega)) (Or.inr ⟨ne 0 (by omega), n 1 (by omega) (by omega) ?_, m 1 (by omega)⟩) (Or.inr ⟨ne 1 (by omega), n 2 (by omega) (by omega) ?_, m 3 (by omega)⟩) (Or.inr ⟨ne 2 (by omega), n 21 (by omega) (by omega) ?_, m 26 (by omega)⟩) (Or.inr ⟨ne 3 (by omega), n 26 (by omega) (by omega) ?_, m 33 (by omega)⟩) (Or.inl (fun j hj => ?_)) (Or.inr ⟨fun _ _ => rfl, n 11 (by omega) (by omega) ?_, n 12 (by omega) (by omega) ?_⟩) (Or.inr ⟨rfl, ne 20 (by omega), n 13 (by omega) (by omega) ?_⟩) (Or.inr ⟨rfl, ne 21 (by omega), ne 22 (by omega), ne 23 (by omega), n 14 (by omega) (by omega) ?_, n 40 (by omega) (by omega) ?_⟩) (fun s hs => Or.inr ⟨⟨rfl, fun d _ => ⟨ne _ (by omega), rfl, rfl⟩⟩, n 15 (by omega) (by omega) ?_, n 16 (by omega) (by omega) ?_, n 17 (by omega) (by omega) ?_⟩) (fun w hw => Or.inr ⟨rfl, n 18 (by omega) (by omega) ?_, n 19 (by omega) (by omega) ?_, n 20 (by omega) (by omega) ?_⟩) (Or.inr ⟨rfl, n 22 (by omega) (by omega) ?_, n 23 (by omega) (by omega) ?_, n 24 (by omega) (by omega) ?_, n 25 (by omega) (by omega) ?_, m 31 (by omega)⟩) (Or.inr ⟨rfl, rfl, rfl, m 4 (by omega), m 34 (by omega), m 35 (by omega)⟩)
  case refine_5 =>
    show tI S' (y + 9) j = (if aB (wB A (4 + i) l) (4 + j) = [] then 0 else 1) ∧ BR S' (y + 10) (32 * j) (aB (wB A (4 + i) l) (4 + j))
    rw [r9]
    by_cases hji : j = i
    · subst hji
      rw [pk_us, aB_wB, up_s]
      exact ⟨rfl, hb⟩
    · rw [pk_un hji, ne (4 + j) (by omega)]
      have h2 := ok j hj
      have hr : BR S (y + 10) (32 * j) (aB A (4 + j)) := (R.ky j hj).2
      exact ⟨(R.ky j hj).1, hr.row (fun a h3 h4 => ho a (by omega))⟩
  all_goals (unfold mscr; omega)
theorem r_key {t : Nat → Nat} (hG : GS G t) (h : RM y S A) (ok : AOK A) (s k : Int32) : C0 G J_M_key [.ref y, .int s, .int k] S (fun r S' => r = some (.int (fKey A s k).1) ∧ RMF y S S' (fKey A s k).2) := by
  have R := h.f
  have hl := ok.tp
  have clr : ∀ (S1 S2 : TS) (A1 : AS), RMF y S S1 A1 → S2 = sI S1 y (upd (tI S1 y) 1 0) → RMF y S S2 (wB A1 0 []) := by
    intro S1 S2 A1 R1 e
    have := R1.cut (k := 0) (by omega) e
    simpa using this
  unfold fKey
  refine v_M_key y s k S _ (m_side (fun j hj ej => ⟨1, rfl, fun c => absurd c (by decide), fun _ => ⟨fun c => ⟨R.ms.1, fun S5 e5 => ?_⟩, fun c => ⟨fun c2 => ⟨R.ms.1, fun S5 e5 => ?_⟩, fun c2 => ⟨R.ms.1, fun S9 e9 => ⟨y + 1, ?_⟩⟩⟩⟩⟩) (fun hno => ⟨0, rfl, fun _ => ⟨R.ms.1, fun S3 e3 => ?_⟩, fun c => absurd rfl c⟩))
  · subst ej
    rw [nof_some hj (by omega)]
    simp only [nof_none (show ∀ i, i < 8 → k ≠ nI i from fun i hi e => by rw [e] at c; exact nI_pos (by omega) c)]
    exact ⟨trivial, clr S S5 A R e5⟩
  · subst ej
    rw [nof_some hj (by omega)]
    simp only [nof_none (show ∀ i, i < 8 → k ≠ nI i from fun i hi e => by rw [e] at c2; exact absurd c2 (nI_ge (b := 8) hi (by omega)))]
    exact ⟨trivial, clr S S5 A R e5⟩
  · obtain ⟨i, hi, ei⟩ := rngI (N := 8) (by omega) c (nle c2)
    subst ej
    subst ei
    rw [nof_some hj (by omega)]
    simp only [nof_some hi (show i < 2 ^ 32 by omega)]
    obtain ⟨m9, w9⟩ := rw_clear e9
    have s9 := R.ms.sm m9.sm
    have hT : tI S9 y 1 = nI (aB A 0).length := by rw [m9.2 1 (by simp only [f6]; omega)]; exact R.tp.1
    have bT : BR S9 (y + 1) 0 (aB A 0) := R.tp.2.mx m9 (by omega) (fun z => z)
    refine ⟨s9.r 1 (by omega) (by omega), ?_⟩
    rw [hT]
    refine m_addA (o := 0) (l := []) s9 (by omega) (s9.t 1 (by omega) (by omega)) (by omega) (by omega) bT w9 (by simp; omega) (fun S12 x12 w12 => ⟨rfl, y + 10, (s9.sm x12.sm).r 10 (by omega) (by omega), ?_⟩)
    have s12 := s9.sm x12.sm
    have e32 : (32 : Int32) * ((8 : Int32) * nI j + nI i) = nI (32 * (8 * j + i)) := by rw [show (8 : Int32) * nI j = nI (8 * j) from pk_mul 8 j, nI_add]; exact pk_mul 32 _
    have e8 : (8 : Int32) * nI j + nI i = nI (8 * j + i) := by rw [show (8 : Int32) * nI j = nI (8 * j) from pk_mul 8 j, nI_add]
    rw [e32, e8]
    rw [List.nil_append] at w12
    refine m_hashTo hG (by omega) s12 w12 (s12.t 10 (by omega) (by omega)) (by omega) (by omega) (by omega) (fun S15 x15 f15 b15 => ⟨rfl, y + 9, (s12.sm x15.1).r 9 (by omega) (by omega), 16, (s12.sm x15.1).t 9 (by omega) (by omega), vp_in_nI (by omega) (by omega), fun S20 e20 S21 e21 => ⟨trivial, ?_⟩⟩)
    rw [nI_clamp (by omega), show vp_nar .boolean 1 = (1 : Int32) from rfl] at e20
    have x20 : Ex (fun a => a = y + 9) S15 S20 := by rw [e20]; exact (Ex.rf S15).I rfl
    have m15 : MX y (fun a => a = y + 4 ∨ a = y + 5 ∨ a = y + 10) f6 S12 S15 := MX.of x15 (by omega)
    have m20 : MX y (fun a => a = y + 9) f6 S15 S20 := MX.of x20 (by omega)
    have mm : MX y (fun a => (y + 3 ≤ a ∧ a ≤ y + 5) ∨ a = y + 9 ∨ a = y + 10) f6 S S20 := (((m9.mono (fun a z => z.elim) (fun f z => z)).tr (x12.mono (fun a z => by omega) (fun f z => z))).tr (m15.mono (fun a z => by omega) (fun f z => z))).tr (m20.mono (fun a z => by omega) (fun f z => z))
    have hsl : sha (aB A 0) ≠ [] := fun z => by have := sha_len (aB A 0); rw [z] at this; simp at this
    have r10 : ∀ z, tI S12 (y + 10) z = tI S (y + 10) z := fun z => by rw [x12.row (by omega) (by omega), m9.row (by omega) (fun z => z)]
    have R20 : RMF y S S20 (wB A (4 + (8 * j + i)) (sha (aB A 0))) := by
      refine R.keyU (i := 8 * j + i) (by omega) (fun a ha => ok.kl ha) mm (fun a z => by unfold mscr; omega) (fun f z => Or.inl z) ?_ (b15.ex x20 (by omega)) (fun z hz => by rw [(x20.2 (y + 10) (by omega)).1, f15 z hz, r10])
      rw [e20, tI_sI, up_s, if_neg hsl, (x15.2 (y + 9) (by omega)).1, x12.row (by omega) (by omega), m9.row (by omega) (fun z => z)]
    rw [show 4 + (8 * j + i) = 4 + 8 * j + i by omega] at R20
    exact clr S20 S21 _ R20 e21
  · rw [nof_none hno]
    exact ⟨rfl, clr S S3 A R e3⟩
theorem r_forget (h : RM y S A) (ok : AOK A) (s k : Int32) : C0 G J_M_forget [.ref y, .int s, .int k] S (fun r S' => r = some (.int (fForget A s k).1) ∧ RMF y S S' (fForget A s k).2) := by
  have R := h.f
  unfold fForget
  refine v_M_forget y s k S _ (m_side (fun j hj ej => ⟨1, rfl, fun c => absurd c (by decide), fun _ => ⟨fun c => ?_, fun c => ⟨fun c2 => ?_, fun c2 => ?_⟩⟩⟩) (fun hno => ⟨0, rfl, fun _ => ?_, fun c => absurd rfl c⟩))
  · subst ej
    rw [nof_some hj (by omega)]
    simp only [nof_none (show ∀ i, i < 8 → k ≠ nI i from fun i hi e => by rw [e] at c; exact nI_pos (by omega) c)]
    exact ⟨trivial, R⟩
  · obtain ⟨i, hi, ei⟩ := rngJ (N := 7) (by omega) c c2
    subst ej
    subst ei
    rw [nof_some hj (by omega)]
    simp only [nof_some hi (show i < 2 ^ 32 by omega)]
    have e8 : (8 : Int32) * nI j + nI i = nI (8 * j + i) := by rw [show (8 : Int32) * nI j = nI (8 * j) from pk_mul 8 j, nI_add]
    rw [e8, nI_clamp (by omega)]
    have hk : tI S (y + 9) (8 * j + i) = if aB A (4 + (8 * j + i)) = [] then 0 else 1 := (R.ky (8 * j + i) (by omega)).1
    have in16 : vp_in (nI (8 * j + i)) 16 := vp_in_nI (by omega) (by omega)
    rw [show 4 + (8 * j + i) = 4 + 8 * j + i by omega] at hk
    refine ⟨R.ms.1, y + 9, R.ms.r 9 (by omega) (by omega), 16, R.ms.t 9 (by omega) (by omega), in16, fun c3 => ⟨in16, fun S7 e7 => ?_⟩, fun c3 => ?_⟩
    · have hne : ¬ aB A (4 + 8 * j + i) = [] := fun z => c3 (by rw [hk, if_pos z])
      rw [if_neg hne]
      have x7 : Ex (fun a => a = y + 9) S S7 := by rw [e7]; exact (Ex.rf S).I rfl
      have R7 := R.keyU (l := []) (i := 8 * j + i) (S' := S7) (P := fun a => a = y + 9) (F := fun _ => False) (by omega) (fun a ha => ok.kl ha) (MX.of x7 (by omega)) (fun a z => Or.inr (Or.inl z)) (fun f z => z.elim) (by rw [e7, tI_sI, up_s]; rfl) (BR.nil _ _ _) (fun z _ => by rw [(x7.2 (y + 10) (by omega)).1])
      rw [show 4 + (8 * j + i) = 4 + 8 * j + i by omega] at R7
      exact ⟨rfl, R7⟩
    · have he : aB A (4 + 8 * j + i) = [] := by
        by_cases z : aB A (4 + 8 * j + i) = []
        · exact z
        · rw [if_neg z] at hk; rw [hk] at c3; exact absurd c3 (by decide)
      rw [if_pos he]
      exact ⟨rfl, R⟩
  · subst ej
    rw [nof_some hj (by omega)]
    simp only [nof_none (show ∀ i, i < 8 → k ≠ nI i from fun i hi e => c2 (by rw [e]; exact nI_le (b := 7) (by omega) (by omega)))]
    exact ⟨trivial, R⟩
  · rw [nof_none hno]
    exact ⟨rfl, R⟩
theorem r_idle (h : RM y S A) (s : Int32) : C0 G J_M_idle [.ref y, .int s] S (fun r S' => r = some (.int (fIdle A s).1) ∧ RMF y S S' (fIdle A s).2) := by
  have R := h.f
  unfold fIdle
  refine v_M_idle y s S _ (m_side (fun j hj ej => ⟨1, rfl, fun _ => ?_, fun c => absurd c (by decide)⟩) (fun hno => ⟨0, rfl, fun c => absurd rfl c, fun _ => ?_⟩))
  · subst ej
    rw [nof_some hj (by omega)]
    refine ⟨R.ms.1, y + 11, R.ms.r 11 (by omega) (by omega), 2, R.ms.t 11 (by omega) (by omega), vp_in_nI (by omega) (by omega), fun S7 e7 => ⟨rfl, ?_⟩⟩
    rw [nI_clamp (by omega)] at e7
    exact R.side hj e7 (fun _ c => absurd c (by decide)) (fun _ c => absurd c (by decide)) (fun c => absurd c (by decide))
  · rw [nof_none hno]
    exact ⟨rfl, R⟩
theorem r_name (h : RM y S A) (ok : AOK A) : C0 G J_M_name [.ref y] S (fun r S' => r = some (.int (fName A).1) ∧ RMF y S S' (fName A).2) := by
  have R := h.f
  have hl := ok.tp
  unfold fName
  refine v_M_name y S _ ⟨R.ms.1, fun y2 e2 S3 e3 => ?_⟩
  rw [R.tp.1] at e2
  have R3 : RMF y S S3 (wB A 0 []) := by have := R.cut (k := 0) (by omega) e3; simpa using this
  have r1 : tI S3 (y + 1) = tI S (y + 1) := by rw [e3, tI_sI, up_n _ _ (by omega)]
  have b1 : BR S3 (y + 1) 0 (aB A 0) := R.tp.2.eq r1
  rw [e2]
  refine ⟨fun c => ?_, fun c => ⟨fun c2 => ?_, fun c2 => ?_⟩⟩
  · have h1 := (nI_ltI (b := 1) (by omega) (by omega)).mp c
    rw [if_neg (by omega)]
    exact ⟨rfl, R3⟩
  · have h2 : (aB A 0).length ≤ 16 := (nI_leI (b := 16) (by omega) (by omega)).mp c2
    have h1 : 1 ≤ (aB A 0).length := Nat.not_lt.mp (fun z => c (nI_lt (b := 1) z (by omega)))
    rw [if_pos ⟨h1, h2⟩]
    refine cpl (b := y + 21) (o := 0) (l := aB A 0) (S0 := S3) (H := fun k Sk => T0 G J_M_name 25 [(0, .ref y), (1, .int (nI (aB A 0).length)), (2, .int (nI k))] [] Sk _) (fun k Sk hk xk nx => ?_) (fun S' x' b' f' => ?_)
    · have sk := R3.ms.sm xk.1
      refine v_M_name_25 y _ _ Sk _ ⟨fun c => absurd c (nI_ge hk (by omega)), fun _ => ⟨sk.1, y + 21, sk.r 21 (by omega) (by omega), y + 1, sk.r 1 (by omega) (by omega), 200, sk.t 1 (by omega) (by omega), vp_in_nI (by omega) (by omega), 16, sk.t 21 (by omega) (by omega), vp_in_nI (by omega) (by omega), fun S12 e12 z ez => ?_⟩⟩
      rw [nI_clamp (by omega), (xk.2 (y + 1) (by omega)).1, b1.at0 hk, nar1s] at e12
      rw [ez, nI_1]
      exact nx S12 (by rw [Nat.zero_add]; exact e12)
    · have s' := R3.ms.sm x'.1
      refine v_M_name_25 y _ _ S' _ ⟨fun _ => ⟨s'.1, fun S2 e2 => ⟨rfl, ?_⟩⟩, fun c => absurd (Int32.le_refl _) c⟩
      have ry : tI S2 y = upd (tI S3 y) 26 (nI (aB A 0).length) := by rw [e2, tI_sI, up_s, (x'.2 y (by omega)).1]
      have r21 : tI S2 (y + 21) = tI S' (y + 21) := by rw [e2, tI_sI, up_n _ _ (by omega)]
      have mm : MX y (fun a => a = y + 21) (fun f => f = 26) S3 S2 := ⟨by rw [e2]; exact (x'.mono (fun a z => Or.inr z)).I (Or.inl rfl), fun f hf => by rw [ry, pk_un hf]⟩
      have hb : ∀ j, j ≠ 2 → j ≠ 0 → aB (wB (wB A 2 (aB A 0)) 0 []) j = aB A j := fun j h2 h0 => by rw [aB_wB, up_n _ _ h0, aB_wB, up_n _ _ h2]
      have hb' : ∀ j, j ≠ 0 → aB (wB A 0 []) j = aB A j := fun j h0 => by rw [aB_wB, up_n _ _ h0]
      refine R3.gen mm (fun a z => by show y ≤ a ∧ a < y + 45; omega) (Or.inr ⟨rfl, by omega, by omega⟩) (Or.inr ⟨rfl, by omega, by omega⟩) (Or.inl ⟨by rw [ry, pk_us]; rfl, ?_⟩) (Or.inr ⟨rfl, by omega, by omega⟩) (Or.inr ⟨fun j _ => ?_, by omega, by omega⟩) (Or.inr ⟨fun _ _ => rfl, by omega, by omega⟩) (Or.inr ⟨rfl, rfl, by omega⟩) (Or.inr ⟨rfl, rfl, rfl, rfl, by omega, by omega⟩) (fun s hs => Or.inr ⟨⟨rfl, fun d _ => ⟨?_, rfl, rfl⟩⟩, by omega, by omega, by omega⟩) (fun w hw => Or.inr ⟨rfl, by omega, by omega, by omega⟩) (Or.inr ⟨rfl, by omega, by omega, by omega, by omega, by omega⟩) (Or.inr ⟨rfl, rfl, rfl, by omega, by omega, by omega⟩)
      · exact b'.eq r21
      · rw [hb _ (by omega) (by omega), hb' _ (by omega)]
      · rw [hb _ (by omega) (by omega), hb' _ (by omega)]
  · have h2 : ¬ (aB A 0).length ≤ 16 := fun z => c2 (nI_le (b := 16) z (by omega))
    rw [if_neg (by omega)]
    exact ⟨rfl, R3⟩
end MC1
