/-! PURE: the wires of the reference -/
theorem cpm {b o N : Nat} {l : List B8} {H : Nat → TS → Prop} {S0 : TS} (hl : l.length ≤ N) (st : ∀ k S, k < N → Ex (fun z => z = b) S0 S → (∀ i, (i < o ∨ o + N ≤ i) → tI S b i = tI S0 b i) → (∀ v S6, (k < l.length → v = sx (l.getD k 0)) → S6 = sI S b (upd (tI S b) (o + k) v) → H (k + 1) S6) → H k S)
    (fin : ∀ S', Ex (fun z => z = b) S0 S' → BR S' b o l → (∀ i, (i < o ∨ o + N ≤ i) → tI S' b i = tI S0 b i) → H N S') : H 0 S0 := by
  have go : ∀ (n k : Nat) (S : TS), k + n = N → Ex (fun z => z = b) S0 S → (∀ j, j < k → j < l.length → tI S b (o + j) = sx (l.getD j 0)) → (∀ i, (i < o ∨ o + N ≤ i) → tI S b i = tI S0 b i) → H k S := by
    intro n
    induction n with
    | zero =>
      intro k S hk x h1 h2
      have : k = N := by omega
      subst this
      exact fin S x (fun j hj => h1 j (by omega) hj) h2
    | succ n ih =>
      intro k S hk x h1 h2
      refine st k S (by omega) x h2 (fun v S6 hv e6 => ih (k + 1) S6 (by omega) (by rw [e6]; exact x.I rfl) (fun j hj hjl => ?_) (fun i hi => ?_))
      · rw [e6, tI_sI, up_s]
        by_cases hjk : j = k
        · subst hjk; rw [pk_us]; exact hv hjl
        · rw [pk_un (by omega)]; exact h1 j (by omega) hjl
      · rw [e6, tI_sI, up_s, pk_un (by omega)]; exact h2 i hi
  exact go N 0 S0 (by omega) (Ex.rf S0) (fun j hj => absurd hj (by omega)) (fun _ _ => rfl)
theorem at_eq (w k : Nat) : ((nI w * (12 : Int32)) + nI k) * (200 : Int32) = nI (200 * (12 * w + k)) := by
  rw [show nI w * (12 : Int32) = nI (w * 12) from pk_mul w 12, nI_add, show nI (w * 12 + k) * (200 : Int32) = nI ((w * 12 + k) * 200) from pk_mul _ 200]
  exact congrArg nI (by omega)
theorem ix_eq (w k : Nat) : (nI w * (12 : Int32)) + nI k = nI (12 * w + k) := by
  rw [show nI w * (12 : Int32) = nI (w * 12) from pk_mul w 12, nI_add]
  exact congrArg nI (by omega)
theorem BR.append {S : TS} {a o : Nat} {l1 l2 : List B8} (h1 : BR S a o l1) (h2 : BR S a (o + l1.length) l2) : BR S a o (l1 ++ l2) := by
  intro j hj
  rw [List.length_append] at hj
  rw [List.getD_eq_getElem?_getD]
  by_cases h : j < l1.length
  · rw [List.getElem?_append_left h, ← List.getD_eq_getElem?_getD]; exact h1 j h
  · rw [List.getElem?_append_right (by omega), ← List.getD_eq_getElem?_getD, ← h2 (j - l1.length) (by omega)]
    congr 1
    omega
theorem BR.drop {S : TS} {a o : Nat} {l : List B8} (h : BR S a o l) (k : Nat) : BR S a (o + k) (l.drop k) := by
  intro j hj
  rw [List.length_drop] at hj
  rw [Nat.add_assoc, h (k + j) (by omega), List.getD_eq_getElem?_getD, List.getD_eq_getElem?_getD, List.getElem?_drop]
theorem gd_mem {L : List (List B8)} {k : Nat} (h : k < L.length) : L.getD k [] ∈ L := by
  rw [List.getD_eq_getElem?_getD, List.getElem?_eq_getElem h]
  exact List.getElem_mem h
/-- only place k of wire w may change -/
def PF (y w k : Nat) (S S' : TS) : Prop := (∀ j, j ≠ w → tI S' (y + 20) j = tI S (y + 20) j) ∧ (∀ j, j ≠ 12 * w + k → tI S' (y + 19) j = tI S (y + 19) j) ∧ (∀ j, (j < 200 * (12 * w + k) ∨ 200 * (12 * w + k) + 200 ≤ j) → tI S' (y + 18) j = tI S (y + 18) j)
def WF (y w : Nat) (S S' : TS) : Prop := (∀ j, j ≠ w → tI S' (y + 20) j = tI S (y + 20) j) ∧ (∀ j, (j < 12 * w ∨ 12 * w + 12 ≤ j) → tI S' (y + 19) j = tI S (y + 19) j) ∧ (∀ j, (j < 2400 * w ∨ 2400 * w + 2400 ≤ j) → tI S' (y + 18) j = tI S (y + 18) j)
theorem PF.rf {y w k : Nat} (S : TS) : PF y w k S S := ⟨fun _ _ => rfl, fun _ _ => rfl, fun _ _ => rfl⟩
theorem PF.tr {y w k : Nat} {S S1 S2 : TS} (a : PF y w k S S1) (b : PF y w k S1 S2) : PF y w k S S2 := ⟨fun j h => (b.1 j h).trans (a.1 j h), fun j h => (b.2.1 j h).trans (a.2.1 j h), fun j h => (b.2.2 j h).trans (a.2.2 j h)⟩
theorem WF.rf {y w : Nat} (S : TS) : WF y w S S := ⟨fun _ _ => rfl, fun _ _ => rfl, fun _ _ => rfl⟩
theorem WF.tr {y w : Nat} {S S1 S2 : TS} (a : WF y w S S1) (b : WF y w S1 S2) : WF y w S S2 := ⟨fun j h => (b.1 j h).trans (a.1 j h), fun j h => (b.2.1 j h).trans (a.2.1 j h), fun j h => (b.2.2 j h).trans (a.2.2 j h)⟩
theorem PF.wf {y w k : Nat} {S S' : TS} (a : PF y w k S S') (hk : k < 12) : WF y w S S' := ⟨a.1, fun j h => a.2.1 j (by omega), fun j h => a.2.2 j (by omega)⟩
theorem PF.same {y w k : Nat} {S S' : TS} {P : Nat → Prop} (e : Ex P S S') (h1 : ¬ P (y + 18)) (h2 : ¬ P (y + 19)) (h3 : ¬ P (y + 20)) : PF y w k S S' := ⟨fun j _ => by rw [(e.2 _ h3).1], fun j _ => by rw [(e.2 _ h2).1], fun j _ => by rw [(e.2 _ h1).1]⟩
theorem PF.body {y w k : Nat} {S S' : TS} (e : Ex (fun a => a = y + 18) S S') (h : ∀ j, (j < 200 * (12 * w + k) ∨ 200 * (12 * w + k) + 200 ≤ j) → tI S' (y + 18) j = tI S (y + 18) j) : PF y w k S S' := ⟨fun j _ => by rw [(e.2 (y + 20) (by omega)).1], fun j _ => by rw [(e.2 (y + 19) (by omega)).1], h⟩
theorem cW.wf {y v w : Nat} {S S' : TS} {L : List (List B8)} (h : cW y S v L) (e : WF y w S S') (hv : v ≠ w) (hl : L.length ≤ 12) (h200 : ∀ l ∈ L, l.length ≤ 200) : cW y S' v L :=
  h.fr (e.1 v hv) (fun i h1 h2 => e.2.1 i (by omega)) (fun i h1 h2 => e.2.2 i (by omega)) hl h200
theorem cW.push {y w : Nat} {S S' : TS} {L : List (List B8)} {r : List B8} (h : cW y S w L) (hl : L.length < 12) (h200 : ∀ l ∈ L, l.length ≤ 200) (e : PF y w L.length S S') (e20 : tI S' (y + 20) w = nI (L.length + 1)) (e19 : tI S' (y + 19) (12 * w + L.length) = nI r.length) (b : BR S' (y + 18) (200 * (12 * w + L.length)) r) : cW y S' w (L ++ [r]) := by
  refine ⟨by rw [e20]; simp, fun k hk => ?_⟩
  have hk2 : k < L.length + 1 := by simpa using hk
  by_cases hkl : k = L.length
  · have eg : (L ++ [r]).getD k [] = r := by rw [hkl, List.getD_eq_getElem?_getD, List.getElem?_append_right (Nat.le_refl _), Nat.sub_self]; rfl
    rw [eg, hkl]
    exact ⟨e19, b⟩
  · have hlt : k < L.length := by omega
    have eg : (L ++ [r]).getD k [] = L.getD k [] := by rw [List.getD_eq_getElem?_getD, List.getElem?_append_left hlt, ← List.getD_eq_getElem?_getD]
    have := h200 _ (gd_mem hlt)
    rw [eg]
    exact ⟨by rw [e.2.1 _ (by omega)]; exact (h.2 k hlt).1, (h.2 k hlt).2.row (fun i h1 h2 => e.2.2 i (by omega))⟩
def wirP (y a : Nat) : Prop := mscr y a ∨ a = y + 18 ∨ a = y + 19 ∨ a = y + 20
theorem RMF.wires {y w : Nat} {S0 S S' : TS} {A : AS} {P F : Nat → Prop} {L : List (List B8)} (R : RMF y S0 S A) (ok : ∀ v, v < 2 → (aW A v).length ≤ 12 ∧ ∀ l ∈ aW A v, l.length ≤ 200) (e : MX y P F S S') (hp : ∀ a, P a → wirP y a) (hf : ∀ f, F f → fscr f) (wf : WF y w S S') (c : cW y S' w L) : RMF y S0 S' (wW A w L) := by
  have n : ∀ k, k ≠ 18 → k ≠ 19 → k ≠ 20 → ¬ mscr y (y + k) → ¬ P (y + k) := fun k h1 h2 h3 hk z => (hp _ z).elim hk (fun z => by omega)
  have m : ∀ k, (k ≠ 6 ∧ k ≠ 12 ∧ k ≠ 46) → ¬ F k := fun k hk z => by have := hf _ z; unfold fscr at this; omega
  refine R.gen e (fun a z => (hp a z).elim mscr_in (fun z => by show y ≤ a ∧ a < y + 45; omega)) (Or.inr ⟨rfl, n 1 (by omega) (by omega) (by omega) ?_, m 1 (by omega)⟩) (Or.inr ⟨rfl, n 2 (by omega) (by omega) (by omega) ?_, m 3 (by omega)⟩) (Or.inr ⟨rfl, n 21 (by omega) (by omega) (by omega) ?_, m 26 (by omega)⟩) (Or.inr ⟨rfl, n 26 (by omega) (by omega) (by omega) ?_, m 33 (by omega)⟩) (Or.inr ⟨fun _ _ => rfl, n 9 (by omega) (by omega) (by omega) ?_, n 10 (by omega) (by omega) (by omega) ?_⟩) (Or.inr ⟨fun _ _ => rfl, n 11 (by omega) (by omega) (by omega) ?_, n 12 (by omega) (by omega) (by omega) ?_⟩) (Or.inr ⟨rfl, rfl, n 13 (by omega) (by omega) (by omega) ?_⟩) (Or.inr ⟨rfl, rfl, rfl, rfl, n 14 (by omega) (by omega) (by omega) ?_, n 40 (by omega) (by omega) (by omega) ?_⟩) (fun s hs => Or.inr ⟨⟨rfl, fun d _ => ⟨rfl, rfl, rfl⟩⟩, n 15 (by omega) (by omega) (by omega) ?_, n 16 (by omega) (by omega) (by omega) ?_, n 17 (by omega) (by omega) (by omega) ?_⟩) (fun v hv => Or.inl ?_) (Or.inr ⟨rfl, n 22 (by omega) (by omega) (by omega) ?_, n 23 (by omega) (by omega) (by omega) ?_, n 24 (by omega) (by omega) (by omega) ?_, n 25 (by omega) (by omega) (by omega) ?_, m 31 (by omega)⟩) (Or.inr ⟨rfl, rfl, rfl, m 4 (by omega), m 34 (by omega), m 35 (by omega)⟩)
  case refine_15 =>
    rw [aW_wW]
    by_cases hvw : v = w
    · subst hvw; rw [up_s]; exact c
    · rw [up_n _ _ hvw]
      exact (R.wi v hv).wf wf hvw (ok v hv).1 (ok v hv).2
  all_goals (unfold mscr; omega)
theorem AOK.w2 {A : AS} (ok : AOK A) : ∀ v, v < 2 → (aW A v).length ≤ 12 ∧ ∀ l ∈ aW A v, l.length ≤ 200 := fun _ hv => ⟨ok.wl hv, fun l hl => (ok.wr hv l hl).2⟩
section MWI
variable {G : pG} {y : Nat} {S : TS} {A : AS}
theorem m_at {S : TS} {Q : Option Value → Prop} {w k : Nat} (hQ : Q (some (.int (nI (200 * (12 * w + k)))))) : CP G J_M_at [.ref y, .int (nI w), .int (nI k)] S Q := v_M_at y _ _ S Q (by rw [at_eq]; exact hQ)
theorem m_full {S0 S : TS} {Q : Option Value → Prop} {w : Nat} (R : RMF y S0 S A) (ok : (aW A w).length ≤ 12) (hw : w < 2) (h0 : (aW A w).length < 12 → Q (some (.int 0))) (h1 : (aW A w).length = 12 → Q (some (.int 1))) : CP G J_M_full [.ref y, .int (nI w)] S Q := by
  refine v_M_full y _ S Q ⟨R.ms.1, y + 20, R.ms.r 20 (by omega) (by omega), 2, R.ms.t 20 (by omega) (by omega), vp_in_nI (by omega) (by omega), ?_⟩
  rw [nI_clamp (by omega), (R.wi w hw).1]
  refine ⟨fun c => h0 ?_, fun c => h1 ((nI_eq (b := 12) (by omega) (by omega)).mp c)⟩
  rcases Nat.lt_or_ge (aW A w).length 12 with h | h
  · exact h
  · exact absurd (congrArg nI (show (aW A w).length = 12 by omega)) c
theorem m_is {S0 S : TS} {Q : Option Value → Prop} {w k : Int32} (R : RMF y S0 S A) (ok : AOK A) (h1 : ∀ i j, i < 2 → j < (aW A i).length → w = nI i → k = nI j → rcd A w k = some (i, j) → Q (some (.int 1))) (h0 : rcd A w k = none → Q (some (.int 0))) : CP G J_M_is [.ref y, .int w, .int k] S Q := by
  unfold rcd at h0
  refine v_M_is y w k S Q (m_side (fun i hi ei => ⟨1, rfl, fun c => absurd c (by decide), fun _ => ⟨fun c => h0 ?_, fun c => ⟨R.ms.1, y + 20, R.ms.r 20 (by omega) (by omega), 2, R.ms.t 20 (by omega) (by omega), ?_⟩⟩⟩) (fun hno => ⟨0, rfl, fun _ => h0 (by rw [nof_none hno]), fun c => absurd rfl c⟩))
  · subst ei
    have hl := ok.wl hi
    rw [nof_some hi (by omega)]
    simp only [nof_none (show ∀ j, j < (aW A i).length → k ≠ nI j from fun j hj e => by rw [e] at c; exact nI_pos (by omega) c)]
  · subst ei
    have hl := ok.wl hi
    rw [nI_clamp (by omega), (R.wi i hi).1]
    refine ⟨vp_in_nI (by omega) (by omega), fun c2 => h0 ?_, fun c2 => ?_⟩
    · rw [nof_some hi (by omega)]
      simp only [nof_none (show ∀ j, j < (aW A i).length → k ≠ nI j from fun j hj e => by rw [e] at c2; exact absurd c2 (nI_ge hj (by omega)))]
    · obtain ⟨j, hj, rfl⟩ := rngI (by omega) c (nle c2)
      refine h1 i j hi hj rfl rfl ?_
      unfold rcd
      rw [nof_some hi (by omega)]
      simp only [nof_some hj (show j < 2 ^ 32 by omega)]
def pWi (y : Nat) : Nat → Prop := fun a => a = y + 18 ∨ a = y + 19 ∨ a = y + 20
theorem m_send {Q : Option Value → TS → Prop} {w k n : Nat} {x2 : Int32} (hs : MS y S) (hw : w < 2) (hk : k < 12) (hn : n ≤ 197) (h20 : tI S (y + 20) w = nI k)
    (hQ : ∀ S', Ex (pWi y) S S' → PF y w k S S' → tI S' (y + 20) w = nI (k + 1) → tI S' (y + 19) (12 * w + k) = nI (n + 3) → BR S' (y + 18) (200 * (12 * w + k)) (hd3 x2 (nI n)) → Q (some (.int (nI (200 * (12 * w + k) + 3)))) S') : C0 G J_M_send [.ref y, .int (nI w), .int x2, .int (nI n)] S Q := by
  have in2 : vp_in (nI w) 2 := vp_in_nI (by omega) (by omega)
  refine v_M_send y _ x2 _ S Q ⟨hs.1, y + 20, hs.r 20 (by omega) (by omega), 2, hs.t 20 (by omega) (by omega), in2, fun y6 e6 => ?_⟩
  rw [nI_clamp (by omega), h20] at e6
  rw [e6]
  refine m_at ⟨_, rfl, y + 18, hs.r 18 (by omega) (by omega), 4800, hs.t 18 (by omega) (by omega), vp_in_nI (by omega) (by omega), ?_⟩
  rw [nI_1, show nI (200 * (12 * w + k)) + (2 : Int32) = nI (200 * (12 * w + k) + 2) from nI_add _ 2, show nI (200 * (12 * w + k)) + (3 : Int32) = nI (200 * (12 * w + k) + 3) from nI_add _ 3, nI_clamp (show 200 * (12 * w + k) < 2 ^ 31 by omega), nI_clamp (show 200 * (12 * w + k) + 1 < 2 ^ 31 by omega), nI_clamp (show 200 * (12 * w + k) + 2 < 2 ^ 31 by omega), nar2, nar2, nar2, ix_eq, nI_clamp (show 12 * w + k < 2 ^ 31 by omega), nI_clamp (show w < 2 ^ 31 by omega), show nI n + (3 : Int32) = nI (n + 3) from nI_add n 3, show b8 (nI n >>> ((8 : Int32) &&& 31)) = b8 (ushr (nI n) 8) from b8_neg8 (nI n) 1 (by omega)]
  intro S12 e12
  refine ⟨vp_in_nI (by omega) (by omega), fun S13 e13 => ⟨vp_in_nI (by omega) (by omega), fun S14 e14 => ?_⟩⟩
  have x12 : Ex (pWi y) S S12 := by rw [e12]; exact (Ex.rf S).I (Or.inl rfl)
  have x13 : Ex (pWi y) S S13 := by rw [e13]; exact x12.I (Or.inl rfl)
  have x14 : Ex (pWi y) S S14 := by rw [e14]; exact x13.I (Or.inl rfl)
  have s14 := hs.sm x14.1
  refine ⟨y + 19, s14.r 19 (by omega) (by omega), 24, s14.t 19 (by omega) (by omega), vp_in_nI (by omega) (by omega), fun S19 e19 => ⟨in2, in2, fun S20 e20 => ?_⟩⟩
  have x19 : Ex (pWi y) S S19 := by rw [e19]; exact x14.I (Or.inr (Or.inl rfl))
  have x20 : Ex (pWi y) S S20 := by rw [e20]; exact x19.I (Or.inr (Or.inr rfl))
  have q18 : tI S20 (y + 18) = upd (upd (upd (tI S (y + 18)) (200 * (12 * w + k)) (sx (b8 x2))) (200 * (12 * w + k) + 1) (sx (b8 (ushr (nI n) 8)))) (200 * (12 * w + k) + 2) (sx (b8 (nI n))) := by
    rw [e20, tI_sI, up_n _ _ (by omega), e19, tI_sI, up_n _ _ (by omega), e14, tI_sI, up_s, e13, tI_sI, up_s, e12, tI_sI, up_s]
  have q19 : tI S20 (y + 19) = upd (tI S (y + 19)) (12 * w + k) (nI (n + 3)) := by
    rw [e20, tI_sI, up_n _ _ (by omega), e19, tI_sI, up_s, e14, tI_sI, up_n _ _ (by omega), e13, tI_sI, up_n _ _ (by omega), e12, tI_sI, up_n _ _ (by omega)]
  have p20 : tI S19 (y + 20) = tI S (y + 20) := by
    rw [e19, tI_sI, up_n _ _ (by omega), e14, tI_sI, up_n _ _ (by omega), e13, tI_sI, up_n _ _ (by omega), e12, tI_sI, up_n _ _ (by omega)]
  have q20 : tI S20 (y + 20) = upd (tI S (y + 20)) w (nI (k + 1)) := by
    rw [e20, tI_sI, up_s, p20, h20, nI_1]
  refine hQ S20 x20 ⟨fun j hj => by rw [q20, pk_un hj], fun j hj => by rw [q19, pk_un hj], fun j hj => by rw [q18, pk_un (by omega), pk_un (by omega), pk_un (by omega)]⟩ (by rw [q20, pk_us]) (by rw [q19, pk_us]) (fun j hj => ?_)
  have hj3 : j < 3 := hj
  rw [q18]
  rcases (show j = 0 ∨ j = 1 ∨ j = 2 by omega) with rfl | rfl | rfl
  · rw [pk_un (by omega), pk_un (by omega)]; exact pk_us
  · rw [pk_un (by omega), pk_us]; rfl
  · rw [pk_us]; rfl
theorem m_tk41 {Q : Option Value → TS → Prop} {w i : Nat} {x2 : Int32} {l : List B8} (hw : w < 2) (hi : i < 11) (hs : MS y S) (hl : l.length ≤ 200) (hb : BR S (y + 18) (200 * (12 * w + (i + 1))) l)
    (hQ : ∀ S', Ex (fun a => a = y + 18) S S' → BR S' (y + 18) (200 * (12 * w + i)) l → (∀ j, (j < 200 * (12 * w + i) ∨ 200 * (12 * w + i) + 200 ≤ j) → tI S' (y + 18) j = tI S (y + 18) j) → T0 G J_M_take 2 [(0, .ref y), (1, .int (nI w)), (2, .int x2), (3, .int (nI (i + 1)))] [] S' Q) : T0 G J_M_take 41 [(0, .ref y), (1, .int (nI w)), (2, .int x2), (3, .int (nI i)), (4, .int 0)] [] S Q := by
  refine cpm (b := y + 18) (o := 200 * (12 * w + i)) (N := 200) (l := l) (S0 := S) (H := fun k Sk => T0 G J_M_take 41 [(0, .ref y), (1, .int (nI w)), (2, .int x2), (3, .int (nI i)), (4, .int (nI k))] [] Sk Q) hl (fun k Sk hk xk fk nx => ?_) (fun S' x' b' f' => ?_)
  · have sk := hs.sm xk.1
    refine v_M_take_41 y _ x2 _ _ Sk Q ⟨fun c => absurd c (nI_ge (b := 200) hk (by omega)), fun _ => ⟨sk.1, y + 18, sk.r 18 (by omega) (by omega), m_at ⟨_, rfl, ?_⟩⟩⟩
    rw [nI_1, nI_1]
    refine m_at ⟨_, rfl, 4800, sk.t 18 (by omega) (by omega), ?_⟩
    rw [nI_add, nI_add, nI_clamp (show 200 * (12 * w + (i + 1)) + k < 2 ^ 31 by omega), nI_clamp (show 200 * (12 * w + i) + k < 2 ^ 31 by omega)]
    refine ⟨vp_in_nI (by omega) (by omega), vp_in_nI (by omega) (by omega), fun S9 e9 z ez => ?_⟩
    rw [ez]
    refine nx _ S9 (fun hkl => ?_) e9
    rw [fk _ (by omega), hb k hkl, nar1s]
  · refine v_M_take_41 y _ x2 _ _ S' Q ⟨fun _ z ez => ?_, fun c => absurd (Int32.le_refl _) c⟩
    rw [ez, nI_1]
    exact hQ S' x' b' f'
theorem m_tk2 {Q : Option Value → TS → Prop} {w k : Nat} {L : List (List B8)} {x2 : Int32} (hw : w < 2) (hk : k < L.length) (hl : L.length ≤ 12) (h200 : ∀ l ∈ L, l.length ≤ 200) : ∀ (n i : Nat) (S : TS), i + n + 1 = L.length → k ≤ i → MS y S → tI S (y + 20) w = nI L.length → (∀ j, j < L.length → tI S (y + 19) (12 * w + j) = nI (L.getD (if k ≤ j ∧ j < i then j + 1 else j) []).length ∧ BR S (y + 18) (200 * (12 * w + j)) (L.getD (if k ≤ j ∧ j < i then j + 1 else j) [])) →
    (∀ S', Ex (pWi y) S S' → WF y w S S' → cW y S' w (L.eraseIdx k) → Q none S') → T0 G J_M_take 2 [(0, .ref y), (1, .int (nI w)), (2, .int x2), (3, .int (nI i))] [] S Q := by
  intro n
  induction n with
  | zero =>
    intro i S hi hki hs h20 hp hQ
    have in2 : vp_in (nI w) 2 := vp_in_nI (by omega) (by omega)
    refine v_M_take_2 y _ x2 _ S Q ⟨hs.1, y + 20, hs.r 20 (by omega) (by omega), 2, hs.t 20 (by omega) (by omega), in2, ?_⟩
    rw [nI_clamp (by omega), h20, nI_1]
    refine ⟨fun _ => ⟨in2, in2, fun S6 e6 => ?_⟩, fun c => absurd (nI_le (by omega) (by omega)) c⟩
    rw [show nI L.length - (1 : Int32) = nI (L.length - 1) from pk_sub (b := 1) (by omega)] at e6
    have x6 : Ex (fun a => a = y + 20) S S6 := by rw [e6]; exact (Ex.rf S).I rfl
    have q20 : tI S6 (y + 20) = upd (tI S (y + 20)) w (nI (L.length - 1)) := by rw [e6, tI_sI, up_s]
    have hel : (L.eraseIdx k).length = L.length - 1 := List.length_eraseIdx_of_lt hk
    refine hQ S6 (x6.mono (fun a z => Or.inr (Or.inr z))) ⟨fun j hj => by rw [q20, pk_un hj], fun j _ => by rw [(x6.2 (y + 19) (by omega)).1], fun j _ => by rw [(x6.2 (y + 18) (by omega)).1]⟩ ⟨by rw [q20, pk_us, hel], fun j hj => ?_⟩
    rw [hel] at hj
    have e : (L.eraseIdx k).getD j [] = L.getD (if k ≤ j ∧ j < i then j + 1 else j) [] := by
      rw [er_getD]
      by_cases hjk : j < k
      · rw [if_pos hjk, if_neg (by omega)]
      · rw [if_neg hjk, if_pos (by omega)]
    have := hp j (by omega)
    rw [e, (x6.2 (y + 19) (by omega)).1]
    exact ⟨this.1, this.2.ex x6 (by omega)⟩
  | succ n ih =>
    intro i S hi hki hs h20 hp hQ
    refine v_M_take_2 y _ x2 _ S Q ⟨hs.1, y + 20, hs.r 20 (by omega) (by omega), 2, hs.t 20 (by omega) (by omega), vp_in_nI (by omega) (by omega), ?_⟩
    rw [nI_clamp (show w < 2 ^ 31 by omega), h20, nI_1, ix_eq, nI_1]
    refine ⟨fun c => absurd c (nI_ge (by omega) (by omega)), fun _ => ⟨y + 19, hs.r 19 (by omega) (by omega), 24, hs.t 19 (by omega) (by omega), vp_in_nI (by omega) (by omega), vp_in_nI (by omega) (by omega), ?_⟩⟩
    have hpi := hp (i + 1) (by omega)
    rw [if_neg (by omega)] at hpi
    rw [nI_clamp (show 12 * w + i < 2 ^ 31 by omega), nI_clamp (show 12 * w + i + 1 < 2 ^ 31 by omega), show 12 * w + i + 1 = 12 * w + (i + 1) by omega, hpi.1]
    intro S11 e11
    have x11 : Ex (fun a => a = y + 19) S S11 := by rw [e11]; exact (Ex.rf S).I rfl
    have q19 : tI S11 (y + 19) = upd (tI S (y + 19)) (12 * w + i) (nI (L.getD (i + 1) []).length) := by rw [e11, tI_sI, up_s]
    have hm := h200 _ (gd_mem (show i + 1 < L.length by omega))
    refine m_tk41 hw (by omega) (hs.sm x11.1) hm (hpi.2.ex x11 (by omega)) (fun S1 x1 b1 f1 => ?_)
    have xx : Ex (pWi y) S S1 := (x11.mono (fun a z => Or.inr (Or.inl z))).tr (x1.mono (fun a z => Or.inl z))
    have p20 : tI S1 (y + 20) = tI S (y + 20) := by rw [(x1.2 (y + 20) (by omega)).1, (x11.2 (y + 20) (by omega)).1]
    have p19 : tI S1 (y + 19) = upd (tI S (y + 19)) (12 * w + i) (nI (L.getD (i + 1) []).length) := by rw [(x1.2 (y + 19) (by omega)).1, q19]
    have p18 : ∀ j, (j < 200 * (12 * w + i) ∨ 200 * (12 * w + i) + 200 ≤ j) → tI S1 (y + 18) j = tI S (y + 18) j := fun j hj => by rw [f1 j hj, (x11.2 (y + 18) (by omega)).1]
    have wf : WF y w S S1 := ⟨fun j _ => by rw [p20], fun j hj => by rw [p19, pk_un (by omega)], fun j hj => p18 j (by omega)⟩
    refine ih (i + 1) S1 (by omega) (by omega) (hs.sm xx.1) (by rw [p20]; exact h20) (fun j hj => ?_) (fun S' x' w' c' => hQ S' (xx.tr x') (wf.tr w') c')
    by_cases hji : j = i
    · subst hji
      rw [if_pos (by omega), p19, pk_us]
      exact ⟨rfl, b1⟩
    · have e : (if k ≤ j ∧ j < i + 1 then j + 1 else j) = (if k ≤ j ∧ j < i then j + 1 else j) := by
        by_cases hc : k ≤ j ∧ j < i
        · rw [if_pos hc, if_pos (by omega)]
        · rw [if_neg hc, if_neg (by omega)]
      have hpj := hp j hj
      have hlen : (L.getD (if k ≤ j ∧ j < i then j + 1 else j) []).length ≤ 200 := h200 _ (gd_mem (by split <;> omega))
      rw [e, p19, pk_un (by omega)]
      exact ⟨hpj.1, hpj.2.row (fun a h1 h2 => p18 a (by omega))⟩
theorem m_take {Q : Option Value → TS → Prop} {w k : Nat} {S0 : TS} (R : RMF y S0 S A) (ok : ∀ v, v < 2 → (aW A v).length ≤ 12 ∧ ∀ l ∈ aW A v, l.length ≤ 200) (hw : w < 2) (hk : k < (aW A w).length) (hQ : ∀ S', RMF y S0 S' (wW A w ((aW A w).eraseIdx k)) → Q none S') : C0 G J_M_take [.ref y, .int (nI w), .int (nI k)] S Q := by
  obtain ⟨o1, o2⟩ := ok w hw
  refine v_M_take y _ _ S Q (m_tk2 hw hk o1 o2 ((aW A w).length - 1 - k) k S (by omega) (Nat.le_refl k) R.ms (R.wi w hw).1 (fun j hj => ?_) (fun S' x' w' c' => hQ S' (R.wires (F := fun _ => False) ok (MX.of x' (by simp only [pWi]; omega)) (fun a z => Or.inr z) (fun f z => z.elim) w' c')))
  rw [if_neg (by omega)]
  exact (R.wi w hw).2 j hj
theorem m_last {Q : Option Value → TS → Prop} {w k a2 N2 p : Nat} {l : List B8} (hs : MS y S) (hw : w < 2) (hk : k < 12) (hl : l.length ≤ 200) (h20 : tI S (y + 20) w = nI k) (ht : te S a2 = some (.inl (.byte, N2))) (hN : N2 < 65536) (hp : p + l.length ≤ N2) (hb : BR S a2 p l) (ha : a2 ≠ y + 18 ∨ (p + l.length ≤ 200 * (12 * w + k) ∨ 200 * (12 * w + k) + 200 ≤ p))
    (hQ : ∀ S', Ex (pWi y) S S' → PF y w k S S' → tI S' (y + 20) w = nI (k + 1) → tI S' (y + 19) (12 * w + k) = nI l.length → BR S' (y + 18) (200 * (12 * w + k)) l → Q (some (.int (nI (k + 1)))) S') : C0 G J_M_last [.ref y, .int (nI w), .ref a2, .int (nI p), .int (nI l.length)] S Q := by
  have in2 : vp_in (nI w) 2 := vp_in_nI (by omega) (by omega)
  refine v_M_last y _ a2 _ _ S Q ⟨hs.1, y + 20, hs.r 20 (by omega) (by omega), 2, hs.t 20 (by omega) (by omega), in2, ?_⟩
  rw [nI_clamp (by omega), h20]
  refine m_at ⟨_, rfl, cpm (b := y + 18) (o := 200 * (12 * w + k)) (N := l.length) (l := l) (S0 := S) (H := fun i Si => T0 G J_M_last 16 [(0, .ref y), (1, .int (nI w)), (2, .ref a2), (3, .int (nI p)), (4, .int (nI l.length)), (5, .int (nI (200 * (12 * w + k)))), (6, .int (nI i))] [] Si Q) (Nat.le_refl _) (fun i Si hi xi fi nx => ?_) (fun S' x' b' f' => ?_)⟩
  · have si := hs.sm xi.1
    refine v_M_last_16 y _ a2 _ _ _ _ Si Q ⟨fun c => absurd c (nI_ge hi (by omega)), fun _ => ⟨si.1, y + 18, si.r 18 (by omega) (by omega), N2, by rw [xi.1.1]; exact ht, ?_⟩⟩
    rw [nI_add, nI_add, nI_clamp (show p + i < 2 ^ 31 by omega), nI_clamp (show 200 * (12 * w + k) + i < 2 ^ 31 by omega), nI_1]
    refine ⟨vp_in_nI (by omega) (by omega), 4800, si.t 18 (by omega) (by omega), vp_in_nI (by omega) (by omega), fun S9 e9 z ez => ?_⟩
    rw [ez]
    refine nx _ S9 (fun _ => ?_) e9
    have src : tI Si a2 (p + i) = tI S a2 (p + i) := by
      by_cases h18 : a2 = y + 18
      · subst h18
        exact fi _ (by omega)
      · rw [(xi.2 a2 h18).1]
    rw [src, hb i hi, nar1s]
  · have s' := hs.sm x'.1
    refine v_M_last_16 y _ a2 _ _ _ _ S' Q ⟨fun _ => ⟨s'.1, y + 19, s'.r 19 (by omega) (by omega), y + 20, s'.r 20 (by omega) (by omega), 2, s'.t 20 (by omega) (by omega), in2, 24, s'.t 19 (by omega) (by omega), ?_⟩, fun c => absurd (Int32.le_refl _) c⟩
    have h20' : tI S' (y + 20) w = nI k := by rw [(x'.2 (y + 20) (by omega)).1]; exact h20
    rw [nI_clamp (show w < 2 ^ 31 by omega), h20', ix_eq, nI_clamp (show 12 * w + k < 2 ^ 31 by omega)]
    refine ⟨vp_in_nI (by omega) (by omega), fun S10 e10 => ⟨in2, in2, fun S11 e11 => ⟨in2, ?_⟩⟩⟩
    have x10 : Ex (pWi y) S S10 := by rw [e10]; exact (x'.mono (fun a z => Or.inl z)).I (Or.inr (Or.inl rfl))
    have x11 : Ex (pWi y) S S11 := by rw [e11]; exact x10.I (Or.inr (Or.inr rfl))
    have r20 : tI S10 (y + 20) = tI S (y + 20) := by rw [e10, tI_sI, up_n _ _ (by omega), (x'.2 (y + 20) (by omega)).1]
    have q20 : tI S11 (y + 20) = upd (tI S (y + 20)) w (nI (k + 1)) := by rw [e11, tI_sI, up_s, r20, h20, nI_1]
    have q19 : tI S11 (y + 19) = upd (tI S (y + 19)) (12 * w + k) (nI l.length) := by rw [e11, tI_sI, up_n _ _ (by omega), e10, tI_sI, up_s, (x'.2 (y + 19) (by omega)).1]
    have q18 : tI S11 (y + 18) = tI S' (y + 18) := by rw [e11, tI_sI, up_n _ _ (by omega), e10, tI_sI, up_n _ _ (by omega)]
    rw [show tI S11 (y + 20) w = nI (k + 1) by rw [q20, pk_us]]
    exact hQ S11 x11 ⟨fun j hj => by rw [q20, pk_un hj], fun j hj => by rw [q19, pk_un hj], fun j hj => by rw [q18]; exact f' j (by omega)⟩ (by rw [q20, pk_us]) (by rw [q19, pk_us]) (b'.eq q18)
theorem r_wire (h : RM y S A) (ok : AOK A) (w k i : Int32) : CP G J_M_wire [.ref y, .int w, .int k, .int i] S (fun r => r = some (.int (fWire A w k i))) := by
  have R := h.f
  refine v_M_wire y w k i S _ ⟨R.ms.1, m_is R ok (fun a b ha hb ew ek er => ⟨1, rfl, fun _ => ?_, fun c => absurd c (by decide)⟩) (fun er => ⟨0, rfl, fun c => absurd rfl c, fun _ => by unfold fWire; rw [er]⟩)⟩
  have hV : fWire A w k i = bos ((aW A a).getD b []) i := by unfold fWire; rw [er]
  rw [hV]
  subst ew
  subst ek
  have hl := ok.wl ha
  have hr := (ok.wr ha _ (gd_mem hb)).2
  obtain ⟨p19, p18⟩ := (R.wi a ha).2 b hb
  refine ⟨y + 19, R.ms.r 19 (by omega) (by omega), 24, R.ms.t 19 (by omega) (by omega), ?_⟩
  rw [ix_eq, nI_clamp (by omega), p19]
  refine ⟨vp_in_nI (by omega) (by omega), fun y7 e7 => ?_⟩
  rw [e7]
  unfold bos
  refine ⟨fun c => ?_, fun c => by rw [if_pos c]⟩
  rw [if_neg c]
  refine ⟨fun c2 => ?_, fun c2 => ⟨fun c3 => ?_, fun c3 => ?_⟩⟩
  · rw [nof_none (fun j hj e => by rw [e] at c2; exact nI_pos (by omega) c2)]
  · obtain ⟨j, hj, rfl⟩ := rngI (by omega) c2 c3
    refine ⟨y + 18, R.ms.r 18 (by omega) (by omega), m_at ⟨_, rfl, 4800, R.ms.t 18 (by omega) (by omega), ?_⟩⟩
    rw [nI_add, nI_clamp (by omega), p18 j hj, sx_and, nof_some hj (by omega)]
    exact ⟨vp_in_nI (by omega) (by omega), rfl⟩
  · rw [nof_none (fun j hj e => c3 (by rw [e]; exact nI_lt (by omega) (by omega)))]
end MWI
