/-! PURE: the class Wire -/
def Ex1 (P R : Nat → Prop) (S S' : TS) : Prop := Sm1 S S' ∧ (∀ a, ¬ P a → tI S' a = tI S a ∧ tL S' a = tL S a) ∧ ∀ a, ¬ R a → tR S' a = tR S a
theorem Ex1.rf {P R : Nat → Prop} (S : TS) : Ex1 P R S S := ⟨Sm1.rf S, fun _ _ => ⟨rfl, rfl⟩, fun _ _ => rfl⟩
theorem Ex1.tr {P R : Nat → Prop} {S S1 S2 : TS} (h : Ex1 P R S S1) (k : Ex1 P R S1 S2) : Ex1 P R S S2 := ⟨h.1.tr k.1, fun a ha => ⟨(k.2.1 a ha).1.trans (h.2.1 a ha).1, (k.2.1 a ha).2.trans (h.2.1 a ha).2⟩, fun a ha => (k.2.2 a ha).trans (h.2.2 a ha)⟩
theorem Ex1.mono {P P' R R' : Nat → Prop} {S S' : TS} (h : Ex1 P R S S') (hp : ∀ a, P a → P' a) (hr : ∀ a, R a → R' a) : Ex1 P' R' S S' := ⟨h.1, fun a ha => h.2.1 a (fun z => ha (hp a z)), fun a ha => h.2.2 a (fun z => ha (hr a z))⟩
theorem Ex.e1 {P R : Nat → Prop} {S S' : TS} (h : Ex P S S') : Ex1 P R S S' := ⟨h.1.s1, h.2, fun a _ => by rw [h.1.R]⟩
theorem Ex1.I {P R : Nat → Prop} {S S1 : TS} {a : Nat} {f : Nat → Int32} (h : Ex1 P R S S1) (ha : P a) : Ex1 P R S (sI S1 a f) := by
  refine ⟨h.1.I, fun b hb => ?_, fun b hb => ?_⟩
  · have hne : b ≠ a := fun e => hb (e ▸ ha)
    rw [tI_sI, tL_sI, up_n _ _ hne]
    exact h.2.1 b hb
  · rw [tR_sI]; exact h.2.2 b hb
theorem Ex1.Rr {P R : Nat → Prop} {S S1 : TS} {a : Nat} {f : Nat → Option Nat} (h : Ex1 P R S S1) (ha : R a) : Ex1 P R S (sR S1 a f) := by
  refine ⟨h.1.Rr, fun b hb => ?_, fun b hb => ?_⟩
  · rw [tI_sR, tL_sR]; exact h.2.1 b hb
  · have hne : b ≠ a := fun e => hb (e ▸ ha)
    rw [tR_sR, up_n _ _ hne]
    exact h.2.2 b hb
theorem BS.ex1 {P R : Nat → Prop} {S S' : TS} {q N : Nat} (h : BS S q N) (e : Ex1 P R S S') (hr : ¬ R q) : BS S' q N := by
  obtain ⟨h1, h2, h3, h4⟩ := h
  exact ⟨by rw [e.1.1]; exact h1, by rw [e.2.2 q hr]; exact h2, by rw [e.1.1]; exact h3, h4⟩
theorem BT.ex1 {P R : Nat → Prop} {S S' : TS} {q N : Nat} {l : List B8} (h : BT S q N l) (e : Ex1 P R S S') (h1 : ¬ P q) (h2 : ¬ P (q + 1)) (hr : ¬ R q) : BT S' q N l :=
  ⟨h.1.ex1 e hr, ⟨by rw [(e.2.1 q h1).1]; exact h.2.1.1, fun j hj => by rw [(e.2.1 (q + 1) h2).1]; exact h.2.1.2 j hj⟩, h.2.2⟩
/-- thirteen rows of 200 places, the first of them the records -/
def WR (S : TS) (v : Nat) (ws : List (List B8)) (f : Nat → Nat) : Prop :=
  (te S v = some (.inr 9) ∧ tR S v 0 = some (v + 1) ∧ te S (v + 1) = some (.inl (.object "SealedWire$Bytes", 13)) ∧ tI S v 1 = nI ws.length ∧ ws.length ≤ 12) ∧
  (∀ k, k < 13 → tR S (v + 1) k = some (f k)) ∧ (∀ k, k < 13 → v + 2 ≤ f k ∧ f k < v + 28 ∧ (f k - v) % 2 = 0) ∧ (∀ j k, j < 13 → k < 13 → f j = f k → j = k) ∧ (∀ k, k < 13 → BS S (f k) 200) ∧ (∀ k, k < ws.length → BT S (f k) 200 (ws.getD k []))
theorem WR.dj {S : TS} {v : Nat} {ws : List (List B8)} {f : Nat → Nat} (h : WR S v ws f) {j k : Nat} (hj : j < 13) (hk : k < 13) (hne : j ≠ k) : f j + 1 < f k ∨ f k + 1 < f j := by
  have h1 := h.2.2.1 j hj
  have h2 := h.2.2.1 k hk
  have h3 : f j ≠ f k := fun e => hne (h.2.2.2.1 j k hj hk e)
  omega
theorem WR.ex {P : Nat → Prop} {S S' : TS} {v : Nat} {ws : List (List B8)} {f : Nat → Nat} (h : WR S v ws f) (e : Ex P S S') (hp : ∀ a, v ≤ a → a < v + 28 → P a → bP (f ws.length) a) : WR S' v ws f := by
  have hl := h.1.2.2.2.2
  have hv : ∀ a, a = v ∨ a = v + 1 → ¬ P a := by
    intro a ha z
    have h1 := h.2.2.1 ws.length (by omega)
    have := hp a (by omega) (by omega) z
    simp only [bP] at this
    omega
  have hr : ∀ k, k < ws.length → ∀ a, bP (f k) a → ¬ P a := by
    intro k hk a ha z
    have h1 := h.2.2.1 k (by omega)
    have h2 := h.dj (j := k) (k := ws.length) (by omega) (by omega) (by omega)
    have := hp a (by simp only [bP] at ha; omega) (by simp only [bP] at ha; omega) z
    simp only [bP] at this ha
    omega
  obtain ⟨⟨g1, g2, g3, g4, g5⟩, g6, g7, g8, g9, g10⟩ := h
  refine ⟨⟨by rw [e.1.1]; exact g1, by rw [e.1.R]; exact g2, by rw [e.1.1]; exact g3, by rw [(e.2 v (hv v (Or.inl rfl))).1]; exact g4, g5⟩, fun k hk => by rw [e.1.R]; exact g6 k hk, g7, g8, fun k hk => (g9 k hk).sm e.1, fun k hk => (g10 k hk).ex e (hr k hk _ (Or.inl rfl)) (hr k hk _ (Or.inr rfl))⟩
theorem WR.ex1 {P R : Nat → Prop} {S S' : TS} {v : Nat} {ws : List (List B8)} {f : Nat → Nat} (h : WR S v ws f) (e : Ex1 P R S S') (hp : ∀ a, v ≤ a → a < v + 28 → ¬ P a ∧ ¬ R a) : WR S' v ws f := by
  obtain ⟨⟨g1, g2, g3, g4, g5⟩, g6, g7, g8, g9, g10⟩ := h
  have hv := hp v (by omega) (by omega)
  have hv1 := hp (v + 1) (by omega) (by omega)
  refine ⟨⟨by rw [e.1.1]; exact g1, by rw [e.2.2 v hv.2]; exact g2, by rw [e.1.1]; exact g3, by rw [(e.2.1 v hv.1).1]; exact g4, g5⟩, fun k hk => by rw [e.2.2 (v + 1) hv1.2]; exact g6 k hk, g7, g8, fun k hk => (g9 k hk).ex1 e (hp _ (by have := g7 k hk; omega) (by have := g7 k hk; omega)).2, fun k hk => ?_⟩
  have q1 := g7 k (by omega)
  exact (g10 k hk).ex1 e (hp _ (by omega) (by omega)).1 (hp _ (by omega) (by omega)).1 (hp _ (by omega) (by omega)).2
section PW
variable {G : pG} {v : Nat} {ws : List (List B8)} {f : Nat → Nat} {S : TS}
theorem p_wsize {Q : Option Value → Prop} (h : WR S v ws f) (hQ : Q (some (.int (nI ws.length)))) : CP G J_Wire_size [.ref v] S Q :=
  v_Wire_size v S Q ⟨h.1.1, by rw [h.1.2.2.2.1]; exact hQ⟩
theorem p_wfull {Q : Option Value → Prop} (h : WR S v ws f) (h1 : ws.length = 12 → Q (some (.int 1))) (h0 : ws.length < 12 → Q (some (.int 0))) : CP G J_Wire_isFull [.ref v] S Q := by
  have hl := h.1.2.2.2.2
  refine v_Wire_isFull v S Q ⟨h.1.1, ?_⟩
  rw [h.1.2.2.2.1]
  refine ⟨fun c => h0 ?_, fun c => h1 ?_⟩
  · exact (nI_ltI (b := 12) (by omega) (by omega)).mp c
  · have : ¬ ws.length < 12 := fun z => c ((nI_ltI (a := ws.length) (b := 12) (by omega) (by omega)).mpr z)
    omega
theorem p_whas {Q : Option Value → Prop} {x : Int32} (h : WR S v ws f) (h1 : ∀ j, j < ws.length → x = nI j → Q (some (.int 1))) (h0 : (∀ j, j < ws.length → x ≠ nI j) → Q (some (.int 0))) : CP G J_Wire_has [.ref v, .int x] S Q := by
  have hl := h.1.2.2.2.2
  refine v_Wire_has v x S Q ⟨fun c => h0 (fun j hj e => ?_), fun c => ⟨h.1.1, ?_⟩⟩
  · rw [e] at c
    exact nI_pos (by omega) c
  · rw [h.1.2.2.2.1]
    refine ⟨fun c2 => h0 (fun j hj e => ?_), fun c2 => ?_⟩
    · rw [e] at c2
      exact nI_ge hj (by omega) c2
    · obtain ⟨j, hj, e1, -⟩ := pk_mu c c2 (by omega)
      exact h1 j hj e1
theorem p_wat {Q : Option Value → Prop} {j : Nat} (h : WR S v ws f) (hj : j < ws.length) (hQ : Q (some (.ref (f j)))) : CP G J_Wire_at [.ref v, .int (nI j)] S Q := by
  have hl := h.1.2.2.2.2
  refine v_Wire_at v (nI j) S Q ⟨h.1.1, v + 1, h.1.2.1, ?_⟩
  refine p_whas h (fun j2 hj2 ej => ⟨1, rfl, fun c => absurd c (by decide), fun _ => ⟨13, h.1.2.2.1, vp_in_nI (by omega) (by omega), f j, ?_, hQ⟩⟩) (fun hno => absurd rfl (hno j hj))
  rw [nI_clamp (by omega)]
  exact h.2.1 j (by omega)
theorem p_draft {Q : Option Value → TS → Prop} (h : WR S v ws f) (hQ : ∀ S', Ex (bP (f ws.length)) S S' → BT S' (f ws.length) 200 [] → Q (some (.ref (f ws.length))) S') : C0 G J_Wire_draft [.ref v] S Q := by
  have hl := h.1.2.2.2.2
  have hf := h.2.2.1 ws.length (by omega)
  refine v_Wire_draft v S Q ⟨h.1.1, v + 1, h.1.2.1, 13, h.1.2.2.1, ?_⟩
  rw [h.1.2.2.2.1, nI_clamp (by omega)]
  refine ⟨vp_in_nI (by omega) (by omega), f ws.length, h.2.1 _ (by omega), (h.2.2.2.2.1 _ (by omega)).1, ?_⟩
  refine p_clear (h.2.2.2.2.1 _ (by omega)) (fun S1 x1 b1 => ⟨rfl, ?_⟩)
  have e1 : tI S1 v = tI S v := (x1.2 v (by simp only [bP]; omega)).1
  rw [e1, h.1.2.2.2.1, nI_clamp (by omega), x1.1.R]
  exact ⟨vp_in_nI (by omega) (by omega), f ws.length, h.2.1 _ (by omega), hQ S1 x1 b1⟩
theorem p_send {Q : Option Value → TS → Prop} {l : List B8} (h : WR S v ws f) (hl : ws.length < 12) (hb : BT S (f ws.length) 200 l) (hQ : ∀ S', Ex (fun a => a = v) S S' → WR S' v (ws ++ [l]) f → Q none S') : C0 G J_Wire_send [.ref v] S Q := by
  refine v_Wire_send v S Q ⟨h.1.1, ?_⟩
  rw [h.1.2.2.2.1, nI_1]
  refine ⟨fun c => absurd c (nI_ge (b := 12) (by omega) (by omega)), fun c S2 e2 => ?_⟩
  have x2 : Ex (fun a => a = v) S S2 := by rw [e2]; exact (Ex.rf S).I rfl
  refine hQ S2 x2 ?_
  obtain ⟨⟨g1, g2, g3, g4, g5⟩, g6, g7, g8, g9, g10⟩ := id h
  refine ⟨⟨by rw [x2.1.1]; exact g1, by rw [x2.1.R]; exact g2, by rw [x2.1.1]; exact g3, ?_, by simp; omega⟩, fun k hk => by rw [x2.1.R]; exact g6 k hk, g7, g8, fun k hk => (g9 k hk).sm x2.1, fun k hk => ?_⟩
  · rw [e2, tI_sI, up_s, pk_us]
    simp
  · have hk2 : k < ws.length + 1 := by simpa using hk
    have q1 := g7 k (by omega)
    by_cases hkl : k = ws.length
    · subst hkl
      have : (ws ++ [l]).getD ws.length [] = l := by simp
      rw [this]
      exact hb.ex x2 (by omega) (by omega)
    · have : (ws ++ [l]).getD k [] = ws.getD k [] := by simp [List.getD_eq_getElem?_getD, List.getElem?_append_left (show k < ws.length by omega)]
      rw [this]
      exact (g10 k (by omega)).ex x2 (by omega) (by omega)
/-- the rows when record k went behind the last one -/
def rmF (f : Nat → Nat) (n k j : Nat) : Nat := if j < k then f j else if j + 1 < n then f (j + 1) else if j + 1 = n then f k else f j
theorem rmF_inj {f : Nat → Nat} {n k : Nat} (hk : k < n) (hn : n ≤ 13) (hf : ∀ i j, i < 13 → j < 13 → f i = f j → i = j) : ∀ i j, i < 13 → j < 13 → rmF f n k i = rmF f n k j → i = j := by
  intro i j hi hj e
  unfold rmF at e
  split at e <;> split at e <;> (try split at e) <;> (try split at e) <;> (try split at e) <;> (try split at e) <;> (have := hf _ _ (by omega) (by omega) e; omega)
theorem rmF_ix {f : Nat → Nat} {n k : Nat} (hk : k < n) (hn : n ≤ 13) (j : Nat) (hj : j < 13) : ∃ i, i < 13 ∧ rmF f n k j = f i := by
  unfold rmF
  split
  · exact ⟨j, by omega, rfl⟩
  · split
    · exact ⟨j + 1, by omega, rfl⟩
    · split
      · exact ⟨k, by omega, rfl⟩
      · exact ⟨j, by omega, rfl⟩
theorem er_getD {α : Type} (ws : List α) (d : α) (k j : Nat) : (ws.eraseIdx k).getD j d = if j < k then ws.getD j d else ws.getD (j + 1) d := by
  simp only [List.getD_eq_getElem?_getD, List.getElem?_eraseIdx]
  split <;> rfl
theorem p_rm1 {Q : Option Value → TS → Prop} {k : Nat} {x1 : Int32} (hk : k < ws.length) (hQ : ∀ S', Ex1 (fun a => a = v) (fun a => a = v + 1) S S' → WR S' v (ws.eraseIdx k) (rmF f ws.length k) → Q none S') (h : WR S v ws f) : ∀ (n i : Nat) (S1 : TS), i + n + 1 = ws.length → k ≤ i → Ex1 (fun a => a = v) (fun a => a = v + 1) S S1 → tI S1 v = tI S v → (∀ j, j < 13 → tR S1 (v + 1) j = some (if k ≤ j ∧ j < i then f (j + 1) else f j)) →
    T1 G J_Wire_remove 18 [(0, .ref v), (1, .int x1), (2, .ref (f k)), (3, .int (nI i))] [] S1 Q := by
  intro n
  obtain ⟨⟨g1, g2, g3, g4, g5⟩, g6, g7, g8, g9, g10⟩ := id h
  induction n with
  | zero =>
    intro i S1 hi hki x1' e1 hr
    have hi2 : i = ws.length - 1 := by omega
    refine v_Wire_remove_18 v x1 (f k) (nI i) S1 Q ⟨by rw [x1'.1.1]; exact g1, ?_⟩
    rw [e1, g4, show nI ws.length - (1 : Int32) = nI (ws.length - 1) from pk_sub (b := 1) (by omega), ← hi2]
    refine ⟨fun _ S2 e2 => ?_, fun c => absurd (Int32.le_refl _) c⟩
    have x2 : Ex1 (fun a => a = v) (fun a => a = v + 1) S S2 := by rw [e2]; exact x1'.I rfl
    have t2 : tI S2 v 1 = nI i := by rw [e2, tI_sI, up_s, pk_us]
    have r2 : tR S2 = tR S1 := by rw [e2, tR_sI]
    refine ⟨v + 1, by rw [r2, x1'.2.2 v (by omega)]; exact g2, 13, by rw [x2.1.1]; exact g3, by rw [x2.1.1]; exact (g9 k (by omega)).1, ?_⟩
    rw [t2, nI_clamp (by omega)]
    refine ⟨vp_in_nI (by omega) (by omega), fun S8 e8 => ?_⟩
    have x8 : Ex1 (fun a => a = v) (fun a => a = v + 1) S S8 := by rw [e8]; exact x2.Rr rfl
    refine hQ S8 x8 ?_
    have hlen : (ws.eraseIdx k).length = ws.length - 1 := by rw [List.length_eraseIdx_of_lt hk]
    have q9 : ∀ j, j < 13 → BS S8 (f j) 200 := fun j hj => (g9 j hj).ex1 x8 (by have := g7 j hj; omega)
    refine ⟨⟨by rw [x8.1.1]; exact g1, by rw [x8.2.2 v (by omega)]; exact g2, by rw [x8.1.1]; exact g3, ?_, by omega⟩, fun j hj => ?_, fun j hj => ?_, rmF_inj hk (by omega) g8, fun j hj => ?_, fun j hj => ?_⟩
    · rw [e8, tI_sR, t2, hlen, hi2]
    · rw [e8, tR_sR, up_s, r2]
      unfold rmF
      by_cases hji : j = i
      · subst hji
        rw [up_s, if_neg (by omega), if_neg (by omega), if_pos (by omega)]
      · rw [up_n _ _ hji, hr j hj]
        by_cases c1 : j < k
        · rw [if_neg (by omega), if_pos c1]
        · by_cases c2 : j + 1 < ws.length
          · rw [if_pos (by omega), if_neg c1, if_pos c2]
          · rw [if_neg (by omega), if_neg c1, if_neg c2, if_neg (by omega)]
    · obtain ⟨m, hm, em⟩ := rmF_ix (f := f) hk (by omega) j hj
      rw [em]; exact g7 m hm
    · obtain ⟨m, hm, em⟩ := rmF_ix (f := f) hk (by omega) j hj
      rw [em]; exact q9 m hm
    · rw [hlen] at hj
      rw [er_getD]
      unfold rmF
      by_cases c1 : j < k
      · rw [if_pos c1, if_pos c1]
        have := g7 j (by omega)
        exact (g10 j (by omega)).ex1 x8 (by omega) (by omega) (by omega)
      · rw [if_neg c1, if_neg c1, if_pos (by omega)]
        have := g7 (j + 1) (by omega)
        exact (g10 (j + 1) (by omega)).ex1 x8 (by omega) (by omega) (by omega)
  | succ n ih =>
    intro i S1 hi hki x1' e1 hr
    refine v_Wire_remove_18 v x1 (f k) (nI i) S1 Q ⟨by rw [x1'.1.1]; exact g1, ?_⟩
    rw [e1, g4, show nI ws.length - (1 : Int32) = nI (ws.length - 1) from pk_sub (b := 1) (by omega), nI_1]
    refine ⟨fun c => absurd c (nI_ge (by omega) (by omega)), fun _ => ⟨v + 1, by rw [x1'.2.2 v (by omega)]; exact g2, 13, by rw [x1'.1.1]; exact g3, vp_in_nI (by omega) (by omega), f (i + 1), ?_, by rw [x1'.1.1]; exact (g9 (i + 1) (by omega)).1, vp_in_nI (by omega) (by omega), fun S2 e2 y ey => ?_⟩⟩
    · rw [nI_clamp (by omega), hr (i + 1) (by omega), if_neg (by omega)]
    · rw [nI_clamp (by omega)] at e2
      have x2 : Ex1 (fun a => a = v) (fun a => a = v + 1) S S2 := by rw [e2]; exact x1'.Rr rfl
      rw [ey]
      refine ih (i + 1) S2 (by omega) (by omega) x2 (by rw [e2, tI_sR]; exact e1) (fun j hj => ?_)
      rw [e2, tR_sR, up_s]
      by_cases hji : j = i
      · subst hji
        rw [up_s, if_pos (by omega)]
      · rw [up_n _ _ hji, hr j hj]
        by_cases c1 : k ≤ j ∧ j < i
        · rw [if_pos c1, if_pos (by omega)]
        · rw [if_neg c1, if_neg (by omega)]
theorem p_remove {Q : Option Value → TS → Prop} {k : Nat} (h : WR S v ws f) (hk : k < ws.length) (hQ : ∀ S', Ex1 (fun a => a = v) (fun a => a = v + 1) S S' → WR S' v (ws.eraseIdx k) (rmF f ws.length k) → Q none S') : C1 G J_Wire_remove [.ref v, .int (nI k)] S Q := by
  have hl := h.1.2.2.2.2
  refine v_Wire_remove v (nI k) S Q ⟨h.1.1, p_whas h (fun j2 hj2 ej => ?_) (fun hno => absurd rfl (hno k hk))⟩
  refine ⟨1, rfl, fun _ => ⟨v + 1, h.1.2.1, 13, h.1.2.2.1, vp_in_nI (by omega) (by omega), f k, ?_, ?_⟩, fun c => absurd c (by decide)⟩
  · rw [nI_clamp (by omega)]; exact h.2.1 k (by omega)
  · exact p_rm1 hk hQ h (ws.length - 1 - k) k S (by omega) (Nat.le_refl k) (Ex1.rf S) rfl (fun j hj => by rw [if_neg (by omega)]; exact h.2.1 j hj)
/-- the rows when record k went first -/
def bfF (f : Nat → Nat) (k j : Nat) : Nat := if j = 0 then f k else if j ≤ k then f (j - 1) else f j
theorem bfF_inj {f : Nat → Nat} {k : Nat} (hk : k < 13) (hf : ∀ i j, i < 13 → j < 13 → f i = f j → i = j) : ∀ i j, i < 13 → j < 13 → bfF f k i = bfF f k j → i = j := by
  intro i j hi hj e
  unfold bfF at e
  split at e <;> split at e <;> (try split at e) <;> (try split at e) <;> (have := hf _ _ (by omega) (by omega) e; omega)
theorem bfF_ix {f : Nat → Nat} {k : Nat} (hk : k < 13) (j : Nat) (hj : j < 13) : ∃ i, i < 13 ∧ bfF f k j = f i := by
  unfold bfF
  split
  · exact ⟨k, by omega, rfl⟩
  · split
    · exact ⟨j - 1, by omega, rfl⟩
    · exact ⟨j, by omega, rfl⟩
theorem p_bf1 {Q : Option Value → TS → Prop} {k : Nat} {x1 : Int32} (hk : k < ws.length) (hQ : ∀ S', Ex1 (fun _ => False) (fun a => a = v + 1) S S' → WR S' v (ws.getD k [] :: ws.eraseIdx k) (bfF f k) → Q none S') (h : WR S v ws f) : ∀ (i : Nat) (S1 : TS), i ≤ k → Ex1 (fun _ => False) (fun a => a = v + 1) S S1 → (∀ j, j < 13 → tR S1 (v + 1) j = some (if i < j ∧ j ≤ k then f (j - 1) else f j)) →
    T1 G J_Wire_bringFirst 18 [(0, .ref v), (1, .int x1), (2, .ref (f k)), (3, .int (nI i))] [] S1 Q := by
  intro i
  obtain ⟨⟨g1, g2, g3, g4, g5⟩, g6, g7, g8, g9, g10⟩ := id h
  induction i with
  | zero =>
    intro S1 hik x1' hr
    refine v_Wire_bringFirst_18 v x1 (f k) (nI 0) S1 Q ⟨fun _ => ⟨by rw [x1'.1.1]; exact g1, v + 1, by rw [x1'.2.2 v (by omega)]; exact g2, 13, by rw [x1'.1.1]; exact g3, by rw [x1'.1.1]; exact (g9 k (by omega)).1, vp_in_nI (n := 0) (by omega) (by omega), fun S7 e7 => ?_⟩, fun c => absurd (Int32.le_refl _) c⟩
    have x7 : Ex1 (fun _ => False) (fun a => a = v + 1) S S7 := by rw [e7]; exact x1'.Rr rfl
    refine hQ S7 x7 ?_
    have hlen : (ws.getD k [] :: ws.eraseIdx k).length = ws.length := by rw [List.length_cons, List.length_eraseIdx_of_lt hk]; omega
    refine ⟨⟨by rw [x7.1.1]; exact g1, by rw [x7.2.2 v (by omega)]; exact g2, by rw [x7.1.1]; exact g3, by rw [(x7.2.1 v (fun z => z)).1, hlen]; exact g4, by omega⟩, fun j hj => ?_, fun j hj => ?_, bfF_inj (by omega) g8, fun j hj => ?_, fun j hj => ?_⟩
    · rw [e7, tR_sR, up_s]
      unfold bfF
      by_cases hj0 : j = 0
      · subst hj0
        rw [up_s, if_pos rfl]
      · rw [up_n _ _ hj0, hr j hj, if_neg hj0]
        by_cases c1 : j ≤ k
        · rw [if_pos (by omega), if_pos c1]
        · rw [if_neg (by omega), if_neg c1]
    · obtain ⟨m, hm, em⟩ := bfF_ix (f := f) (k := k) (by omega) j hj
      rw [em]; exact g7 m hm
    · obtain ⟨m, hm, em⟩ := bfF_ix (f := f) (k := k) (by omega) j hj
      rw [em]; exact (g9 m hm).ex1 x7 (by have := g7 m hm; omega)
    · rw [hlen] at hj
      have tr : ∀ m, m < ws.length → BT S7 (f m) 200 (ws.getD m []) := fun m hm => (g10 m hm).ex1 x7 (fun z => z) (fun z => z) (by have := g7 m (by omega); omega)
      unfold bfF
      by_cases hj0 : j = 0
      · subst hj0
        rw [if_pos rfl]
        exact tr k hk
      · obtain ⟨j2, rfl⟩ : ∃ j2, j = j2 + 1 := ⟨j - 1, by omega⟩
        have e : (ws.getD k [] :: ws.eraseIdx k).getD (j2 + 1) [] = (ws.eraseIdx k).getD j2 [] := by simp [List.getD_eq_getElem?_getD]
        rw [e, er_getD, if_neg hj0]
        by_cases c1 : j2 + 1 ≤ k
        · rw [if_pos c1, if_pos (by omega)]
          exact tr j2 (by omega)
        · rw [if_neg c1, if_neg (by omega)]
          exact tr (j2 + 1) (by omega)
  | succ i ih =>
    intro S1 hik x1' hr
    have e1 : nI (i + 1) - (1 : Int32) = nI i := pk_sub (a := i + 1) (b := 1) (by omega)
    have e2' : nI (i + 1) + (-1 : Int32) = nI i := by rw [← e1]; exact (Int32.sub_eq_add_neg _ _).symm
    refine v_Wire_bringFirst_18 v x1 (f k) (nI (i + 1)) S1 Q ⟨fun c => absurd c (nI_ge (a := 0) (by omega) (by omega)), fun _ => ⟨by rw [x1'.1.1]; exact g1, v + 1, by rw [x1'.2.2 v (by omega)]; exact g2, 13, by rw [x1'.1.1]; exact g3, ?_⟩⟩
    rw [e1, e2', nI_clamp (by omega), nI_clamp (by omega)]
    refine ⟨vp_in_nI (by omega) (by omega), f i, by rw [hr i (by omega), if_neg (by omega)], by rw [x1'.1.1]; exact (g9 i (by omega)).1, vp_in_nI (by omega) (by omega), fun S2 e2 y ey => ?_⟩
    have x2 : Ex1 (fun _ => False) (fun a => a = v + 1) S S2 := by rw [e2]; exact x1'.Rr rfl
    rw [ey]
    refine ih S2 (by omega) x2 (fun j hj => ?_)
    rw [e2, tR_sR, up_s]
    by_cases hji : j = i + 1
    · subst hji
      rw [up_s, if_pos (by omega)]
      rfl
    · rw [up_n _ _ hji, hr j hj]
      by_cases c1 : i + 1 < j ∧ j ≤ k
      · rw [if_pos c1, if_pos (by omega)]
      · rw [if_neg c1, if_neg (by omega)]
theorem p_bringFirst {Q : Option Value → TS → Prop} {k : Nat} (h : WR S v ws f) (hk : k < ws.length) (hQ : ∀ S', Ex1 (fun _ => False) (fun a => a = v + 1) S S' → WR S' v (ws.getD k [] :: ws.eraseIdx k) (bfF f k) → Q none S') : C1 G J_Wire_bringFirst [.ref v, .int (nI k)] S Q := by
  have hl := h.1.2.2.2.2
  refine v_Wire_bringFirst v (nI k) S Q ⟨h.1.1, p_whas h (fun j2 hj2 ej => ?_) (fun hno => absurd rfl (hno k hk))⟩
  refine ⟨1, rfl, fun _ => ⟨v + 1, h.1.2.1, 13, h.1.2.2.1, vp_in_nI (by omega) (by omega), f k, ?_, ?_⟩, fun c => absurd c (by decide)⟩
  · rw [nI_clamp (by omega)]; exact h.2.1 k (by omega)
  · exact p_bf1 hk hQ h k S (Nat.le_refl k) (Ex1.rf S) (fun j hj => by rw [if_neg (by omega)]; exact h.2.1 j hj)
end PW
