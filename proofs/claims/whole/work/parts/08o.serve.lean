/-! PURE: what the Store does -/
def swF (f : Nat → Nat) (k m j : Nat) : Nat := if j = m then f k else if j = k then f m else f j
theorem swF_ix {f : Nat → Nat} {k m j : Nat} (hk : k < 20) (hm : m < 20) (hj : j < 20) : ∃ i, i < 20 ∧ swF f k m j = f i ∧ (j ≠ m → j ≠ k → i = j) := by
  unfold swF
  split
  · exact ⟨k, hk, rfl, fun h => absurd (by assumption) h⟩
  · split
    · exact ⟨m, hm, rfl, fun _ h => absurd (by assumption) h⟩
    · exact ⟨j, hj, rfl, fun _ _ => rfl⟩
theorem sRm_len (st : Stt) (i : Nat) : (sRm st i).length = st.length - 1 := by
  unfold sRm
  rw [List.length_take, List.length_set]
  omega
theorem sRm_get (st : Stt) {i j : Nat} (hi : i < st.length) (hj : j < st.length - 1) : (sRm st i).getD j ([], []) = if j = i then st.getD (st.length - 1) ([], []) else st.getD j ([], []) := by
  unfold sRm
  simp only [List.getD_eq_getElem?_getD, List.getElem?_take, hj, if_true, List.getElem?_set]
  by_cases h : i = j
  · subst h; simp [hi]
  · rw [if_neg h, if_neg (Ne.symm h)]
section PSV
variable {G : pG} {t q r : Nat} {st : Stt} {fn fv : Nat → Nat} {S : TS} {Q : Option Value → TS → Prop}
theorem p_removeAt {k : Nat} (hs : ST S t st fn fv) (hk : k < st.length) (hQ : ∀ S', Ex1 (fun a => a = t) (fun a => a = t + 1 ∨ a = t + 2) S S' → ST S' t (sRm st k) (swF fn k (st.length - 1)) (swF fv k (st.length - 1)) → Q (some (.int 0)) S') : C1 G J_Store_removeAt [.ref t, .int (nI k)] S Q := by
  have hl := hs.1.2.2.2.2.2.2
  obtain ⟨⟨g1, g2, g3, g4, g5, g6, g7⟩, h2, h3, h4, h5, h6⟩ := id hs
  generalize hm : st.length - 1 = m
  have hm20 : m < 20 := by omega
  refine v_Store_removeAt t (nI k) S Q ⟨g1, ?_⟩
  rw [g6, show nI st.length - (1 : Int32) = nI (st.length - 1) from pk_sub (b := 1) (by omega), hm, nI_clamp (by omega)]
  intro S2 e2
  have x2 : Ex1 (fun a => a = t) (fun a => a = t + 1 ∨ a = t + 2) S S2 := by rw [e2]; exact (Ex1.rf S).I rfl
  have r2 : tR S2 = tR S := by rw [e2, tR_sI]
  have i2 : tI S2 t 2 = nI m := by rw [e2, tI_sI, up_s, pk_us]
  have hin : ∀ j, j < 20 → vp_in (nI j) 20 := fun j hj => vp_in_nI hj (by omega)
  rw [r2, i2, nI_clamp (by omega)]
  have t2 : te S2 = te S := x2.1.1
  refine ⟨t + 1, g2, 20, by rw [t2]; exact g3, hin k (by omega), fn k, (h2 k (by omega)).1, t + 2, g4, 20, by rw [t2]; exact g5, hin k (by omega), fv k, (h2 k (by omega)).2, hin m hm20, fn m, (h2 m hm20).1, by rw [t2]; exact (h5 m hm20).1.1, hin k (by omega), fun S15 e15 => ?_⟩
  have x15 : Ex1 (fun a => a = t) (fun a => a = t + 1 ∨ a = t + 2) S S15 := by rw [e15]; exact x2.Rr (Or.inl rfl)
  have i15 : tI S15 t 2 = nI m := by rw [e15, tI_sR]; exact i2
  have rt15 : tR S15 t = tR S t := x15.2.2 t (by omega)
  have r15 : tR S15 (t + 2) = tR S (t + 2) := by rw [e15, tR_sR, up_n _ _ (by omega), r2]
  rw [i15, rt15, nI_clamp (by omega)]
  refine ⟨t + 2, g4, 20, by rw [x15.1.1]; exact g5, hin m hm20, fv m, by rw [r15]; exact (h2 m hm20).2, by rw [x15.1.1]; exact (h5 m hm20).2.1, hin k (by omega), fun S22 e22 => ?_⟩
  have x22 : Ex1 (fun a => a = t) (fun a => a = t + 1 ∨ a = t + 2) S S22 := by rw [e22]; exact x15.Rr (Or.inr rfl)
  have i22 : tI S22 t 2 = nI m := by rw [e22, tI_sR]; exact i15
  have rt22 : tR S22 t = tR S t := x22.2.2 t (by omega)
  rw [i22, rt22, nI_clamp (by omega)]
  refine ⟨t + 1, g2, 20, by rw [x22.1.1]; exact g3, by rw [x22.1.1]; exact (h5 k (by omega)).1.1, hin m hm20, fun S28 e28 => ?_⟩
  have x28 : Ex1 (fun a => a = t) (fun a => a = t + 1 ∨ a = t + 2) S S28 := by rw [e28]; exact x22.Rr (Or.inl rfl)
  have i28 : tI S28 t 2 = nI m := by rw [e28, tI_sR]; exact i22
  have rt28 : tR S28 t = tR S t := x28.2.2 t (by omega)
  rw [i28, rt28, nI_clamp (by omega)]
  refine ⟨t + 2, g4, 20, by rw [x28.1.1]; exact g5, by rw [x28.1.1]; exact (h5 k (by omega)).2.1, hin m hm20, fun S34 e34 => ?_⟩
  have x34 : Ex1 (fun a => a = t) (fun a => a = t + 1 ∨ a = t + 2) S S34 := by rw [e34]; exact x28.Rr (Or.inr rfl)
  have i34 : tI S34 t 2 = nI m := by rw [e34, tI_sR]; exact i28
  rw [hm] at hQ
  refine hQ S34 x34 ?_
  have q15 : tR S15 (t + 1) = va_up (tR S (t + 1)) k (some (fn m)) := by rw [e15, tR_sR, up_s]
  have q22 : tR S22 (t + 2) = va_up (tR S (t + 2)) k (some (fv m)) := by rw [e22, tR_sR, up_s, r15]
  have q22' : tR S22 (t + 1) = tR S15 (t + 1) := by rw [e22, tR_sR, up_n _ _ (by omega)]
  have q28 : tR S28 (t + 1) = va_up (va_up (tR S (t + 1)) k (some (fn m))) m (some (fn k)) := by rw [e28, tR_sR, up_s, q22', q15]
  have q28' : tR S28 (t + 2) = tR S22 (t + 2) := by rw [e28, tR_sR, up_n _ _ (by omega)]
  have q34 : tR S34 (t + 2) = va_up (va_up (tR S (t + 2)) k (some (fv m))) m (some (fv k)) := by rw [e34, tR_sR, up_s, q28', q22]
  have q34' : tR S34 (t + 1) = tR S28 (t + 1) := by rw [e34, tR_sR, up_n _ _ (by omega)]
  have hrow : ∀ (f : Nat → Nat) (row : Nat → Option Nat), (∀ j, j < 20 → row j = some (f j)) → ∀ j, j < 20 → va_up (va_up row k (some (f m))) m (some (f k)) j = some (swF f k m j) := by
    intro f row hf j hj
    unfold swF
    by_cases c1 : j = m
    · subst c1; rw [up_s, if_pos rfl]
    · rw [up_n _ _ c1, if_neg c1]
      by_cases c2 : j = k
      · subst c2; rw [up_s, if_pos rfl]
      · rw [up_n _ _ c2, if_neg c2]; exact hf j hj
  have hB : ∀ j, j < 20 → BS S34 (fn j) 16 ∧ BS S34 (fv j) 64 := fun j hj => by
    have := h3 j hj
    exact ⟨(h5 j hj).1.ex1 x34 (by omega), (h5 j hj).2.ex1 x34 (by omega)⟩
  have hT : ∀ j, j < st.length → BT S34 (fn j) 16 (sN1 st j) ∧ BT S34 (fv j) 64 (sV1 st j) := fun j hj => by
    have := h3 j (by omega)
    exact ⟨(h6 j hj).1.ex1 x34 (by omega) (by omega) (by omega), (h6 j hj).2.ex1 x34 (by omega) (by omega) (by omega)⟩
  refine ⟨⟨by rw [x34.1.1]; exact g1, by rw [x34.2.2 t (by omega)]; exact g2, by rw [x34.1.1]; exact g3, by rw [x34.2.2 t (by omega)]; exact g4, by rw [x34.1.1]; exact g5, by rw [i34, sRm_len, hm], by rw [sRm_len]; omega⟩, fun j hj => ⟨?_, ?_⟩, fun j hj => ?_, fun i j hi hj e => ?_, fun j hj => ?_, fun j hj => ?_⟩
  · rw [q34', q28]; exact hrow fn _ (fun j hj => (h2 j hj).1) j hj
  · rw [q34]; exact hrow fv _ (fun j hj => (h2 j hj).2) j hj
  · obtain ⟨i, hi, e1, -⟩ := swF_ix (f := fn) (k := k) (m := m) (by omega) hm20 hj
    obtain ⟨i', hi', e1', -⟩ := swF_ix (f := fv) (k := k) (m := m) (by omega) hm20 hj
    have := h3 i hi
    have := h3 i' hi'
    rw [e1, e1']; omega
  · have key : ∀ f : Nat → Nat, (∀ a b, a < 20 → b < 20 → f a = f b → a = b) → swF f k m i = swF f k m j → i = j := by
      intro f hf e
      unfold swF at e
      split at e <;> split at e <;> (try split at e) <;> (try split at e) <;> (have := hf _ _ (by omega) (by omega) e; omega)
    rcases e with e | e
    · exact key fn (fun a b ha hb e => h4 a b ha hb (Or.inl e)) e
    · exact key fv (fun a b ha hb e => h4 a b ha hb (Or.inr e)) e
  · obtain ⟨i, hi, e1, -⟩ := swF_ix (f := fn) (k := k) (m := m) (by omega) hm20 hj
    obtain ⟨i', hi', e1', -⟩ := swF_ix (f := fv) (k := k) (m := m) (by omega) hm20 hj
    rw [e1, e1']
    exact ⟨(hB i hi).1, (hB i' hi').2⟩
  · rw [sRm_len] at hj
    have e := sRm_get st hk hj
    have e1 : ∀ f : Nat → Nat, swF f k m j = if j = k then f m else f j := fun f => by unfold swF; rw [if_neg (by omega)]
    unfold sN1 sV1
    rw [e, e1, e1]
    by_cases c : j = k
    · rw [if_pos c, if_pos c, if_pos c, hm]
      exact hT m (by omega)
    · rw [if_neg c, if_neg c, if_neg c]
      exact hT j (by omega)
theorem p_replace {k N : Nat} {d : List B8} (hs : ST S t st fn fv) (hk : k < st.length) (hq : BT S q N d) (hd : d.length ≤ 64) (hqt : q + 1 < t ∨ t + 83 ≤ q) (hQ : ∀ S', Ex (bP (fv k)) S S' → ST S' t (st.set k (sN1 st k, d)) fn fv → Q (some (.int 0)) S') : C0 G J_Store_replace [.ref t, .int (nI k), .ref q] S Q := by
  have hl := hs.1.2.2.2.2.2.2
  have hk3 := hs.2.2.1 k (by omega)
  refine v_Store_replace t (nI k) q S Q ⟨hs.1.1, t + 2, hs.1.2.2.2.1, 20, hs.1.2.2.2.2.1, vp_in_nI (by omega) (by omega), fv k, ?_, (hs.2.2.2.2.1 k (by omega)).2.1, ?_⟩
  · rw [nI_clamp (by omega)]; exact (hs.2.1 k (by omega)).2
  · exact p_become (hs.2.2.2.2.1 k (by omega)).2 hq ⟨by omega, by omega⟩ hd (fun S' x' b' => ⟨rfl, hQ S' x' (hs.setV hk x' b')⟩)
theorem p_lengthen {k N : Nat} {d : List B8} (hs : ST S t st fn fv) (hk : k < st.length) (hq : BT S q N d) (hd : d.length ≤ 64) (hQ1 : (sV1 st k).length + d.length ≤ 64 → ∀ S', Ex (bP (fv k)) S S' → ST S' t (st.set k (sN1 st k, sV1 st k ++ d)) fn fv → Q (some (.int 0)) S') (hQ3 : ¬ (sV1 st k).length + d.length ≤ 64 → Q (some (.int 3)) S) : C0 G J_Store_lengthen [.ref t, .int (nI k), .ref q] S Q := by
  have hl := hs.1.2.2.2.2.2.2
  have hk3 := hs.2.2.1 k (by omega)
  have hv := (hs.2.2.2.2.2 k hk).2
  have hv64 := hv.2.2
  have hr : tR S (t + 2) (nI k).toNatClampNeg = some (fv k) := by rw [nI_clamp (by omega)]; exact (hs.2.1 k (by omega)).2
  refine v_Store_lengthen t (nI k) q S Q ⟨hs.1.1, t + 2, hs.1.2.2.2.1, 20, hs.1.2.2.2.2.1, vp_in_nI (by omega) (by omega), fv k, hr, hv.1.1, p_size hv ⟨_, rfl, hq.1.1, p_size hq ⟨_, rfl, ?_⟩⟩⟩
  rw [nI_add]
  refine ⟨fun c => ⟨vp_in_nI (by omega) (by omega), fv k, hr, hv.1.1, ?_⟩, fun c => hQ3 (fun z => c (nI_le (b := 64) z (by omega)))⟩
  have hc : (sV1 st k).length + d.length ≤ 64 := (nI_leI (b := 64) (by omega) (by omega)).mp c
  exact p_putAll hv hq hc (fun S' x' b' => ⟨rfl, hQ1 hc S' x' (hs.setV hk x' b')⟩)
theorem p_add {nm dt : List B8} (hs : ST S t st fn fv) (hr : RQ S r) (hn : BT S (r + 1) 16 nm) (hd : BT S (r + 3) 64 dt) (hrt : r + 5 ≤ t ∨ t + 83 ≤ r) (hQ0 : st.length < 20 → ∀ S', Ex (tP t) S S' → ST S' t (st ++ [(nm, dt)]) fn fv → Q (some (.int 0)) S') (hQ3 : ¬ st.length < 20 → Q (some (.int 3)) S) : C0 G J_Store_add [.ref t, .ref r] S Q := by
  have hl := hs.1.2.2.2.2.2.2
  refine v_Store_add t r S Q ⟨hs.1.1, ?_⟩
  rw [hs.1.2.2.2.2.2.1]
  refine ⟨fun c => ?_, fun c => hQ3 (fun z => c ((nI_ltI (a := st.length) (b := 20) (by omega) (by omega)).mpr z))⟩
  have hlt : st.length < 20 := (nI_ltI (a := st.length) (b := 20) (by omega) (by omega)).mp c
  obtain ⟨⟨g1, g2, g3, g4, g5, g6, g7⟩, h2, h3, h4, h5, h6⟩ := id hs
  have k3 := h3 st.length hlt
  rw [nI_clamp (by omega)]
  have hin : vp_in (nI st.length) 20 := vp_in_nI (by omega) (by omega)
  refine ⟨t + 1, g2, 20, g3, hin, fn st.length, (h2 _ hlt).1, hr.1, v_Request_target r S _ ⟨hr.1, r + 1, hr.2.1, r + 1, rfl, (h5 _ hlt).1.1, ?_⟩⟩
  refine p_become (h5 _ hlt).1 hn ⟨by omega, by omega⟩ hn.2.2 (fun S10 x10 b10 => ⟨rfl, ?_⟩)
  have i10 : tI S10 t = tI S t := (x10.2 t (by simp only [bP]; omega)).1
  rw [i10, x10.1.R, g6, nI_clamp (by omega)]
  have r10 := hr.sm x10.1
  have d10 : BT S10 (r + 3) 64 dt := hd.ex x10 (by simp only [bP]; omega) (by simp only [bP]; omega)
  have v10 : BS S10 (fv st.length) 64 := (h5 _ hlt).2.sm x10.1
  refine ⟨t + 2, g4, 20, by rw [x10.1.1]; exact g5, hin, fv st.length, (h2 _ hlt).2, v_Request_data r S10 _ ⟨r10.1, r + 3, r10.2.2.2.1, r + 3, rfl, v10.1, ?_⟩⟩
  refine p_become v10 d10 ⟨by omega, by omega⟩ d10.2.2 (fun S18 x18 b18 => ⟨rfl, fun S19 e19 => ?_⟩)
  have x19 : Ex (fun a => a = t) S18 S19 := by rw [e19]; exact (Ex.rf S18).I rfl
  have xx : Ex (tP t) S S19 := ((x10.mono (fun a h => by simp only [bP] at h; simp only [tP]; omega)).tr (x18.mono (fun a h => by simp only [bP] at h; simp only [tP]; omega))).tr (x19.mono (fun a h => by simp only [tP]; omega))
  have i18 : tI S18 t = tI S t := (x18.2 t (by simp only [bP]; omega)).1.trans i10
  refine hQ0 hlt S19 xx ?_
  refine ⟨⟨by rw [xx.1.1]; exact g1, by rw [xx.1.R]; exact g2, by rw [xx.1.1]; exact g3, by rw [xx.1.R]; exact g4, by rw [xx.1.1]; exact g5, ?_, by simp; omega⟩, fun k hk => by rw [xx.1.R]; exact h2 k hk, h3, h4, fun k hk => ⟨(h5 k hk).1.sm xx.1, (h5 k hk).2.sm xx.1⟩, fun j hj => ?_⟩
  · rw [e19, tI_sI, up_s, pk_us, i18, g6, nI_1]
    simp
  · have hj2 : j < st.length + 1 := by simpa using hj
    have j3 := h3 j (by omega)
    rw [app_N1, app_V1]
    by_cases c : j = st.length
    · subst c
      rw [if_pos rfl, if_pos rfl]
      exact ⟨(b10.ex x18 (by simp only [bP]; omega) (by simp only [bP]; omega)).ex x19 (by omega) (by omega), b18.ex x19 (by omega) (by omega)⟩
    · have n1 : fn j ≠ fn st.length := fun e => c (h4 j _ (by omega) hlt (Or.inl e))
      have n2 : fv j ≠ fv st.length := fun e => c (h4 j _ (by omega) hlt (Or.inr e))
      rw [if_neg c, if_neg c]
      exact ⟨(((h6 j (by omega)).1.ex x10 (by simp only [bP]; omega) (by simp only [bP]; omega)).ex x18 (by simp only [bP]; omega) (by simp only [bP]; omega)).ex x19 (by omega) (by omega), (((h6 j (by omega)).2.ex x10 (by simp only [bP]; omega) (by simp only [bP]; omega)).ex x18 (by simp only [bP]; omega) (by simp only [bP]; omega)).ex x19 (by omega) (by omega)⟩
/-- what the server answers (behind the kind), and the store afterwards -/
def srv (st : Stt) (o : Nat) (nm dt : List B8) : List B8 × Stt :=
  match sfind st nm with
  | none => if o = 1 ∨ o = 3 then (if st.length < 20 then ([0], st ++ [(nm, dt)]) else ([3], st)) else ([1], st)
  | some k => if o = 0 then (0 :: sV1 st k, st) else if o = 1 then ([0], st.set k (sN1 st k, dt)) else if o = 2 then ([0], sRm st k) else if o = 3 then ([2], st) else if (sV1 st k).length + dt.length ≤ 64 then ([0], st.set k (sN1 st k, sV1 st k ++ dt)) else ([3], st)
theorem p_serve {d o N : Nat} {nm dt l : List B8} (hs : ST S t st fn fv) (hr : RQ S r) (hn : BT S (r + 1) 16 nm) (hd : BT S (r + 3) 64 dt) (hrt : r + 5 ≤ t ∨ t + 83 ≤ r) (ho : o < 5) (hop : tI S r 2 = nI o) (ha : BT S d N l) (hN : l.length + 65 ≤ N) (hdt : d + 1 < t ∨ t + 83 ≤ d) (hdr : d + 1 < r ∨ r + 5 ≤ d)
    (hQ : ∀ S' fn' fv', Ex1 (fun a => tP t a ∨ bP d a) (fun a => a = t + 1 ∨ a = t + 2) S S' → ST S' t (srv st o nm dt).2 fn' fv' → BT S' d N (l ++ (srv st o nm dt).1) → Q none S') : C1 G J_Store_serve [.ref t, .ref r, .ref d] S Q := by
  have hl := hs.1.2.2.2.2.2.2
  refine v_Store_serve t r d S Q ⟨hr.1, v_Request_target r S _ ⟨hr.1, r + 1, hr.2.1, r + 1, rfl, hs.1.1, ?_⟩⟩
  have tT : ∀ {S1 : TS}, Ex (bP d) S S1 → ST S1 t st fn fv := fun x => hs.ex x (fun a h => by simp only [tP] at h; simp only [bP]; omega)
  have fin0 : ∀ {S1 S2 : TS} {x : Int32} {st' : Stt} {fn' fv' : Nat → Nat}, Ex1 (fun a => tP t a ∨ bP d a) (fun a => a = t + 1 ∨ a = t + 2) S S1 → Ex (bP d) S1 S2 → ST S1 t st' fn' fv' → BT S2 d N (l ++ [b8 x]) → srv st o nm dt = ([b8 x], st') → Q none S2 := by
    intro S1 S2 x st' fn' fv' x1 x2 hs1 b2 e
    refine hQ S2 fn' fv' (x1.tr (x2.e1.mono (fun a h => Or.inr h) (fun a (h : False) => h.elim))) ?_ ?_
    · rw [e]; exact hs1.ex x2 (fun a h => by simp only [tP] at h; simp only [bP]; omega)
    · rw [e]; exact b2
  have lt : l.length < N := by omega
  have nneg : ∀ k, k < st.length → (0 : Int32) ≤ nI k := fun k hk => nI_le (a := 0) (by omega) (by omega)
  refine p_find hs hn (fun hf => ⟨-1, rfl, v_Request_op r S _ ⟨hr.1, ?_⟩⟩) (fun k hk hf => ⟨nI k, rfl, v_Request_op r S _ ⟨hr.1, ?_⟩⟩)
  · refine ⟨nI o, by rw [hop], ?_⟩
    have esr : srv st o nm dt = if o = 1 ∨ o = 3 then (if st.length < 20 then ([0], st ++ [(nm, dt)]) else ([3], st)) else ([1], st) := by unfold srv; rw [hf]
    have one : ¬ (o = 1 ∨ o = 3) → te S d = some (.inr 0) ∧ C0 G J_Bytes_put [.ref d, .int 1] S (fun r S' => r = none ∧ Q none S') := fun hno =>
      ⟨ha.1.1, p_put ha lt (fun S1 x1 b1 => ⟨rfl, fin0 (x := 1) (Ex1.rf S) x1 hs b1 (by rw [esr, if_neg hno]; rfl)⟩)⟩
    have add : (o = 1 ∨ o = 3) → C0 G J_Store_add [.ref t, .ref r] S (fun rr S27 => ∃ r28 : Int32, rr = some (.int r28) ∧ te S27 d = some (.inr 0) ∧ C0 G J_Bytes_put [.ref d, .int r28] S27 (fun r S30 => r = none ∧ Q none S30)) := by
      intro hyes
      refine p_add hs hr hn hd hrt (fun hlt S1 x1 s1 => ?_) (fun hge => ?_)
      · have a1 : BT S1 d N l := ha.ex x1 (by simp only [tP]; omega) (by simp only [tP]; omega)
        exact ⟨0, rfl, a1.1.1, p_put a1 lt (fun S2 x2 b2 => ⟨rfl, fin0 (x := 0) (x1.e1.mono (fun a h => Or.inl h) (fun a (h : False) => h.elim)) x2 s1 b2 (by rw [esr, if_pos hyes, if_pos hlt]; rfl)⟩)⟩
      · exact ⟨3, rfl, ha.1.1, p_put ha lt (fun S2 x2 b2 => ⟨rfl, fin0 (x := 3) (Ex1.rf S) x2 hs b2 (by rw [esr, if_pos hyes, if_neg hge]; rfl)⟩)⟩
    refine ⟨fun c0 => ⟨fun c => absurd c (by decide), fun _ => ?_⟩, fun c1 => ⟨fun c => absurd c (by decide), fun _ => ?_⟩, fun c2 => ⟨fun c => absurd c (by decide), fun _ => ?_⟩, fun c3 => ⟨fun c => absurd c (by decide), fun _ => ?_⟩, fun n0 n1 n2 n3 => ⟨fun c => absurd c (by decide), fun _ => ?_⟩⟩
    · have : o = 0 := (nI_eq (b := 0) (by omega) (by omega)).mp c0
      subst this
      refine ⟨ha.1.1, p_put ha lt (fun S1 x1 b1 => ⟨rfl, fun _ => fin0 (x := 1) (Ex1.rf S) x1 hs b1 (by rw [esr, if_neg (by omega)]; rfl), fun c => absurd (by decide) c⟩)⟩
    · have : o = 1 := (nI_eq (b := 1) (by omega) (by omega)).mp c1
      exact add (Or.inl this)
    · have : o = 2 := (nI_eq (b := 2) (by omega) (by omega)).mp c2
      exact one (by omega)
    · have : o = 3 := (nI_eq (b := 3) (by omega) (by omega)).mp c3
      exact add (Or.inr this)
    · have h1 : o ≠ 1 := fun e => n1 (by rw [e]; rfl)
      have h3 : o ≠ 3 := fun e => n3 (by rw [e]; rfl)
      exact one (by omega)
  · refine ⟨nI o, by rw [hop], ?_⟩
    have esr : srv st o nm dt = if o = 0 then (0 :: sV1 st k, st) else if o = 1 then ([0], st.set k (sN1 st k, dt)) else if o = 2 then ([0], sRm st k) else if o = 3 then ([2], st) else if (sV1 st k).length + dt.length ≤ 64 then ([0], st.set k (sN1 st k, sV1 st k ++ dt)) else ([3], st) := by unfold srv; rw [hf]
    have k3 := hs.2.2.1 k (by omega)
    have tk : ∀ {S1 : TS}, Ex (bP (fv k)) S S1 → Ex1 (fun a => tP t a ∨ bP d a) (fun a => a = t + 1 ∨ a = t + 2) S S1 := fun x => x.e1.mono (fun a h => Or.inl (by simp only [bP] at h; simp only [tP]; omega)) (fun a (h : False) => h.elim)
    have np := nneg k hk
    refine ⟨fun c0 => ⟨fun _ => ?_, fun c => absurd np c⟩, fun c1 => ⟨fun _ => ?_, fun c => absurd np c⟩, fun c2 => ⟨fun _ => ?_, fun c => absurd np c⟩, fun c3 => ⟨fun _ => ?_, fun c => absurd np c⟩, fun n0 n1 n2 n3 => ⟨fun _ => ?_, fun c => absurd np c⟩⟩
    · have : o = 0 := (nI_eq (b := 0) (by omega) (by omega)).mp c0
      subst this
      refine ⟨ha.1.1, p_put ha lt (fun S1 x1 b1 => ⟨rfl, fun c => absurd c (nI_pos (by omega)), fun _ => ?_⟩)⟩
      have s1 := tT x1
      have v1 := (s1.2.2.2.2.2 k hk).2
      refine ⟨t + 2, s1.1.2.2.2.1, 20, s1.1.2.2.2.2.1, vp_in_nI (by omega) (by omega), fv k, by rw [nI_clamp (by omega)]; exact (s1.2.1 k (by omega)).2, ?_⟩
      refine p_putAll b1 v1 (by have := v1.2.2; simp; omega) (fun S2 x2 b2 => ⟨rfl, hQ S2 fn fv ((x1.tr x2).e1.mono (fun a h => Or.inr h) (fun a (h : False) => h.elim)) ?_ ?_⟩)
      · rw [esr, if_pos rfl]; exact tT (x1.tr x2)
      · rw [esr, if_pos rfl]
        have e : l ++ [b8 0] ++ sV1 st k = l ++ (0 :: sV1 st k) := by rw [List.append_assoc]; rfl
        rw [e] at b2; exact b2
    · have : o = 1 := (nI_eq (b := 1) (by omega) (by omega)).mp c1
      subst this
      refine v_Request_data r S _ ⟨hr.1, r + 3, hr.2.2.2.1, r + 3, rfl, p_replace hs hk hd hd.2.2 (by omega) (fun S1 x1 s1 => ?_)⟩
      have a1 : BT S1 d N l := ha.ex x1 (by simp only [bP]; omega) (by simp only [bP]; omega)
      exact ⟨0, rfl, a1.1.1, p_put a1 lt (fun S2 x2 b2 => ⟨rfl, fin0 (x := 0) (tk x1) x2 s1 b2 (by rw [esr, if_neg (by omega), if_pos rfl]; rfl)⟩)⟩
    · have : o = 2 := (nI_eq (b := 2) (by omega) (by omega)).mp c2
      subst this
      refine p_removeAt hs hk (fun S1 x1 s1 => ?_)
      have a1 : BT S1 d N l := ha.ex1 x1 (by omega) (by omega) (by omega)
      exact ⟨0, rfl, a1.1.1, p_put a1 lt (fun S2 x2 b2 => ⟨rfl, fin0 (x := 0) (x1.mono (fun a h => Or.inl (by simp only [tP]; omega)) (fun a h => h)) x2 s1 b2 (by rw [esr, if_neg (by omega), if_neg (by omega), if_pos rfl]; rfl)⟩)⟩
    · have : o = 3 := (nI_eq (b := 3) (by omega) (by omega)).mp c3
      subst this
      exact ⟨ha.1.1, p_put ha lt (fun S1 x1 b1 => ⟨rfl, fin0 (x := 2) (Ex1.rf S) x1 hs b1 (by rw [esr, if_neg (by omega), if_neg (by omega), if_neg (by omega), if_pos rfl]; rfl)⟩)⟩
    · have h0 : o ≠ 0 := fun e => n0 (by rw [e]; rfl)
      have h1 : o ≠ 1 := fun e => n1 (by rw [e]; rfl)
      have h2 : o ≠ 2 := fun e => n2 (by rw [e]; rfl)
      have h3 : o ≠ 3 := fun e => n3 (by rw [e]; rfl)
      refine v_Request_data r S _ ⟨hr.1, r + 3, hr.2.2.2.1, r + 3, rfl, p_lengthen hs hk hd hd.2.2 (fun hc S1 x1 s1 => ?_) (fun hc => ?_)⟩
      · have a1 : BT S1 d N l := ha.ex x1 (by simp only [bP]; omega) (by simp only [bP]; omega)
        exact ⟨0, rfl, a1.1.1, p_put a1 lt (fun S2 x2 b2 => ⟨rfl, fin0 (x := 0) (tk x1) x2 s1 b2 (by rw [esr, if_neg h0, if_neg h1, if_neg h2, if_neg h3, if_pos hc]; rfl)⟩)⟩
      · exact ⟨3, rfl, ha.1.1, p_put ha lt (fun S1 x1 b1 => ⟨rfl, fin0 (x := 3) (Ex1.rf S) x1 hs b1 (by rw [esr, if_neg h0, if_neg h1, if_neg h2, if_neg h3, if_neg hc]; rfl)⟩)⟩
end PSV
