/-! THE PURE LAYER: cells, answers, calls -/
section MEM
variable {G : pG} {J : pJ} {pc : Nat} {lv lv' : List (Nat × Value)} {st : List Value} {M : pS} {Q : Option Value → pS → Prop}
theorem e_iret {x : Int32} (hd : decode (jc J) pc = .ok (.ireturn, 1)) (hr : jr J = some .int) (hQ : Q (some (.int x)) M) : E G J pc lv [.int x] M Q := by
  refine ⟨_, M, ⟨Nat.le_refl _, Nat.le_refl _, ?_⟩, hQ⟩
  intro p e R s m args below meth c H locs ls cells slots X hI hS hL hc hs
  rw [Nat.sub_self, Nat.sub_self]
  exact W.iret (v := x) X.1 X.2.1 (X.2.2.1.trans hr) (fun t ht hW => ⟨rfl, by rw [ht]; exact hI.moved hW.alike, hS.F ht⟩) hS.2.2 hd X.2.2.2.2.2.2.1
theorem e_zret {x : Int32} {ty : FieldType} (hd : decode (jc J) pc = .ok (.ireturn, 1)) (hr : jr J = some ty) (hn : narrow ty (.int x) = .int x) (hQ : Q (some (.int x)) M) : E G J pc lv [.int x] M Q := by
  refine ⟨_, M, ⟨Nat.le_refl _, Nat.le_refl _, ?_⟩, hQ⟩
  intro p e R s m args below meth c H locs ls cells slots X hI hS hL hc hs
  rw [Nat.sub_self, Nat.sub_self]
  exact W.zret (v := x) X.1 X.2.1 (X.2.2.1.trans hr) hn (fun t ht hW => ⟨rfl, by rw [ht]; exact hI.moved hW.alike, hS.F ht⟩) hS.2.2 hd X.2.2.2.2.2.2.1
theorem e_lret {x : Int64} (hd : decode (jc J) pc = .ok (.lreturn, 1)) (hr : jr J = some .long) (hQ : Q (some (.long x)) M) : E G J pc lv [.long x] M Q := by
  refine ⟨_, M, ⟨Nat.le_refl _, Nat.le_refl _, ?_⟩, hQ⟩
  intro p e R s m args below meth c H locs ls cells slots X hI hS hL hc hs
  rw [Nat.sub_self, Nat.sub_self]
  exact W.lret (v := x) X.1 X.2.1 (X.2.2.1.trans hr) (fun t ht hW => ⟨rfl, by rw [ht]; exact hI.moved hW.alike, hS.F ht⟩) hS.2.2 hd X.2.2.2.2.2.2.1
theorem e_aret {a : Nat} {rt : FieldType} (hd : decode (jc J) pc = .ok (.areturn, 1)) (hr : jr J = some rt) (hrt : (∃ n, rt = .object n) ∨ ∃ t, rt = .array t) (hQ : Q (some (.ref a)) M) : E G J pc lv [.ref a] M Q := by
  refine ⟨_, M, ⟨Nat.le_refl _, Nat.le_refl _, ?_⟩, hQ⟩
  intro p e R s m args below meth c H locs ls cells slots X hI hS hL hc hs
  rw [Nat.sub_self, Nat.sub_self]
  exact W.aret (v := .ref a) X.1 X.2.1 (X.2.2.1.trans hr) hrt (Or.inr ⟨a, rfl⟩) (fun t ht hW => ⟨rfl, by rw [ht]; exact hI.moved hW.alike, hS.F ht⟩) hS.2.2 hd X.2.2.2.2.2.2.1
theorem e_vret (hd : decode (jc J) pc = .ok (.return_, 1)) (hr : jr J = none) (hQ : Q none M) : E G J pc lv [] M Q := by
  refine ⟨_, M, ⟨Nat.le_refl _, Nat.le_refl _, ?_⟩, hQ⟩
  intro p e R s m args below meth c H locs ls cells slots X hI hS hL hc hs
  rw [Nat.sub_self, Nat.sub_self]
  exact W.vret X.1 X.2.1 (X.2.2.1.trans hr) (fun t ht hW => ⟨rfl, by rw [ht]; exact hI.moved hW.alike, hS.F ht⟩) hS.2.2 hd X.2.2.2.2.2.2.1
/-- a step that writes cells that are there -/
theorem e_goM {M1 : pS} {pc' : Nat} {st' : List Value} (hM : M1.2 = M.2)
    (f : ∀ (p : Program) (e : Env) (R : Room) (s : State) (m : MethodId) (args : Array Value) (below : List Frame) (meth : Method) (c : Code) (H : Heap) (locs : List Loc) (ls : Array Slot) (cells slots : Nat) (QQ : State → Prop), Cx G J p R s m args meth c → pI G M s H → va_S (pA G) s.heap H locs → lv_has ls (jl J) lv → (∀ (H1 : Heap) (locs1 : List Loc), pI G M1 s H1 → va_S (pA G) s.heap H1 locs1 → W p G.1 e R s m args below meth c H1 locs1 cells slots QQ (F0 m pc' ls st')) → W p G.1 e R s m args below meth c H locs cells slots QQ (F0 m pc ls st))
    (k : E G J pc' lv st' M1 Q) : E G J pc lv st M Q := by
  obtain ⟨r, M', ⟨h1, h2, h3⟩, hQ⟩ := k
  rw [hM] at h1 h2 h3
  refine ⟨r, M', ⟨h1, h2, ?_⟩, hQ⟩
  intro p e R s m args below meth c H locs ls cells slots X hI hS hL hc hs
  exact f p e R s m args below meth c H locs ls cells slots _ X hI hS hL (fun H1 locs1 hI1 hS1 => h3 p e R s m args below meth c H1 locs1 ls cells slots X hI1 hS1 hL hc hs)
/-- a step that makes a cell of k slots -/
theorem e_goN {x : pE} {n : Nat} {pc' : Nat} {st' : List Value}
    (f : ∀ (p : Program) (e : Env) (R : Room) (s : State) (m : MethodId) (args : Array Value) (below : List Frame) (meth : Method) (c : Code) (H : Heap) (locs : List Loc) (ls : Array Slot) (cells slots : Nat) (QQ : State → Prop), Cx G J p R s m args meth c → pI G M s H → va_S (pA G) s.heap H locs → lv_has ls (jl J) lv → cells + 1 ≤ R.cells → slots + n ≤ R.slots → (∀ (H1 : Heap), H1.size = H.size + 1 → (∀ q : Nat, q < H.size → H1[q]? = H[q]?) → pAt G s H1 H.size x → W p G.1 e R s m args below meth c H1 locs (cells + 1) (slots + n) QQ (F0 m pc' ls st')) → W p G.1 e R s m args below meth c H locs cells slots QQ (F0 m pc ls st))
    (k : E G J pc' lv st' (mnew M x n) Q) : E G J pc lv st M Q := by
  obtain ⟨r, M', ⟨h1, h2, h3⟩, hQ⟩ := k
  have g1 : M.2.1 + 1 ≤ M'.2.1 := h1
  have g2 : M.2.2 + n ≤ M'.2.2 := h2
  refine ⟨r, M', ⟨by omega, by omega, ?_⟩, hQ⟩
  intro p e R s m args below meth c H locs ls cells slots X hI hS hL hc hs
  refine f p e R s m args below meth c H locs ls cells slots _ X hI hS hL (by omega) (by omega) (fun H1 hz ho hx => ?_)
  have h4 := h3 p e R s m args below meth c H1 locs ls (cells + 1) (slots + n) X (hI.new hz ho hx) ⟨by rw [hz]; exact Nat.le_succ_of_le hS.1, fun q q1 q2 => (ho q (Nat.lt_of_lt_of_le q1 hS.1)).trans (hS.2.1 q q1 q2), hS.2.2⟩ hL (by show cells + 1 + (M'.2.1 - (M.2.1 + 1)) ≤ _; omega) (by show slots + n + (M'.2.2 - (M.2.2 + n)) ≤ _; omega)
  have e1 : cells + 1 + (M'.2.1 - (mnew M x n).2.1) = cells + (M'.2.1 - M.2.1) := by show cells + 1 + (M'.2.1 - (M.2.1 + 1)) = _; omega
  have e2 : slots + n + (M'.2.2 - (mnew M x n).2.2) = slots + (M'.2.2 - M.2.2) := by show slots + n + (M'.2.2 - (M.2.2 + n)) = _; omega
  rw [e1, e2] at h4
  exact h4
/-! fields -/
def KC (ci : Nat) (C : String) (T : u_T) (N : Nat) (ty : Nat → FieldType) : Prop := vwCl[ci]? = some (C, T, N) ∧ (∀ w ∈ u_ws C T N, w ∈ wG) ∧ (∀ k, k < N → parseFieldDescriptor (T k).2.2.1 = some (ty k)) ∧ (∀ a, a < N → ∀ b, b < N → a ≠ b → (T a).2.1 ≠ (T b).2.1)
theorem pAt.obj {G : pG} {U : State} {H : Heap} {a ci : Nat} {fs : Nat → Value} {C : String} {T : u_T} {N : Nat} (h : pAt G U H a (.inr (ci, fs))) (hc : vwCl[ci]? = some (C, T, N)) : gb G ≤ a ∧ t_OB a (G.2.1.1 ci) N (G.2.1.2 ci) H fs := by
  obtain ⟨hb, r, h1, h3⟩ := h
  have hr : r = (C, T, N) := Option.some.inj (h1.symm.trans hc)
  subst hr
  exact ⟨hb, h3⟩
theorem e_getf {idx ci k a N : Nat} {C : String} {T : u_T} {ty : Nat → FieldType} {fs : Nat → Value} (hd : decode (jc J) pc = .ok (.getfield idx, 3)) (hc : KC ci C T N ty) (hk : k < N) (hlk : Cond.fieldLink (jy J).cls idx (T k).1 (T k).2.1 (T k).2.2.1 ∈ wG) (hm : M.1 a = some (.inr (ci, fs))) (kk : E G J (pc + 3) lv (fs k :: st) M Q) : E G J pc lv (.ref a :: st) M Q := by
  refine e_go (fun p e R s m args below meth c H locs ls cells slots QQ X hI hS hL kk => ?_) kk
  obtain ⟨hb, cell, q1, q2, q3, q4⟩ := (hI.2 a _ hm).obj hc.1
  have hts := X.2.2.2.2.1
  obtain ⟨hSl, hfc, kC, hkC, hkind⟩ := X.2.2.2.2.2.2.2.2.1.1.1 ci _ hc.1
  obtain ⟨cf, kf, fi, f, hi, hsl⟩ := hSl k hk
  refine W.getf X.1 X.2.1 X.2.2.2.2.2.1 (hts _ hlk) hi (u_facts hfc hkC (u_lays hts hc.2.1 hk) hi).1 q1 (by rw [q3]; exact fun h => by cases h) (v := fs k) ?_ rfl rfl hd (kk ls hL)
  rw [hsl, q4 k hk]
theorem pS_put {G : pG} {s : State} {H H1 : Heap} {locs : List Loc} {a k : Nat} (hS : va_S (pA G) s.heap H locs) (hb : gb G ≤ a) (z : H1.size = H.size) (oq : ∀ q : Nat, q ≠ a → H1[q]? = H[q]?) : va_S (pA G) s.heap H1 (locs ++ [⟨a, k⟩]) := hS.put z oq hb
theorem e_putf {idx ci k a N : Nat} {C : String} {T : u_T} {ty : Nat → FieldType} {fs : Nat → Value} {v : Value} (hd : decode (jc J) pc = .ok (.putfield idx, 3)) (hc : KC ci C T N ty) (hk : k < N) (hlk : Cond.fieldLink (jy J).cls idx (T k).1 (T k).2.1 (T k).2.2.1 ∈ wG) (hfin : (T k).2.2.2 = false) (hn : narrow (ty k) v = v) (hfit : fits (ty k) v = true) (hm : M.1 a = some (.inr (ci, fs))) (kk : E G J (pc + 3) lv st (mset M a (.inr (ci, updV fs k v))) Q) : E G J pc lv (v :: .ref a :: st) M Q := by
  refine e_goM (M1 := mset M a (.inr (ci, updV fs k v))) rfl (fun p e R s m args below meth c H locs ls cells slots QQ X hI hS hL kk => ?_) kk
  obtain ⟨hb, cell, q1, q2, q3, q4⟩ := (hI.2 a _ hm).obj hc.1
  have hts := X.2.2.2.2.1
  have hK := X.2.2.2.2.2.2.2.2.1.1
  have hown := X.2.2.2.2.2.1
  have hap := va_apart (own := (jy J).cls) hts hc.2.1 ty hc.2.2.1 hc.2.2.2 hK hc.1
  obtain ⟨hSl, hfc, kC, hkC, hkind⟩ := hK.1 ci _ hc.1
  obtain ⟨cf, kf, fi, f, hi, hsl⟩ := hSl k hk
  have hlay := hts _ (hc.2.1 _ (u_in_lay hk))
  unfold u_lay at hlay
  rw [if_neg (by rw [hfin]; decide)] at hlay
  have hst := (u_facts hfc hkC (u_lays hts hc.2.1 hk) hi).1
  have h6 := u_store hfc hkC hkind hlay hi (hc.2.2.1 k hk) hn hfit
  refine W.putK X.1 X.2.1 (f := f) ⟨hown, hts _ hlk, ⟨_, _, _, hi⟩, hst⟩ (by rw [q2]; exact h6) q1 q3 (by rw [hsl]; exact k2_hasslot (q4 k hk)) rfl rfl hd fun H' e1 e2 e3 => ?_
  rw [hsl] at e1 ⊢
  refine kk H' _ (hI.set e2 e3 ?_) (pS_put hS hb e2 e3)
  exact ⟨hb, _, hc.1, _, e1, q2, q3, t_set q4 hap hk v⟩
theorem e_putF {idx ci k a N : Nat} {C : String} {T : u_T} {ty : Nat → FieldType} {fs : Nat → Value} {v : Value} (hd : decode (jc J) pc = .ok (.putfield idx, 3)) (hc : KC ci C T N ty) (hk : k < N) (hlk : Cond.fieldLink (jy J).cls idx (T k).1 (T k).2.1 (T k).2.2.1 ∈ wG) (hfin : (T k).2.2.2 = true) (hin : (jy J).name = "<init>") (hdecl : (T k).1 = (jy J).cls) (hn : narrow (ty k) v = v) (hfit : fits (ty k) v = true) (hm : M.1 a = some (.inr (ci, fs))) (kk : E G J (pc + 3) lv st (mset M a (.inr (ci, updV fs k v))) Q) : E G J pc lv (v :: .ref a :: st) M Q := by
  refine e_goM (M1 := mset M a (.inr (ci, updV fs k v))) rfl (fun p e R s m args below meth c H locs ls cells slots QQ X hI hS hL kk => ?_) kk
  obtain ⟨hb, cell, q1, q2, q3, q4⟩ := (hI.2 a _ hm).obj hc.1
  have hts := X.2.2.2.2.1
  have hK := X.2.2.2.2.2.2.2.2.1.1
  have hown := X.2.2.2.2.2.1
  have hap := va_apart (own := (jy J).cls) hts hc.2.1 ty hc.2.2.1 hc.2.2.2 hK hc.1
  obtain ⟨hSl, hfc, kC, hkC, hkind⟩ := hK.1 ci _ hc.1
  obtain ⟨cf, kf, fi, f, hi, hsl⟩ := hSl k hk
  have hlay := hts _ (hc.2.1 _ (u_in_lay hk))
  unfold u_lay at hlay
  rw [if_pos hfin] at hlay
  have hst := (u_facts hfc hkC (u_lays hts hc.2.1 hk) hi).1
  have hcf : m.cls = cf := by
    obtain ⟨_, _, c', _, _, _, -, -, hf', -, -, -, hown2, -⟩ := Cond.laysFinal_spec hlay
    have e1 : c' = cf := by have := hi.symm.trans hf'; simp at this; exact this.1.symm
    rw [hdecl] at hown2
    rw [← e1]; exact Option.some.inj (hown.symm.trans hown2)
  have h6 := u_fits hfc hkC hkind (Or.inr hlay) hi (hc.2.2.1 k hk) hn hfit
  refine W.putFinK X.1 X.2.1 hown (hts _ hlk) hi hst hcf (X.2.2.2.2.2.2.2.1.trans hin) (by rw [q2]; exact h6) q1 q3 (by rw [hsl]; exact k2_hasslot (q4 k hk)) rfl rfl hd fun H' e1 e2 e3 => ?_
  rw [hsl] at e1 ⊢
  refine kk H' _ (hI.set e2 e3 ?_) (pS_put hS hb e2 e3)
  exact ⟨hb, _, hc.1, _, e1, q2, q3, t_set q4 hap hk v⟩
theorem e_gets {idx : Nat} {z : String × String × String × Value} (hd : decode (jc J) pc = .ok (.getstatic idx, 3)) (hz : z ∈ gs G) (hlk : Cond.fieldLink (jy J).cls idx z.1 z.2.1 z.2.2.1 ∈ wG) (kk : E G J (pc + 3) lv (z.2.2.2 :: st) M Q) : E G J pc lv st M Q := by
  refine e_go (fun p e R s m args below meth c H locs ls cells slots QQ X hI hS hL kk => ?_) kk
  exact va_gets X.1 X.2.1 (X.2.2.2.2.2.2.2.2.1.2.2.1 z hz) hS X.2.2.2.2.2.1 (X.2.2.2.2.1 _ hlk) (fun _ h => h) hd (kk ls hL)
/-! rows -/
theorem pAt.arr {G : pG} {U : State} {H : Heap} {a n : Nat} {ty : FieldType} {f : Nat → Value} (h : pAt G U H a (.inl (ty, n, f))) : ∃ cell : Cell, H[a]? = some cell ∧ U.isArrayOf cell ty ∧ cell.vm ≠ .unknown ∧ n ≤ cell.slots.size ∧ cell.slots.size.toInt32 = Int32.ofNat n ∧ ∀ j : Nat, j < n → cell.slots[j]? = some (f j) := by
  rcases h with ⟨hb, cA, h1, h2, h3⟩ | ⟨cell, h1, h2, h3, h4, h5, h6, -⟩
  · exact ⟨_, h1, h2 n f, (fun q => by cases q), Nat.le_of_eq (arrV_size _ _ _).symm, (by rw [arrV_size]), fun j hj => arrV_read _ _ hj⟩
  · exact ⟨cell, h1, h2, h3, h4, h5, h6⟩
theorem pAt.own {G : pG} {U : State} {H : Heap} {a n : Nat} {ty : FieldType} {f : Nat → Value} (h : pAt G U H a (.inl (ty, n, f))) (hb : gb G ≤ a) : ∃ cA : ClassId, H[a]? = some (arrV cA n f) ∧ ArrOfT U cA ty ∧ va_RA U cA ty := by
  rcases h with ⟨-, h⟩ | ⟨cell, h1, h2, h3, h4, h5, h6, h7⟩
  · exact h
  · exact absurd hb h7
theorem vp_in.lt {i : Int32} {n : Nat} (h : vp_in i n) : i.toNatClampNeg < n := Nat.not_le.mp fun q => h (Or.inr q)
theorem vp_in.more {i : Int32} {n k : Nat} (h : vp_in i n) (hk : n ≤ k) : ¬ (i < 0 ∨ k ≤ i.toNatClampNeg) := fun q => q.elim (fun z => h (Or.inl z)) (fun z => h (Or.inr (Nat.le_trans hk z)))
theorem e_iald {a n : Nat} {f : Nat → Value} {i : Int32} (hd : decode (jc J) pc = .ok (.iaload, 1)) (hm : M.1 a = some (.inl (.int, n, f))) (hin : vp_in i n) (kk : E G J (pc + 1) lv (f i.toNatClampNeg :: st) M Q) : E G J pc lv (.int i :: .ref a :: st) M Q := by
  refine e_go (fun p e R s m args below meth c H locs ls cells slots QQ X hI hS hL kk => ?_) kk
  obtain ⟨cell, h1, h2, h3, h4, -, h6⟩ := (hI.2 a _ hm).arr
  exact W.iald (v := f i.toNatClampNeg) X.1 X.2.1 h1 h2 h3 (hin.more h4) (h6 _ hin.lt) rfl rfl hd (kk ls hL)
theorem e_lald {a n : Nat} {f : Nat → Value} {i : Int32} (hd : decode (jc J) pc = .ok (.laload, 1)) (hm : M.1 a = some (.inl (.long, n, f))) (hin : vp_in i n) (kk : E G J (pc + 1) lv (f i.toNatClampNeg :: st) M Q) : E G J pc lv (.int i :: .ref a :: st) M Q := by
  refine e_go (fun p e R s m args below meth c H locs ls cells slots QQ X hI hS hL kk => ?_) kk
  obtain ⟨cell, h1, h2, h3, h4, -, h6⟩ := (hI.2 a _ hm).arr
  exact W.lald (v := f i.toNatClampNeg) X.1 X.2.1 h1 h2 h3 (hin.more h4) (h6 _ hin.lt) rfl rfl hd (kk ls hL)
theorem e_bald {a n : Nat} {f : Nat → Value} {i : Int32} (hd : decode (jc J) pc = .ok (.baload, 1)) (hm : M.1 a = some (.inl (.byte, n, f))) (hin : vp_in i n) (kk : E G J (pc + 1) lv (f i.toNatClampNeg :: st) M Q) : E G J pc lv (.int i :: .ref a :: st) M Q := by
  refine e_go (fun p e R s m args below meth c H locs ls cells slots QQ X hI hS hL kk => ?_) kk
  obtain ⟨cell, h1, h2, h3, h4, -, h6⟩ := (hI.2 a _ hm).arr
  exact W.bald (v := f i.toNatClampNeg) X.1 X.2.1 h1 h2 h3 (hin.more h4) (h6 _ hin.lt) rfl rfl hd (kk ls hL)
theorem e_aald {a n : Nat} {ty : FieldType} {f : Nat → Value} {i : Int32} (hd : decode (jc J) pc = .ok (.aaload, 1)) (hty : ty.isReference = true) (hm : M.1 a = some (.inl (ty, n, f))) (hin : vp_in i n) (kk : E G J (pc + 1) lv (f i.toNatClampNeg :: st) M Q) : E G J pc lv (.int i :: .ref a :: st) M Q := by
  refine e_go (fun p e R s m args below meth c H locs ls cells slots QQ X hI hS hL kk => ?_) kk
  obtain ⟨cell, h1, h2, h3, h4, -, h6⟩ := (hI.2 a _ hm).arr
  exact W.aald (v := f i.toNatClampNeg) (ty := ty) X.1 X.2.1 h1 h2 hty h3 (hin.more h4) (h6 _ hin.lt) rfl rfl hd (kk ls hL)
theorem e_alen {a n : Nat} {ty : FieldType} {f : Nat → Value} (hd : decode (jc J) pc = .ok (.arraylength, 1)) (hm : M.1 a = some (.inl (ty, n, f))) (kk : E G J (pc + 1) lv (.int (nI n) :: st) M Q) : E G J pc lv (.ref a :: st) M Q := by
  refine e_go (fun p e R s m args below meth c H locs ls cells slots QQ X hI hS hL kk => ?_) kk
  obtain ⟨cell, h1, h2, h3, h4, h5, h6⟩ := (hI.2 a _ hm).arr
  exact W.alen (n := nI n) X.1 X.2.1 h1 h2 h5 rfl rfl hd (kk ls hL)
theorem e_iast {a n : Nat} {f : Nat → Value} {i x : Int32} (hd : decode (jc J) pc = .ok (.iastore, 1)) (hb : gb G ≤ a) (hm : M.1 a = some (.inl (.int, n, f))) (hin : vp_in i n) (kk : E G J (pc + 1) lv st (mset M a (.inl (.int, n, updV f i.toNatClampNeg (.int x)))) Q) : E G J pc lv (.int x :: .int i :: .ref a :: st) M Q := by
  refine e_goM (M1 := mset M a (.inl (.int, n, updV f i.toNatClampNeg (.int x)))) rfl (fun p e R s m args below meth c H locs ls cells slots QQ X hI hS hL kk => ?_) kk
  obtain ⟨cA, h1, h2, h3⟩ := (hI.2 a _ hm).own hb
  refine W.iast X.1 X.2.1 h1 (h2 n f) (fun q => by cases q) (by rw [arrV_size]; exact hin) rfl rfl hd fun H' e1 e2 e3 => ?_
  rw [arrV_store] at e1
  exact kk H' _ (hI.set e2 e3 (Or.inl ⟨hb, cA, e1, h2, h3⟩)) (pS_put hS hb e2 e3)
theorem e_last {a n : Nat} {f : Nat → Value} {i : Int32} {x : Int64} (hd : decode (jc J) pc = .ok (.lastore, 1)) (hb : gb G ≤ a) (hm : M.1 a = some (.inl (.long, n, f))) (hin : vp_in i n) (kk : E G J (pc + 1) lv st (mset M a (.inl (.long, n, updV f i.toNatClampNeg (.long x)))) Q) : E G J pc lv (.long x :: .int i :: .ref a :: st) M Q := by
  refine e_goM (M1 := mset M a (.inl (.long, n, updV f i.toNatClampNeg (.long x)))) rfl (fun p e R s m args below meth c H locs ls cells slots QQ X hI hS hL kk => ?_) kk
  obtain ⟨cA, h1, h2, h3⟩ := (hI.2 a _ hm).own hb
  refine W.last X.1 X.2.1 h1 (h2 n f) (fun q => by cases q) (by rw [arrV_size]; exact hin) rfl rfl hd fun H' e1 e2 e3 => ?_
  rw [arrV_store] at e1
  exact kk H' _ (hI.set e2 e3 (Or.inl ⟨hb, cA, e1, h2, h3⟩)) (pS_put hS hb e2 e3)
theorem e_aast {a n v ci : Nat} {r : vw_C} {vs : Nat → Value} {f : Nat → Value} {i : Int32} (hd : decode (jc J) pc = .ok (.aastore, 1)) (hb : gb G ≤ a) (hm : M.1 a = some (.inl (.object r.1, n, f))) (hv : M.1 v = some (.inr (ci, vs))) (hc : vwCl[ci]? = some r) (hin : vp_in i n) (kk : E G J (pc + 1) lv st (mset M a (.inl (.object r.1, n, updV f i.toNatClampNeg (.ref v)))) Q) : E G J pc lv (.ref v :: .int i :: .ref a :: st) M Q := by
  refine e_goM (M1 := mset M a (.inl (.object r.1, n, updV f i.toNatClampNeg (.ref v)))) rfl (fun p e R s m args below meth c H locs ls cells slots QQ X hI hS hL kk => ?_) kk
  obtain ⟨cA, h1, h2, h3⟩ := (hI.2 a _ hm).own hb
  obtain ⟨hbv, r', hr', cellV, g1, g2, g3, -⟩ := hI.2 v _ hv
  have hcls := (X.2.2.2.2.2.2.2.2.1.1.1 ci r hc).2
  obtain ⟨kA, comp, k1, k2, k3, k4⟩ := h3
  have hcomp : comp = G.2.1.1 ci := Option.some.inj (k3.symm.trans hcls.1)
  subst hcomp
  obtain ⟨kC, hkC, -⟩ := hcls.2
  refine W.aast X.1 X.2.1 h1 (fun q h => by cases h) (fun h => by cases h) k1 k2 rfl hkC ⟨fun q => hin (Or.inl q), by rw [arrV_size]; exact hin.lt⟩ g1 (fun q h => by rw [g3] at h; cases h) (by rw [g2]; exact hkC) (by rw [g2]; exact va_assign hcls) rfl rfl hd fun H' e1 e2 e3 => ?_
  rw [arrV_store] at e1
  exact kk H' _ (hI.set e2 e3 (Or.inl ⟨hb, cA, e1, h2, kA, _, k1, k2, k3, k4⟩)) (pS_put hS hb e2 e3)
theorem e_newarr {at0 : ArrayType} {n : Int32} {N : Nat} (hd : decode (jc J) pc = .ok (.newarray at0, 2)) (harr : Cond.arrayClass (newarray.typeOf at0) ∈ wG) (hn : ¬ n < 0) (hN : n.toNatClampNeg = N) (hbytes : N * componentBytes (newarray.typeOf at0) ≤ 536870912)
    (k : E G J (pc + 2) lv (.ref M.2.1 :: st) (mnew M (.inl (newarray.typeOf at0, N, fun _ => defaultValue (newarray.typeOf at0))) N) Q) : E G J pc lv (.int n :: st) M Q := by
  refine e_goN (fun p e R s m args below meth c H locs ls cells slots QQ X hI hS hL hc hs kk => ?_) k
  refine va_newaK X.1 X.2.1 (X.2.2.2.2.1 _ harr) rfl hd rfl hn hN hbytes hc hs hI.1 fun H1 cA e1 z1 o1 hAr hNm => ?_
  rw [← hI.1] at e1 z1 o1
  exact kk H1 z1 o1 (Or.inl ⟨Nat.le_trans X.2.2.2.2.2.2.2.2.1.2.1 hS.1, cA, e1, hAr, by cases at0 <;> exact hNm⟩)
theorem e_anew {idx : Nat} {C : String} {n : Int32} {N : Nat} (hd : decode (jc J) pc = .ok (.anewarray idx, 3)) (hlk : Cond.classLink (jy J).cls idx C ∈ wG) (hov : C ∈ pOver) (hn : ¬ n < 0) (hN : n.toNatClampNeg = N) (hbytes : N * 4 ≤ 536870912)
    (k : E G J (pc + 3) lv (.ref M.2.1 :: st) (mnew M (.inl (.object C, N, fun _ => .null)) N) Q) : E G J pc lv (.int n :: st) M Q := by
  subst hN
  refine e_goN (fun p e R s m args below meth c H locs ls cells slots QQ X hI hS hL hc hs kk => ?_) k
  refine W.anew X.1 X.2.1 X.2.2.2.2.2.1 (X.2.2.2.2.1 _ hlk) (va_AO.use (X.2.2.2.2.2.2.2.2.1.2.2.2.2 C hov)) rfl hd rfl hn hbytes hc hs fun cA kA comp f1 f2 f3 f4 => ?_
  generalize hH1 : H.push ({ cls := cA, slots := Array.replicate n.toNatClampNeg .null, vm := .none } : Cell) = H1
  have z1 : H1.size = H.size + 1 := by rw [← hH1, Array.size_push]
  have e1 : H1[H.size]? = some (arrV cA n.toNatClampNeg (fun _ => .null)) := by rw [← hH1, Array.getElem?_push_size, ← arrV_new]
  have o1 : ∀ q : Nat, q < H.size → H1[q]? = H[q]? := fun q hq => by rw [← hH1, Array.getElem?_push, if_neg (Nat.ne_of_lt hq)]
  have k2 := kk H1 z1 o1 (Or.inl ⟨Nat.le_trans X.2.2.2.2.2.2.2.2.1.2.1 hS.1, cA, e1, fun N z => ⟨(fun k h => by cases h), kA, f2, comp, f3⟩, kA, comp, f2, f3, f4, f1⟩)
  rw [← hI.1] at k2
  exact k2
theorem e_new {idx ci N : Nat} {C : String} {T : u_T} {ty : Nat → FieldType} {fs : Nat → Value} (hd : decode (jc J) pc = .ok (.new idx, 3)) (hc : KC ci C T N ty) (hlk : Cond.classLink (jy J).cls idx C ∈ wG) (hin : Cond.instantiable C N ∈ wG) (hini : Cond.initialized C ∈ wG) (hfs : ∀ j, j < N → defaultValue (ty j) = fs j)
    (k : E G J (pc + 3) lv (.ref M.2.1 :: st) (mnew M (.inr (ci, fs)) N) Q) : E G J pc lv st M Q := by
  refine e_goN (fun p e R s m args below meth c H locs ls cells slots QQ X hI hS hL hcc hs kk => ?_) k
  have hKn := X.2.2.2.2.2.2.2.2.1.1.1 ci _ hc.1
  refine W.newcK X.1 X.2.1 X.2.2.2.2.2.1 (X.2.2.2.2.1 _ hlk) (X.2.2.2.2.1 _ hin) (X.2.2.2.2.1 _ hini) rfl hd hcc hs hKn.2.1 hI.1 fun H1 kC hkC e1 z1 o1 => ?_
  rw [← hI.1] at e1 z1 o1
  exact kk H1 z1 o1 ⟨Nat.le_trans X.2.2.2.2.2.2.2.2.1.2.1 hS.1, _, hc.1, (u_born ty X.2.2.2.2.1 hc.2.1 hKn hkC e1 hc.2.2.1).to hfs⟩
end MEM
