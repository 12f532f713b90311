/-! THE PURE LAYER: memory is a function; one judgement speaks of a frame, one of a call -/
abbrev pE : Type := (FieldType × Nat × (Nat → Value)) ⊕ (Nat × (Nat → Value))
abbrev pS : Type := (Nat → Option pE) × Nat × Nat
abbrev pG : Type := Launch × va_G × Nat × List (String × String × String × Value) × List (Nat × Nat × (Nat → Int32))
abbrev jy (J : pJ) : MethodName := J.1
abbrev jc (J : pJ) : ByteArray := J.2.1
abbrev jl (J : pJ) : Nat := J.2.2.1
abbrev jr (J : pJ) : Option FieldType := J.2.2.2.1
abbrev jf (J : pJ) : Nat := J.2.2.2.2.1
abbrev jn (J : pJ) : Nat := J.2.2.2.2.2
abbrev gb (G : pG) : Nat := G.2.2.1
abbrev gs (G : pG) : List (String × String × String × Value) := G.2.2.2.1
abbrev gr (G : pG) : List (Nat × Nat × (Nat → Int32)) := G.2.2.2.2
def pA (G : pG) : Nat → Prop := fun q => gb G ≤ q
/-- what a cell of the picture says of the heap -/
def pAt (G : pG) (U : State) (H : Heap) (q : Nat) (x : pE) : Prop := match x with
  | .inl (ty, n, f) => (gb G ≤ q ∧ ∃ cA : ClassId, H[q]? = some (arrV cA n f) ∧ ArrOfT U cA ty ∧ va_RA U cA ty) ∨ va_T ty q n f (pA G) U H
  | .inr (ci, fs) => gb G ≤ q ∧ ∃ r : vw_C, vwCl[ci]? = some r ∧ t_OB q (G.2.1.1 ci) r.2.2 (G.2.1.2 ci) H fs
def pI (G : pG) (M : pS) (U : State) (H : Heap) : Prop := H.size = M.2.1 ∧ ∀ (q : Nat) (x : pE), M.1 q = some x → pAt G U H q x
def pK (G : pG) (U : State) : Prop := va_K G.2.1 vwCl [] U ∧ gb G ≤ U.heap.size ∧ (∀ z ∈ gs G, va_Z z.1 z.2.1 z.2.2.1 z.2.2.2 (pA G) U U.heap) ∧ (∀ z ∈ pNest, va_Nw (.methodLinkNest z.1 z.2.1 z.2.2.1 z.2.2.2) U) ∧ ∀ C ∈ pOver, va_AO C U
def pQ (G : pG) (M' : pS) (r : Option Value) : Array Value → State → Outcome → State → Prop := fun _ st o t => o = .returned r ∧ pI G M' t t.heap ∧ va_F (pA G) st t
def pW (J : pJ) : List Cond := Cond.code (jy J) (jc J) (jl J) (jr J) :: wG
def pR (J : pJ) (mc ms : Nat) : Room := { frames := jf J, cells := mc, slots := ms, locals := jn J }
def Cv (G : pG) (J : pJ) (av : List Value) (M : pS) (r : Option Value) (M' : pS) : Prop :=
  M.2.1 ≤ M'.2.1 ∧ M.2.2 ≤ M'.2.2 ∧ Met G.1 (jy J) (pW J) (pR J (M'.2.1 - M.2.1) (M'.2.2 - M.2.2)) (va_Pc av (fun U => pK G U ∧ pI G M U U.heap)) (pQ G M' r) (M'.2.1 - M.2.1) (M'.2.2 - M.2.2) (pA G)
def Cx (G : pG) (J : pJ) (p : Program) (R : Room) (s : State) (m : MethodId) (args : Array Value) (meth : Method) (c : Code) : Prop :=
  p.tables.exec = Jvm.exec ∧ c.code = jc J ∧ meth.sig.returnType = jr J ∧ c.maxLocals = jl J ∧ (∀ w ∈ wG, w.before args s = true) ∧ s.vm.findClass (jy J).cls = some m.cls ∧ meth.locks = false ∧ meth.name = (jy J).name ∧ pK G s ∧ jf J ≤ R.frames ∧ jn J ≤ R.locals
def Ev (G : pG) (J : pJ) (pc : Nat) (lv : List (Nat × Value)) (st : List Value) (M : pS) (r : Option Value) (M' : pS) : Prop :=
  M.2.1 ≤ M'.2.1 ∧ M.2.2 ≤ M'.2.2 ∧ ∀ (p : Program) (e : Env) (R : Room) (s : State) (m : MethodId) (args : Array Value) (below : List Frame) (meth : Method) (c : Code) (H : Heap) (locs : List Loc) (ls : Array Slot) (cells slots : Nat),
    Cx G J p R s m args meth c → pI G M s H → va_S (pA G) s.heap H locs → lv_has ls (jl J) lv → cells + (M'.2.1 - M.2.1) ≤ R.cells → slots + (M'.2.2 - M.2.2) ≤ R.slots →
    W p G.1 e R s m args below meth c H locs cells slots (MQ below (pQ G M' r) args s (cells + (M'.2.1 - M.2.1)) (slots + (M'.2.2 - M.2.2)) (pA G)) (F0 m pc ls st)
def E (G : pG) (J : pJ) (pc : Nat) (lv : List (Nat × Value)) (st : List Value) (M : pS) (Q : Option Value → pS → Prop) : Prop := ∃ (r : Option Value) (M' : pS), Ev G J pc lv st M r M' ∧ Q r M'
def C (G : pG) (J : pJ) (av : List Value) (M : pS) (Q : Option Value → pS → Prop) : Prop := ∃ (r : Option Value) (M' : pS), Cv G J av M r M' ∧ Q r M'
theorem pAt.kept {G : pG} {U : State} {H H1 : Heap} {q : Nat} {x : pE} (h : pAt G U H q x) (hq : H1[q]? = H[q]?) : pAt G U H1 q x := by
  rcases x with ⟨ty, n, f⟩ | ⟨ci, fs⟩
  · rcases h with ⟨hb, cA, h1, h2⟩ | ⟨cell, h1, h2⟩
    · exact Or.inl ⟨hb, cA, hq.trans h1, h2⟩
    · exact Or.inr ⟨cell, hq.trans h1, h2⟩
  · obtain ⟨hb, r, h1, h3⟩ := h
    exact ⟨hb, r, h1, h3.kept hq⟩
theorem pAt.lt {G : pG} {U : State} {H : Heap} {q : Nat} {x : pE} (h : pAt G U H q x) : q < H.size := by
  rcases x with ⟨ty, n, f⟩ | ⟨ci, fs⟩
  · rcases h with ⟨hb, cA, h1, h2⟩ | ⟨cell, h1, h2⟩
    · exact (Array.getElem?_eq_some_iff.mp h1).1
    · exact (Array.getElem?_eq_some_iff.mp h1).1
  · obtain ⟨hb, r, h1, cell, h3, h4⟩ := h
    exact (Array.getElem?_eq_some_iff.mp h3).1
theorem pAt.moved {G : pG} {u U : State} {H : Heap} {q : Nat} {x : pE} (hvm : u.vm.Alike U.vm) (h : pAt G u H q x) : pAt G U H q x := by
  rcases x with ⟨ty, n, f⟩ | ⟨ci, fs⟩
  · rcases h with ⟨hb, cA, h1, h2, h3⟩ | ⟨cell, h1, h2, h3⟩
    · exact Or.inl ⟨hb, cA, h1, arrOfT_moved hvm h2, h3.moved hvm⟩
    · exact Or.inr ⟨cell, h1, State.isArrayOf_alike hvm h2, h3⟩
  · exact h
theorem pI.moved {G : pG} {M : pS} {u U : State} {H : Heap} (hvm : u.vm.Alike U.vm) (h : pI G M u H) : pI G M U H := ⟨h.1, fun q x hx => (h.2 q x hx).moved hvm⟩
/-- a cell written -/
def mset (M : pS) (a : Nat) (x : pE) : pS := (fun q => if q = a then some x else M.1 q, M.2)
/-- a cell made -/
def mnew (M : pS) (x : pE) (k : Nat) : pS := (fun q => if q = M.2.1 then some x else M.1 q, M.2.1 + 1, M.2.2 + k)
theorem pI.set {G : pG} {M : pS} {U : State} {H H1 : Heap} {a : Nat} {x : pE} (h : pI G M U H) (hz : H1.size = H.size) (oq : ∀ q : Nat, q ≠ a → H1[q]? = H[q]?) (hx : pAt G U H1 a x) : pI G (mset M a x) U H1 := by
  refine ⟨hz.trans h.1, fun q y hy => ?_⟩
  by_cases hq : q = a
  · subst hq
    have : some x = some y := by simpa [mset] using hy
    cases this
    exact hx
  · have h2 : M.1 q = some y := by simpa [mset, hq] using hy
    exact (h.2 q y h2).kept (oq q hq)
theorem pI.new {G : pG} {M : pS} {U : State} {H H1 : Heap} {x : pE} {k : Nat} (h : pI G M U H) (hz : H1.size = H.size + 1) (oq : ∀ q : Nat, q < H.size → H1[q]? = H[q]?) (hx : pAt G U H1 H.size x) : pI G (mnew M x k) U H1 := by
  refine ⟨by rw [hz, h.1]; rfl, fun q y hy => ?_⟩
  by_cases hq : q = M.2.1
  · subst hq
    have : some x = some y := by simpa [mnew] using hy
    cases this
    rw [← h.1]
    exact hx
  · have h2 : M.1 q = some y := by simpa [mnew, hq] using hy
    have h3 := h.2 q y h2
    exact h3.kept (oq q h3.lt)
theorem pK.blind {G : pG} {U : State} {g : JFrame} {mk : MethodId} {a : Array Value} (h : pK G U) : pK G (U.calling g mk a) := by
  refine ⟨va_K.moved (u := U) (U := U.calling g mk a) (Vm.Alike.refl U.vm) h.1, h.2.1, fun z hz => ?_, fun z hz => ?_, fun C hC => ?_⟩
  · exact (h.2.2.1 z hz).moved (u := U) (U := U.calling g mk a) (Vm.Alike.refl U.vm)
  · exact va_tabs rfl (rfl : U.vm = (U.calling g mk a).vm) (h.2.2.2.1 z hz)
  · exact (h.2.2.2.2 C hC).moved (u := U) (U := U.calling g mk a) (Vm.Alike.refl U.vm)
theorem pK.at {G : pG} {s U : State} {H : Heap} {locs : List Loc} (hW : s.WarmedH U.vm) (hS : va_S (pA G) s.heap H locs) (hU : U.heap = H) (h : pK G s) : pK G U := by
  refine ⟨va_K.moved hW.alike h.1, by rw [hU]; exact Nat.le_trans h.2.1 hS.1, fun z hz => ?_, fun z hz => (h.2.2.2.1 z hz).warmM hW, fun C hC => (h.2.2.2.2 C hC).moved hW.alike⟩
  have h3 := ((h.2.2.1 z hz).moved hW.alike).kept (H1 := H) (fun a h1 h2 => hS.2.1 a h1 h2)
  rw [hU]
  exact h3
/-- a step that touches no cell -/
theorem e_go {G : pG} {J : pJ} {pc pc' : Nat} {lv lv' : List (Nat × Value)} {st st' : List Value} {M : pS} {Q : Option Value → pS → Prop}
    (f : ∀ (p : Program) (e : Env) (R : Room) (s : State) (m : MethodId) (args : Array Value) (below : List Frame) (meth : Method) (c : Code) (H : Heap) (locs : List Loc) (ls : Array Slot) (cells slots : Nat) (QQ : State → Prop), Cx G J p R s m args meth c → pI G M s H → va_S (pA G) s.heap H locs → lv_has ls (jl J) lv → (∀ ls' : Array Slot, lv_has ls' (jl J) lv' → W p G.1 e R s m args below meth c H locs cells slots QQ (F0 m pc' ls' st')) → W p G.1 e R s m args below meth c H locs cells slots QQ (F0 m pc ls st))
    (k : E G J pc' lv' st' M Q) : E G J pc lv st M Q := by
  obtain ⟨r, M', ⟨h1, h2, h3⟩, hQ⟩ := k
  refine ⟨r, M', ⟨h1, h2, ?_⟩, hQ⟩
  intro p e R s m args below meth c H locs ls cells slots X hI hS hL hc hs
  exact f p e R s m args below meth c H locs ls cells slots _ X hI hS hL (fun ls' hL' => h3 p e R s m args below meth c H locs ls' cells slots X hI hS hL' hc hs)
/-- fewer words of the locals -/
theorem e_lv {G : pG} {J : pJ} {pc : Nat} {lv : List (Nat × Value)} (lv' : List (Nat × Value)) {st : List Value} {M : pS} {Q : Option Value → pS → Prop} (h : ∀ q ∈ lv', q ∈ lv) (k : E G J pc lv' st M Q) : E G J pc lv st M Q :=
  e_go (fun _ _ _ _ _ _ _ _ _ _ _ ls _ _ _ _ _ _ hL kk => kk ls ⟨hL.1, hL.2.1, fun q hq => hL.2.2 q (h q hq)⟩) k
theorem e_eq {G : pG} {J : pJ} {pc pc' : Nat} {lv lv' : List (Nat × Value)} {st st' : List Value} {M M' : pS} {Q : Option Value → pS → Prop} (h1 : pc = pc') (h2 : lv = lv') (h3 : st = st') (h4 : M = M') (k : E G J pc' lv' st' M' Q) : E G J pc lv st M Q := by
  subst h1; subst h2; subst h3; subst h4; exact k
theorem e_mono {G : pG} {J : pJ} {pc : Nat} {lv : List (Nat × Value)} {st : List Value} {M : pS} {Q Q' : Option Value → pS → Prop} (k : E G J pc lv st M Q) (h : ∀ r M', Q r M' → Q' r M') : E G J pc lv st M Q' := by
  obtain ⟨r, M', h1, h2⟩ := k
  exact ⟨r, M', h1, h r M' h2⟩
theorem c_mono {G : pG} {J : pJ} {av : List Value} {M : pS} {Q Q' : Option Value → pS → Prop} (k : C G J av M Q) (h : ∀ r M', Q r M' → Q' r M') : C G J av M Q' := by
  obtain ⟨r, M', h1, h2⟩ := k
  exact ⟨r, M', h1, h r M' h2⟩
/-- a method from its entry -/
theorem c_of {G : pG} {J : pJ} {av : List Value} {lv : List (Nat × Value)} {M : pS} {Q : Option Value → pS → Prop} (hy : plainName (jy J).cls = true) (hl : (lg_sl av).length ≤ jl J) (hv : lv_args 0 av = lv) (h : E G J 0 lv [] M Q) : C G J av M Q := by
  subst hv
  obtain ⟨r, M', ⟨h1, h2, h3⟩, hQ⟩ := h
  refine ⟨r, M', ⟨h1, h2, ?_⟩, hQ⟩
  refine Met.ofW (cc := jc J) (maxL := jl J) (ret := jr J) (ws' := wG) hy rfl ?_
  intro p e s m args below meth c s₁ B hml hv
  obtain ⟨rfl, hK, hI⟩ := hv
  have hts := atoms_spec (ws := pW J) B.pre
  have hl2 := lv_entry av (n := jl J) hl
  rw [lg_entry_eq]
  have h4 := h3 p e (pR J (M'.2.1 - M.2.1) (M'.2.2 - M.2.2)) s m av.toArray below meth c s.heap [] _ 0 0 ⟨B.exec, B.bytes, B.returns, hml, fun w hw => hts w (List.mem_cons_of_mem _ hw), findClass_of_methodNamed B.named, B.notSynchronized, (name_of_methodNamed B.named B.method).1, hK, Nat.le_refl _, Nat.le_refl _⟩ hI va_S.rf hl2 (by rw [Nat.zero_add]; exact Nat.le_refl _) (by rw [Nat.zero_add]; exact Nat.le_refl _)
  rw [Nat.zero_add, Nat.zero_add] at h4
  exact h4
/-! the locals -/
def lget : List (Nat × Value) → Nat → Option Value
  | [], _ => none
  | (a, v) :: r, i => bif Nat.beq a i then some v else lget r i
def lcut (w : Nat) (i : Nat) : List (Nat × Value) → List (Nat × Value)
  | [] => []
  | (a, v) :: r => bif Nat.ble i a && Nat.blt a (i + w) then lcut w i r else bif Nat.beq (a + 1) i && Nat.beq v.category 2 then lcut w i r else (a, v) :: lcut w i r
def lins (i : Nat) (x : Value) : List (Nat × Value) → List (Nat × Value)
  | [] => [(i, x)]
  | (a, v) :: r => bif Nat.blt a i then (a, v) :: lins i x r else (i, x) :: (a, v) :: r
def lput (w : Nat) (lv : List (Nat × Value)) (i : Nat) (x : Value) : List (Nat × Value) := lins i x (lcut w i lv)
theorem lget_mem {lv : List (Nat × Value)} {i : Nat} {v : Value} (h : lget lv i = some v) : (i, v) ∈ lv := by
  induction lv with
  | nil => simp [lget] at h
  | cons q r ih =>
    obtain ⟨a, w⟩ := q
    unfold lget at h
    cases hb : Nat.beq a i with
    | true =>
      rw [hb] at h
      have ha : a = i := Nat.eq_of_beq_eq_true hb
      cases h
      rw [ha]
      exact List.mem_cons_self
    | false =>
      rw [hb] at h
      exact List.mem_cons_of_mem _ (ih h)
theorem lins_mem {lv : List (Nat × Value)} {i : Nat} {x : Value} {q : Nat × Value} (h : q ∈ lins i x lv) : q = (i, x) ∨ q ∈ lv := by
  induction lv with
  | nil => simpa [lins] using h
  | cons z r ih =>
    obtain ⟨a, w⟩ := z
    unfold lins at h
    cases hb : Nat.blt a i with
    | true =>
      rw [hb] at h
      rcases List.mem_cons.mp h with h | h
      · exact Or.inr (by rw [h]; exact List.mem_cons_self)
      · rcases ih h with h | h
        · exact Or.inl h
        · exact Or.inr (List.mem_cons_of_mem _ h)
    | false =>
      rw [hb] at h
      rcases List.mem_cons.mp h with h | h
      · exact Or.inl h
      · exact Or.inr h
theorem lcut_mem {w i : Nat} {lv : List (Nat × Value)} {q : Nat × Value} (h : q ∈ lcut w i lv) : q ∈ lv ∧ ¬ (i ≤ q.1 ∧ q.1 < i + w) ∧ ¬ (q.1 + 1 = i ∧ q.2.category = 2) := by
  induction lv with
  | nil => simp [lcut] at h
  | cons z r ih =>
    obtain ⟨a, v⟩ := z
    unfold lcut at h
    cases hb : (Nat.ble i a && Nat.blt a (i + w)) with
    | true =>
      rw [hb] at h
      have := ih h
      exact ⟨List.mem_cons_of_mem _ this.1, this.2⟩
    | false =>
      rw [hb] at h
      simp only [cond_false] at h
      cases hc : (Nat.beq (a + 1) i && Nat.beq v.category 2) with
      | true =>
        rw [hc] at h
        have := ih h
        exact ⟨List.mem_cons_of_mem _ this.1, this.2⟩
      | false =>
        rw [hc] at h
        rcases List.mem_cons.mp h with h | h
        · subst h
          refine ⟨List.mem_cons_self, fun q => ?_, fun q => ?_⟩
          · have h1 : Nat.ble i a = true := Nat.ble_eq.mpr q.1
            have h2 : Nat.blt a (i + w) = true := Nat.ble_eq.mpr q.2
            rw [h1, h2] at hb
            cases hb
          · have h1 : Nat.beq (a + 1) i = true := Nat.beq_eq.mpr q.1
            have h2 : Nat.beq v.category 2 = true := Nat.beq_eq.mpr q.2
            rw [h1, h2] at hc
            cases hc
        · have := ih h
          exact ⟨List.mem_cons_of_mem _ this.1, this.2⟩
theorem lput1 {ls : Array Slot} {nL i : Nat} {lv : List (Nat × Value)} {x : Value} (h : lv_has ls nL ((i, x) :: lv.filter (fun q => !(q.1 == i) && !(q.1 + 1 == i && q.2.category == 2)))) : lv_has ls nL (lput 1 lv i x) := by
  refine ⟨h.1, h.2.1, fun q hq => h.2.2 q ?_⟩
  rcases lins_mem hq with hq | hq
  · rw [hq]; exact List.mem_cons_self
  · obtain ⟨h1, h2, h3⟩ := lcut_mem hq
    refine List.mem_cons_of_mem _ (List.mem_filter.mpr ⟨h1, ?_⟩)
    have e1 : ¬ q.1 = i := fun z => h2 (by omega)
    simp only [Bool.and_eq_true, Bool.not_eq_true', beq_eq_false_iff_ne, ne_eq, Bool.and_eq_false_iff]
    refine ⟨e1, ?_⟩
    by_cases z : q.1 + 1 = i
    · exact Or.inr (fun y => h3 ⟨z, y⟩)
    · exact Or.inl z
theorem lput2 {ls : Array Slot} {nL i : Nat} {lv : List (Nat × Value)} {x : Value} (h : lv_has ls nL ((i, x) :: lv.filter (fun q => !(q.1 == i) && (!(q.1 == i + 1) && !(q.1 + 1 == i && q.2.category == 2))))) : lv_has ls nL (lput 2 lv i x) := by
  refine ⟨h.1, h.2.1, fun q hq => h.2.2 q ?_⟩
  rcases lins_mem hq with hq | hq
  · rw [hq]; exact List.mem_cons_self
  · obtain ⟨h1, h2, h3⟩ := lcut_mem hq
    refine List.mem_cons_of_mem _ (List.mem_filter.mpr ⟨h1, ?_⟩)
    have e1 : ¬ q.1 = i := fun z => h2 (by omega)
    have e2 : ¬ q.1 = i + 1 := fun z => h2 (by omega)
    simp only [Bool.and_eq_true, Bool.not_eq_true', beq_eq_false_iff_ne, ne_eq, Bool.and_eq_false_iff]
    refine ⟨e1, e2, ?_⟩
    by_cases z : q.1 + 1 = i
    · exact Or.inr (fun y => h3 ⟨z, y⟩)
    · exact Or.inl z
section RULES
variable {G : pG} {J : pJ} {pc : Nat} {lv lv' : List (Nat × Value)} {st : List Value} {M : pS} {Q : Option Value → pS → Prop}
theorem e_iconst {n : Int} {v : Int32} (hd : decode (jc J) pc = .ok (.iconst n, 1)) (hv : Int32.ofInt n = v) (k : E G J (pc + 1) lv (.int v :: st) M Q) : E G J pc lv (st) M Q :=
  e_go (fun _ _ _ _ _ _ _ _ _ _ _ ls _ _ _ X _ _ hL kk => lv_iconst X.1 X.2.1 hd hv (kk ls hL)) k
theorem e_bipush {n : Int} {v : Int32} (hd : decode (jc J) pc = .ok (.bipush n, 2)) (hv : (Int8.ofInt n).toInt32 = v) (k : E G J (pc + 2) lv (.int v :: st) M Q) : E G J pc lv (st) M Q :=
  e_go (fun _ _ _ _ _ _ _ _ _ _ _ ls _ _ _ X _ _ hL kk => lv_bipush X.1 X.2.1 hd hv (kk ls hL)) k
theorem e_sipush {n : Int} {v : Int32} (hd : decode (jc J) pc = .ok (.sipush n, 3)) (hv : (Int16.ofInt n).toInt32 = v) (k : E G J (pc + 3) lv (.int v :: st) M Q) : E G J pc lv (st) M Q :=
  e_go (fun _ _ _ _ _ _ _ _ _ _ _ ls _ _ _ X _ _ hL kk => lv_sipush X.1 X.2.1 hd hv (kk ls hL)) k
theorem e_lconst {n : Fin 2} {v : Int64} (hd : decode (jc J) pc = .ok (.lconst n, 1)) (hv : Int64.ofNat (n : Nat) = v) (k : E G J (pc + 1) lv (.long v :: st) M Q) : E G J pc lv (st) M Q :=
  e_go (fun _ _ _ _ _ _ _ _ _ _ _ ls _ _ _ X _ _ hL kk => lv_lconst X.1 X.2.1 hd hv (kk ls hL)) k
theorem e_null (hd : decode (jc J) pc = .ok (.aconst_null, 1)) (k : E G J (pc + 1) lv (.null :: st) M Q) : E G J pc lv (st) M Q :=
  e_go (fun _ _ _ _ _ _ _ _ _ _ _ ls _ _ _ X _ _ hL kk => lv_null X.1 X.2.1 hd (kk ls hL)) k
theorem e_ldc {i : Nat} {v : Int32} (hd : decode (jc J) pc = .ok (.ldc i, 2)) (hc : Cond.constant (jy J).cls i v ∈ wG) (k : E G J (pc + 2) lv (.int v :: st) M Q) : E G J pc lv (st) M Q :=
  e_go (fun _ _ _ _ _ _ _ _ _ _ _ ls _ _ _ X _ _ hL kk => lv_ldc X.1 X.2.1 X.2.2.2.2.2.1 (X.2.2.2.2.1 _ hc) hd (kk ls hL)) k
theorem e_ldc_w {i : Nat} {v : Int32} (hd : decode (jc J) pc = .ok (.ldc_w i, 3)) (hc : Cond.constant (jy J).cls i v ∈ wG) (k : E G J (pc + 3) lv (.int v :: st) M Q) : E G J pc lv (st) M Q :=
  e_go (fun _ _ _ _ _ _ _ _ _ _ _ ls _ _ _ X _ _ hL kk => lv_ldcw X.1 X.2.1 X.2.2.2.2.2.1 (X.2.2.2.2.1 _ hc) hd (kk ls hL)) k
theorem e_ldc2 {i : Nat} {v : Int64} (hd : decode (jc J) pc = .ok (.ldc2_w i, 3)) (hc : Cond.constantLong (jy J).cls i v ∈ wG) (k : E G J (pc + 3) lv (.long v :: st) M Q) : E G J pc lv (st) M Q :=
  e_go (fun _ _ _ _ _ _ _ _ _ _ _ ls _ _ _ X _ _ hL kk => lv_ldc2 X.1 X.2.1 X.2.2.2.2.2.1 (X.2.2.2.2.1 _ hc) hd (kk ls hL)) k
theorem e_iload_n {k0 : Fin 4} {x : Int32} (hd : decode (jc J) pc = .ok (.iload_n k0, 1)) (hl : lget lv (k0 : Nat) = some (.int x)) (k : E G J (pc + 1) lv (.int x :: st) M Q) : E G J pc lv (st) M Q :=
  e_go (fun _ _ _ _ _ _ _ _ _ _ _ ls _ _ _ X _ _ hL kk => lv_iload_n X.1 X.2.1 hd rfl (hL.2.2 _ (lget_mem hl)) (kk ls hL)) k
theorem e_iload {k0 : Nat} {x : Int32} (hd : decode (jc J) pc = .ok (.iload k0, 2)) (hl : lget lv k0 = some (.int x)) (k : E G J (pc + 2) lv (.int x :: st) M Q) : E G J pc lv (st) M Q :=
  e_go (fun _ _ _ _ _ _ _ _ _ _ _ ls _ _ _ X _ _ hL kk => lv_iload X.1 X.2.1 hd (hL.2.2 _ (lget_mem hl)) (kk ls hL)) k
theorem e_istore_n {k0 : Fin 4} {x : Int32} (hd : decode (jc J) pc = .ok (.istore_n k0, 1)) (hn : (k0 : Nat) < jl J) (hl : lput 1 lv (k0 : Nat) (.int x) = lv') (k : E G J (pc + 1) lv' st M Q) : E G J pc lv (.int x :: st) M Q :=
  e_go (fun _ _ _ _ _ _ _ _ _ _ _ ls _ _ _ X _ _ hL kk => lv_istore_n X.1 X.2.1 hd rfl hL hn rfl (fun ls' h' => kk ls' (hl ▸ lput1 h'))) k
theorem e_istore {k0 : Nat} {x : Int32} (hd : decode (jc J) pc = .ok (.istore k0, 2)) (hn : (k0 : Nat) < jl J) (hl : lput 1 lv (k0 : Nat) (.int x) = lv') (k : E G J (pc + 2) lv' st M Q) : E G J pc lv (.int x :: st) M Q :=
  e_go (fun _ _ _ _ _ _ _ _ _ _ _ ls _ _ _ X _ _ hL kk => lv_istore X.1 X.2.1 hd hL hn rfl (fun ls' h' => kk ls' (hl ▸ lput1 h'))) k
theorem e_lload_n {k0 : Fin 4} {x : Int64} (hd : decode (jc J) pc = .ok (.lload_n k0, 1)) (hl : lget lv (k0 : Nat) = some (.long x)) (k : E G J (pc + 1) lv (.long x :: st) M Q) : E G J pc lv (st) M Q :=
  e_go (fun _ _ _ _ _ _ _ _ _ _ _ ls _ _ _ X _ _ hL kk => lv_lload_n X.1 X.2.1 hd rfl (hL.2.2 _ (lget_mem hl)) (kk ls hL)) k
theorem e_lload {k0 : Nat} {x : Int64} (hd : decode (jc J) pc = .ok (.lload k0, 2)) (hl : lget lv k0 = some (.long x)) (k : E G J (pc + 2) lv (.long x :: st) M Q) : E G J pc lv (st) M Q :=
  e_go (fun _ _ _ _ _ _ _ _ _ _ _ ls _ _ _ X _ _ hL kk => lv_lload X.1 X.2.1 hd (hL.2.2 _ (lget_mem hl)) (kk ls hL)) k
theorem e_lstore_n {k0 : Fin 4} {x : Int64} (hd : decode (jc J) pc = .ok (.lstore_n k0, 1)) (hn : (k0 : Nat) + 1 < jl J) (hl : lput 2 lv (k0 : Nat) (.long x) = lv') (k : E G J (pc + 1) lv' st M Q) : E G J pc lv (.long x :: st) M Q :=
  e_go (fun _ _ _ _ _ _ _ _ _ _ _ ls _ _ _ X _ _ hL kk => lv_lstore_n X.1 X.2.1 hd rfl hL hn rfl (fun ls' h' => kk ls' (hl ▸ lput2 h'))) k
theorem e_lstore {k0 : Nat} {x : Int64} (hd : decode (jc J) pc = .ok (.lstore k0, 2)) (hn : (k0 : Nat) + 1 < jl J) (hl : lput 2 lv (k0 : Nat) (.long x) = lv') (k : E G J (pc + 2) lv' st M Q) : E G J pc lv (.long x :: st) M Q :=
  e_go (fun _ _ _ _ _ _ _ _ _ _ _ ls _ _ _ X _ _ hL kk => lv_lstore X.1 X.2.1 hd hL hn rfl (fun ls' h' => kk ls' (hl ▸ lput2 h'))) k
theorem e_aload_n {k0 : Fin 4} {x : Nat} (hd : decode (jc J) pc = .ok (.aload_n k0, 1)) (hl : lget lv (k0 : Nat) = some (.ref x)) (k : E G J (pc + 1) lv (.ref x :: st) M Q) : E G J pc lv (st) M Q :=
  e_go (fun _ _ _ _ _ _ _ _ _ _ _ ls _ _ _ X _ _ hL kk => lv_aload_n X.1 X.2.1 hd rfl (hL.2.2 _ (lget_mem hl)) (kk ls hL)) k
theorem e_aload {k0 : Nat} {x : Nat} (hd : decode (jc J) pc = .ok (.aload k0, 2)) (hl : lget lv k0 = some (.ref x)) (k : E G J (pc + 2) lv (.ref x :: st) M Q) : E G J pc lv (st) M Q :=
  e_go (fun _ _ _ _ _ _ _ _ _ _ _ ls _ _ _ X _ _ hL kk => lv_aload X.1 X.2.1 hd (hL.2.2 _ (lget_mem hl)) (kk ls hL)) k
theorem e_astore_n {k0 : Fin 4} {x : Nat} (hd : decode (jc J) pc = .ok (.astore_n k0, 1)) (hn : (k0 : Nat) < jl J) (hl : lput 1 lv (k0 : Nat) (.ref x) = lv') (k : E G J (pc + 1) lv' st M Q) : E G J pc lv (.ref x :: st) M Q :=
  e_go (fun _ _ _ _ _ _ _ _ _ _ _ ls _ _ _ X _ _ hL kk => lv_astore_n X.1 X.2.1 hd rfl hL hn rfl (fun ls' h' => kk ls' (hl ▸ lput1 h'))) k
theorem e_astore {k0 : Nat} {x : Nat} (hd : decode (jc J) pc = .ok (.astore k0, 2)) (hn : (k0 : Nat) < jl J) (hl : lput 1 lv (k0 : Nat) (.ref x) = lv') (k : E G J (pc + 2) lv' st M Q) : E G J pc lv (.ref x :: st) M Q :=
  e_go (fun _ _ _ _ _ _ _ _ _ _ _ ls _ _ _ X _ _ hL kk => lv_astore X.1 X.2.1 hd hL hn rfl (fun ls' h' => kk ls' (hl ▸ lput1 h'))) k
theorem e_iinc {i : Nat} {n : Int} {x v : Int32} (hd : decode (jc J) pc = .ok (.iinc i n, 3)) (hn : i < jl J) (hx : lget lv i = some (.int x)) (hv : x + Int32.ofInt n = v) (hl : lput 1 lv i (.int v) = lv') (k : E G J (pc + 3) lv' st M Q) : E G J pc lv st M Q := by
  obtain ⟨j, hj⟩ := List.getElem?_of_mem (lget_mem hx)
  exact e_go (fun _ _ _ _ _ _ _ _ _ _ _ ls _ _ _ X _ _ hL kk => lv_iinc X.1 X.2.1 hd hL hj hv hn rfl (fun ls' h' => kk ls' (hl ▸ lput1 h'))) k
theorem e_iadd {x y : Int32} (hd : decode (jc J) pc = .ok (.iadd, 1)) (k : E G J (pc + 1) lv (.int (x + y) :: st) M Q) : E G J pc lv (.int y :: .int x :: st) M Q :=
  e_go (fun _ _ _ _ _ _ _ _ _ _ _ ls _ _ _ X _ _ hL kk => lv_iadd X.1 X.2.1 hd (kk ls hL)) k
theorem e_isub {x y : Int32} (hd : decode (jc J) pc = .ok (.isub, 1)) (k : E G J (pc + 1) lv (.int (x - y) :: st) M Q) : E G J pc lv (.int y :: .int x :: st) M Q :=
  e_go (fun _ _ _ _ _ _ _ _ _ _ _ ls _ _ _ X _ _ hL kk => lv_isub X.1 X.2.1 hd (kk ls hL)) k
theorem e_imul {x y : Int32} (hd : decode (jc J) pc = .ok (.imul, 1)) (k : E G J (pc + 1) lv (.int (x * y) :: st) M Q) : E G J pc lv (.int y :: .int x :: st) M Q :=
  e_go (fun _ _ _ _ _ _ _ _ _ _ _ ls _ _ _ X _ _ hL kk => lv_imul X.1 X.2.1 hd (kk ls hL)) k
theorem e_iand {x y : Int32} (hd : decode (jc J) pc = .ok (.iand, 1)) (k : E G J (pc + 1) lv (.int (x &&& y) :: st) M Q) : E G J pc lv (.int y :: .int x :: st) M Q :=
  e_go (fun _ _ _ _ _ _ _ _ _ _ _ ls _ _ _ X _ _ hL kk => lv_iand X.1 X.2.1 hd (kk ls hL)) k
theorem e_ior {x y : Int32} (hd : decode (jc J) pc = .ok (.ior, 1)) (k : E G J (pc + 1) lv (.int (x ||| y) :: st) M Q) : E G J pc lv (.int y :: .int x :: st) M Q :=
  e_go (fun _ _ _ _ _ _ _ _ _ _ _ ls _ _ _ X _ _ hL kk => lv_ior X.1 X.2.1 hd (kk ls hL)) k
theorem e_ixor {x y : Int32} (hd : decode (jc J) pc = .ok (.ixor, 1)) (k : E G J (pc + 1) lv (.int (x ^^^ y) :: st) M Q) : E G J pc lv (.int y :: .int x :: st) M Q :=
  e_go (fun _ _ _ _ _ _ _ _ _ _ _ ls _ _ _ X _ _ hL kk => lv_ixor X.1 X.2.1 hd (kk ls hL)) k
theorem e_ladd {x y : Int64} (hd : decode (jc J) pc = .ok (.ladd, 1)) (k : E G J (pc + 1) lv (.long (x + y) :: st) M Q) : E G J pc lv (.long y :: .long x :: st) M Q :=
  e_go (fun _ _ _ _ _ _ _ _ _ _ _ ls _ _ _ X _ _ hL kk => lv_ladd X.1 X.2.1 hd (kk ls hL)) k
theorem e_lsub {x y : Int64} (hd : decode (jc J) pc = .ok (.lsub, 1)) (k : E G J (pc + 1) lv (.long (x - y) :: st) M Q) : E G J pc lv (.long y :: .long x :: st) M Q :=
  e_go (fun _ _ _ _ _ _ _ _ _ _ _ ls _ _ _ X _ _ hL kk => lv_lsub X.1 X.2.1 hd (kk ls hL)) k
theorem e_lmul {x y : Int64} (hd : decode (jc J) pc = .ok (.lmul, 1)) (k : E G J (pc + 1) lv (.long (x * y) :: st) M Q) : E G J pc lv (.long y :: .long x :: st) M Q :=
  e_go (fun _ _ _ _ _ _ _ _ _ _ _ ls _ _ _ X _ _ hL kk => lv_lmul X.1 X.2.1 hd (kk ls hL)) k
theorem e_land {x y : Int64} (hd : decode (jc J) pc = .ok (.land, 1)) (k : E G J (pc + 1) lv (.long (x &&& y) :: st) M Q) : E G J pc lv (.long y :: .long x :: st) M Q :=
  e_go (fun _ _ _ _ _ _ _ _ _ _ _ ls _ _ _ X _ _ hL kk => lv_land X.1 X.2.1 hd (kk ls hL)) k
theorem e_lor {x y : Int64} (hd : decode (jc J) pc = .ok (.lor, 1)) (k : E G J (pc + 1) lv (.long (x ||| y) :: st) M Q) : E G J pc lv (.long y :: .long x :: st) M Q :=
  e_go (fun _ _ _ _ _ _ _ _ _ _ _ ls _ _ _ X _ _ hL kk => lv_lor X.1 X.2.1 hd (kk ls hL)) k
theorem e_lxor {x y : Int64} (hd : decode (jc J) pc = .ok (.lxor, 1)) (k : E G J (pc + 1) lv (.long (x ^^^ y) :: st) M Q) : E G J pc lv (.long y :: .long x :: st) M Q :=
  e_go (fun _ _ _ _ _ _ _ _ _ _ _ ls _ _ _ X _ _ hL kk => lv_lxor X.1 X.2.1 hd (kk ls hL)) k
theorem e_ishl {x y : Int32} (hd : decode (jc J) pc = .ok (.ishl, 1)) (k : E G J (pc + 1) lv (.int (x <<< (y &&& 31)) :: st) M Q) : E G J pc lv (.int y :: .int x :: st) M Q :=
  e_go (fun _ _ _ _ _ _ _ _ _ _ _ ls _ _ _ X _ _ hL kk => lv_ishl X.1 X.2.1 hd (kk ls hL)) k
theorem e_ishr {x y : Int32} (hd : decode (jc J) pc = .ok (.ishr, 1)) (k : E G J (pc + 1) lv (.int (x >>> (y &&& 31)) :: st) M Q) : E G J pc lv (.int y :: .int x :: st) M Q :=
  e_go (fun _ _ _ _ _ _ _ _ _ _ _ ls _ _ _ X _ _ hL kk => lv_ishr X.1 X.2.1 hd (kk ls hL)) k
theorem e_iushr {x y : Int32} (hd : decode (jc J) pc = .ok (.iushr, 1)) (k : E G J (pc + 1) lv (.int (x.toUInt32 >>> (y.toUInt32 &&& Int32.toUInt32 31)).toInt32 :: st) M Q) : E G J pc lv (.int y :: .int x :: st) M Q :=
  e_go (fun _ _ _ _ _ _ _ _ _ _ _ ls _ _ _ X _ _ hL kk => lv_iushr X.1 X.2.1 hd rfl (kk ls hL)) k
theorem e_lushr {x : Int64} {y : Int32} (hd : decode (jc J) pc = .ok (.lushr, 1)) (k : E G J (pc + 1) lv (.long (x.toUInt64 >>> (y.toInt64.toUInt64 &&& Int64.toUInt64 63)).toInt64 :: st) M Q) : E G J pc lv (.int y :: .long x :: st) M Q :=
  e_go (fun _ _ _ _ _ _ _ _ _ _ _ ls _ _ _ X _ _ hL kk => lv_lushr X.1 X.2.1 hd rfl (kk ls hL)) k
theorem e_lshl {x : Int64} {y : Int32} (hd : decode (jc J) pc = .ok (.lshl, 1)) (k : E G J (pc + 1) lv (.long (x <<< (y.toInt64 &&& 63)) :: st) M Q) : E G J pc lv (.int y :: .long x :: st) M Q :=
  e_go (fun _ _ _ _ _ _ _ _ _ _ _ ls _ _ _ X _ _ hL kk => lv_lshl X.1 X.2.1 hd rfl (kk ls hL)) k
theorem e_lshr {x : Int64} {y : Int32} (hd : decode (jc J) pc = .ok (.lshr, 1)) (k : E G J (pc + 1) lv (.long (x >>> (y.toInt64 &&& 63)) :: st) M Q) : E G J pc lv (.int y :: .long x :: st) M Q :=
  e_go (fun _ _ _ _ _ _ _ _ _ _ _ ls _ _ _ X _ _ hL kk => lv_lshr X.1 X.2.1 hd rfl (kk ls hL)) k
theorem e_i2l {x : Int32} (hd : decode (jc J) pc = .ok (.i2l, 1)) (k : E G J (pc + 1) lv (.long x.toInt64 :: st) M Q) : E G J pc lv (.int x :: st) M Q :=
  e_go (fun _ _ _ _ _ _ _ _ _ _ _ ls _ _ _ X _ _ hL kk => lv_i2l X.1 X.2.1 hd rfl (kk ls hL)) k
theorem e_l2i {x : Int64} (hd : decode (jc J) pc = .ok (.l2i, 1)) (k : E G J (pc + 1) lv (.int x.toInt32 :: st) M Q) : E G J pc lv (.long x :: st) M Q :=
  e_go (fun _ _ _ _ _ _ _ _ _ _ _ ls _ _ _ X _ _ hL kk => lv_l2i X.1 X.2.1 hd rfl (kk ls hL)) k
theorem e_i2b {x : Int32} (hd : decode (jc J) pc = .ok (.i2b, 1)) (k : E G J (pc + 1) lv (.int x.toInt8.toInt32 :: st) M Q) : E G J pc lv (.int x :: st) M Q :=
  e_go (fun _ _ _ _ _ _ _ _ _ _ _ ls _ _ _ X _ _ hL kk => lv_i2b X.1 X.2.1 hd rfl (kk ls hL)) k
theorem e_ineg {x : Int32} (hd : decode (jc J) pc = .ok (.ineg, 1)) (k : E G J (pc + 1) lv (.int (-x) :: st) M Q) : E G J pc lv (.int x :: st) M Q :=
  e_go (fun _ _ _ _ _ _ _ _ _ _ _ ls _ _ _ X _ _ hL kk => lv_ineg X.1 X.2.1 hd (kk ls hL)) k
theorem e_lneg {x : Int64} (hd : decode (jc J) pc = .ok (.lneg, 1)) (k : E G J (pc + 1) lv (.long (-x) :: st) M Q) : E G J pc lv (.long x :: st) M Q :=
  e_go (fun _ _ _ _ _ _ _ _ _ _ _ ls _ _ _ X _ _ hL kk => lv_lneg X.1 X.2.1 hd (kk ls hL)) k
theorem e_idiv {x y : Int32} (hd : decode (jc J) pc = .ok (.idiv, 1)) (hne : ¬ y = 0) (k : E G J (pc + 1) lv (.int (x / y) :: st) M Q) : E G J pc lv (.int y :: .int x :: st) M Q :=
  e_go (fun _ _ _ _ _ _ _ _ _ _ _ ls _ _ _ X _ _ hL kk => lv_idiv X.1 X.2.1 hd hne (kk ls hL)) k
theorem e_irem {x y : Int32} (hd : decode (jc J) pc = .ok (.irem, 1)) (hne : ¬ y = 0) (k : E G J (pc + 1) lv (.int (x - x / y * y) :: st) M Q) : E G J pc lv (.int y :: .int x :: st) M Q :=
  e_go (fun _ _ _ _ _ _ _ _ _ _ _ ls _ _ _ X _ _ hL kk => lv_irem X.1 X.2.1 hd hne (kk ls hL)) k
theorem e_lcmp {x y : Int64} (hd : decode (jc J) pc = .ok (.lcmp, 1)) (k : E G J (pc + 1) lv (.int (lg_cmp x y) :: st) M Q) : E G J pc lv (.long y :: .long x :: st) M Q :=
  e_go (fun _ _ _ _ _ _ _ _ _ _ _ ls _ _ _ X _ _ hL kk => W.lcmp X.1 X.2.1 hd (kk ls hL)) k
theorem e_dup {a : Value} (hd : decode (jc J) pc = .ok (.dup, 1)) (ha : a.category = 1) (k : E G J (pc + 1) lv (a :: a :: st) M Q) : E G J pc lv (a :: st) M Q :=
  e_go (fun _ _ _ _ _ _ _ _ _ _ _ ls _ _ _ X _ _ hL kk => lv_dup X.1 X.2.1 hd ha (kk ls hL)) k
theorem e_pop {a : Value} (hd : decode (jc J) pc = .ok (.pop, 1)) (ha : a.category = 1) (k : E G J (pc + 1) lv (st) M Q) : E G J pc lv (a :: st) M Q :=
  e_go (fun _ _ _ _ _ _ _ _ _ _ _ ls _ _ _ X _ _ hL kk => lv_pop X.1 X.2.1 hd ha (kk ls hL)) k
theorem e_dup_x1 {a b : Value} (hd : decode (jc J) pc = .ok (.dup_x1, 1)) (ha : a.category = 1) (hb : b.category = 1) (k : E G J (pc + 1) lv (a :: b :: a :: st) M Q) : E G J pc lv (a :: b :: st) M Q :=
  e_go (fun _ _ _ _ _ _ _ _ _ _ _ ls _ _ _ X _ _ hL kk => lv_dup_x1 X.1 X.2.1 hd ha hb (kk ls hL)) k
theorem e_dup_x2 {a b c0 : Value} (hd : decode (jc J) pc = .ok (.dup_x2, 1)) (ha : a.category = 1) (hb : b.category = 1) (hc : c0.category = 1) (k : E G J (pc + 1) lv (a :: b :: c0 :: a :: st) M Q) : E G J pc lv (a :: b :: c0 :: st) M Q :=
  e_go (fun _ _ _ _ _ _ _ _ _ _ _ ls _ _ _ X _ _ hL kk => lv_dup_x2 X.1 X.2.1 hd ha hb hc (kk ls hL)) k
theorem e_dup2_11 {a b : Value} (hd : decode (jc J) pc = .ok (.dup2, 1)) (ha : a.category = 1) (hb : b.category = 1) (k : E G J (pc + 1) lv (a :: b :: a :: b :: st) M Q) : E G J pc lv (a :: b :: st) M Q :=
  e_go (fun _ _ _ _ _ _ _ _ _ _ _ ls _ _ _ X _ _ hL kk => lv_dup2_11 X.1 X.2.1 hd ha hb (kk ls hL)) k
theorem e_dup2_2 {a : Value} (hd : decode (jc J) pc = .ok (.dup2, 1)) (ha : a.category = 2) (k : E G J (pc + 1) lv (a :: a :: st) M Q) : E G J pc lv (a :: st) M Q :=
  e_go (fun _ _ _ _ _ _ _ _ _ _ _ ls _ _ _ X _ _ hL kk => lv_dup2_2 X.1 X.2.1 hd ha (kk ls hL)) k
theorem e_pop2_2 {a : Value} (hd : decode (jc J) pc = .ok (.pop2, 1)) (ha : a.category = 2) (k : E G J (pc + 1) lv (st) M Q) : E G J pc lv (a :: st) M Q :=
  e_go (fun _ _ _ _ _ _ _ _ _ _ _ ls _ _ _ X _ _ hL kk => lv_pop2_2 X.1 X.2.1 hd ha (kk ls hL)) k
theorem e_dup2_x1_2 {a b : Value} (hd : decode (jc J) pc = .ok (.dup2_x1, 1)) (ha : a.category = 2) (hb : b.category = 1) (k : E G J (pc + 1) lv (a :: b :: a :: st) M Q) : E G J pc lv (a :: b :: st) M Q :=
  e_go (fun _ _ _ _ _ _ _ _ _ _ _ ls _ _ _ X _ _ hL kk => lv_dup2_x1_2 X.1 X.2.1 hd ha hb (kk ls hL)) k
theorem e_dup2_x2_2 {a b c0 : Value} (hd : decode (jc J) pc = .ok (.dup2_x2, 1)) (ha : a.category = 2) (hb : b.category = 1) (hc : c0.category = 1) (k : E G J (pc + 1) lv (a :: b :: c0 :: a :: st) M Q) : E G J pc lv (a :: b :: c0 :: st) M Q :=
  e_go (fun _ _ _ _ _ _ _ _ _ _ _ ls _ _ _ X _ _ hL kk => lv_dup2_x2_2 X.1 X.2.1 hd ha hb hc (kk ls hL)) k
theorem e_goto {off : Int} {tgt : Nat} (hd : decode (jc J) pc = .ok (.goto off, 3)) (ht : (pc : Int) + off = (tgt : Int)) (k : E G J tgt lv st M Q) : E G J pc lv st M Q :=
  e_go (fun _ _ _ _ _ _ _ _ _ _ _ ls _ _ _ X _ _ hL kk => lv_goto X.1 X.2.1 hd ht (kk ls hL)) k
theorem e_if_eq {x : Int32} {off : Int} (tgt : Nat) (hd : decode (jc J) pc = .ok (.ifCond .eq off, 3)) (ht : (pc : Int) + off = (tgt : Int)) (kt : x = 0 → E G J tgt lv st M Q) (kf : ¬ (x = 0) → E G J (pc + 3) lv st M Q) : E G J pc lv (.int x :: st) M Q := by
  by_cases hP : x = 0
  · exact e_go (fun _ _ _ _ _ _ _ _ _ _ _ ls _ _ _ X _ _ hL kk => lv_if_eq X.1 X.2.1 hd ht (fun _ => kk ls hL) (fun h => absurd hP h)) (kt hP)
  · exact e_go (fun _ _ _ _ _ _ _ _ _ _ _ ls _ _ _ X _ _ hL kk => lv_if_eq X.1 X.2.1 hd ht (fun h => absurd h hP) (fun _ => kk ls hL)) (kf hP)
theorem e_icmp_eq {x y : Int32} {off : Int} (tgt : Nat) (hd : decode (jc J) pc = .ok (.if_icmp .eq off, 3)) (ht : (pc : Int) + off = (tgt : Int)) (kt : x = y → E G J tgt lv st M Q) (kf : ¬ (x = y) → E G J (pc + 3) lv st M Q) : E G J pc lv (.int y :: .int x :: st) M Q := by
  by_cases hP : x = y
  · exact e_go (fun _ _ _ _ _ _ _ _ _ _ _ ls _ _ _ X _ _ hL kk => lv_icmp_eq X.1 X.2.1 hd ht (fun _ => kk ls hL) (fun h => absurd hP h)) (kt hP)
  · exact e_go (fun _ _ _ _ _ _ _ _ _ _ _ ls _ _ _ X _ _ hL kk => lv_icmp_eq X.1 X.2.1 hd ht (fun h => absurd h hP) (fun _ => kk ls hL)) (kf hP)
theorem e_if_ne {x : Int32} {off : Int} (tgt : Nat) (hd : decode (jc J) pc = .ok (.ifCond .ne off, 3)) (ht : (pc : Int) + off = (tgt : Int)) (kt : ¬ x = 0 → E G J tgt lv st M Q) (kf : x = 0 → E G J (pc + 3) lv st M Q) : E G J pc lv (.int x :: st) M Q := by
  by_cases hP : x = 0
  · exact e_go (fun _ _ _ _ _ _ _ _ _ _ _ ls _ _ _ X _ _ hL kk => lv_if_ne X.1 X.2.1 hd ht (fun h => absurd hP h) (fun _ => kk ls hL)) (kf hP)
  · exact e_go (fun _ _ _ _ _ _ _ _ _ _ _ ls _ _ _ X _ _ hL kk => lv_if_ne X.1 X.2.1 hd ht (fun _ => kk ls hL) (fun h => absurd h hP)) (kt hP)
theorem e_icmp_ne {x y : Int32} {off : Int} (tgt : Nat) (hd : decode (jc J) pc = .ok (.if_icmp .ne off, 3)) (ht : (pc : Int) + off = (tgt : Int)) (kt : ¬ x = y → E G J tgt lv st M Q) (kf : x = y → E G J (pc + 3) lv st M Q) : E G J pc lv (.int y :: .int x :: st) M Q := by
  by_cases hP : x = y
  · exact e_go (fun _ _ _ _ _ _ _ _ _ _ _ ls _ _ _ X _ _ hL kk => lv_icmp_ne X.1 X.2.1 hd ht (fun h => absurd hP h) (fun _ => kk ls hL)) (kf hP)
  · exact e_go (fun _ _ _ _ _ _ _ _ _ _ _ ls _ _ _ X _ _ hL kk => lv_icmp_ne X.1 X.2.1 hd ht (fun _ => kk ls hL) (fun h => absurd h hP)) (kt hP)
theorem e_if_lt {x : Int32} {off : Int} (tgt : Nat) (hd : decode (jc J) pc = .ok (.ifCond .lt off, 3)) (ht : (pc : Int) + off = (tgt : Int)) (kt : x < 0 → E G J tgt lv st M Q) (kf : ¬ (x < 0) → E G J (pc + 3) lv st M Q) : E G J pc lv (.int x :: st) M Q := by
  by_cases hP : x < 0
  · exact e_go (fun _ _ _ _ _ _ _ _ _ _ _ ls _ _ _ X _ _ hL kk => lv_if_lt X.1 X.2.1 hd ht (fun _ => kk ls hL) (fun h => absurd hP h)) (kt hP)
  · exact e_go (fun _ _ _ _ _ _ _ _ _ _ _ ls _ _ _ X _ _ hL kk => lv_if_lt X.1 X.2.1 hd ht (fun h => absurd h hP) (fun _ => kk ls hL)) (kf hP)
theorem e_icmp_lt {x y : Int32} {off : Int} (tgt : Nat) (hd : decode (jc J) pc = .ok (.if_icmp .lt off, 3)) (ht : (pc : Int) + off = (tgt : Int)) (kt : x < y → E G J tgt lv st M Q) (kf : ¬ (x < y) → E G J (pc + 3) lv st M Q) : E G J pc lv (.int y :: .int x :: st) M Q := by
  by_cases hP : x < y
  · exact e_go (fun _ _ _ _ _ _ _ _ _ _ _ ls _ _ _ X _ _ hL kk => lv_icmp_lt X.1 X.2.1 hd ht (fun _ => kk ls hL) (fun h => absurd hP h)) (kt hP)
  · exact e_go (fun _ _ _ _ _ _ _ _ _ _ _ ls _ _ _ X _ _ hL kk => lv_icmp_lt X.1 X.2.1 hd ht (fun h => absurd h hP) (fun _ => kk ls hL)) (kf hP)
theorem e_if_ge {x : Int32} {off : Int} (tgt : Nat) (hd : decode (jc J) pc = .ok (.ifCond .ge off, 3)) (ht : (pc : Int) + off = (tgt : Int)) (kt : 0 ≤ x → E G J tgt lv st M Q) (kf : ¬ (0 ≤ x) → E G J (pc + 3) lv st M Q) : E G J pc lv (.int x :: st) M Q := by
  by_cases hP : 0 ≤ x
  · exact e_go (fun _ _ _ _ _ _ _ _ _ _ _ ls _ _ _ X _ _ hL kk => lv_if_ge X.1 X.2.1 hd ht (fun _ => kk ls hL) (fun h => absurd hP h)) (kt hP)
  · exact e_go (fun _ _ _ _ _ _ _ _ _ _ _ ls _ _ _ X _ _ hL kk => lv_if_ge X.1 X.2.1 hd ht (fun h => absurd h hP) (fun _ => kk ls hL)) (kf hP)
theorem e_icmp_ge {x y : Int32} {off : Int} (tgt : Nat) (hd : decode (jc J) pc = .ok (.if_icmp .ge off, 3)) (ht : (pc : Int) + off = (tgt : Int)) (kt : y ≤ x → E G J tgt lv st M Q) (kf : ¬ (y ≤ x) → E G J (pc + 3) lv st M Q) : E G J pc lv (.int y :: .int x :: st) M Q := by
  by_cases hP : y ≤ x
  · exact e_go (fun _ _ _ _ _ _ _ _ _ _ _ ls _ _ _ X _ _ hL kk => lv_icmp_ge X.1 X.2.1 hd ht (fun _ => kk ls hL) (fun h => absurd hP h)) (kt hP)
  · exact e_go (fun _ _ _ _ _ _ _ _ _ _ _ ls _ _ _ X _ _ hL kk => lv_icmp_ge X.1 X.2.1 hd ht (fun h => absurd h hP) (fun _ => kk ls hL)) (kf hP)
theorem e_if_gt {x : Int32} {off : Int} (tgt : Nat) (hd : decode (jc J) pc = .ok (.ifCond .gt off, 3)) (ht : (pc : Int) + off = (tgt : Int)) (kt : 0 < x → E G J tgt lv st M Q) (kf : ¬ (0 < x) → E G J (pc + 3) lv st M Q) : E G J pc lv (.int x :: st) M Q := by
  by_cases hP : 0 < x
  · exact e_go (fun _ _ _ _ _ _ _ _ _ _ _ ls _ _ _ X _ _ hL kk => lv_if_gt X.1 X.2.1 hd ht (fun _ => kk ls hL) (fun h => absurd hP h)) (kt hP)
  · exact e_go (fun _ _ _ _ _ _ _ _ _ _ _ ls _ _ _ X _ _ hL kk => lv_if_gt X.1 X.2.1 hd ht (fun h => absurd h hP) (fun _ => kk ls hL)) (kf hP)
theorem e_icmp_gt {x y : Int32} {off : Int} (tgt : Nat) (hd : decode (jc J) pc = .ok (.if_icmp .gt off, 3)) (ht : (pc : Int) + off = (tgt : Int)) (kt : y < x → E G J tgt lv st M Q) (kf : ¬ (y < x) → E G J (pc + 3) lv st M Q) : E G J pc lv (.int y :: .int x :: st) M Q := by
  by_cases hP : y < x
  · exact e_go (fun _ _ _ _ _ _ _ _ _ _ _ ls _ _ _ X _ _ hL kk => lv_icmp_gt X.1 X.2.1 hd ht (fun _ => kk ls hL) (fun h => absurd hP h)) (kt hP)
  · exact e_go (fun _ _ _ _ _ _ _ _ _ _ _ ls _ _ _ X _ _ hL kk => lv_icmp_gt X.1 X.2.1 hd ht (fun h => absurd h hP) (fun _ => kk ls hL)) (kf hP)
theorem e_if_le {x : Int32} {off : Int} (tgt : Nat) (hd : decode (jc J) pc = .ok (.ifCond .le off, 3)) (ht : (pc : Int) + off = (tgt : Int)) (kt : x ≤ 0 → E G J tgt lv st M Q) (kf : ¬ (x ≤ 0) → E G J (pc + 3) lv st M Q) : E G J pc lv (.int x :: st) M Q := by
  by_cases hP : x ≤ 0
  · exact e_go (fun _ _ _ _ _ _ _ _ _ _ _ ls _ _ _ X _ _ hL kk => lv_if_le X.1 X.2.1 hd ht (fun _ => kk ls hL) (fun h => absurd hP h)) (kt hP)
  · exact e_go (fun _ _ _ _ _ _ _ _ _ _ _ ls _ _ _ X _ _ hL kk => lv_if_le X.1 X.2.1 hd ht (fun h => absurd h hP) (fun _ => kk ls hL)) (kf hP)
theorem e_icmp_le {x y : Int32} {off : Int} (tgt : Nat) (hd : decode (jc J) pc = .ok (.if_icmp .le off, 3)) (ht : (pc : Int) + off = (tgt : Int)) (kt : x ≤ y → E G J tgt lv st M Q) (kf : ¬ (x ≤ y) → E G J (pc + 3) lv st M Q) : E G J pc lv (.int y :: .int x :: st) M Q := by
  by_cases hP : x ≤ y
  · exact e_go (fun _ _ _ _ _ _ _ _ _ _ _ ls _ _ _ X _ _ hL kk => lv_icmp_le X.1 X.2.1 hd ht (fun _ => kk ls hL) (fun h => absurd hP h)) (kt hP)
  · exact e_go (fun _ _ _ _ _ _ _ _ _ _ _ ls _ _ _ X _ _ hL kk => lv_icmp_le X.1 X.2.1 hd ht (fun h => absurd h hP) (fun _ => kk ls hL)) (kf hP)
theorem e_tableOut {dflt lo hi : Int} {offs : Array Int} {len : Nat} {x : Int32} (tgt : Nat) (hd : decode (jc J) pc = .ok (.tableswitch dflt lo hi offs, len)) (h : x.toInt < lo ∨ hi < x.toInt) (ht : (pc : Int) + dflt = (tgt : Int)) (k : E G J tgt lv st M Q) : E G J pc lv (.int x :: st) M Q :=
  e_go (fun _ _ _ _ _ _ _ _ _ _ _ ls _ _ _ X _ _ hL kk => lv_tableOut X.1 X.2.1 hd h ht (kk ls hL)) k
theorem e_tableIn {dflt lo hi : Int} {offs : Array Int} {len : Nat} {x : Int32} {off : Int} (tgt : Nat) (hd : decode (jc J) pc = .ok (.tableswitch dflt lo hi offs, len)) (h1 : ¬ x.toInt < lo) (h2 : ¬ hi < x.toInt) (ho : offs[(x.toInt - lo).toNat]? = some off) (ht : (pc : Int) + off = (tgt : Int)) (k : E G J tgt lv st M Q) : E G J pc lv (.int x :: st) M Q :=
  e_go (fun _ _ _ _ _ _ _ _ _ _ _ ls _ _ _ X _ _ hL kk => lv_tableIn X.1 X.2.1 hd h1 h2 ho ht (kk ls hL)) k
theorem e_lookup {dflt : Int} {ps : Array (Int × Int)} {len : Nat} {x : Int32} {off : Int} (tgt : Nat) (hd : decode (jc J) pc = .ok (.lookupswitch dflt ps, len)) (hp : (ps.toList.zip (ps.toList.drop 1)).all (fun (a, next) => a.1 < next.1) = true) (ho : Op.lookupswitch.offset ps.toList dflt x.toInt = off) (ht : (pc : Int) + off = (tgt : Int)) (k : E G J tgt lv st M Q) : E G J pc lv (.int x :: st) M Q :=
  e_go (fun _ _ _ _ _ _ _ _ _ _ _ ls _ _ _ X _ _ hL kk => lv_lookup X.1 X.2.1 hd hp ho ht (kk ls hL)) k
/-- a number on the stack gets a name -/
theorem e_topi {x : Int32} (k : ∀ y : Int32, y = x → E G J pc lv (.int y :: st) M Q) : E G J pc lv (.int x :: st) M Q := k x rfl
theorem e_topl {x : Int64} (k : ∀ y : Int64, y = x → E G J pc lv (.long y :: st) M Q) : E G J pc lv (.long x :: st) M Q := k x rfl
end RULES
