/-! THE PURE LAYER: calls -/
theorem pG_in (K : pJ) (hc : Cond.code (jy K) (jc K) (jl K) (jr K) ∈ wG) : GoodIn wG (pW K) := by
  intro w hw
  rcases List.mem_cons.mp hw with h | h
  · rw [h]; exact ⟨hc, good_of_word (wG_good _ hc).2⟩
  · exact ⟨h, good_of_word (wG_good _ h).2⟩
/-- what a call of K needs of the words, whoever calls -/
def LK (K : pJ) (n : Nat) : Prop := Cond.code (jy K) (jc K) (jl K) (jr K) ∈ wG ∧ Cond.initialized (jy K).cls ∈ wG ∧ (jy K).cls ≠ "java/lang/invoke/MethodHandle" ∧ (jy K).cls ≠ "java/lang/invoke/VarHandle" ∧ (parseMethodDescriptor (jy K).desc).map (fun d => d.parameters.length) = some n
def pPc (G : pG) (av : List Value) (M : pS) : Array Value → State → Prop := va_Pc av (fun U => pK G U ∧ pI G M U U.heap)
theorem pPc.blind {G : pG} {av : List Value} {M : pS} : FrameBlind (pPc G av M) := fun a U g mk q => ⟨q.1, q.2.1.blind, q.2.2.moved (u := U) (U := U.calling g mk a) (Vm.Alike.refl U.vm)⟩
section CALL
variable {G : pG} {J K : pJ} {pc n idx : Nat} {lv : List (Nat × Value)} {st rest As : List Value} {M : pS} {Q : Option Value → pS → Prop}
/-- behind any call -/
theorem e_ran {av : List Value}
    (f : ∀ (M1 : pS) (r1 : Option Value) (p : Program) (e : Env) (R : Room) (s : State) (m : MethodId) (args : Array Value) (below : List Frame) (meth : Method) (c : Code) (H : Heap) (locs : List Loc) (ls : Array Slot) (cells slots : Nat), Cv G K av M r1 M1 → Cx G J p R s m args meth c → pI G M s H → va_S (pA G) s.heap H locs → lv_has ls (jl J) lv → cells + (M1.2.1 - M.2.1) ≤ R.cells ∧ slots + (M1.2.2 - M.2.2) ≤ R.slots → va_Run p G.1 e R s m args below meth c H locs cells slots (M1.2.1 - M.2.1) (M1.2.2 - M.2.2) (F0 m pc ls st) rest (pQ G M1 r1 av.toArray) (pA G))
    (k : C G K av M (fun r M1 => E G J (pc + 3) lv (r.toList ++ rest) M1 Q)) : E G J pc lv st M Q := by
  obtain ⟨r1, M1, hC, r, M', ⟨h1, h2, h3⟩, hQ⟩ := k
  have a1 := hC.1
  have a2 := hC.2.1
  refine ⟨r, M', ⟨Nat.le_trans a1 h1, Nat.le_trans a2 h2, ?_⟩, hQ⟩
  intro p e R s m args below meth c H locs ls cells slots X hI hS hL hc hs T hT XX
  obtain ⟨v, st₀, t, T', L, e0, X', hL', e1, e2, ⟨hv, hI1, hF⟩, go⟩ := f M1 r1 p e R s m args below meth c H locs ls cells slots hC X hI hS hL ⟨by omega, by omega⟩ T hT XX
  cases hv
  have hal : s.vm.Alike t.vm := by rw [← e2]; exact X'.warmed.alike
  have hS1 : va_S (pA G) s.heap T'.heap (locs ++ L) := by
    obtain ⟨f1, f2⟩ := hF
    rw [e0] at f1 f2
    refine ⟨by rw [e1]; exact Nat.le_trans hS.1 f1, fun q q1 q2 => ?_, fun q hq => ?_⟩
    · rw [e1, f2 q (Nat.lt_of_lt_of_le q1 hS.1) q2]
      exact hS.2.1 q q1 q2
    · rcases List.mem_append.mp hq with h | h
      · exact hS.2.2 q h
      · exact hL' q h
  obtain ⟨t2, b1, b2⟩ := h3 p e R s m args below meth c T'.heap (locs ++ L) ls (cells + (M1.2.1 - M.2.1)) (slots + (M1.2.2 - M.2.2)) X (by rw [e1]; exact hI1.moved hal.symm) hS1 hL (by omega) (by omega) T' rfl X'
  have g1 : cells + (M1.2.1 - M.2.1) + (M'.2.1 - M1.2.1) = cells + (M'.2.1 - M.2.1) := by omega
  have g2 : slots + (M1.2.2 - M.2.2) + (M'.2.2 - M1.2.2) = slots + (M'.2.2 - M.2.2) := by omega
  rw [g1, g2] at b2
  exact ⟨t2, go t2 b1, b2⟩
theorem e_callV {b ci : Nat} {fs : Nat → Value} {r0 : vw_C} (hd : decode (jc J) pc = .ok (.invokevirtual idx, 3)) (hK : LK K n) (hl : Cond.methodLink (jy J).cls idx (jy K) ∈ wG) (hi : Cond.instanceMethod (jy K) ∈ wG) (hse : Cond.selects (jy K).cls (jy K) (jy K) ∈ wG) (hfr : jf K + 1 ≤ jf J) (hlo : 8 + (jl K + 11) + jn K ≤ jn J)
    (hn : As.length = n) (hst : st = As.reverse ++ .ref b :: rest) (hroom : (rest.map fun v => v.category).sum ≤ 8) (hm : M.1 b = some (.inr (ci, fs))) (hc : vwCl[ci]? = some r0) (hcl : r0.1 = (jy K).cls)
    (k : C G K (.ref b :: As) M (fun r M1 => E G J (pc + 3) lv (r.toList ++ rest) M1 Q)) : E G J pc lv st M Q := by
  refine e_ran (fun M1 r1 p e R s m args below meth c H locs ls cells slots hC X hI hS hL hr => ?_) k
  have hts := X.2.2.2.2.1
  have hR : (pR K (M1.2.1 - M.2.1) (M1.2.2 - M.2.2)).frames + 1 ≤ R.frames ∧ 8 + (jl K + 11) + (pR K (M1.2.1 - M.2.1) (M1.2.2 - M.2.2)).locals ≤ R.locals := ⟨Nat.le_trans hfr X.2.2.2.2.2.2.2.2.2.1, Nat.le_trans hlo X.2.2.2.2.2.2.2.2.2.2⟩
  have cb := callB_of (R := R) (own := (jy J).cls) (index := idx) (ws' := wG) n hts (pG_in K hK.1) rfl rfl rfl (hts _ hK.2.1) (hts _ hl) ⟨hK.2.2.1, hK.2.2.2.1, hK.2.2.2.2⟩ hR
  refine va_runV (C := (jy K).cls) (b := b) (As := As) ⟨X.1, X.2.1, X.2.2.2.1, X.2.2.2.2.2.1, hts⟩ hC.2.2 ⟨cb, hts _ hi, hts _ hse⟩ ⟨pPc.blind, ?_, fun U hU hW => ⟨rfl, X.2.2.2.2.2.2.2.2.1.at hW hS hU, by rw [hU]; exact hI.moved hW.alike⟩⟩ rfl hn hL.1 hst (lv_room hroom) hd hr
  obtain ⟨-, r', h1, cell, h2, h3, h4, -⟩ := hI.2 b _ hm
  have hr0 : r' = r0 := Option.some.inj (h1.symm.trans hc)
  subst hr0
  exact ⟨cell, h2, by rw [h4]; rfl, by rw [h3, ← hcl]; exact (X.2.2.2.2.2.2.2.2.1.1.1 ci _ hc).2.1⟩
theorem e_callS (hd : decode (jc J) pc = .ok (.invokestatic idx, 3)) (hK : LK K n) (hl : Cond.methodLink (jy J).cls idx (jy K) ∈ wG) (hi : Cond.static (jy K) ∈ wG) (hfr : jf K + 1 ≤ jf J) (hlo : 8 + (jl K + 11) + jn K ≤ jn J)
    (hn : As.length = n) (hst : st = As.reverse ++ rest) (hroom : (rest.map fun v => v.category).sum ≤ 8)
    (k : C G K As M (fun r M1 => E G J (pc + 3) lv (r.toList ++ rest) M1 Q)) : E G J pc lv st M Q := by
  refine e_ran (fun M1 r1 p e R s m args below meth c H locs ls cells slots hC X hI hS hL hr => ?_) k
  have hts := X.2.2.2.2.1
  have hR : (pR K (M1.2.1 - M.2.1) (M1.2.2 - M.2.2)).frames + 1 ≤ R.frames ∧ 8 + (jl K + 11) + (pR K (M1.2.1 - M.2.1) (M1.2.2 - M.2.2)).locals ≤ R.locals := ⟨Nat.le_trans hfr X.2.2.2.2.2.2.2.2.2.1, Nat.le_trans hlo X.2.2.2.2.2.2.2.2.2.2⟩
  have cb := callB_of (R := R) (own := (jy J).cls) (index := idx) (ws' := wG) n hts (pG_in K hK.1) rfl rfl rfl (hts _ hK.2.1) (hts _ hl) ⟨hK.2.2.1, hK.2.2.2.1, hK.2.2.2.2⟩ hR
  exact va_runS (As := As) ⟨X.1, X.2.1, X.2.2.2.1, X.2.2.2.2.2.1, hts⟩ hC.2.2 ⟨cb, hts _ hi⟩ ⟨pPc.blind, fun U hU hW => ⟨rfl, X.2.2.2.2.2.2.2.2.1.at hW hS hU, by rw [hU]; exact hI.moved hW.alike⟩⟩ rfl hn hL.1 hst (lv_room hroom) hd hr
theorem e_callI {b : Nat} (hd : decode (jc J) pc = .ok (.invokespecial idx, 3)) (hK : LK K n) (hrt : jr K = none) (hl : Cond.methodLink (jy J).cls idx (jy K) ∈ wG) (hi : Cond.instanceMethod (jy K) ∈ wG) (hin : (jy K).name = "<init>") (hfr : jf K + 1 ≤ jf J) (hlo : 8 + (jl K + 11) + jn K ≤ jn J)
    (hn : As.length = n) (hst : st = As.reverse ++ .ref b :: rest) (hroom : (rest.map fun v => v.category).sum ≤ 8)
    (k : C G K (.ref b :: As) M (fun r M1 => E G J (pc + 3) lv (r.toList ++ rest) M1 Q)) : E G J pc lv st M Q := by
  refine e_ran (fun M1 r1 p e R s m args below meth c H locs ls cells slots hC X hI hS hL hr => ?_) k
  have hts := X.2.2.2.2.1
  have hR : (pR K (M1.2.1 - M.2.1) (M1.2.2 - M.2.2)).frames + 1 ≤ R.frames ∧ 8 + (jl K + 11) + (pR K (M1.2.1 - M.2.1) (M1.2.2 - M.2.2)).locals ≤ R.locals := ⟨Nat.le_trans hfr X.2.2.2.2.2.2.2.2.2.1, Nat.le_trans hlo X.2.2.2.2.2.2.2.2.2.2⟩
  have cb := callB_of (R := R) (own := (jy J).cls) (index := idx) (ws' := wG) n hts (pG_in K hK.1) rfl rfl rfl (hts _ hK.2.1) (hts _ hl) ⟨hK.2.2.1, hK.2.2.2.1, hK.2.2.2.2⟩ hR
  rw [hrt] at cb
  exact va_runI (b := b) (As := As) ⟨X.1, X.2.1, X.2.2.2.1, X.2.2.2.2.2.1, hts⟩ hC.2.2 ⟨cb, hin, hts _ hi⟩ ⟨pPc.blind, fun U hU hW => ⟨rfl, X.2.2.2.2.2.2.2.2.1.at hW hS hU, by rw [hU]; exact hI.moved hW.alike⟩⟩ rfl hn hL.1 hst (lv_room hroom) hd hr
theorem e_callIN {b : Nat} {host : String} (hd : decode (jc J) pc = .ok (.invokespecial idx, 3)) (hK : LK K n) (hrt : jr K = none) (hl : ((jy J).cls, idx, jy K, host) ∈ pNest) (hi : Cond.instanceMethod (jy K) ∈ wG) (hin : (jy K).name = "<init>") (hfr : jf K + 1 ≤ jf J) (hlo : 8 + (jl K + 11) + jn K ≤ jn J)
    (hn : As.length = n) (hst : st = As.reverse ++ .ref b :: rest) (hroom : (rest.map fun v => v.category).sum ≤ 8)
    (k : C G K (.ref b :: As) M (fun r M1 => E G J (pc + 3) lv (r.toList ++ rest) M1 Q)) : E G J pc lv st M Q := by
  refine e_ran (fun M1 r1 p e R s m args below meth c H locs ls cells slots hC X hI hS hL hr => ?_) k
  have hts := X.2.2.2.2.1
  have hR : (pR K (M1.2.1 - M.2.1) (M1.2.2 - M.2.2)).frames + 1 ≤ R.frames ∧ 8 + (jl K + 11) + (pR K (M1.2.1 - M.2.1) (M1.2.2 - M.2.2)).locals ≤ R.locals := ⟨Nat.le_trans hfr X.2.2.2.2.2.2.2.2.2.1, Nat.le_trans hlo X.2.2.2.2.2.2.2.2.2.2⟩
  have cb := va_cnB (R := R) (own := (jy J).cls) (host := host) (index := idx) (ws' := wG) n hts (pG_in K hK.1) rfl rfl rfl (X.2.2.2.2.2.2.2.2.1.2.2.2.1 _ hl) (hts _ hK.2.1) ⟨hK.2.2.1, hK.2.2.2.1, hK.2.2.2.2⟩ hR
  rw [hrt] at cb
  exact va_runIN (b := b) (As := As) ⟨X.1, X.2.1, X.2.2.2.1, X.2.2.2.2.2.1, hts⟩ hC.2.2 ⟨cb, hin, hts _ hi⟩ ⟨pPc.blind, fun U hU hW => ⟨rfl, X.2.2.2.2.2.2.2.2.1.at hW hS hU, by rw [hU]; exact hI.moved hW.alike⟩⟩ rfl hn hL.1 hst (lv_room hroom) hd hr
/-- Object's own constructor -/
theorem e_objInit {b : Nat} (hd : decode (jc J) pc = .ok (.invokespecial idx, 3)) (hl : Cond.methodLink (jy J).cls idx objectInit ∈ wG) (hi : Cond.instanceMethod objectInit ∈ wG) (hco : Cond.code objectInit ⟨#[0xb1]⟩ 1 none ∈ wG) (hfr : 1 ≤ jf J) (hlo : (st.map fun v => v.category).sum + 12 ≤ jn J)
    (k : E G J (pc + 3) lv st M Q) : E G J pc lv (.ref b :: st) M Q := by
  refine e_go (fun p e R s m args below meth c H locs ls cells slots QQ X hI hS hL kk => ?_) k
  have hts := X.2.2.2.2.1
  exact W.objInit X.1 X.2.1 X.2.2.2.2.2.1 (hts _ hl) (hts _ hi) (hts _ hco) rfl (by rw [X.2.2.2.1]; exact hL.1) rfl hd (Nat.le_trans hfr X.2.2.2.2.2.2.2.2.2.1) (by show 2 * 0 + _ + 12 ≤ _; have := X.2.2.2.2.2.2.2.2.2.2; omega) (kk ls hL)
end CALL
