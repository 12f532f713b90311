/-! THE PURE LAYER: rows of bytes and truths, and copying -/
section MORE
variable {G : pG} {J : pJ} {pc : Nat} {lv lv' : List (Nat × Value)} {st : List Value} {M : pS} {Q : Option Value → pS → Prop}
theorem e_zald {a n : Nat} {f : Nat → Value} {i : Int32} (hd : decode (jc J) pc = .ok (.baload, 1)) (hm : M.1 a = some (.inl (.boolean, n, f))) (hin : vp_in i n) (kk : E G J (pc + 1) lv (f i.toNatClampNeg :: st) M Q) : E G J pc lv (.int i :: .ref a :: st) M Q := by
  refine e_go (fun p e R s m args below meth c H locs ls cells slots QQ X hI hS hL kk => ?_) kk
  obtain ⟨cell, h1, h2, h3, h4, -, h6⟩ := (hI.2 a _ hm).arr
  exact W.zald (v := f i.toNatClampNeg) X.1 X.2.1 h1 h2 h3 (hin.more h4) (h6 _ hin.lt) rfl rfl hd (kk ls hL)
theorem e_bast {a n : Nat} {f : Nat → Value} {i x : Int32} (hd : decode (jc J) pc = .ok (.bastore, 1)) (hb : gb G ≤ a) (hm : M.1 a = some (.inl (.byte, n, f))) (hin : vp_in i n) (kk : E G J (pc + 1) lv st (mset M a (.inl (.byte, n, updV f i.toNatClampNeg (narrow .byte (.int x))))) Q) : E G J pc lv (.int x :: .int i :: .ref a :: st) M Q := by
  refine e_goM (M1 := mset M a (.inl (.byte, n, updV f i.toNatClampNeg (narrow .byte (.int x))))) rfl (fun p e R s m args below meth c H locs ls cells slots QQ X hI hS hL kk => ?_) kk
  obtain ⟨cA, h1, h2, h3⟩ := (hI.2 a _ hm).own hb
  refine W.bast X.1 X.2.1 h1 (h2 n f) (fun q => by cases q) (by rw [arrV_size]; exact hin) rfl rfl hd fun H' e1 e2 e3 => ?_
  rw [arrV_store] at e1
  exact kk H' _ (hI.set e2 e3 (Or.inl ⟨hb, cA, e1, h2, h3⟩)) (pS_put hS hb e2 e3)
theorem e_zast {a n : Nat} {f : Nat → Value} {i x : Int32} (hd : decode (jc J) pc = .ok (.bastore, 1)) (hb : gb G ≤ a) (hm : M.1 a = some (.inl (.boolean, n, f))) (hin : vp_in i n) (kk : E G J (pc + 1) lv st (mset M a (.inl (.boolean, n, updV f i.toNatClampNeg (narrow .boolean (.int x))))) Q) : E G J pc lv (.int x :: .int i :: .ref a :: st) M Q := by
  refine e_goM (M1 := mset M a (.inl (.boolean, n, updV f i.toNatClampNeg (narrow .boolean (.int x))))) rfl (fun p e R s m args below meth c H locs ls cells slots QQ X hI hS hL kk => ?_) kk
  obtain ⟨cA, h1, h2, h3⟩ := (hI.2 a _ hm).own hb
  refine W.zast X.1 X.2.1 h1 (h2 n f) (fun q => by cases q) (by rw [arrV_size]; exact hin) rfl rfl hd fun H' e1 e2 e3 => ?_
  rw [arrV_store] at e1
  exact kk H' _ (hI.set e2 e3 (Or.inl ⟨hb, cA, e1, h2, h3⟩)) (pS_put hS hb e2 e3)
theorem nn32 (z : Int32) (hz : ¬ z < 0) : z.toInt = (z.toNatClampNeg : Int) := by
  have hz0 : (0 : Int) ≤ z.toInt := by
    have := Int32.not_lt.mp hz
    simpa using Int32.le_iff_toInt_le.mp this
  show z.toInt = ((z.toInt.toNat : Nat) : Int)
  omega
theorem e_acopyi {idx a0 a n0 n1 : Nat} {f g : Nat → Int32} {sp dp n : Int32} (hd : decode (jc J) pc = .ok (.invokestatic idx, 3)) (hl : Cond.methodLink (jy J).cls idx arraycopyName ∈ wG) (hnat : Cond.native arraycopyName ∈ wG) (hstt : Cond.static arraycopyName ∈ wG) (hini : Cond.initialized "java/lang/System" ∈ wG) (hfr : 1 ≤ jf J) (hlo : (st.map fun v => v.category).sum + 18 ≤ jn J) (hb : gb G ≤ a)
    (h0 : M.1 a0 = some (.inl (.int, n0, fun j => .int (f j)))) (h1 : M.1 a = some (.inl (.int, n1, fun j => .int (g j)))) (p1 : ¬ sp < 0) (p2 : ¬ dp < 0) (p3 : ¬ n < 0) (p4 : sp.toNatClampNeg + n.toNatClampNeg ≤ n0) (p5 : dp.toNatClampNeg + n.toNatClampNeg ≤ n1)
    (kk : E G J (pc + 3) lv st (mset M a (.inl (.int, n1, fun j => .int (va_cpy f g sp.toNatClampNeg dp.toNatClampNeg n.toNatClampNeg j)))) Q) : E G J pc lv (.int n :: .int dp :: .ref a :: .int sp :: .ref a0 :: st) M Q := by
  refine e_goM (M1 := mset M a (.inl (.int, n1, fun j => .int (va_cpy f g sp.toNatClampNeg dp.toNatClampNeg n.toNatClampNeg j)))) rfl (fun p e R s m args below meth c H locs ls cells slots QQ X hI hS hL kk => ?_) kk
  obtain ⟨cA, c1, c2, c3⟩ := (hI.2 a _ h1).own hb
  obtain ⟨cs, s1, s2, s3, s4, -, s6⟩ := (hI.2 a0 _ h0).arr
  obtain ⟨hs6, k0, hk0, cm0, hkk0⟩ := s2
  obtain ⟨-, k1, hk1, cm1, hkk1⟩ := c2 n1 (fun j => .int (g j))
  have hts := X.2.2.2.2.1
  intro T hT XX
  obtain ⟨vm', X', step⟩ := XX.arraycopy X.1 X.2.2.2.2.2.1 (hts _ hl) (hts _ hnat) (hts _ hstt) (hts _ hini) (src := a0) (dst := a) (cs := cs) (cd := arrV cA n1 (fun j => .int (g j))) (srcPos := sp) (destPos := dp) (n := n) (by rw [hT]; exact s1) (by rw [hT]; exact c1)
    hs6 (fun _ h => by cases h) s3 (fun h => by cases h) hk0 hk1 hkk0 hkk1 (by simp [refKind]) p1 p2 p3
    (by rw [nn32 sp p1, nn32 n p3]; omega)
    (by rw [nn32 dp p2, nn32 n p3]; show ¬ _ > ((arrV cA n1 (fun j => .int (g j))).slots.size : Int); rw [arrV_size]; omega)
    (fun vm₁ _ i hi => by
      have e : cs.slots.getD (sp.toNatClampNeg + i) .null = .int (f (sp.toNatClampNeg + i)) := by
        rw [Array.getD_eq_getD_getElem?, s6 _ (by omega)]
        rfl
      refine ⟨?_, ?_⟩
      · rw [e]
        rfl
      · rw [e]
        exact trivial)
    (g := F0 m pc ls (.int n :: .int dp :: .ref a :: .int sp :: .ref a0 :: st)) rfl (by rw [X.2.2.2.1]; exact hL.1) (rest := st) rfl (by rw [X.2.1]; exact hd) (Nat.le_trans hfr X.2.2.2.2.2.2.2.2.2.1) (by show 2 * 0 + _ + (7 + 11) ≤ _; have := X.2.2.2.2.2.2.2.2.2.2; omega)
  have e1 : copied cs (arrV cA n1 (fun j => .int (g j))) sp dp n = arrV cA n1 (fun j => .int (va_cpy f g sp.toNatClampNeg dp.toNatClampNeg n.toNatClampNeg j)) := va_copiedX (fun z => .int z) cs cA f g s6 p4
  rw [e1] at X' step
  have hl : a < H.size := (Array.getElem?_eq_some_iff.mp c1).1
  generalize hz : arrV cA n1 (fun j => .int (va_cpy f g sp.toNatClampNeg dp.toNatClampNeg n.toNatClampNeg j)) = cz at X' step
  have hheap : ((T.setVm vm').setCell a cz).heap = H.setIfInBounds a cz := by rw [← hT]; rfl
  have oq : ∀ q : Nat, q ≠ a → (H.setIfInBounds a cz)[q]? = H[q]? := fun q hq => by simp [Array.getElem?_setIfInBounds, Ne.symm hq]
  have oz : (H.setIfInBounds a cz).size = H.size := by simp
  have oa : (H.setIfInBounds a cz)[a]? = some cz := by simp [Array.getElem?_setIfInBounds, hl]
  have oa := oa.trans (congrArg some hz.symm)
  obtain ⟨t, a1, b1⟩ := kk (H.setIfInBounds a cz) _ (hI.set oz oq (Or.inl ⟨hb, cA, oa, c2, c3⟩)) ⟨by rw [oz]; exact hS.1, fun q g1 g2 => by
      rw [oq q (fun e => g2 (by rw [e]; exact hb))]
      exact hS.2.1 q g1 g2, fun q hq => by
      rcases List.mem_append.mp hq with h | h
      · exact hS.2.2 q h
      · obtain ⟨z, -, hz⟩ := List.mem_map.mp h
        rw [← hz]
        exact hb⟩ _ hheap X'
  exact ⟨t, step t a1, b1⟩
theorem e_acopyl {idx a0 a n0 n1 : Nat} {f g : Nat → Int64} {sp dp n : Int32} (hd : decode (jc J) pc = .ok (.invokestatic idx, 3)) (hl : Cond.methodLink (jy J).cls idx arraycopyName ∈ wG) (hnat : Cond.native arraycopyName ∈ wG) (hstt : Cond.static arraycopyName ∈ wG) (hini : Cond.initialized "java/lang/System" ∈ wG) (hfr : 1 ≤ jf J) (hlo : (st.map fun v => v.category).sum + 18 ≤ jn J) (hb : gb G ≤ a)
    (h0 : M.1 a0 = some (.inl (.long, n0, fun j => .long (f j)))) (h1 : M.1 a = some (.inl (.long, n1, fun j => .long (g j)))) (p1 : ¬ sp < 0) (p2 : ¬ dp < 0) (p3 : ¬ n < 0) (p4 : sp.toNatClampNeg + n.toNatClampNeg ≤ n0) (p5 : dp.toNatClampNeg + n.toNatClampNeg ≤ n1)
    (kk : E G J (pc + 3) lv st (mset M a (.inl (.long, n1, fun j => .long (va_cpy f g sp.toNatClampNeg dp.toNatClampNeg n.toNatClampNeg j)))) Q) : E G J pc lv (.int n :: .int dp :: .ref a :: .int sp :: .ref a0 :: st) M Q := by
  refine e_goM (M1 := mset M a (.inl (.long, n1, fun j => .long (va_cpy f g sp.toNatClampNeg dp.toNatClampNeg n.toNatClampNeg j)))) rfl (fun p e R s m args below meth c H locs ls cells slots QQ X hI hS hL kk => ?_) kk
  obtain ⟨cA, c1, c2, c3⟩ := (hI.2 a _ h1).own hb
  obtain ⟨cs, s1, s2, s3, s4, -, s6⟩ := (hI.2 a0 _ h0).arr
  obtain ⟨hs6, k0, hk0, cm0, hkk0⟩ := s2
  obtain ⟨-, k1, hk1, cm1, hkk1⟩ := c2 n1 (fun j => .long (g j))
  have hts := X.2.2.2.2.1
  intro T hT XX
  obtain ⟨vm', X', step⟩ := XX.arraycopy X.1 X.2.2.2.2.2.1 (hts _ hl) (hts _ hnat) (hts _ hstt) (hts _ hini) (src := a0) (dst := a) (cs := cs) (cd := arrV cA n1 (fun j => .long (g j))) (srcPos := sp) (destPos := dp) (n := n) (by rw [hT]; exact s1) (by rw [hT]; exact c1)
    hs6 (fun _ h => by cases h) s3 (fun h => by cases h) hk0 hk1 hkk0 hkk1 (by simp [refKind]) p1 p2 p3
    (by rw [nn32 sp p1, nn32 n p3]; omega)
    (by rw [nn32 dp p2, nn32 n p3]; show ¬ _ > ((arrV cA n1 (fun j => .long (g j))).slots.size : Int); rw [arrV_size]; omega)
    (fun vm₁ _ i hi => by
      have e : cs.slots.getD (sp.toNatClampNeg + i) .null = .long (f (sp.toNatClampNeg + i)) := by
        rw [Array.getD_eq_getD_getElem?, s6 _ (by omega)]
        rfl
      refine ⟨?_, ?_⟩
      · rw [e]
        rfl
      · rw [e]
        exact trivial)
    (g := F0 m pc ls (.int n :: .int dp :: .ref a :: .int sp :: .ref a0 :: st)) rfl (by rw [X.2.2.2.1]; exact hL.1) (rest := st) rfl (by rw [X.2.1]; exact hd) (Nat.le_trans hfr X.2.2.2.2.2.2.2.2.2.1) (by show 2 * 0 + _ + (7 + 11) ≤ _; have := X.2.2.2.2.2.2.2.2.2.2; omega)
  have e1 : copied cs (arrV cA n1 (fun j => .long (g j))) sp dp n = arrV cA n1 (fun j => .long (va_cpy f g sp.toNatClampNeg dp.toNatClampNeg n.toNatClampNeg j)) := va_copiedX (fun z => .long z) cs cA f g s6 p4
  rw [e1] at X' step
  have hl : a < H.size := (Array.getElem?_eq_some_iff.mp c1).1
  generalize hz : arrV cA n1 (fun j => .long (va_cpy f g sp.toNatClampNeg dp.toNatClampNeg n.toNatClampNeg j)) = cz at X' step
  have hheap : ((T.setVm vm').setCell a cz).heap = H.setIfInBounds a cz := by rw [← hT]; rfl
  have oq : ∀ q : Nat, q ≠ a → (H.setIfInBounds a cz)[q]? = H[q]? := fun q hq => by simp [Array.getElem?_setIfInBounds, Ne.symm hq]
  have oz : (H.setIfInBounds a cz).size = H.size := by simp
  have oa : (H.setIfInBounds a cz)[a]? = some cz := by simp [Array.getElem?_setIfInBounds, hl]
  have oa := oa.trans (congrArg some hz.symm)
  obtain ⟨t, a1, b1⟩ := kk (H.setIfInBounds a cz) _ (hI.set oz oq (Or.inl ⟨hb, cA, oa, c2, c3⟩)) ⟨by rw [oz]; exact hS.1, fun q g1 g2 => by
      rw [oq q (fun e => g2 (by rw [e]; exact hb))]
      exact hS.2.1 q g1 g2, fun q hq => by
      rcases List.mem_append.mp hq with h | h
      · exact hS.2.2 q h
      · obtain ⟨z, -, hz⟩ := List.mem_map.mp h
        rw [← hz]
        exact hb⟩ _ hheap X'
  exact ⟨t, step t a1, b1⟩
end MORE
