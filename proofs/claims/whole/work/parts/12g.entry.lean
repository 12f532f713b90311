/-! the entry: what the start holds -/
theorem tb1 {w : Cond} (i : Nat) (h : tables_1_1[i]? = some w) : w ∈ lw_tbl := List.mem_append_right _ (show w ∈ tables_1 from List.mem_append_left _ (List.mem_of_getElem? h))
theorem tb2 {w : Cond} (i : Nat) (h : tables_1_2[i]? = some w) : w ∈ lw_tbl := List.mem_append_right _ (show w ∈ tables_1 from List.mem_append_right _ (List.mem_append_left _ (List.mem_of_getElem? h)))
theorem tb3 {w : Cond} (i : Nat) (h : tables_1_3[i]? = some w) : w ∈ lw_tbl := List.mem_append_right _ (show w ∈ tables_1 from List.mem_append_right _ (List.mem_append_right _ (List.mem_append_left _ (List.mem_of_getElem? h))))
theorem tb5 {w : Cond} (i : Nat) (h : tables_1_5[i]? = some w) : w ∈ lw_tbl := List.mem_append_right _ (show w ∈ tables_1 from List.mem_append_right _ (List.mem_append_right _ (List.mem_append_right _ (List.mem_append_right _ (List.mem_append_left _ (List.mem_of_getElem? h))))))
section EN
variable {args : Array Value} {s : State}
theorem en_nest (hts : ∀ w ∈ lw_tbl, w.before args s = true) : ∀ z ∈ pNest, va_Nw (.methodLinkNest z.1 z.2.1 z.2.2.1 z.2.2.2) s :=
  List.forall_mem_cons.mpr ⟨va_Nw.of (A := args) rfl (hts _ (tb1 39 rfl)), List.forall_mem_cons.mpr ⟨va_Nw.of (A := args) rfl (hts _ (tb1 45 rfl)), List.forall_mem_cons.mpr ⟨va_Nw.of (A := args) rfl (hts _ (tb1 58 rfl)), List.forall_mem_cons.mpr ⟨va_Nw.of (A := args) rfl (hts _ (tb1 129 rfl)), List.forall_mem_cons.mpr ⟨va_Nw.of (A := args) rfl (hts _ (tb1 153 rfl)), fun _ h => absurd h List.not_mem_nil⟩⟩⟩⟩⟩
theorem en_over (hts : ∀ w ∈ lw_tbl, w.before args s = true) : ∀ C ∈ pOver, va_AO C s :=
  List.forall_mem_cons.mpr ⟨va_AO.of (A := args) (hts _ (tb1 100 rfl)), fun _ h => absurd h List.not_mem_nil⟩
theorem en_cls (hw : ∀ w ∈ wG, w.before args s = true) : ∀ q ∈ vwCl, ∃ (cC : ClassId) (iS : Nat → Nat), u_Kn s q.1 q.2.1 q.2.2 cC iS :=
  List.forall_mem_cons.mpr ⟨u_known hw in_0 (hw _ w_24), List.forall_mem_cons.mpr ⟨u_known hw in_1 (hw _ w_174), List.forall_mem_cons.mpr ⟨u_known hw in_2 (hw _ w_152), List.forall_mem_cons.mpr ⟨u_known hw in_3 (hw _ w_57), List.forall_mem_cons.mpr ⟨u_known hw in_4 (hw _ w_128), List.forall_mem_cons.mpr ⟨u_known hw in_5 (hw _ w_38), List.forall_mem_cons.mpr ⟨u_known hw in_6 (hw _ w_146), List.forall_mem_cons.mpr ⟨u_known hw in_7 (hw _ w_110), List.forall_mem_cons.mpr ⟨u_known hw in_8 (hw _ w_44), List.forall_mem_cons.mpr ⟨u_known hw in_9 (hw _ w_94), List.forall_mem_cons.mpr ⟨u_known hw in_10 (hw _ w_16), List.forall_mem_cons.mpr ⟨u_known hw in_11 (hw _ w_860), fun _ h => absurd h List.not_mem_nil⟩⟩⟩⟩⟩⟩⟩⟩⟩⟩⟩⟩
theorem en_K (hw : ∀ w ∈ wG, w.before args s = true) : ∃ D : va_G, va_K D vwCl [] s := by
  have h : ∀ c : Nat, ∃ D : ClassId × (Nat → Nat), ∀ q : vw_C, vwCl[c]? = some q → u_Kn s q.1 q.2.1 q.2.2 D.1 D.2 := by
    intro c
    cases hq : vwCl[c]? with
    | none =>
      obtain ⟨cC, iS, -⟩ := en_cls hw _ List.mem_cons_self
      exact ⟨(cC, iS), fun q h => by cases h⟩
    | some q =>
      obtain ⟨cC, iS, h⟩ := en_cls hw q (List.mem_of_getElem? hq)
      exact ⟨(cC, iS), fun q' h' => by cases h'; exact h⟩
  exact ⟨(fun c => (Classical.choose (h c)).1, fun c => (Classical.choose (h c)).2), fun c q hq => Classical.choose_spec (h c) q hq, fun k q hq => by simp at hq⟩
theorem en_row (h : (Jvm.Cond.and given_1 narrow_1).before args s = true) {A : Nat → Prop} (hA : ∀ a : Nat, a < s.heap.size → ¬ A a) {C n : String} {N : Nat} {f : Nat → Int32} (hN : N < 2 ^ 31)
    (h1 : Cond.arrayOf (.static C n "[I") .int ∈ flatC (Jvm.Cond.and given_1 narrow_1)) (h2 : Cond.eq (.length (.static C n "[I")) (.int (Int32.ofNat N)) ∈ flatC (Jvm.Cond.and given_1 narrow_1))
    (h3 : ∀ j, j < N → Cond.eq (.elem (.static C n "[I") (.int (Int32.ofNat j))) (.int (f j)) ∈ flatC (Jvm.Cond.and given_1 narrow_1)) (hl : (Cond.laysStatic C n "[I").before args s = true) (hi : (Cond.initialized C).before args s = true) :
    ∃ t : Nat, va_T .int t N (fun j => .int (f j)) A s s.heap ∧ va_Z C n "[I" (.ref t) A s s.heap := by
  have hs := flat_of_before _ h
  obtain ⟨t, e1, e2⟩ := va_Tof (f := fun j => .int (f j)) hN (hs _ h1) (va_eqt (hs _ h2)) (fun j hj => va_eqt (hs _ (h3 j hj))) hA
  exact ⟨t, e2, va_Zref hl hi e1 hA⟩
end EN
set_option maxRecDepth 100000 in
theorem nr_0 : ∀ j, j < 8 → Cond.eq (.elem (.static "SealedWire$Hash" "START" "[I") (.int (Int32.ofNat j))) (.int (ro 0 j)) ∈ flatC (Jvm.Cond.and given_1 narrow_1) := by decide +kernel
set_option maxRecDepth 100000 in
theorem nr_1 : ∀ j, j < 64 → Cond.eq (.elem (.static "SealedWire$Hash" "ROUNDS" "[I") (.int (Int32.ofNat j))) (.int (ro 1 j)) ∈ flatC (Jvm.Cond.and given_1 narrow_1) := by decide +kernel
set_option maxRecDepth 100000 in
theorem nr_2 : ∀ j, j < 4 → Cond.eq (.elem (.static "SealedWire$Stream" "CONSTANTS" "[I") (.int (Int32.ofNat j))) (.int (ro 2 j)) ∈ flatC (Jvm.Cond.and given_1 narrow_1) := by decide +kernel
set_option maxRecDepth 100000 in
theorem nr_3 : ∀ j, j < 64 → Cond.eq (.elem (.static "SealedWireModel" "ROUND" "[I") (.int (Int32.ofNat j))) (.int (ro 3 j)) ∈ flatC (Jvm.Cond.and given_1 narrow_1) := by decide +kernel
set_option maxRecDepth 100000 in
theorem nr_4 : ∀ j, j < 8 → Cond.eq (.elem (.static "SealedWireModel" "BEGIN" "[I") (.int (Int32.ofNat j))) (.int (ro 4 j)) ∈ flatC (Jvm.Cond.and given_1 narrow_1) := by decide +kernel
section EM
variable {args : Array Value} {s : State}
theorem en_st (h : (Jvm.Cond.and given_1 narrow_1).before args s = true) (hts : ∀ w ∈ lw_tbl, w.before args s = true) {A : Nat → Prop} (hA : ∀ a : Nat, a < s.heap.size → ¬ A a) :
    ∃ t : Nat → Nat, (∀ z ∈ rot t, va_T .int z.1 z.2.1 (fun j => .int (z.2.2 j)) A s s.heap) ∧ ∀ z ∈ stt t, va_Z z.1 z.2.1 z.2.2.1 z.2.2.2 A s s.heap := by
  obtain ⟨t0, a0, b0⟩ := en_row h hA (C := "SealedWire$Hash") (n := "START") (N := 8) (f := ro 0) (by decide) (by decide +kernel) (by decide +kernel) nr_0 (hts _ (tb2 132 rfl)) (hts _ (tb1 10 rfl))
  obtain ⟨t1, a1, b1⟩ := en_row h hA (C := "SealedWire$Hash") (n := "ROUNDS") (N := 64) (f := ro 1) (by decide) (by decide +kernel) (by decide +kernel) nr_1 (hts _ (tb2 150 rfl)) (hts _ (tb1 10 rfl))
  obtain ⟨t2, a2, b2⟩ := en_row h hA (C := "SealedWire$Stream") (n := "CONSTANTS") (N := 4) (f := ro 2) (by decide) (by decide +kernel) (by decide +kernel) nr_2 (hts _ (tb3 25 rfl)) (hts _ (tb1 4 rfl))
  obtain ⟨t3, a3, b3⟩ := en_row h hA (C := "SealedWireModel") (n := "ROUND") (N := 64) (f := ro 3) (by decide) (by decide +kernel) (by decide +kernel) nr_3 (hts _ (tb5 119 rfl)) (hts _ (tb1 12 rfl))
  obtain ⟨t4, a4, b4⟩ := en_row h hA (C := "SealedWireModel") (n := "BEGIN") (N := 8) (f := ro 4) (by decide) (by decide +kernel) (by decide +kernel) nr_4 (hts _ (tb5 109 rfl)) (hts _ (tb1 12 rfl))
  refine ⟨fun k => [t0, t1, t2, t3, t4].getD k 0, ?_, ?_⟩
  · exact List.forall_mem_cons.mpr ⟨a0, List.forall_mem_cons.mpr ⟨a1, List.forall_mem_cons.mpr ⟨a2, List.forall_mem_cons.mpr ⟨a3, List.forall_mem_cons.mpr ⟨a4, fun _ h => absurd h List.not_mem_nil⟩⟩⟩⟩⟩
  · exact List.forall_mem_cons.mpr ⟨b0, List.forall_mem_cons.mpr ⟨b1, List.forall_mem_cons.mpr ⟨b2, List.forall_mem_cons.mpr ⟨b3, List.forall_mem_cons.mpr ⟨b4, fun _ h => absurd h List.not_mem_nil⟩⟩⟩⟩⟩
end EM
theorem rot_eq {t : Nat → Nat} : ∀ z1 ∈ rot t, ∀ z2 ∈ rot t, Int32.ofNat z1.2.1 = Int32.ofNat z2.2.1 → z1.2 = z2.2 := by
  intro z1 h1 z2 h2 h
  simp only [rot, List.mem_cons, List.not_mem_nil, or_false] at h1 h2
  rcases h1 with rfl | rfl | rfl | rfl | rfl <;> rcases h2 with rfl | rfl | rfl | rfl | rfl <;> first | rfl | (dsimp only at h; exact absurd h (by decide))
theorem rot_le {t : Nat → Nat} : ∀ z ∈ rot t, z.2.1 ≤ 64 := by
  intro z h
  simp only [rot, List.mem_cons, List.not_mem_nil, or_false] at h
  rcases h with rfl | rfl | rfl | rfl | rfl <;> dsimp only <;> decide
/-- the picture of the start -/
def M0f (t : Nat → Nat) (b L : Nat) (xs : Nat → Int32) (q : Nat) : Option pE := match (rot t).find? (fun z => z.1 == q) with
  | some z => some (.inl (.int, z.2.1, fun j => .int (z.2.2 j)))
  | none => if q = b then some (.inl (.int, L, fun j => .int (xs j))) else none
theorem rot_find {t : Nat → Nat} {q : Nat} {z : Nat × Nat × (Nat → Int32)} (h : (rot t).find? (fun z => z.1 == q) = some z) : z ∈ rot t ∧ z.1 = q := by
  have h2 := List.find?_some h
  exact ⟨List.mem_of_find?_eq_some h, by simpa using h2⟩
section EP
variable {s : State} {A : Nat → Prop} {t : Nat → Nat}
theorem M0f_row (hT : ∀ z ∈ rot t, va_T .int z.1 z.2.1 (fun j => .int (z.2.2 j)) A s s.heap) {b L : Nat} {xs : Nat → Int32} {z : Nat × Nat × (Nat → Int32)} (hz : z ∈ rot t) : M0f t b L xs z.1 = some (.inl (.int, z.2.1, fun j => .int (z.2.2 j))) := by
  unfold M0f
  cases hf : (rot t).find? (fun w => w.1 == z.1) with
  | none =>
    have h1 := List.find?_eq_none.mp hf z hz
    simp at h1
  | some w =>
    obtain ⟨h1, h2⟩ := rot_find hf
    have e : w.2 = z.2 := by
      refine rot_eq w h1 z hz ?_
      obtain ⟨c1, d1, -, -, -, d2, -⟩ := hT w h1
      obtain ⟨c2, g1, -, -, -, g2, -⟩ := hT z hz
      rw [h2, g1] at d1
      cases d1
      rw [← d2, ← g2]
    show some _ = some _
    rw [e]
theorem M0f_scr (hT : ∀ z ∈ rot t, va_T .int z.1 z.2.1 (fun j => .int (z.2.2 j)) A s s.heap) {b L : Nat} {xs : Nat → Int32} (hX : va_X b L xs s s.heap) (hL : L ≤ 3073) (z k : Nat) : SCR b L xs (M0f t b L xs, z, k) := by
  show ∃ f : Nat → Value, M0f t b L xs b = some (.inl (.int, L, f)) ∧ ∀ j, j < L → f j = .int (xs j)
  unfold M0f
  cases hf : (rot t).find? (fun w => w.1 == b) with
  | none => exact ⟨fun j => .int (xs j), if_pos rfl, fun j _ => rfl⟩
  | some w =>
    obtain ⟨h1, h2⟩ := rot_find hf
    obtain ⟨c1, d1, -, -, d0, d2, d3, -⟩ := hT w h1
    obtain ⟨c2, g1, -, -, g2, g3⟩ := hX
    rw [h2, g1] at d1
    cases d1
    have hN := rot_le w h1
    have e : w.2.1 = L := by
      rw [g2] at d2
      have d4 : (Int32.ofNat L) = Int32.ofNat w.2.1 := d2
      have d5 := congrArg Int32.toInt d4
      rw [Int32.toInt_ofNat_of_lt (by omega), Int32.toInt_ofNat_of_lt (by omega)] at d5
      omega
    refine ⟨fun j => .int (w.2.2 j), by rw [← e], fun j hj => ?_⟩
    have d6 := d3 j (by omega)
    rw [g3 j hj] at d6
    exact (Option.some.inj d6).symm
end EP
