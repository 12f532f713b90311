/-! THE CLAIM OUT OF ONE WALK OF THE LAW'S BODY. Your part is whole_start (and what it stands on); all else here is the same for every law, but numbers. -/
def R_law : String := "SealedWireLaw"
def lw_P (b : Addr) (xs : List Int32) (args : Array Value) (s : State) : Prop := args = #[.ref b] ∧ s.IntsAt b xs ∧ xs.length ≤ 3073 ∧ (Jvm.Cond.and given_1 narrow_1).before args s = true
def lw_Q (_ : Array Value) (s : State) (o : Outcome) (t : State) : Prop := o = .returned (some (.int 1)) ∧ Framed s o t [] 600000 7302250
def lw_Z (below : List Frame) (a : Array Value) (s : State) : State → Prop := fun t => ∃ o, t.status = .running ∧ Ended t below o ∧ lw_Q a s o t
/-- what holds at the law's entry: the machine, the code, the tables' words (any of lw_tbl by 'hts w (by decide +kernel)'), the script of L ints xs at the cell b, what the Statement gives of the start (any of its parts by flat_of_before) -/
def lw_At (p : Program) (s : State) (m : MethodId) (meth : Method) (c : Code) (b L : Nat) (xs : Nat → Int32) : Prop :=
  p.tables.exec = Jvm.exec ∧ c.code = code ∧ meth.sig.returnType = ret ∧ c.maxLocals = 4 ∧ s.vm.findClass R_law = some m.cls ∧ (∀ w ∈ lw_tbl, w.before #[Value.ref b] s = true) ∧ va_X b L xs s s.heap ∧ b < s.heap.size ∧ meth.locks = false ∧ (Jvm.Cond.and given_1 narrow_1).before #[Value.ref b] s = true ∧ meth.name = "law"
theorem whole_start {p : Program} {e : Env} {s : State} {m : MethodId} {below : List Frame} {meth : Method} {c : Code} (l : Launch) {b L : Nat} {xs : Nat → Int32} (hL : L ≤ 3073) (C0 : lw_At p s m meth c b L xs) : W p l e room_1 s m #[Value.ref b] below meth c s.heap [] 0 0 (lw_Z below #[Value.ref b] s) (entryFrame m ([Value.ref b] : List Value).toArray 4) := by
  obtain ⟨hx, hbc, hret, hml, hown, hts, hX, hbl, hlk, hgv, hnm⟩ := C0
  have hw : ∀ w ∈ wG, w.before #[Value.ref b] s = true := fun w h => hts w (wG_good w h).1
  obtain ⟨D, hK⟩ := en_K hw
  obtain ⟨t, hT, hZ⟩ := en_st hgv hts (A := fun q => s.heap.size ≤ q) (fun a h => Nat.not_le_of_lt h)
  have hKG : pK (l, D, s.heap.size, stt t, rot t) s := ⟨hK, Nat.le_refl _, hZ, en_nest hts, en_over hts⟩
  have hI : pI (l, D, s.heap.size, stt t, rot t) (M0f t b L xs, s.heap.size, 0) s s.heap := by
    refine ⟨rfl, fun q x hx => ?_⟩
    have hx : M0f t b L xs q = some x := hx
    unfold M0f at hx
    cases hf : (rot t).find? (fun w => w.1 == q) with
    | some w =>
      rw [hf] at hx
      obtain ⟨h1, h2⟩ := rot_find hf
      cases hx
      have h3 := hT w h1
      rw [h2] at h3
      exact Or.inr h3
    | none =>
      rw [hf] at hx
      by_cases hq : q = b
      · have hx : (if q = b then some (Sum.inl (.int, L, fun j => .int (xs j)) : pE) else none) = some x := hx
        rw [if_pos hq] at hx
        cases hx
        subst hq
        obtain ⟨scr, g1, g2, g3, g4, g5⟩ := hX
        exact Or.inr ⟨scr, g1, g2, g3, Nat.le_of_eq g4.symm, by rw [g4], g5, Nat.not_le_of_lt hbl⟩
      · have hx : (if q = b then some (Sum.inl (.int, L, fun j => .int (xs j)) : pE) else none) = some x := hx
        rw [if_neg hq] at hx
        cases hx
  have hR : Rp (l, D, s.heap.size, stt t, rot t) (M0f t b L xs, s.heap.size, 0) (fun _ => none, fun _ _ => 0, fun _ _ => 0, fun _ _ => none, s.heap.size, 0) := by
    refine ⟨rfl, Nat.le_refl _, fun a ty h => ?_, fun z hz => ⟨?_, M0f_row hT hz⟩⟩
    · cases h
    · obtain ⟨cell, h1, -⟩ := hT z hz
      exact (Array.getElem?_eq_some_iff.mp h1).1
  obtain ⟨r, M', ⟨h1, h2, h3⟩, hr, q1, q2⟩ := law_start (G := (l, D, s.heap.size, stt t, rot t)) (Q := fun r M' => r = some (.int 1) ∧ M'.2.1 = s.heap.size + 309 ∧ M'.2.2 ≤ 300000) (t := t) ⟨rfl, rfl⟩ (show b < s.heap.size from hbl) hL hR (M0f_scr hT hX hL _ _) (fun M1 S1 r1 z1 k1 => ⟨rfl, by rw [r1.1]; exact z1, by rw [r1.1]; exact Nat.le_trans k1 (Nat.le_of_eq (Nat.zero_add _))⟩)
  subst hr
  have h1 : s.heap.size ≤ M'.2.1 := h1
  rw [lg_entry_eq]
  have h4 := h3 p e room_1 s m #[Value.ref b] below meth c s.heap [] _ 0 0 ⟨hx, hbc, hret, hml, hw, hown, hlk, hnm, hKG, Nat.le_refl _, Nat.le_refl _⟩ hI va_S.rf (lv_entry [Value.ref b] (n := 4) (Nat.le_of_ble_eq_true rfl)) (by show 0 + (M'.2.1 - s.heap.size) ≤ 600000; omega) (by show 0 + (M'.2.2 - 0) ≤ 7302250; omega)
  intro T hT X
  obtain ⟨t', st, o, r1, r2, ⟨ho, -, -⟩, L', hF, hfree⟩ := h4 T hT X
  refine ⟨t', st, o, r1, r2, ho, hF.1, hF.2.1, ?_⟩
  obtain ⟨e1, e2, e3, e4, e5, e6⟩ := hF.2.2
  refine ⟨e1, e2, Nat.le_trans e3 (Nat.add_le_add_left ?_ _), e4, Nat.le_trans e5 ?_, fun a c hac => ?_⟩
  · show 0 + (M'.2.1 - s.heap.size) ≤ 600000
    omega
  · show 0 + (M'.2.2 - 0) ≤ 7302250
    omega
  · obtain ⟨c', f1, f2, f3, f4⟩ := e6 a c hac
    exact ⟨c', f1, f2, f3, fun i _ => f4 i (fun hm => absurd (hfree _ hm) (Nat.not_le_of_lt (Array.getElem?_eq_some_iff.mp hac).1))⟩
