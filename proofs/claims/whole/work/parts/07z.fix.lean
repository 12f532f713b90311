/-! the length of a static row -/
theorem tt_alenro {G : pG} {J : pJ} {pc n a : Nat} {f : Nat → Int32} {lv : List (Nat × Value)} {st : List Value} {S : TS} {Q : Option Value → TS → Prop} (hd : decode (jc J) pc = .ok (.arraylength, 1)) (hz : (a, n, f) ∈ gr G) (kk : T G J (pc + 1) lv (.int (nI n) :: st) S Q) : T G J pc lv (.ref a :: st) S Q :=
  fun M hR => e_alen hd (hR.2.2.2 _ hz).2 (kk M hR)
set_option maxRecDepth 100000 in
theorem v_Stream_beginR {G : pG} {t : Nat → Nat} (hG : GS G t) (a0 : Nat) (a1 : Nat) (x2 : Int32) (S : TS) (Q : Option Value → TS → Prop)
    (h : te S a0 = some (.inr 8) ∧ ∃ b2 : Nat, tR S a0 0 = some b2 ∧ ∃ n4 : Nat, te S b2 = some (.inl (.int, n4)) ∧ ¬ (nI 4) < 0 ∧ (0 : Int32).toNatClampNeg + (nI 4).toNatClampNeg ≤ 4 ∧ (0 : Int32).toNatClampNeg + (nI 4).toNatClampNeg ≤ n4 ∧ ∀ S6 : TS, S6 = sI S b2 (va_cpy (ro 2) (tI S b2) (0 : Int32).toNatClampNeg (0 : Int32).toNatClampNeg (nI 4).toNatClampNeg) → T0 G J_Stream_begin 18 [(0, .ref a0), (1, .ref a1), (2, .int x2), (3, .int 0)] [] S6 Q) :
    C0 G J_Stream_begin [.ref a0, .ref a1, .int x2] S Q := by
  unfold C0
  refine ct_of (by decide +kernel) (Nat.le_of_ble_eq_true rfl) (lv := [(0, .ref a0), (1, .ref a1), (2, .int x2)]) rfl ?_
  have hm : Sm0 S S := Sm0.rf S
  refine tt_gets (z := ("SealedWire$Stream", "CONSTANTS", "[I", .ref (t 2))) (by decide +kernel) (by rw [hG.1]; simp [stt]) w_504 ?_
  refine tt_iconst (n := 0) (v := 0) (by decide +kernel) (by decide) ?_
  refine tt_aload_n (k0 := 0) (by decide +kernel) rfl ?_
  obtain ⟨f1, h⟩ := h
  obtain ⟨b2, f3, h⟩ := h
  refine tt_getR (k := 0) (by decide +kernel) KC_8 (by decide) w_49 (fun _ => rfl) f1 f3 ?_
  refine tt_iconst (n := 0) (v := 0) (by decide +kernel) (by decide) ?_
  refine tt_gets (z := ("SealedWire$Stream", "CONSTANTS", "[I", .ref (t 2))) (by decide +kernel) (by rw [hG.1]; simp [stt]) w_504 ?_
  refine tt_alenro (n := 4) (f := ro 2) (by decide +kernel) (by rw [hG.2]; simp [rot]) ?_
  obtain ⟨n4, f5, h⟩ := h
  obtain ⟨g2, g3, g4, h⟩ := h
  refine tt_acopyro (n0 := 4) (f := ro 2) (by decide +kernel) w_506 w_363 w_362 w_13 (by decide) (Nat.le_of_ble_eq_true rfl) (by rw [hG.2]; simp [rot]) f5 (by decide) (by decide) g2 g3 g4 ?_
  generalize eS6 : sI S b2 (va_cpy (ro 2) (tI S b2) (0 : Int32).toNatClampNeg (0 : Int32).toNatClampNeg (nI 4).toNatClampNeg) = S6
  have h := h S6 eS6.symm
  have hm : Sm0 S S6 := by rw [← eS6]; exact hm.I
  have f1 : te S6 a0 = some (.inr 8) := by rw [← eS6, te_sI]; exact f1
  have f3 : tR S6 a0 0 = some b2 := by rw [← eS6, tR_sI]; exact f3
  have f5 : te S6 b2 = some (.inl (.int, n4)) := by rw [← eS6, te_sI]; exact f5
  refine tt_iconst (n := 0) (v := 0) (by decide +kernel) (by decide) ?_
  refine tt_istore_n (k0 := 3) (lv' := [(0, .ref a0), (1, .ref a1), (2, .int x2), (3, .int 0)]) (by decide +kernel) (by decide) rfl ?_
  exact tt_mono h (fun r S' q => ⟨hm.tr q.1, q.2⟩)
