set_option maxRecDepth 100000 in
theorem v_Bytes_init {G : pG} (a0 : Nat) (x1 : Int32) (S : TS) (Q : Option Value → TS → Prop)
    (h : ¬ x1 < 0 ∧ ∃ n2 : Nat, x1.toNatClampNeg = n2 ∧ n2 * 8 ≤ 536870912 ∧ ∀ S1 : TS, S1 = sN S (.inl (.int, n2)) n2 → te S1 a0 = some (.inr 0) ∧ ∀ S4 : TS, S4 = sR S1 a0 (va_up (tR S1 a0) 0 (some (tz S))) → Q none S4) :
    CT G J_Bytes_init [.ref a0, .int x1] S Q := by
  refine ct_of (by decide +kernel) (Nat.le_of_ble_eq_true rfl) (lv := [(0, .ref a0), (1, .int x1)]) rfl ?_
  refine tt_aload_n (k0 := 0) (by decide +kernel) rfl ?_
  refine tt_objInit (by decide +kernel) w_28 w_21 w_22 (by decide) (Nat.le_of_ble_eq_true rfl) ?_
  refine tt_aload_n (k0 := 0) (by decide +kernel) rfl ?_
  refine tt_iload_n (k0 := 1) (by decide +kernel) rfl ?_
  obtain ⟨g, n2, g2, g3, h⟩ := h
  refine tt_newarr (at0 := .int) (by decide +kernel) w_36 rfl g g2 (by simp only [newarray.typeOf, componentBytes]; omega) ?_
  show T G J_Bytes_init 8 [(0, .ref a0), (1, .int x1)] [.ref (tz S), .ref a0] (sN S (.inl (.int, n2)) n2) _
  generalize eS1 : sN S (.inl (.int, n2)) n2 = S1
  have h := h S1 eS1.symm
  obtain ⟨f3, h⟩ := h
  refine tt_putFR (k := 0) (by decide +kernel) KC_0 (by decide) w_29 rfl rfl rfl (Or.inr ⟨_, rfl⟩) f3 ?_
  generalize eS4 : sR S1 a0 (va_up (tR S1 a0) 0 (some (tz S))) = S4
  have h := h S4 eS4.symm
  exact tt_vret (by decide +kernel) rfl h
set_option maxRecDepth 100000 in
theorem v_Bytes_put {G : pG} (a0 : Nat) (x1 : Int32) (S : TS) (Q : Option Value → TS → Prop)
    (h : te S a0 = some (.inr 0) ∧ ∃ b2 : Nat, tR S a0 0 = some b2 ∧ ∃ n4 : Nat, te S b2 = some (.inl (.int, n4)) ∧ ((nI n4 ≤ tI S a0 1 → Q none S) ∧ (¬ (nI n4 ≤ tI S a0 1) → vp_in (tI S a0 1) n4 ∧ ∀ S6 : TS, S6 = sI S b2 (upd (tI S b2) (tI S a0 1).toNatClampNeg (x1 &&& (255 : Int32))) → ∀ S7 : TS, S7 = sI S6 a0 (upd (tI S6 a0) 1 ((tI S6 a0 1) + (1 : Int32))) → Q none S7))) :
    C0 G J_Bytes_put [.ref a0, .int x1] S Q := by
  unfold C0
  refine ct_of (by decide +kernel) (Nat.le_of_ble_eq_true rfl) (lv := [(0, .ref a0), (1, .int x1)]) rfl ?_
  have hm : Sm0 S S := Sm0.rf S
  refine tt_aload_n (k0 := 0) (by decide +kernel) rfl ?_
  obtain ⟨f1, h⟩ := h
  refine tt_getI (k := 1) (by decide +kernel) KC_0 (by decide) w_30 (fun _ => rfl) f1 ?_
  refine tt_aload_n (k0 := 0) (by decide +kernel) rfl ?_
  obtain ⟨b2, f3, h⟩ := h
  refine tt_getR (k := 0) (by decide +kernel) KC_0 (by decide) w_29 (fun _ => rfl) f1 f3 ?_
  obtain ⟨n4, f5, h⟩ := h
  refine tt_alen (by decide +kernel) f5 ?_
  refine tt_icmp_ge (off := 27) 36 (by decide +kernel) (by decide) (fun c => ?_) (fun c => ?_)
  · have h := h.1 c
    exact tt_vret (by decide +kernel) rfl ⟨hm, h⟩
  · have h := h.2 c
    refine tt_aload_n (k0 := 0) (by decide +kernel) rfl ?_
    refine tt_getR (k := 0) (by decide +kernel) KC_0 (by decide) w_29 (fun _ => rfl) f1 f3 ?_
    refine tt_aload_n (k0 := 0) (by decide +kernel) rfl ?_
    refine tt_getI (k := 1) (by decide +kernel) KC_0 (by decide) w_30 (fun _ => rfl) f1 ?_
    refine tt_iload_n (k0 := 1) (by decide +kernel) rfl ?_
    refine tt_sipush (n := 255) (v := 255) (by decide +kernel) (by decide) ?_
    refine tt_iand (by decide +kernel) ?_
    obtain ⟨g2, h⟩ := h
    refine tt_iast (by decide +kernel) f5 g2 ?_
    generalize eS6 : sI S b2 (upd (tI S b2) (tI S a0 1).toNatClampNeg (x1 &&& (255 : Int32))) = S6
    have h := h S6 eS6.symm
    have hm : Sm0 S S6 := by rw [← eS6]; exact hm.I
    have f1 : te S6 a0 = some (.inr 0) := by rw [← eS6, te_sI]; exact f1
    have f3 : tR S6 a0 0 = some b2 := by rw [← eS6, tR_sI]; exact f3
    have f5 : te S6 b2 = some (.inl (.int, n4)) := by rw [← eS6, te_sI]; exact f5
    refine tt_aload_n (k0 := 0) (by decide +kernel) rfl ?_
    refine tt_dup (by decide +kernel) rfl ?_
    refine tt_getI (k := 1) (by decide +kernel) KC_0 (by decide) w_30 (fun _ => rfl) f1 ?_
    refine tt_iconst (n := 1) (v := 1) (by decide +kernel) (by decide) ?_
    refine tt_iadd (by decide +kernel) ?_
    refine tt_putI (k := 1) (by decide +kernel) KC_0 (by decide) w_30 rfl rfl f1 ?_
    generalize eS7 : sI S6 a0 (upd (tI S6 a0) 1 ((tI S6 a0 1) + (1 : Int32))) = S7
    have h := h S7 eS7.symm
    have hm : Sm0 S S7 := by rw [← eS7]; exact hm.I
    have f1 : te S7 a0 = some (.inr 0) := by rw [← eS7, te_sI]; exact f1
    have f3 : tR S7 a0 0 = some b2 := by rw [← eS7, tR_sI]; exact f3
    have f5 : te S7 b2 = some (.inl (.int, n4)) := by rw [← eS7, te_sI]; exact f5
    exact tt_vret (by decide +kernel) rfl ⟨hm, h⟩
set_option maxRecDepth 100000 in
theorem v_Bytes_size {G : pG} (a0 : Nat) (S : TS) (Q : Option Value → Prop)
    (h : te S a0 = some (.inr 0) ∧ Q (some (.int (tI S a0 1)))) :
    CP G J_Bytes_size [.ref a0] S Q := by
  unfold CP
  refine ct_of (by decide +kernel) (Nat.le_of_ble_eq_true rfl) (lv := [(0, .ref a0)]) rfl ?_
  refine tt_aload_n (k0 := 0) (by decide +kernel) rfl ?_
  obtain ⟨f1, h⟩ := h
  refine tt_getI (k := 1) (by decide +kernel) KC_0 (by decide) w_30 (fun _ => rfl) f1 ?_
  exact tt_iret (by decide +kernel) rfl ⟨rfl, h⟩
set_option maxRecDepth 100000 in
theorem v_Bytes_putNumber {G : pG} (a0 : Nat) (x1 : Int32) (S : TS) (Q : Option Value → TS → Prop)
    (h : te S a0 = some (.inr 0) ∧ C0 G J_Bytes_put [.ref a0, .int (ushr x1 24)] S (fun r S2 => r = none ∧ C0 G J_Bytes_put [.ref a0, .int (ushr x1 16)] S2 (fun r S3 => r = none ∧ C0 G J_Bytes_put [.ref a0, .int (ushr x1 8)] S3 (fun r S4 => r = none ∧ C0 G J_Bytes_put [.ref a0, .int x1] S4 (fun r S5 => r = none ∧ Q none S5))))) :
    C0 G J_Bytes_putNumber [.ref a0, .int x1] S Q := by
  unfold C0
  refine ct_of (by decide +kernel) (Nat.le_of_ble_eq_true rfl) (lv := [(0, .ref a0), (1, .int x1)]) rfl ?_
  have hm : Sm0 S S := Sm0.rf S
  refine tt_aload_n (k0 := 0) (by decide +kernel) rfl ?_
  refine tt_iload_n (k0 := 1) (by decide +kernel) rfl ?_
  refine tt_bipush (n := 24) (v := 24) (by decide +kernel) (by decide) ?_
  refine tt_iushr (by decide +kernel) ?_
  obtain ⟨f1, h⟩ := h
  refine tt_callV (As := [.int (ushr x1 24)]) (rest := []) (ci := 0) (r0 := (R_0, F_0, 2)) (by decide +kernel) LK_Bytes_put w_306 w_239 w_240 (by decide) (by decide) rfl rfl (Nat.le_of_ble_eq_true rfl) rfl rfl f1 (ct_mono h (fun r S2 h => ?_))
  obtain ⟨hm2, h⟩ := h
  obtain ⟨rfl, h⟩ := h
  show T G J_Bytes_putNumber 8 [(0, .ref a0), (1, .int x1)] [] S2 _
  have hm := hm.tr hm2
  have f1 : te S2 a0 = some (.inr 0) := by rw [hm2.1]; exact f1
  refine tt_aload_n (k0 := 0) (by decide +kernel) rfl ?_
  refine tt_iload_n (k0 := 1) (by decide +kernel) rfl ?_
  refine tt_bipush (n := 16) (v := 16) (by decide +kernel) (by decide) ?_
  refine tt_iushr (by decide +kernel) ?_
  refine tt_callV (As := [.int (ushr x1 16)]) (rest := []) (ci := 0) (r0 := (R_0, F_0, 2)) (by decide +kernel) LK_Bytes_put w_306 w_239 w_240 (by decide) (by decide) rfl rfl (Nat.le_of_ble_eq_true rfl) rfl rfl f1 (ct_mono h (fun r S3 h => ?_))
  obtain ⟨hm2, h⟩ := h
  obtain ⟨rfl, h⟩ := h
  show T G J_Bytes_putNumber 16 [(0, .ref a0), (1, .int x1)] [] S3 _
  have hm := hm.tr hm2
  have f1 : te S3 a0 = some (.inr 0) := by rw [hm2.1]; exact f1
  refine tt_aload_n (k0 := 0) (by decide +kernel) rfl ?_
  refine tt_iload_n (k0 := 1) (by decide +kernel) rfl ?_
  refine tt_bipush (n := 8) (v := 8) (by decide +kernel) (by decide) ?_
  refine tt_iushr (by decide +kernel) ?_
  refine tt_callV (As := [.int (ushr x1 8)]) (rest := []) (ci := 0) (r0 := (R_0, F_0, 2)) (by decide +kernel) LK_Bytes_put w_306 w_239 w_240 (by decide) (by decide) rfl rfl (Nat.le_of_ble_eq_true rfl) rfl rfl f1 (ct_mono h (fun r S4 h => ?_))
  obtain ⟨hm2, h⟩ := h
  obtain ⟨rfl, h⟩ := h
  show T G J_Bytes_putNumber 24 [(0, .ref a0), (1, .int x1)] [] S4 _
  have hm := hm.tr hm2
  have f1 : te S4 a0 = some (.inr 0) := by rw [hm2.1]; exact f1
  refine tt_aload_n (k0 := 0) (by decide +kernel) rfl ?_
  refine tt_iload_n (k0 := 1) (by decide +kernel) rfl ?_
  refine tt_callV (As := [.int x1]) (rest := []) (ci := 0) (r0 := (R_0, F_0, 2)) (by decide +kernel) LK_Bytes_put w_306 w_239 w_240 (by decide) (by decide) rfl rfl (Nat.le_of_ble_eq_true rfl) rfl rfl f1 (ct_mono h (fun r S5 h => ?_))
  obtain ⟨hm2, h⟩ := h
  obtain ⟨rfl, h⟩ := h
  show T G J_Bytes_putNumber 29 [(0, .ref a0), (1, .int x1)] [] S5 _
  have hm := hm.tr hm2
  have f1 : te S5 a0 = some (.inr 0) := by rw [hm2.1]; exact f1
  exact tt_vret (by decide +kernel) rfl ⟨hm, h⟩
set_option maxRecDepth 100000 in
theorem v_Bytes_cut {G : pG} (a0 : Nat) (x1 : Int32) (S : TS) (Q : Option Value → TS → Prop)
    (h : ((x1 < 0 → Q none S) ∧ (¬ (x1 < 0) → te S a0 = some (.inr 0) ∧ ((tI S a0 1 ≤ x1 → Q none S) ∧ (¬ (tI S a0 1 ≤ x1) → ∀ S2 : TS, S2 = sI S a0 (upd (tI S a0) 1 x1) → Q none S2))))) :
    C0 G J_Bytes_cut [.ref a0, .int x1] S Q := by
  unfold C0
  refine ct_of (by decide +kernel) (Nat.le_of_ble_eq_true rfl) (lv := [(0, .ref a0), (1, .int x1)]) rfl ?_
  have hm : Sm0 S S := Sm0.rf S
  refine tt_iload_n (k0 := 1) (by decide +kernel) rfl ?_
  refine tt_if_lt (off := 16) 17 (by decide +kernel) (by decide) (fun c => ?_) (fun c => ?_)
  · have h := h.1 c
    exact tt_vret (by decide +kernel) rfl ⟨hm, h⟩
  · have h := h.2 c
    refine tt_iload_n (k0 := 1) (by decide +kernel) rfl ?_
    refine tt_aload_n (k0 := 0) (by decide +kernel) rfl ?_
    obtain ⟨f1, h⟩ := h
    refine tt_getI (k := 1) (by decide +kernel) KC_0 (by decide) w_30 (fun _ => rfl) f1 ?_
    refine tt_icmp_ge (off := 8) 17 (by decide +kernel) (by decide) (fun c => ?_) (fun c => ?_)
    · have h := h.1 c
      exact tt_vret (by decide +kernel) rfl ⟨hm, h⟩
    · have h := h.2 c
      refine tt_aload_n (k0 := 0) (by decide +kernel) rfl ?_
      refine tt_iload_n (k0 := 1) (by decide +kernel) rfl ?_
      refine tt_putI (k := 1) (by decide +kernel) KC_0 (by decide) w_30 rfl rfl f1 ?_
      generalize eS2 : sI S a0 (upd (tI S a0) 1 x1) = S2
      have h := h S2 eS2.symm
      have hm : Sm0 S S2 := by rw [← eS2]; exact hm.I
      have f1 : te S2 a0 = some (.inr 0) := by rw [← eS2, te_sI]; exact f1
      exact tt_vret (by decide +kernel) rfl ⟨hm, h⟩
set_option maxRecDepth 100000 in
theorem v_Bytes_has {G : pG} (a0 : Nat) (x1 : Int32) (S : TS) (Q : Option Value → Prop)
    (h : ((x1 < 0 → Q (some (.int 0))) ∧ (¬ (x1 < 0) → te S a0 = some (.inr 0) ∧ ((tI S a0 1 ≤ x1 → Q (some (.int 0))) ∧ (¬ (tI S a0 1 ≤ x1) → Q (some (.int 1))))))) :
    CP G J_Bytes_has [.ref a0, .int x1] S Q := by
  unfold CP
  refine ct_of (by decide +kernel) (Nat.le_of_ble_eq_true rfl) (lv := [(0, .ref a0), (1, .int x1)]) rfl ?_
  refine tt_iload_n (k0 := 1) (by decide +kernel) rfl ?_
  refine tt_if_lt (off := 15) 16 (by decide +kernel) (by decide) (fun c => ?_) (fun c => ?_)
  · have h := h.1 c
    refine tt_iconst (n := 0) (v := 0) (by decide +kernel) (by decide) ?_
    exact tt_zret (by decide +kernel) rfl rfl ⟨rfl, h⟩
  · have h := h.2 c
    refine tt_iload_n (k0 := 1) (by decide +kernel) rfl ?_
    refine tt_aload_n (k0 := 0) (by decide +kernel) rfl ?_
    obtain ⟨f1, h⟩ := h
    refine tt_getI (k := 1) (by decide +kernel) KC_0 (by decide) w_30 (fun _ => rfl) f1 ?_
    refine tt_icmp_ge (off := 7) 16 (by decide +kernel) (by decide) (fun c => ?_) (fun c => ?_)
    · have h := h.1 c
      refine tt_iconst (n := 0) (v := 0) (by decide +kernel) (by decide) ?_
      exact tt_zret (by decide +kernel) rfl rfl ⟨rfl, h⟩
    · have h := h.2 c
      refine tt_iconst (n := 1) (v := 1) (by decide +kernel) (by decide) ?_
      refine tt_goto (off := 4) (tgt := 17) (by decide +kernel) (by decide) ?_
      exact tt_zret (by decide +kernel) rfl rfl ⟨rfl, h⟩
set_option maxRecDepth 100000 in
theorem v_Bytes_at {G : pG} (a0 : Nat) (x1 : Int32) (S : TS) (Q : Option Value → Prop)
    (h : ((x1 < 0 → Q (some (.int 0))) ∧ (¬ (x1 < 0) → te S a0 = some (.inr 0) ∧ ((tI S a0 1 ≤ x1 → Q (some (.int 0))) ∧ (¬ (tI S a0 1 ≤ x1) → ∃ b2 : Nat, tR S a0 0 = some b2 ∧ ∃ n4 : Nat, te S b2 = some (.inl (.int, n4)) ∧ vp_in x1 n4 ∧ Q (some (.int (tI S b2 x1.toNatClampNeg)))))))) :
    CP G J_Bytes_at [.ref a0, .int x1] S Q := by
  unfold CP
  refine ct_of (by decide +kernel) (Nat.le_of_ble_eq_true rfl) (lv := [(0, .ref a0), (1, .int x1)]) rfl ?_
  refine tt_iload_n (k0 := 1) (by decide +kernel) rfl ?_
  refine tt_if_lt (off := 20) 21 (by decide +kernel) (by decide) (fun c => ?_) (fun c => ?_)
  · have h := h.1 c
    refine tt_iconst (n := 0) (v := 0) (by decide +kernel) (by decide) ?_
    exact tt_iret (by decide +kernel) rfl ⟨rfl, h⟩
  · have h := h.2 c
    refine tt_iload_n (k0 := 1) (by decide +kernel) rfl ?_
    refine tt_aload_n (k0 := 0) (by decide +kernel) rfl ?_
    obtain ⟨f1, h⟩ := h
    refine tt_getI (k := 1) (by decide +kernel) KC_0 (by decide) w_30 (fun _ => rfl) f1 ?_
    refine tt_icmp_ge (off := 12) 21 (by decide +kernel) (by decide) (fun c => ?_) (fun c => ?_)
    · have h := h.1 c
      refine tt_iconst (n := 0) (v := 0) (by decide +kernel) (by decide) ?_
      exact tt_iret (by decide +kernel) rfl ⟨rfl, h⟩
    · have h := h.2 c
      refine tt_aload_n (k0 := 0) (by decide +kernel) rfl ?_
      obtain ⟨b2, f3, h⟩ := h
      refine tt_getR (k := 0) (by decide +kernel) KC_0 (by decide) w_29 (fun _ => rfl) f1 f3 ?_
      refine tt_iload_n (k0 := 1) (by decide +kernel) rfl ?_
      obtain ⟨n4, f5, h⟩ := h
      obtain ⟨g2, h⟩ := h
      refine tt_iald (by decide +kernel) f5 g2 ?_
      refine tt_goto (off := 4) (tgt := 22) (by decide +kernel) (by decide) ?_
      exact tt_iret (by decide +kernel) rfl ⟨rfl, h⟩
set_option maxRecDepth 100000 in
theorem v_Bytes_become {G : pG} (a0 : Nat) (a1 : Nat) (S : TS) (Q : Option Value → TS → Prop)
    (h : te S a0 = some (.inr 0) ∧ ∀ S2 : TS, S2 = sI S a0 (upd (tI S a0) 1 0) → te S2 a1 = some (.inr 0) ∧ C0 G J_Bytes_putPart [.ref a0, .ref a1, .int 0, .int (tI S2 a1 1)] S2 (fun r S4 => r = none ∧ Q none S4)) :
    C0 G J_Bytes_become [.ref a0, .ref a1] S Q := by
  unfold C0
  refine ct_of (by decide +kernel) (Nat.le_of_ble_eq_true rfl) (lv := [(0, .ref a0), (1, .ref a1)]) rfl ?_
  have hm : Sm0 S S := Sm0.rf S
  refine tt_aload_n (k0 := 0) (by decide +kernel) rfl ?_
  refine tt_iconst (n := 0) (v := 0) (by decide +kernel) (by decide) ?_
  obtain ⟨f1, h⟩ := h
  refine tt_putI (k := 1) (by decide +kernel) KC_0 (by decide) w_30 rfl rfl f1 ?_
  generalize eS2 : sI S a0 (upd (tI S a0) 1 0) = S2
  have h := h S2 eS2.symm
  have hm : Sm0 S S2 := by rw [← eS2]; exact hm.I
  have f1 : te S2 a0 = some (.inr 0) := by rw [← eS2, te_sI]; exact f1
  refine tt_aload_n (k0 := 0) (by decide +kernel) rfl ?_
  refine tt_aload_n (k0 := 1) (by decide +kernel) rfl ?_
  refine tt_iconst (n := 0) (v := 0) (by decide +kernel) (by decide) ?_
  refine tt_aload_n (k0 := 1) (by decide +kernel) rfl ?_
  obtain ⟨f3, h⟩ := h
  refine tt_getI (k := 1) (by decide +kernel) KC_0 (by decide) w_30 (fun _ => rfl) f3 ?_
  refine tt_callV (As := [.ref a1, .int 0, .int (tI S2 a1 1)]) (rest := []) (ci := 0) (r0 := (R_0, F_0, 2)) (by decide +kernel) LK_Bytes_putPart w_357 w_358 w_359 (by decide) (by decide) rfl rfl (Nat.le_of_ble_eq_true rfl) rfl rfl f1 (ct_mono h (fun r S4 h => ?_))
  obtain ⟨hm2, h⟩ := h
  obtain ⟨rfl, h⟩ := h
  show T G J_Bytes_become 15 [(0, .ref a0), (1, .ref a1)] [] S4 _
  have hm := hm.tr hm2
  have f1 : te S4 a0 = some (.inr 0) := by rw [hm2.1]; exact f1
  have f3 : te S4 a1 = some (.inr 0) := by rw [hm2.1]; exact f3
  exact tt_vret (by decide +kernel) rfl ⟨hm, h⟩
set_option maxRecDepth 100000 in
theorem v_Bytes_putPart {G : pG} (a0 : Nat) (a1 : Nat) (x2 : Int32) (x3 : Int32) (S : TS) (Q : Option Value → TS → Prop)
    (h : ((x2 < 0 → Q none S) ∧ (¬ (x2 < 0) → ((x3 < 0 → Q none S) ∧ (¬ (x3 < 0) → te S a1 = some (.inr 0) ∧ (((tI S a1 1) - x3 < x2 → Q none S) ∧ (¬ ((tI S a1 1) - x3 < x2) → te S a0 = some (.inr 0) ∧ ∃ b3 : Nat, tR S a0 0 = some b3 ∧ ∃ n5 : Nat, te S b3 = some (.inl (.int, n5)) ∧ ((x3 ≤ (nI n5) - (tI S a0 1) → ∃ b7 : Nat, tR S a1 0 = some b7 ∧ ∃ n9 : Nat, te S b7 = some (.inl (.int, n9)) ∧ ¬ x2 < 0 ∧ ¬ (tI S a0 1) < 0 ∧ ¬ x3 < 0 ∧ x2.toNatClampNeg + x3.toNatClampNeg ≤ n9 ∧ (tI S a0 1).toNatClampNeg + x3.toNatClampNeg ≤ n5 ∧ ∀ S11 : TS, S11 = sI S b3 (va_cpy (tI S b7) (tI S b3) x2.toNatClampNeg (tI S a0 1).toNatClampNeg x3.toNatClampNeg) → ∀ S12 : TS, S12 = sI S11 a0 (upd (tI S11 a0) 1 ((tI S11 a0 1) + x3)) → Q none S12) ∧ (¬ (x3 ≤ (nI n5) - (tI S a0 1)) → Q none S))))))))) :
    C0 G J_Bytes_putPart [.ref a0, .ref a1, .int x2, .int x3] S Q := by
  unfold C0
  refine ct_of (by decide +kernel) (Nat.le_of_ble_eq_true rfl) (lv := [(0, .ref a0), (1, .ref a1), (2, .int x2), (3, .int x3)]) rfl ?_
  have hm : Sm0 S S := Sm0.rf S
  refine tt_iload_n (k0 := 2) (by decide +kernel) rfl ?_
  refine tt_if_lt (off := 31) 32 (by decide +kernel) (by decide) (fun c => ?_) (fun c => ?_)
  · have h := h.1 c
    exact tt_vret (by decide +kernel) rfl ⟨hm, h⟩
  · have h := h.2 c
    refine tt_iload_n (k0 := 3) (by decide +kernel) rfl ?_
    refine tt_if_lt (off := 27) 32 (by decide +kernel) (by decide) (fun c => ?_) (fun c => ?_)
    · have h := h.1 c
      exact tt_vret (by decide +kernel) rfl ⟨hm, h⟩
    · have h := h.2 c
      refine tt_iload_n (k0 := 2) (by decide +kernel) rfl ?_
      refine tt_aload_n (k0 := 1) (by decide +kernel) rfl ?_
      obtain ⟨f1, h⟩ := h
      refine tt_getI (k := 1) (by decide +kernel) KC_0 (by decide) w_30 (fun _ => rfl) f1 ?_
      refine tt_iload_n (k0 := 3) (by decide +kernel) rfl ?_
      refine tt_isub (by decide +kernel) ?_
      refine tt_icmp_gt (off := 17) 32 (by decide +kernel) (by decide) (fun c => ?_) (fun c => ?_)
      · have h := h.1 c
        exact tt_vret (by decide +kernel) rfl ⟨hm, h⟩
      · have h := h.2 c
        refine tt_iload_n (k0 := 3) (by decide +kernel) rfl ?_
        refine tt_aload_n (k0 := 0) (by decide +kernel) rfl ?_
        obtain ⟨f2, h⟩ := h
        obtain ⟨b3, f4, h⟩ := h
        refine tt_getR (k := 0) (by decide +kernel) KC_0 (by decide) w_29 (fun _ => rfl) f2 f4 ?_
        obtain ⟨n5, f6, h⟩ := h
        refine tt_alen (by decide +kernel) f6 ?_
        refine tt_aload_n (k0 := 0) (by decide +kernel) rfl ?_
        refine tt_getI (k := 1) (by decide +kernel) KC_0 (by decide) w_30 (fun _ => rfl) f2 ?_
        refine tt_isub (by decide +kernel) ?_
        refine tt_icmp_le (off := 4) 33 (by decide +kernel) (by decide) (fun c => ?_) (fun c => ?_)
        · have h := h.1 c
          refine tt_aload_n (k0 := 1) (by decide +kernel) rfl ?_
          obtain ⟨b7, f8, h⟩ := h
          refine tt_getR (k := 0) (by decide +kernel) KC_0 (by decide) w_29 (fun _ => rfl) f1 f8 ?_
          refine tt_iload_n (k0 := 2) (by decide +kernel) rfl ?_
          refine tt_aload_n (k0 := 0) (by decide +kernel) rfl ?_
          refine tt_getR (k := 0) (by decide +kernel) KC_0 (by decide) w_29 (fun _ => rfl) f2 f4 ?_
          refine tt_aload_n (k0 := 0) (by decide +kernel) rfl ?_
          refine tt_getI (k := 1) (by decide +kernel) KC_0 (by decide) w_30 (fun _ => rfl) f2 ?_
          refine tt_iload_n (k0 := 3) (by decide +kernel) rfl ?_
          obtain ⟨n9, f10, h⟩ := h
          obtain ⟨p1, p2, p3, p4, p5, h⟩ := h
          refine tt_acopyi (by decide +kernel) w_361 w_363 w_362 w_13 (by decide) (Nat.le_of_ble_eq_true rfl) f10 f6 p1 p2 p3 p4 p5 ?_
          generalize eS11 : sI S b3 (va_cpy (tI S b7) (tI S b3) x2.toNatClampNeg (tI S a0 1).toNatClampNeg x3.toNatClampNeg) = S11
          have h := h S11 eS11.symm
          have hm : Sm0 S S11 := by rw [← eS11]; exact hm.I
          have f1 : te S11 a1 = some (.inr 0) := by rw [← eS11, te_sI]; exact f1
          have f2 : te S11 a0 = some (.inr 0) := by rw [← eS11, te_sI]; exact f2
          have f4 : tR S11 a0 0 = some b3 := by rw [← eS11, tR_sI]; exact f4
          have f6 : te S11 b3 = some (.inl (.int, n5)) := by rw [← eS11, te_sI]; exact f6
          have f8 : tR S11 a1 0 = some b7 := by rw [← eS11, tR_sI]; exact f8
          have f10 : te S11 b7 = some (.inl (.int, n9)) := by rw [← eS11, te_sI]; exact f10
          refine tt_aload_n (k0 := 0) (by decide +kernel) rfl ?_
          refine tt_dup (by decide +kernel) rfl ?_
          refine tt_getI (k := 1) (by decide +kernel) KC_0 (by decide) w_30 (fun _ => rfl) f2 ?_
          refine tt_iload_n (k0 := 3) (by decide +kernel) rfl ?_
          refine tt_iadd (by decide +kernel) ?_
          refine tt_putI (k := 1) (by decide +kernel) KC_0 (by decide) w_30 rfl rfl f2 ?_
          generalize eS12 : sI S11 a0 (upd (tI S11 a0) 1 ((tI S11 a0 1) + x3)) = S12
          have h := h S12 eS12.symm
          have hm : Sm0 S S12 := by rw [← eS12]; exact hm.I
          have f1 : te S12 a1 = some (.inr 0) := by rw [← eS12, te_sI]; exact f1
          have f2 : te S12 a0 = some (.inr 0) := by rw [← eS12, te_sI]; exact f2
          have f4 : tR S12 a0 0 = some b3 := by rw [← eS12, tR_sI]; exact f4
          have f6 : te S12 b3 = some (.inl (.int, n5)) := by rw [← eS12, te_sI]; exact f6
          have f8 : tR S12 a1 0 = some b7 := by rw [← eS12, tR_sI]; exact f8
          have f10 : te S12 b7 = some (.inl (.int, n9)) := by rw [← eS12, te_sI]; exact f10
          exact tt_vret (by decide +kernel) rfl ⟨hm, h⟩
        · have h := h.2 c
          exact tt_vret (by decide +kernel) rfl ⟨hm, h⟩
set_option maxRecDepth 100000 in
theorem v_Bytes_numberAt {G : pG} (a0 : Nat) (x1 : Int32) (S : TS) (Q : Option Value → Prop)
    (h : ((x1 < 0 → Q (some (.int 0))) ∧ (¬ (x1 < 0) → te S a0 = some (.inr 0) ∧ ((x1 ≤ (tI S a0 1) - (4 : Int32) → ∃ b2 : Nat, tR S a0 0 = some b2 ∧ ∃ n4 : Nat, te S b2 = some (.inl (.int, n4)) ∧ vp_in x1 n4 ∧ vp_in (x1 + (1 : Int32)) n4 ∧ vp_in (x1 + (2 : Int32)) n4 ∧ vp_in (x1 + (3 : Int32)) n4 ∧ Q (some (.int (((((tI S b2 x1.toNatClampNeg) <<< ((24 : Int32) &&& 31)) ||| ((tI S b2 (x1 + (1 : Int32)).toNatClampNeg) <<< ((16 : Int32) &&& 31))) ||| ((tI S b2 (x1 + (2 : Int32)).toNatClampNeg) <<< ((8 : Int32) &&& 31))) ||| (tI S b2 (x1 + (3 : Int32)).toNatClampNeg))))) ∧ (¬ (x1 ≤ (tI S a0 1) - (4 : Int32)) → Q (some (.int 0))))))) :
    CP G J_Bytes_numberAt [.ref a0, .int x1] S Q := by
  unfold CP
  refine ct_of (by decide +kernel) (Nat.le_of_ble_eq_true rfl) (lv := [(0, .ref a0), (1, .int x1)]) rfl ?_
  refine tt_iload_n (k0 := 1) (by decide +kernel) rfl ?_
  refine tt_if_lt (off := 13) 14 (by decide +kernel) (by decide) (fun c => ?_) (fun c => ?_)
  · have h := h.1 c
    refine tt_iconst (n := 0) (v := 0) (by decide +kernel) (by decide) ?_
    exact tt_iret (by decide +kernel) rfl ⟨rfl, h⟩
  · have h := h.2 c
    refine tt_iload_n (k0 := 1) (by decide +kernel) rfl ?_
    refine tt_aload_n (k0 := 0) (by decide +kernel) rfl ?_
    obtain ⟨f1, h⟩ := h
    refine tt_getI (k := 1) (by decide +kernel) KC_0 (by decide) w_30 (fun _ => rfl) f1 ?_
    refine tt_iconst (n := 4) (v := 4) (by decide +kernel) (by decide) ?_
    refine tt_isub (by decide +kernel) ?_
    refine tt_icmp_le (off := 5) 16 (by decide +kernel) (by decide) (fun c => ?_) (fun c => ?_)
    · have h := h.1 c
      refine tt_aload_n (k0 := 0) (by decide +kernel) rfl ?_
      obtain ⟨b2, f3, h⟩ := h
      refine tt_getR (k := 0) (by decide +kernel) KC_0 (by decide) w_29 (fun _ => rfl) f1 f3 ?_
      refine tt_iload_n (k0 := 1) (by decide +kernel) rfl ?_
      obtain ⟨n4, f5, h⟩ := h
      obtain ⟨g2, h⟩ := h
      refine tt_iald (by decide +kernel) f5 g2 ?_
      refine tt_bipush (n := 24) (v := 24) (by decide +kernel) (by decide) ?_
      refine tt_ishl (by decide +kernel) ?_
      refine tt_aload_n (k0 := 0) (by decide +kernel) rfl ?_
      refine tt_getR (k := 0) (by decide +kernel) KC_0 (by decide) w_29 (fun _ => rfl) f1 f3 ?_
      refine tt_iload_n (k0 := 1) (by decide +kernel) rfl ?_
      refine tt_iconst (n := 1) (v := 1) (by decide +kernel) (by decide) ?_
      refine tt_iadd (by decide +kernel) ?_
      obtain ⟨g2, h⟩ := h
      refine tt_iald (by decide +kernel) f5 g2 ?_
      refine tt_bipush (n := 16) (v := 16) (by decide +kernel) (by decide) ?_
      refine tt_ishl (by decide +kernel) ?_
      refine tt_ior (by decide +kernel) ?_
      refine tt_aload_n (k0 := 0) (by decide +kernel) rfl ?_
      refine tt_getR (k := 0) (by decide +kernel) KC_0 (by decide) w_29 (fun _ => rfl) f1 f3 ?_
      refine tt_iload_n (k0 := 1) (by decide +kernel) rfl ?_
      refine tt_iconst (n := 2) (v := 2) (by decide +kernel) (by decide) ?_
      refine tt_iadd (by decide +kernel) ?_
      obtain ⟨g2, h⟩ := h
      refine tt_iald (by decide +kernel) f5 g2 ?_
      refine tt_bipush (n := 8) (v := 8) (by decide +kernel) (by decide) ?_
      refine tt_ishl (by decide +kernel) ?_
      refine tt_ior (by decide +kernel) ?_
      refine tt_aload_n (k0 := 0) (by decide +kernel) rfl ?_
      refine tt_getR (k := 0) (by decide +kernel) KC_0 (by decide) w_29 (fun _ => rfl) f1 f3 ?_
      refine tt_iload_n (k0 := 1) (by decide +kernel) rfl ?_
      refine tt_iconst (n := 3) (v := 3) (by decide +kernel) (by decide) ?_
      refine tt_iadd (by decide +kernel) ?_
      obtain ⟨g2, h⟩ := h
      refine tt_iald (by decide +kernel) f5 g2 ?_
      refine tt_ior (by decide +kernel) ?_
      exact tt_iret (by decide +kernel) rfl ⟨rfl, h⟩
    · have h := h.2 c
      refine tt_iconst (n := 0) (v := 0) (by decide +kernel) (by decide) ?_
      exact tt_iret (by decide +kernel) rfl ⟨rfl, h⟩
set_option maxRecDepth 100000 in
theorem v_Bytes_clear {G : pG} (a0 : Nat) (S : TS) (Q : Option Value → TS → Prop)
    (h : te S a0 = some (.inr 0) ∧ ∀ S2 : TS, S2 = sI S a0 (upd (tI S a0) 1 0) → Q none S2) :
    C0 G J_Bytes_clear [.ref a0] S Q := by
  unfold C0
  refine ct_of (by decide +kernel) (Nat.le_of_ble_eq_true rfl) (lv := [(0, .ref a0)]) rfl ?_
  have hm : Sm0 S S := Sm0.rf S
  refine tt_aload_n (k0 := 0) (by decide +kernel) rfl ?_
  refine tt_iconst (n := 0) (v := 0) (by decide +kernel) (by decide) ?_
  obtain ⟨f1, h⟩ := h
  refine tt_putI (k := 1) (by decide +kernel) KC_0 (by decide) w_30 rfl rfl f1 ?_
  generalize eS2 : sI S a0 (upd (tI S a0) 1 0) = S2
  have h := h S2 eS2.symm
  have hm : Sm0 S S2 := by rw [← eS2]; exact hm.I
  have f1 : te S2 a0 = some (.inr 0) := by rw [← eS2, te_sI]; exact f1
  exact tt_vret (by decide +kernel) rfl ⟨hm, h⟩
set_option maxRecDepth 100000 in
theorem v_Bytes_putHead {G : pG} (a0 : Nat) (x1 : Int32) (x2 : Int32) (S : TS) (Q : Option Value → TS → Prop)
    (h : te S a0 = some (.inr 0) ∧ C0 G J_Bytes_put [.ref a0, .int x1] S (fun r S2 => r = none ∧ C0 G J_Bytes_put [.ref a0, .int (ushr x2 8)] S2 (fun r S3 => r = none ∧ C0 G J_Bytes_put [.ref a0, .int x2] S3 (fun r S4 => r = none ∧ Q none S4)))) :
    C0 G J_Bytes_putHead [.ref a0, .int x1, .int x2] S Q := by
  unfold C0
  refine ct_of (by decide +kernel) (Nat.le_of_ble_eq_true rfl) (lv := [(0, .ref a0), (1, .int x1), (2, .int x2)]) rfl ?_
  have hm : Sm0 S S := Sm0.rf S
  refine tt_aload_n (k0 := 0) (by decide +kernel) rfl ?_
  refine tt_iload_n (k0 := 1) (by decide +kernel) rfl ?_
  obtain ⟨f1, h⟩ := h
  refine tt_callV (As := [.int x1]) (rest := []) (ci := 0) (r0 := (R_0, F_0, 2)) (by decide +kernel) LK_Bytes_put w_306 w_239 w_240 (by decide) (by decide) rfl rfl (Nat.le_of_ble_eq_true rfl) rfl rfl f1 (ct_mono h (fun r S2 h => ?_))
  obtain ⟨hm2, h⟩ := h
  obtain ⟨rfl, h⟩ := h
  show T G J_Bytes_putHead 5 [(0, .ref a0), (1, .int x1), (2, .int x2)] [] S2 _
  have hm := hm.tr hm2
  have f1 : te S2 a0 = some (.inr 0) := by rw [hm2.1]; exact f1
  refine tt_aload_n (k0 := 0) (by decide +kernel) rfl ?_
  refine tt_iload_n (k0 := 2) (by decide +kernel) rfl ?_
  refine tt_bipush (n := 8) (v := 8) (by decide +kernel) (by decide) ?_
  refine tt_iushr (by decide +kernel) ?_
  refine tt_callV (As := [.int (ushr x2 8)]) (rest := []) (ci := 0) (r0 := (R_0, F_0, 2)) (by decide +kernel) LK_Bytes_put w_306 w_239 w_240 (by decide) (by decide) rfl rfl (Nat.le_of_ble_eq_true rfl) rfl rfl f1 (ct_mono h (fun r S3 h => ?_))
  obtain ⟨hm2, h⟩ := h
  obtain ⟨rfl, h⟩ := h
  show T G J_Bytes_putHead 13 [(0, .ref a0), (1, .int x1), (2, .int x2)] [] S3 _
  have hm := hm.tr hm2
  have f1 : te S3 a0 = some (.inr 0) := by rw [hm2.1]; exact f1
  refine tt_aload_n (k0 := 0) (by decide +kernel) rfl ?_
  refine tt_iload_n (k0 := 2) (by decide +kernel) rfl ?_
  refine tt_callV (As := [.int x2]) (rest := []) (ci := 0) (r0 := (R_0, F_0, 2)) (by decide +kernel) LK_Bytes_put w_306 w_239 w_240 (by decide) (by decide) rfl rfl (Nat.le_of_ble_eq_true rfl) rfl rfl f1 (ct_mono h (fun r S4 h => ?_))
  obtain ⟨hm2, h⟩ := h
  obtain ⟨rfl, h⟩ := h
  show T G J_Bytes_putHead 18 [(0, .ref a0), (1, .int x1), (2, .int x2)] [] S4 _
  have hm := hm.tr hm2
  have f1 : te S4 a0 = some (.inr 0) := by rw [hm2.1]; exact f1
  exact tt_vret (by decide +kernel) rfl ⟨hm, h⟩
set_option maxRecDepth 100000 in
theorem v_Bytes_putAll {G : pG} (a0 : Nat) (a1 : Nat) (S : TS) (Q : Option Value → TS → Prop)
    (h : te S a1 = some (.inr 0) ∧ te S a0 = some (.inr 0) ∧ C0 G J_Bytes_putPart [.ref a0, .ref a1, .int 0, .int (tI S a1 1)] S (fun r S3 => r = none ∧ Q none S3)) :
    C0 G J_Bytes_putAll [.ref a0, .ref a1] S Q := by
  unfold C0
  refine ct_of (by decide +kernel) (Nat.le_of_ble_eq_true rfl) (lv := [(0, .ref a0), (1, .ref a1)]) rfl ?_
  have hm : Sm0 S S := Sm0.rf S
  refine tt_aload_n (k0 := 0) (by decide +kernel) rfl ?_
  refine tt_aload_n (k0 := 1) (by decide +kernel) rfl ?_
  refine tt_iconst (n := 0) (v := 0) (by decide +kernel) (by decide) ?_
  refine tt_aload_n (k0 := 1) (by decide +kernel) rfl ?_
  obtain ⟨f1, h⟩ := h
  refine tt_getI (k := 1) (by decide +kernel) KC_0 (by decide) w_30 (fun _ => rfl) f1 ?_
  obtain ⟨f2, h⟩ := h
  refine tt_callV (As := [.ref a1, .int 0, .int (tI S a1 1)]) (rest := []) (ci := 0) (r0 := (R_0, F_0, 2)) (by decide +kernel) LK_Bytes_putPart w_357 w_358 w_359 (by decide) (by decide) rfl rfl (Nat.le_of_ble_eq_true rfl) rfl rfl f2 (ct_mono h (fun r S3 h => ?_))
  obtain ⟨hm2, h⟩ := h
  obtain ⟨rfl, h⟩ := h
  show T G J_Bytes_putAll 10 [(0, .ref a0), (1, .ref a1)] [] S3 _
  have hm := hm.tr hm2
  have f1 : te S3 a1 = some (.inr 0) := by rw [hm2.1]; exact f1
  have f2 : te S3 a0 = some (.inr 0) := by rw [hm2.1]; exact f2
  exact tt_vret (by decide +kernel) rfl ⟨hm, h⟩
set_option maxRecDepth 100000 in
theorem v_Bytes_tellsItsLength {G : pG} (a0 : Nat) (S : TS) (Q : Option Value → Prop)
    (h : te S a0 = some (.inr 0) ∧ ((tI S a0 1 < 3 → Q (some (.int 0))) ∧ (¬ (tI S a0 1 < 3) → CP G J_Bytes_at [.ref a0, .int 1] S (fun r => ∃ r2 : Int32, r = some (.int r2) ∧ CP G J_Bytes_at [.ref a0, .int 2] S (fun r => ∃ r3 : Int32, r = some (.int r3) ∧ ((¬ (r2 <<< ((8 : Int32) &&& 31)) ||| r3 = (tI S a0 1) - (3 : Int32) → Q (some (.int 0))) ∧ ((r2 <<< ((8 : Int32) &&& 31)) ||| r3 = (tI S a0 1) - (3 : Int32) → Q (some (.int 1))))))))) :
    CP G J_Bytes_tellsItsLength [.ref a0] S Q := by
  unfold CP
  refine ct_of (by decide +kernel) (Nat.le_of_ble_eq_true rfl) (lv := [(0, .ref a0)]) rfl ?_
  refine tt_aload_n (k0 := 0) (by decide +kernel) rfl ?_
  obtain ⟨f1, h⟩ := h
  refine tt_getI (k := 1) (by decide +kernel) KC_0 (by decide) w_30 (fun _ => rfl) f1 ?_
  refine tt_iconst (n := 3) (v := 3) (by decide +kernel) (by decide) ?_
  refine tt_icmp_lt (off := 30) 35 (by decide +kernel) (by decide) (fun c => ?_) (fun c => ?_)
  · have h := h.1 c
    refine tt_iconst (n := 0) (v := 0) (by decide +kernel) (by decide) ?_
    exact tt_zret (by decide +kernel) rfl rfl ⟨rfl, h⟩
  · have h := h.2 c
    refine tt_aload_n (k0 := 0) (by decide +kernel) rfl ?_
    refine tt_iconst (n := 1) (v := 1) (by decide +kernel) (by decide) ?_
    refine tt_callV (As := [.int 1]) (rest := []) (ci := 0) (r0 := (R_0, F_0, 2)) (by decide +kernel) LK_Bytes_at w_658 w_327 w_328 (by decide) (by decide) rfl rfl (Nat.le_of_ble_eq_true rfl) rfl rfl f1 (ct_mono h (fun r Sb h => ?_))
    obtain ⟨eb, h⟩ := h
    obtain ⟨r2, rfl, h⟩ := h
    rw [eb]
    show T G J_Bytes_tellsItsLength 13 [(0, .ref a0)] [.int r2] S _
    refine tt_bipush (n := 8) (v := 8) (by decide +kernel) (by decide) ?_
    refine tt_ishl (by decide +kernel) ?_
    refine tt_aload_n (k0 := 0) (by decide +kernel) rfl ?_
    refine tt_iconst (n := 2) (v := 2) (by decide +kernel) (by decide) ?_
    refine tt_callV (As := [.int 2]) (rest := [.int (r2 <<< ((8 : Int32) &&& 31))]) (ci := 0) (r0 := (R_0, F_0, 2)) (by decide +kernel) LK_Bytes_at w_658 w_327 w_328 (by decide) (by decide) rfl rfl (Nat.le_of_ble_eq_true rfl) rfl rfl f1 (ct_mono h (fun r Sb h => ?_))
    obtain ⟨eb, h⟩ := h
    obtain ⟨r3, rfl, h⟩ := h
    rw [eb]
    show T G J_Bytes_tellsItsLength 21 [(0, .ref a0)] [.int r3, .int (r2 <<< ((8 : Int32) &&& 31))] S _
    refine tt_ior (by decide +kernel) ?_
    refine tt_aload_n (k0 := 0) (by decide +kernel) rfl ?_
    refine tt_getI (k := 1) (by decide +kernel) KC_0 (by decide) w_30 (fun _ => rfl) f1 ?_
    refine tt_iconst (n := 3) (v := 3) (by decide +kernel) (by decide) ?_
    refine tt_isub (by decide +kernel) ?_
    refine tt_icmp_ne (off := 7) 35 (by decide +kernel) (by decide) (fun c => ?_) (fun c => ?_)
    · have h := h.1 c
      refine tt_iconst (n := 0) (v := 0) (by decide +kernel) (by decide) ?_
      exact tt_zret (by decide +kernel) rfl rfl ⟨rfl, h⟩
    · have h := h.2 c
      refine tt_iconst (n := 1) (v := 1) (by decide +kernel) (by decide) ?_
      refine tt_goto (off := 4) (tgt := 36) (by decide +kernel) (by decide) ?_
      exact tt_zret (by decide +kernel) rfl rfl ⟨rfl, h⟩
set_option maxRecDepth 100000 in
theorem v_Bytes_holdsAt {G : pG} (a0 : Nat) (x1 : Int32) (a2 : Nat) (S : TS) (Q : Option Value → Prop)
    (h : ((x1 < 0 → TP G J_Bytes_holdsAt 26 [(0, .ref a0), (1, .int x1), (2, .ref a2), (3, .int 0), (4, .int 0)] [] S Q) ∧ (¬ (x1 < 0) → te S a0 = some (.inr 0) ∧ te S a2 = some (.inr 0) ∧ (((tI S a0 1) - (tI S a2 1) < x1 → TP G J_Bytes_holdsAt 26 [(0, .ref a0), (1, .int x1), (2, .ref a2), (3, .int 0), (4, .int 0)] [] S Q) ∧ (¬ ((tI S a0 1) - (tI S a2 1) < x1) → TP G J_Bytes_holdsAt 26 [(0, .ref a0), (1, .int x1), (2, .ref a2), (3, .int 1), (4, .int 0)] [] S Q))))) :
    CP G J_Bytes_holdsAt [.ref a0, .int x1, .ref a2] S Q := by
  unfold CP
  refine ct_of (by decide +kernel) (Nat.le_of_ble_eq_true rfl) (lv := [(0, .ref a0), (1, .int x1), (2, .ref a2)]) rfl ?_
  refine tt_iload_n (k0 := 1) (by decide +kernel) rfl ?_
  refine tt_if_lt (off := 20) 21 (by decide +kernel) (by decide) (fun c => ?_) (fun c => ?_)
  · have h := h.1 c
    refine tt_iconst (n := 0) (v := 0) (by decide +kernel) (by decide) ?_
    refine tt_istore_n (k0 := 3) (lv' := [(0, .ref a0), (1, .int x1), (2, .ref a2), (3, .int 0)]) (by decide +kernel) (by decide) rfl ?_
    refine tt_iconst (n := 0) (v := 0) (by decide +kernel) (by decide) ?_
    refine tt_istore (k0 := 4) (lv' := [(0, .ref a0), (1, .int x1), (2, .ref a2), (3, .int 0), (4, .int 0)]) (by decide +kernel) (by decide) rfl ?_
    exact h
  · have h := h.2 c
    refine tt_iload_n (k0 := 1) (by decide +kernel) rfl ?_
    refine tt_aload_n (k0 := 0) (by decide +kernel) rfl ?_
    obtain ⟨f1, h⟩ := h
    refine tt_getI (k := 1) (by decide +kernel) KC_0 (by decide) w_30 (fun _ => rfl) f1 ?_
    refine tt_aload_n (k0 := 2) (by decide +kernel) rfl ?_
    obtain ⟨f2, h⟩ := h
    refine tt_getI (k := 1) (by decide +kernel) KC_0 (by decide) w_30 (fun _ => rfl) f2 ?_
    refine tt_isub (by decide +kernel) ?_
    refine tt_icmp_gt (off := 7) 21 (by decide +kernel) (by decide) (fun c => ?_) (fun c => ?_)
    · have h := h.1 c
      refine tt_iconst (n := 0) (v := 0) (by decide +kernel) (by decide) ?_
      refine tt_istore_n (k0 := 3) (lv' := [(0, .ref a0), (1, .int x1), (2, .ref a2), (3, .int 0)]) (by decide +kernel) (by decide) rfl ?_
      refine tt_iconst (n := 0) (v := 0) (by decide +kernel) (by decide) ?_
      refine tt_istore (k0 := 4) (lv' := [(0, .ref a0), (1, .int x1), (2, .ref a2), (3, .int 0), (4, .int 0)]) (by decide +kernel) (by decide) rfl ?_
      exact h
    · have h := h.2 c
      refine tt_iconst (n := 1) (v := 1) (by decide +kernel) (by decide) ?_
      refine tt_goto (off := 4) (tgt := 22) (by decide +kernel) (by decide) ?_
      refine tt_istore_n (k0 := 3) (lv' := [(0, .ref a0), (1, .int x1), (2, .ref a2), (3, .int 1)]) (by decide +kernel) (by decide) rfl ?_
      refine tt_iconst (n := 0) (v := 0) (by decide +kernel) (by decide) ?_
      refine tt_istore (k0 := 4) (lv' := [(0, .ref a0), (1, .int x1), (2, .ref a2), (3, .int 1), (4, .int 0)]) (by decide +kernel) (by decide) rfl ?_
      exact h
set_option maxRecDepth 100000 in
theorem v_Bytes_holdsAt_26 {G : pG} (a0 : Nat) (x1 : Int32) (a2 : Nat) (x3 : Int32) (x4 : Int32) (S : TS) (Q : Option Value → Prop)
    (h : ((x3 = 0 → ((x3 = 0 ∨ x3 = 1) ∧ Q (some (.int x3)))) ∧ (¬ (x3 = 0) → te S a2 = some (.inr 0) ∧ ((tI S a2 1 ≤ x4 → ((x3 = 0 ∨ x3 = 1) ∧ Q (some (.int x3)))) ∧ (¬ (tI S a2 1 ≤ x4) → te S a0 = some (.inr 0) ∧ ∃ b3 : Nat, tR S a0 0 = some b3 ∧ ∃ n5 : Nat, te S b3 = some (.inl (.int, n5)) ∧ vp_in (x1 + x4) n5 ∧ ∃ b7 : Nat, tR S a2 0 = some b7 ∧ ∃ n9 : Nat, te S b7 = some (.inl (.int, n9)) ∧ vp_in x4 n9 ∧ ((¬ tI S b3 (x1 + x4).toNatClampNeg = tI S b7 x4.toNatClampNeg → ∀ y11 : Int32, y11 = x4 + 1 → TP G J_Bytes_holdsAt 26 [(0, .ref a0), (1, .int x1), (2, .ref a2), (3, .int 0), (4, .int y11)] [] S Q) ∧ (tI S b3 (x1 + x4).toNatClampNeg = tI S b7 x4.toNatClampNeg → ∀ y12 : Int32, y12 = x4 + 1 → TP G J_Bytes_holdsAt 26 [(0, .ref a0), (1, .int x1), (2, .ref a2), (3, .int 1), (4, .int y12)] [] S Q))))))) :
    TP G J_Bytes_holdsAt 26 [(0, .ref a0), (1, .int x1), (2, .ref a2), (3, .int x3), (4, .int x4)] [] S Q := by
  unfold TP
  refine tt_iload_n (k0 := 3) (by decide +kernel) rfl ?_
  refine tt_if_eq (off := 43) 70 (by decide +kernel) (by decide) (fun c => ?_) (fun c => ?_)
  · have h := h.1 c
    refine tt_iload_n (k0 := 3) (by decide +kernel) rfl ?_
    obtain ⟨g, h⟩ := h
    exact tt_zret (by decide +kernel) rfl (by rcases g with g | g <;> rw [g] <;> rfl) ⟨rfl, h⟩
  · have h := h.2 c
    refine tt_iload (k0 := 4) (by decide +kernel) rfl ?_
    refine tt_aload_n (k0 := 2) (by decide +kernel) rfl ?_
    obtain ⟨f1, h⟩ := h
    refine tt_getI (k := 1) (by decide +kernel) KC_0 (by decide) w_30 (fun _ => rfl) f1 ?_
    refine tt_icmp_ge (off := 34) 70 (by decide +kernel) (by decide) (fun c => ?_) (fun c => ?_)
    · have h := h.1 c
      refine tt_iload_n (k0 := 3) (by decide +kernel) rfl ?_
      obtain ⟨g, h⟩ := h
      exact tt_zret (by decide +kernel) rfl (by rcases g with g | g <;> rw [g] <;> rfl) ⟨rfl, h⟩
    · have h := h.2 c
      refine tt_aload_n (k0 := 0) (by decide +kernel) rfl ?_
      obtain ⟨f2, h⟩ := h
      obtain ⟨b3, f4, h⟩ := h
      refine tt_getR (k := 0) (by decide +kernel) KC_0 (by decide) w_29 (fun _ => rfl) f2 f4 ?_
      refine tt_iload_n (k0 := 1) (by decide +kernel) rfl ?_
      refine tt_iload (k0 := 4) (by decide +kernel) rfl ?_
      refine tt_iadd (by decide +kernel) ?_
      obtain ⟨n5, f6, h⟩ := h
      obtain ⟨g2, h⟩ := h
      refine tt_iald (by decide +kernel) f6 g2 ?_
      refine tt_aload_n (k0 := 2) (by decide +kernel) rfl ?_
      obtain ⟨b7, f8, h⟩ := h
      refine tt_getR (k := 0) (by decide +kernel) KC_0 (by decide) w_29 (fun _ => rfl) f1 f8 ?_
      refine tt_iload (k0 := 4) (by decide +kernel) rfl ?_
      obtain ⟨n9, f10, h⟩ := h
      obtain ⟨g2, h⟩ := h
      refine tt_iald (by decide +kernel) f10 g2 ?_
      refine tt_icmp_ne (off := 7) 62 (by decide +kernel) (by decide) (fun c => ?_) (fun c => ?_)
      · have h := h.1 c
        refine tt_iconst (n := 0) (v := 0) (by decide +kernel) (by decide) ?_
        refine tt_istore_n (k0 := 3) (lv' := [(0, .ref a0), (1, .int x1), (2, .ref a2), (3, .int 0), (4, .int x4)]) (by decide +kernel) (by decide) rfl ?_
        obtain ⟨y11, ey11⟩ : ∃ y : Int32, y = x4 + 1 := ⟨_, rfl⟩
        have h := h y11 ey11
        refine tt_iinc (i := 4) (n := 1) (v := y11) (lv' := [(0, .ref a0), (1, .int x1), (2, .ref a2), (3, .int 0), (4, .int y11)]) (by decide +kernel) (by decide) rfl ey11.symm rfl ?_
        refine tt_goto (off := -41) (tgt := 26) (by decide +kernel) (by decide) ?_
        exact h
      · have h := h.2 c
        refine tt_iconst (n := 1) (v := 1) (by decide +kernel) (by decide) ?_
        refine tt_goto (off := 4) (tgt := 63) (by decide +kernel) (by decide) ?_
        refine tt_istore_n (k0 := 3) (lv' := [(0, .ref a0), (1, .int x1), (2, .ref a2), (3, .int 1), (4, .int x4)]) (by decide +kernel) (by decide) rfl ?_
        obtain ⟨y12, ey12⟩ : ∃ y : Int32, y = x4 + 1 := ⟨_, rfl⟩
        have h := h y12 ey12
        refine tt_iinc (i := 4) (n := 1) (v := y12) (lv' := [(0, .ref a0), (1, .int x1), (2, .ref a2), (3, .int 1), (4, .int y12)]) (by decide +kernel) (by decide) rfl ey12.symm rfl ?_
        refine tt_goto (off := -41) (tgt := 26) (by decide +kernel) (by decide) ?_
        exact h
set_option maxRecDepth 100000 in
theorem v_Bytes_same {G : pG} (a0 : Nat) (a1 : Nat) (S : TS) (Q : Option Value → Prop)
    (h : te S a0 = some (.inr 0) ∧ te S a1 = some (.inr 0) ∧ ((¬ tI S a0 1 = tI S a1 1 → Q (some (.int 0))) ∧ (tI S a0 1 = tI S a1 1 → CP G J_Bytes_holdsAt [.ref a0, .int 0, .ref a1] S (fun r => ∃ r3 : Int32, r = some (.int r3) ∧ ((r3 = 0 → Q (some (.int 0))) ∧ (¬ (r3 = 0) → Q (some (.int 1)))))))) :
    CP G J_Bytes_same [.ref a0, .ref a1] S Q := by
  unfold CP
  refine ct_of (by decide +kernel) (Nat.le_of_ble_eq_true rfl) (lv := [(0, .ref a0), (1, .ref a1)]) rfl ?_
  refine tt_aload_n (k0 := 0) (by decide +kernel) rfl ?_
  obtain ⟨f1, h⟩ := h
  refine tt_getI (k := 1) (by decide +kernel) KC_0 (by decide) w_30 (fun _ => rfl) f1 ?_
  refine tt_aload_n (k0 := 1) (by decide +kernel) rfl ?_
  obtain ⟨f2, h⟩ := h
  refine tt_getI (k := 1) (by decide +kernel) KC_0 (by decide) w_30 (fun _ => rfl) f2 ?_
  refine tt_icmp_ne (off := 16) 24 (by decide +kernel) (by decide) (fun c => ?_) (fun c => ?_)
  · have h := h.1 c
    refine tt_iconst (n := 0) (v := 0) (by decide +kernel) (by decide) ?_
    exact tt_zret (by decide +kernel) rfl rfl ⟨rfl, h⟩
  · have h := h.2 c
    refine tt_aload_n (k0 := 0) (by decide +kernel) rfl ?_
    refine tt_iconst (n := 0) (v := 0) (by decide +kernel) (by decide) ?_
    refine tt_aload_n (k0 := 1) (by decide +kernel) rfl ?_
    refine tt_callV (As := [.int 0, .ref a1]) (rest := []) (ci := 0) (r0 := (R_0, F_0, 2)) (by decide +kernel) LK_Bytes_holdsAt w_735 w_683 w_684 (by decide) (by decide) rfl rfl (Nat.le_of_ble_eq_true rfl) rfl rfl f1 (ct_mono h (fun r Sb h => ?_))
    obtain ⟨eb, h⟩ := h
    obtain ⟨r3, rfl, h⟩ := h
    rw [eb]
    show T G J_Bytes_same 17 [(0, .ref a0), (1, .ref a1)] [.int r3] S _
    refine tt_if_eq (off := 7) 24 (by decide +kernel) (by decide) (fun c => ?_) (fun c => ?_)
    · have h := h.1 c
      refine tt_iconst (n := 0) (v := 0) (by decide +kernel) (by decide) ?_
      exact tt_zret (by decide +kernel) rfl rfl ⟨rfl, h⟩
    · have h := h.2 c
      refine tt_iconst (n := 1) (v := 1) (by decide +kernel) (by decide) ?_
      refine tt_goto (off := 4) (tgt := 25) (by decide +kernel) (by decide) ?_
      exact tt_zret (by decide +kernel) rfl rfl ⟨rfl, h⟩
set_option maxRecDepth 100000 in
theorem v_Bytes_flipBits {G : pG} (a0 : Nat) (x1 : Int32) (x2 : Int32) (S : TS) (Q : Option Value → TS → Prop)
    (h : te S a0 = some (.inr 0) ∧ CP G J_Bytes_has [.ref a0, .int x1] S (fun r => ∃ r2 : Int32, r = some (.int r2) ∧ ((r2 = 0 → CP G J_Bytes_at [.ref a0, .int x1] S (fun r => ∃ r3 : Int32, r = some (.int r3) ∧ Q (some (.int r3)) S)) ∧ (¬ (r2 = 0) → ∃ b4 : Nat, tR S a0 0 = some b4 ∧ ∃ n6 : Nat, te S b4 = some (.inl (.int, n6)) ∧ vp_in x1 n6 ∧ vp_in x1 n6 ∧ ∀ S8 : TS, S8 = sI S b4 (upd (tI S b4) x1.toNatClampNeg ((tI S b4 x1.toNatClampNeg) ^^^ (x2 &&& (255 : Int32)))) → CP G J_Bytes_at [.ref a0, .int x1] S8 (fun r => ∃ r9 : Int32, r = some (.int r9) ∧ Q (some (.int r9)) S8))))) :
    C0 G J_Bytes_flipBits [.ref a0, .int x1, .int x2] S Q := by
  unfold C0
  refine ct_of (by decide +kernel) (Nat.le_of_ble_eq_true rfl) (lv := [(0, .ref a0), (1, .int x1), (2, .int x2)]) rfl ?_
  have hm : Sm0 S S := Sm0.rf S
  refine tt_aload_n (k0 := 0) (by decide +kernel) rfl ?_
  refine tt_iload_n (k0 := 1) (by decide +kernel) rfl ?_
  obtain ⟨f1, h⟩ := h
  refine tt_callV (As := [.int x1]) (rest := []) (ci := 0) (r0 := (R_0, F_0, 2)) (by decide +kernel) LK_Bytes_has w_788 w_323 w_324 (by decide) (by decide) rfl rfl (Nat.le_of_ble_eq_true rfl) rfl rfl f1 (ct_mono h (fun r Sb h => ?_))
  obtain ⟨eb, h⟩ := h
  obtain ⟨r2, rfl, h⟩ := h
  rw [eb]
  show T G J_Bytes_flipBits 5 [(0, .ref a0), (1, .int x1), (2, .int x2)] [.int r2] S _
  refine tt_if_eq (off := 17) 22 (by decide +kernel) (by decide) (fun c => ?_) (fun c => ?_)
  · have h := h.1 c
    refine tt_aload_n (k0 := 0) (by decide +kernel) rfl ?_
    refine tt_iload_n (k0 := 1) (by decide +kernel) rfl ?_
    refine tt_callV (As := [.int x1]) (rest := []) (ci := 0) (r0 := (R_0, F_0, 2)) (by decide +kernel) LK_Bytes_at w_658 w_327 w_328 (by decide) (by decide) rfl rfl (Nat.le_of_ble_eq_true rfl) rfl rfl f1 (ct_mono h (fun r Sb h => ?_))
    obtain ⟨eb, h⟩ := h
    obtain ⟨r3, rfl, h⟩ := h
    rw [eb]
    show T G J_Bytes_flipBits 27 [(0, .ref a0), (1, .int x1), (2, .int x2)] [.int r3] S _
    exact tt_iret (by decide +kernel) rfl ⟨hm, h⟩
  · have h := h.2 c
    refine tt_aload_n (k0 := 0) (by decide +kernel) rfl ?_
    obtain ⟨b4, f5, h⟩ := h
    refine tt_getR (k := 0) (by decide +kernel) KC_0 (by decide) w_29 (fun _ => rfl) f1 f5 ?_
    refine tt_iload_n (k0 := 1) (by decide +kernel) rfl ?_
    refine tt_dup2_11 (by decide +kernel) rfl rfl ?_
    obtain ⟨n6, f7, h⟩ := h
    obtain ⟨g2, h⟩ := h
    refine tt_iald (by decide +kernel) f7 g2 ?_
    refine tt_iload_n (k0 := 2) (by decide +kernel) rfl ?_
    refine tt_sipush (n := 255) (v := 255) (by decide +kernel) (by decide) ?_
    refine tt_iand (by decide +kernel) ?_
    refine tt_ixor (by decide +kernel) ?_
    obtain ⟨g2, h⟩ := h
    refine tt_iast (by decide +kernel) f7 g2 ?_
    generalize eS8 : sI S b4 (upd (tI S b4) x1.toNatClampNeg ((tI S b4 x1.toNatClampNeg) ^^^ (x2 &&& (255 : Int32)))) = S8
    have h := h S8 eS8.symm
    have hm : Sm0 S S8 := by rw [← eS8]; exact hm.I
    have f1 : te S8 a0 = some (.inr 0) := by rw [← eS8, te_sI]; exact f1
    have f5 : tR S8 a0 0 = some b4 := by rw [← eS8, tR_sI]; exact f5
    have f7 : te S8 b4 = some (.inl (.int, n6)) := by rw [← eS8, te_sI]; exact f7
    refine tt_aload_n (k0 := 0) (by decide +kernel) rfl ?_
    refine tt_iload_n (k0 := 1) (by decide +kernel) rfl ?_
    refine tt_callV (As := [.int x1]) (rest := []) (ci := 0) (r0 := (R_0, F_0, 2)) (by decide +kernel) LK_Bytes_at w_658 w_327 w_328 (by decide) (by decide) rfl rfl (Nat.le_of_ble_eq_true rfl) rfl rfl f1 (ct_mono h (fun r Sb h => ?_))
    obtain ⟨eb, h⟩ := h
    obtain ⟨r9, rfl, h⟩ := h
    rw [eb]
    show T G J_Bytes_flipBits 27 [(0, .ref a0), (1, .int x1), (2, .int x2)] [.int r9] S8 _
    exact tt_iret (by decide +kernel) rfl ⟨hm, h⟩
