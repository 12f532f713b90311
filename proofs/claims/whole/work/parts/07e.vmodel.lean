set_option maxRecDepth 100000 in
theorem v_M_feed {G : pG} (a0 : Nat) (x1 : Int32) (x2 : Int32) (x3 : Int32) (x4 : Int32) (x5 : Int32) (S : TS) (Q : Option Value → TS → Prop)
    (h : te S a0 = some (.inr 11) ∧ (((tI S a0 1) + (20 : Int32) ≤ 200 → C0 G J_M_put [.ref a0, .int x1] S (fun r S2 => r = none ∧ C0 G J_M_put [.ref a0, .int x2] S2 (fun r S3 => r = none ∧ C0 G J_M_put [.ref a0, .int x3] S3 (fun r S4 => r = none ∧ C0 G J_M_put [.ref a0, .int x4] S4 (fun r S5 => r = none ∧ C0 G J_M_put [.ref a0, .int x5] S5 (fun r S6 => r = none ∧ Q (some (.int (tI S6 a0 1))) S6)))))) ∧ (¬ ((tI S a0 1) + (20 : Int32) ≤ 200) → Q (some (.int ((-3)))) S))) :
    C0 G J_M_feed [.ref a0, .int x1, .int x2, .int x3, .int x4, .int x5] S Q := by
  unfold C0
  refine ct_of (by decide +kernel) (Nat.le_of_ble_eq_true rfl) (lv := [(0, .ref a0), (1, .int x1), (2, .int x2), (3, .int x3), (4, .int x4), (5, .int x5)]) rfl ?_
  have hm : Sm0 S S := Sm0.rf S
  refine tt_aload_n (k0 := 0) (by decide +kernel) rfl ?_
  obtain ⟨f1, h⟩ := h
  refine tt_getI (k := 1) (by decide +kernel) KC_11 (by decide) w_866 (fun _ => rfl) f1 ?_
  refine tt_bipush (n := 20) (v := 20) (by decide +kernel) (by decide) ?_
  refine tt_iadd (by decide +kernel) ?_
  refine tt_sipush (n := 200) (v := 200) (by decide +kernel) (by decide) ?_
  refine tt_icmp_le (off := 6) 16 (by decide +kernel) (by decide) (fun c => ?_) (fun c => ?_)
  · have h := h.1 c
    refine tt_aload_n (k0 := 0) (by decide +kernel) rfl ?_
    refine tt_iload_n (k0 := 1) (by decide +kernel) rfl ?_
    refine tt_callV (As := [.int x1]) (rest := []) (ci := 11) (r0 := (R_11, F_11, 55)) (by decide +kernel) LK_M_put w_1037 w_1039 (in_p (n := 55) 28 rfl) (by decide) (by decide) rfl rfl (Nat.le_of_ble_eq_true rfl) rfl rfl f1 (ct_mono h (fun r S2 h => ?_))
    obtain ⟨hm2, h⟩ := h
    obtain ⟨rfl, h⟩ := h
    show T G J_M_feed 21 [(0, .ref a0), (1, .int x1), (2, .int x2), (3, .int x3), (4, .int x4), (5, .int x5)] [] S2 _
    have hm := hm.tr hm2
    have f1 : te S2 a0 = some (.inr 11) := by rw [hm2.1]; exact f1
    refine tt_aload_n (k0 := 0) (by decide +kernel) rfl ?_
    refine tt_iload_n (k0 := 2) (by decide +kernel) rfl ?_
    refine tt_callV (As := [.int x2]) (rest := []) (ci := 11) (r0 := (R_11, F_11, 55)) (by decide +kernel) LK_M_put w_1037 w_1039 (in_p (n := 55) 28 rfl) (by decide) (by decide) rfl rfl (Nat.le_of_ble_eq_true rfl) rfl rfl f1 (ct_mono h (fun r S3 h => ?_))
    obtain ⟨hm2, h⟩ := h
    obtain ⟨rfl, h⟩ := h
    show T G J_M_feed 26 [(0, .ref a0), (1, .int x1), (2, .int x2), (3, .int x3), (4, .int x4), (5, .int x5)] [] S3 _
    have hm := hm.tr hm2
    have f1 : te S3 a0 = some (.inr 11) := by rw [hm2.1]; exact f1
    refine tt_aload_n (k0 := 0) (by decide +kernel) rfl ?_
    refine tt_iload_n (k0 := 3) (by decide +kernel) rfl ?_
    refine tt_callV (As := [.int x3]) (rest := []) (ci := 11) (r0 := (R_11, F_11, 55)) (by decide +kernel) LK_M_put w_1037 w_1039 (in_p (n := 55) 28 rfl) (by decide) (by decide) rfl rfl (Nat.le_of_ble_eq_true rfl) rfl rfl f1 (ct_mono h (fun r S4 h => ?_))
    obtain ⟨hm2, h⟩ := h
    obtain ⟨rfl, h⟩ := h
    show T G J_M_feed 31 [(0, .ref a0), (1, .int x1), (2, .int x2), (3, .int x3), (4, .int x4), (5, .int x5)] [] S4 _
    have hm := hm.tr hm2
    have f1 : te S4 a0 = some (.inr 11) := by rw [hm2.1]; exact f1
    refine tt_aload_n (k0 := 0) (by decide +kernel) rfl ?_
    refine tt_iload (k0 := 4) (by decide +kernel) rfl ?_
    refine tt_callV (As := [.int x4]) (rest := []) (ci := 11) (r0 := (R_11, F_11, 55)) (by decide +kernel) LK_M_put w_1037 w_1039 (in_p (n := 55) 28 rfl) (by decide) (by decide) rfl rfl (Nat.le_of_ble_eq_true rfl) rfl rfl f1 (ct_mono h (fun r S5 h => ?_))
    obtain ⟨hm2, h⟩ := h
    obtain ⟨rfl, h⟩ := h
    show T G J_M_feed 37 [(0, .ref a0), (1, .int x1), (2, .int x2), (3, .int x3), (4, .int x4), (5, .int x5)] [] S5 _
    have hm := hm.tr hm2
    have f1 : te S5 a0 = some (.inr 11) := by rw [hm2.1]; exact f1
    refine tt_aload_n (k0 := 0) (by decide +kernel) rfl ?_
    refine tt_iload (k0 := 5) (by decide +kernel) rfl ?_
    refine tt_callV (As := [.int x5]) (rest := []) (ci := 11) (r0 := (R_11, F_11, 55)) (by decide +kernel) LK_M_put w_1037 w_1039 (in_p (n := 55) 28 rfl) (by decide) (by decide) rfl rfl (Nat.le_of_ble_eq_true rfl) rfl rfl f1 (ct_mono h (fun r S6 h => ?_))
    obtain ⟨hm2, h⟩ := h
    obtain ⟨rfl, h⟩ := h
    show T G J_M_feed 43 [(0, .ref a0), (1, .int x1), (2, .int x2), (3, .int x3), (4, .int x4), (5, .int x5)] [] S6 _
    have hm := hm.tr hm2
    have f1 : te S6 a0 = some (.inr 11) := by rw [hm2.1]; exact f1
    refine tt_aload_n (k0 := 0) (by decide +kernel) rfl ?_
    refine tt_getI (k := 1) (by decide +kernel) KC_11 (by decide) w_866 (fun _ => rfl) f1 ?_
    exact tt_iret (by decide +kernel) rfl ⟨hm, h⟩
  · have h := h.2 c
    refine tt_bipush (n := -3) (v := -3) (by decide +kernel) (by decide) ?_
    exact tt_iret (by decide +kernel) rfl ⟨hm, h⟩
set_option maxRecDepth 100000 in
theorem v_M_put {G : pG} (a0 : Nat) (x1 : Int32) (S : TS) (Q : Option Value → TS → Prop)
    (h : T0 G J_M_put 3 [(0, .ref a0), (1, .int x1), (2, .int 24)] [] S Q) :
    C0 G J_M_put [.ref a0, .int x1] S Q := by
  unfold C0
  refine ct_of (by decide +kernel) (Nat.le_of_ble_eq_true rfl) (lv := [(0, .ref a0), (1, .int x1)]) rfl ?_
  have hm : Sm0 S S := Sm0.rf S
  refine tt_bipush (n := 24) (v := 24) (by decide +kernel) (by decide) ?_
  refine tt_istore_n (k0 := 2) (lv' := [(0, .ref a0), (1, .int x1), (2, .int 24)]) (by decide +kernel) (by decide) rfl ?_
  exact tt_mono h (fun r S' q => ⟨hm.tr q.1, q.2⟩)
set_option maxRecDepth 100000 in
theorem v_M_put_3 {G : pG} (a0 : Nat) (x1 : Int32) (x2 : Int32) (S : TS) (Q : Option Value → TS → Prop)
    (h : ((x2 < 0 → Q none S) ∧ (¬ (x2 < 0) → te S a0 = some (.inr 11) ∧ ∃ b2 : Nat, tR S a0 0 = some b2 ∧ ∃ n4 : Nat, te S b2 = some (.inl (.byte, n4)) ∧ vp_in (tI S a0 1) n4 ∧ ∀ S6 : TS, S6 = sI S b2 (upd (tI S b2) (tI S a0 1).toNatClampNeg ((x1 >>> (x2 &&& 31) : Int32).toInt8.toInt32 : Int32).toInt8.toInt32) → ∀ S7 : TS, S7 = sI S6 a0 (upd (tI S6 a0) 1 ((tI S6 a0 1) + (1 : Int32))) → ∀ y8 : Int32, y8 = x2 + (-8) → T0 G J_M_put 3 [(0, .ref a0), (1, .int x1), (2, .int y8)] [] S7 Q))) :
    T0 G J_M_put 3 [(0, .ref a0), (1, .int x1), (2, .int x2)] [] S Q := by
  unfold T0
  have hm : Sm0 S S := Sm0.rf S
  refine tt_iload_n (k0 := 2) (by decide +kernel) rfl ?_
  refine tt_if_lt (off := 32) 36 (by decide +kernel) (by decide) (fun c => ?_) (fun c => ?_)
  · have h := h.1 c
    exact tt_vret (by decide +kernel) rfl ⟨hm, h⟩
  · have h := h.2 c
    refine tt_aload_n (k0 := 0) (by decide +kernel) rfl ?_
    obtain ⟨f1, h⟩ := h
    obtain ⟨b2, f3, h⟩ := h
    refine tt_getR (k := 0) (by decide +kernel) KC_11 (by decide) w_865 (fun _ => rfl) f1 f3 ?_
    refine tt_aload_n (k0 := 0) (by decide +kernel) rfl ?_
    refine tt_getI (k := 1) (by decide +kernel) KC_11 (by decide) w_866 (fun _ => rfl) f1 ?_
    refine tt_iload_n (k0 := 1) (by decide +kernel) rfl ?_
    refine tt_iload_n (k0 := 2) (by decide +kernel) rfl ?_
    refine tt_ishr (by decide +kernel) ?_
    refine tt_i2b (by decide +kernel) ?_
    obtain ⟨n4, f5, h⟩ := h
    obtain ⟨g2, h⟩ := h
    refine tt_bast (by decide +kernel) f5 g2 ?_
    generalize eS6 : sI S b2 (upd (tI S b2) (tI S a0 1).toNatClampNeg ((x1 >>> (x2 &&& 31) : Int32).toInt8.toInt32 : Int32).toInt8.toInt32) = S6
    have h := h S6 eS6.symm
    have hm : Sm0 S S6 := by rw [← eS6]; exact hm.I
    have f1 : te S6 a0 = some (.inr 11) := by rw [← eS6, te_sI]; exact f1
    have f3 : tR S6 a0 0 = some b2 := by rw [← eS6, tR_sI]; exact f3
    have f5 : te S6 b2 = some (.inl (.byte, n4)) := by rw [← eS6, te_sI]; exact f5
    refine tt_aload_n (k0 := 0) (by decide +kernel) rfl ?_
    refine tt_dup (by decide +kernel) rfl ?_
    refine tt_getI (k := 1) (by decide +kernel) KC_11 (by decide) w_866 (fun _ => rfl) f1 ?_
    refine tt_iconst (n := 1) (v := 1) (by decide +kernel) (by decide) ?_
    refine tt_iadd (by decide +kernel) ?_
    refine tt_putI (k := 1) (by decide +kernel) KC_11 (by decide) w_866 rfl rfl f1 ?_
    generalize eS7 : sI S6 a0 (upd (tI S6 a0) 1 ((tI S6 a0 1) + (1 : Int32))) = S7
    have h := h S7 eS7.symm
    have hm : Sm0 S S7 := by rw [← eS7]; exact hm.I
    have f1 : te S7 a0 = some (.inr 11) := by rw [← eS7, te_sI]; exact f1
    have f3 : tR S7 a0 0 = some b2 := by rw [← eS7, tR_sI]; exact f3
    have f5 : te S7 b2 = some (.inl (.byte, n4)) := by rw [← eS7, te_sI]; exact f5
    obtain ⟨y8, ey8⟩ : ∃ y : Int32, y = x2 + (-8) := ⟨_, rfl⟩
    have h := h y8 ey8
    refine tt_iinc (i := 2) (n := -8) (v := y8) (lv' := [(0, .ref a0), (1, .int x1), (2, .int y8)]) (by decide +kernel) (by decide) rfl (by rw [ey8]; exact congrArg (fun z => x2 + z) (by decide : Int32.ofInt (-8) = (-8))) rfl ?_
    refine tt_goto (off := -30) (tgt := 3) (by decide +kernel) (by decide) ?_
    exact tt_mono h (fun r S' q => ⟨hm.tr q.1, q.2⟩)
set_option maxRecDepth 100000 in
theorem v_M_end {G : pG} (a0 : Nat) (x1 : Int32) (S : TS) (Q : Option Value → TS → Prop)
    (h : ((x1 < 0 → Q (some (.int ((-1)))) S) ∧ (¬ (x1 < 0) → te S a0 = some (.inr 11) ∧ ((x1 ≤ tI S a0 1 → ∀ S2 : TS, S2 = sI S a0 (upd (tI S a0) 1 x1) → Q (some (.int x1)) S2) ∧ (¬ (x1 ≤ tI S a0 1) → Q (some (.int ((-1)))) S))))) :
    C0 G J_M_end [.ref a0, .int x1] S Q := by
  unfold C0
  refine ct_of (by decide +kernel) (Nat.le_of_ble_eq_true rfl) (lv := [(0, .ref a0), (1, .int x1)]) rfl ?_
  have hm : Sm0 S S := Sm0.rf S
  refine tt_iload_n (k0 := 1) (by decide +kernel) rfl ?_
  refine tt_if_lt (off := 11) 12 (by decide +kernel) (by decide) (fun c => ?_) (fun c => ?_)
  · have h := h.1 c
    refine tt_iconst (n := -1) (v := -1) (by decide +kernel) (by decide) ?_
    exact tt_iret (by decide +kernel) rfl ⟨hm, h⟩
  · have h := h.2 c
    refine tt_iload_n (k0 := 1) (by decide +kernel) rfl ?_
    refine tt_aload_n (k0 := 0) (by decide +kernel) rfl ?_
    obtain ⟨f1, h⟩ := h
    refine tt_getI (k := 1) (by decide +kernel) KC_11 (by decide) w_866 (fun _ => rfl) f1 ?_
    refine tt_icmp_le (off := 5) 14 (by decide +kernel) (by decide) (fun c => ?_) (fun c => ?_)
    · have h := h.1 c
      refine tt_aload_n (k0 := 0) (by decide +kernel) rfl ?_
      refine tt_iload_n (k0 := 1) (by decide +kernel) rfl ?_
      refine tt_putI (k := 1) (by decide +kernel) KC_11 (by decide) w_866 rfl rfl f1 ?_
      generalize eS2 : sI S a0 (upd (tI S a0) 1 x1) = S2
      have h := h S2 eS2.symm
      have hm : Sm0 S S2 := by rw [← eS2]; exact hm.I
      have f1 : te S2 a0 = some (.inr 11) := by rw [← eS2, te_sI]; exact f1
      refine tt_iload_n (k0 := 1) (by decide +kernel) rfl ?_
      exact tt_iret (by decide +kernel) rfl ⟨hm, h⟩
    · have h := h.2 c
      refine tt_iconst (n := -1) (v := -1) (by decide +kernel) (by decide) ?_
      exact tt_iret (by decide +kernel) rfl ⟨hm, h⟩
set_option maxRecDepth 100000 in
theorem v_M_octet {G : pG} (a0 : Nat) (x1 : Int32) (S : TS) (Q : Option Value → Prop)
    (h : ((¬ x1 = (-1) → ((x1 < 0 → Q (some (.int ((-2))))) ∧ (¬ (x1 < 0) → te S a0 = some (.inr 11) ∧ ((x1 < tI S a0 3 → ∃ b2 : Nat, tR S a0 2 = some b2 ∧ ∃ n4 : Nat, te S b2 = some (.inl (.byte, n4)) ∧ vp_in x1 n4 ∧ Q (some (.int ((tI S b2 x1.toNatClampNeg) &&& (255 : Int32))))) ∧ (¬ (x1 < tI S a0 3) → Q (some (.int ((-2))))))))) ∧ (x1 = (-1) → te S a0 = some (.inr 11) ∧ Q (some (.int (tI S a0 3)))))) :
    CP G J_M_octet [.ref a0, .int x1] S Q := by
  unfold CP
  refine ct_of (by decide +kernel) (Nat.le_of_ble_eq_true rfl) (lv := [(0, .ref a0), (1, .int x1)]) rfl ?_
  refine tt_iload_n (k0 := 1) (by decide +kernel) rfl ?_
  refine tt_iconst (n := -1) (v := -1) (by decide +kernel) (by decide) ?_
  refine tt_icmp_ne (off := 8) 10 (by decide +kernel) (by decide) (fun c => ?_) (fun c => ?_)
  · have h := h.1 c
    refine tt_iload_n (k0 := 1) (by decide +kernel) rfl ?_
    refine tt_if_lt (off := 11) 22 (by decide +kernel) (by decide) (fun c => ?_) (fun c => ?_)
    · have h := h.1 c
      refine tt_bipush (n := -2) (v := -2) (by decide +kernel) (by decide) ?_
      refine tt_goto (off := 13) (tgt := 37) (by decide +kernel) (by decide) ?_
      exact tt_iret (by decide +kernel) rfl ⟨rfl, h⟩
    · have h := h.2 c
      refine tt_iload_n (k0 := 1) (by decide +kernel) rfl ?_
      refine tt_aload_n (k0 := 0) (by decide +kernel) rfl ?_
      obtain ⟨f1, h⟩ := h
      refine tt_getI (k := 3) (by decide +kernel) KC_11 (by decide) w_868 (fun _ => rfl) f1 ?_
      refine tt_icmp_lt (off := 8) 27 (by decide +kernel) (by decide) (fun c => ?_) (fun c => ?_)
      · have h := h.1 c
        refine tt_aload_n (k0 := 0) (by decide +kernel) rfl ?_
        obtain ⟨b2, f3, h⟩ := h
        refine tt_getR (k := 2) (by decide +kernel) KC_11 (by decide) w_867 (fun _ => rfl) f1 f3 ?_
        refine tt_iload_n (k0 := 1) (by decide +kernel) rfl ?_
        obtain ⟨n4, f5, h⟩ := h
        obtain ⟨g2, h⟩ := h
        refine tt_bald (by decide +kernel) f5 g2 ?_
        refine tt_sipush (n := 255) (v := 255) (by decide +kernel) (by decide) ?_
        refine tt_iand (by decide +kernel) ?_
        exact tt_iret (by decide +kernel) rfl ⟨rfl, h⟩
      · have h := h.2 c
        refine tt_bipush (n := -2) (v := -2) (by decide +kernel) (by decide) ?_
        refine tt_goto (off := 13) (tgt := 37) (by decide +kernel) (by decide) ?_
        exact tt_iret (by decide +kernel) rfl ⟨rfl, h⟩
  · have h := h.2 c
    refine tt_aload_n (k0 := 0) (by decide +kernel) rfl ?_
    obtain ⟨f6, h⟩ := h
    refine tt_getI (k := 3) (by decide +kernel) KC_11 (by decide) w_868 (fun _ => rfl) f6 ?_
    exact tt_iret (by decide +kernel) rfl ⟨rfl, h⟩
set_option maxRecDepth 100000 in
theorem v_M_key {G : pG} (a0 : Nat) (x1 : Int32) (x2 : Int32) (S : TS) (Q : Option Value → TS → Prop)
    (h : CP G J_M_side [.int x1] S (fun r => ∃ r1 : Int32, r = some (.int r1) ∧ ((r1 = 0 → te S a0 = some (.inr 11) ∧ ∀ S3 : TS, S3 = sI S a0 (upd (tI S a0) 1 0) → Q (some (.int ((-1)))) S3) ∧ (¬ (r1 = 0) → ((x2 < 0 → te S a0 = some (.inr 11) ∧ ∀ S5 : TS, S5 = sI S a0 (upd (tI S a0) 1 0) → Q (some (.int ((-1)))) S5) ∧ (¬ (x2 < 0) → ((8 ≤ x2 → te S a0 = some (.inr 11) ∧ ∀ S7 : TS, S7 = sI S a0 (upd (tI S a0) 1 0) → Q (some (.int ((-1)))) S7) ∧ (¬ (8 ≤ x2) → te S a0 = some (.inr 11) ∧ ∀ S9 : TS, S9 = sI S a0 (upd (tI S a0) 6 0) → ∃ b10 : Nat, tR S9 a0 0 = some b10 ∧ C0 G J_M_add_ABII [.ref a0, .ref b10, .int 0, .int (tI S9 a0 1)] S9 (fun r S12 => r = none ∧ ∃ b13 : Nat, tR S12 a0 14 = some b13 ∧ C0 G J_M_hashTo [.ref a0, .ref b13, .int ((32 : Int32) * (((8 : Int32) * x1) + x2))] S12 (fun r S15 => r = none ∧ ∃ b16 : Nat, tR S15 a0 13 = some b16 ∧ ∃ n18 : Nat, te S15 b16 = some (.inl (.boolean, n18)) ∧ vp_in (((8 : Int32) * x1) + x2) n18 ∧ ∀ S20 : TS, S20 = sI S15 b16 (upd (tI S15 b16) (((8 : Int32) * x1) + x2).toNatClampNeg (vp_nar .boolean 1)) → ∀ S21 : TS, S21 = sI S20 a0 (upd (tI S20 a0) 1 0) → Q (some (.int 0)) S21)))))))))) :
    C0 G J_M_key [.ref a0, .int x1, .int x2] S Q := by
  unfold C0
  refine ct_of (by decide +kernel) (Nat.le_of_ble_eq_true rfl) (lv := [(0, .ref a0), (1, .int x1), (2, .int x2)]) rfl ?_
  have hm : Sm0 S S := Sm0.rf S
  refine tt_iload_n (k0 := 1) (by decide +kernel) rfl ?_
  refine tt_callS (As := [.int x1]) (rest := []) (by decide +kernel) LK_M_side w_1053 w_1054 (by decide) (by decide) rfl rfl (Nat.le_of_ble_eq_true rfl) (ct_mono h (fun r Sb h => ?_))
  obtain ⟨eb, h⟩ := h
  obtain ⟨r1, rfl, h⟩ := h
  rw [eb]
  show T G J_M_key 4 [(0, .ref a0), (1, .int x1), (2, .int x2)] [.int r1] S _
  refine tt_if_eq (off := 17) 21 (by decide +kernel) (by decide) (fun c => ?_) (fun c => ?_)
  · have h := h.1 c
    refine tt_iconst (n := 0) (v := 0) (by decide +kernel) (by decide) ?_
    refine tt_istore_n (k0 := 3) (lv' := [(0, .ref a0), (1, .int x1), (2, .int x2), (3, .int 0)]) (by decide +kernel) (by decide) rfl ?_
    refine tt_iload_n (k0 := 3) (by decide +kernel) rfl ?_
    refine tt_if_eq (off := 50) 74 (by decide +kernel) (by decide) (fun c => ?_) (fun c => ?_)
    · refine tt_aload_n (k0 := 0) (by decide +kernel) rfl ?_
      refine tt_iconst (n := 0) (v := 0) (by decide +kernel) (by decide) ?_
      obtain ⟨f2, h⟩ := h
      refine tt_putI (k := 1) (by decide +kernel) KC_11 (by decide) w_866 rfl rfl f2 ?_
      generalize eS3 : sI S a0 (upd (tI S a0) 1 0) = S3
      have h := h S3 eS3.symm
      have hm : Sm0 S S3 := by rw [← eS3]; exact hm.I
      have f2 : te S3 a0 = some (.inr 11) := by rw [← eS3, te_sI]; exact f2
      refine tt_iload_n (k0 := 3) (by decide +kernel) rfl ?_
      refine tt_if_eq (off := 7) 87 (by decide +kernel) (by decide) (fun c => ?_) (fun c => ?_)
      · refine tt_iconst (n := -1) (v := -1) (by decide +kernel) (by decide) ?_
        exact tt_iret (by decide +kernel) rfl ⟨hm, h⟩
      · exact absurd c (by decide)
    · exact absurd c (by decide)
  · have h := h.2 c
    refine tt_iload_n (k0 := 2) (by decide +kernel) rfl ?_
    refine tt_if_lt (off := 13) 21 (by decide +kernel) (by decide) (fun c => ?_) (fun c => ?_)
    · have h := h.1 c
      refine tt_iconst (n := 0) (v := 0) (by decide +kernel) (by decide) ?_
      refine tt_istore_n (k0 := 3) (lv' := [(0, .ref a0), (1, .int x1), (2, .int x2), (3, .int 0)]) (by decide +kernel) (by decide) rfl ?_
      refine tt_iload_n (k0 := 3) (by decide +kernel) rfl ?_
      refine tt_if_eq (off := 50) 74 (by decide +kernel) (by decide) (fun c => ?_) (fun c => ?_)
      · refine tt_aload_n (k0 := 0) (by decide +kernel) rfl ?_
        refine tt_iconst (n := 0) (v := 0) (by decide +kernel) (by decide) ?_
        obtain ⟨f4, h⟩ := h
        refine tt_putI (k := 1) (by decide +kernel) KC_11 (by decide) w_866 rfl rfl f4 ?_
        generalize eS5 : sI S a0 (upd (tI S a0) 1 0) = S5
        have h := h S5 eS5.symm
        have hm : Sm0 S S5 := by rw [← eS5]; exact hm.I
        have f4 : te S5 a0 = some (.inr 11) := by rw [← eS5, te_sI]; exact f4
        refine tt_iload_n (k0 := 3) (by decide +kernel) rfl ?_
        refine tt_if_eq (off := 7) 87 (by decide +kernel) (by decide) (fun c => ?_) (fun c => ?_)
        · refine tt_iconst (n := -1) (v := -1) (by decide +kernel) (by decide) ?_
          exact tt_iret (by decide +kernel) rfl ⟨hm, h⟩
        · exact absurd c (by decide)
      · exact absurd c (by decide)
    · have h := h.2 c
      refine tt_iload_n (k0 := 2) (by decide +kernel) rfl ?_
      refine tt_bipush (n := 8) (v := 8) (by decide +kernel) (by decide) ?_
      refine tt_icmp_ge (off := 7) 21 (by decide +kernel) (by decide) (fun c => ?_) (fun c => ?_)
      · have h := h.1 c
        refine tt_iconst (n := 0) (v := 0) (by decide +kernel) (by decide) ?_
        refine tt_istore_n (k0 := 3) (lv' := [(0, .ref a0), (1, .int x1), (2, .int x2), (3, .int 0)]) (by decide +kernel) (by decide) rfl ?_
        refine tt_iload_n (k0 := 3) (by decide +kernel) rfl ?_
        refine tt_if_eq (off := 50) 74 (by decide +kernel) (by decide) (fun c => ?_) (fun c => ?_)
        · refine tt_aload_n (k0 := 0) (by decide +kernel) rfl ?_
          refine tt_iconst (n := 0) (v := 0) (by decide +kernel) (by decide) ?_
          obtain ⟨f6, h⟩ := h
          refine tt_putI (k := 1) (by decide +kernel) KC_11 (by decide) w_866 rfl rfl f6 ?_
          generalize eS7 : sI S a0 (upd (tI S a0) 1 0) = S7
          have h := h S7 eS7.symm
          have hm : Sm0 S S7 := by rw [← eS7]; exact hm.I
          have f6 : te S7 a0 = some (.inr 11) := by rw [← eS7, te_sI]; exact f6
          refine tt_iload_n (k0 := 3) (by decide +kernel) rfl ?_
          refine tt_if_eq (off := 7) 87 (by decide +kernel) (by decide) (fun c => ?_) (fun c => ?_)
          · refine tt_iconst (n := -1) (v := -1) (by decide +kernel) (by decide) ?_
            exact tt_iret (by decide +kernel) rfl ⟨hm, h⟩
          · exact absurd c (by decide)
        · exact absurd c (by decide)
      · have h := h.2 c
        refine tt_iconst (n := 1) (v := 1) (by decide +kernel) (by decide) ?_
        refine tt_goto (off := 4) (tgt := 22) (by decide +kernel) (by decide) ?_
        refine tt_istore_n (k0 := 3) (lv' := [(0, .ref a0), (1, .int x1), (2, .int x2), (3, .int 1)]) (by decide +kernel) (by decide) rfl ?_
        refine tt_iload_n (k0 := 3) (by decide +kernel) rfl ?_
        refine tt_if_eq (off := 50) 74 (by decide +kernel) (by decide) (fun c => ?_) (fun c => ?_)
        · exact absurd c (by decide)
        · refine tt_aload_n (k0 := 0) (by decide +kernel) rfl ?_
          refine tt_iconst (n := 0) (v := 0) (by decide +kernel) (by decide) ?_
          obtain ⟨f8, h⟩ := h
          refine tt_putI (k := 6) (by decide +kernel) KC_11 (by decide) w_871 rfl rfl f8 ?_
          generalize eS9 : sI S a0 (upd (tI S a0) 6 0) = S9
          have h := h S9 eS9.symm
          have hm : Sm0 S S9 := by rw [← eS9]; exact hm.I
          have f8 : te S9 a0 = some (.inr 11) := by rw [← eS9, te_sI]; exact f8
          refine tt_aload_n (k0 := 0) (by decide +kernel) rfl ?_
          refine tt_aload_n (k0 := 0) (by decide +kernel) rfl ?_
          obtain ⟨b10, f11, h⟩ := h
          refine tt_getR (k := 0) (by decide +kernel) KC_11 (by decide) w_865 (fun _ => rfl) f8 f11 ?_
          refine tt_iconst (n := 0) (v := 0) (by decide +kernel) (by decide) ?_
          refine tt_aload_n (k0 := 0) (by decide +kernel) rfl ?_
          refine tt_getI (k := 1) (by decide +kernel) KC_11 (by decide) w_866 (fun _ => rfl) f8 ?_
          refine tt_callV (As := [.ref b10, .int 0, .int (tI S9 a0 1)]) (rest := []) (ci := 11) (r0 := (R_11, F_11, 55)) (by decide +kernel) LK_M_add_ABII w_1056 w_1058 (in_p (n := 55) 29 rfl) (by decide) (by decide) rfl rfl (Nat.le_of_ble_eq_true rfl) rfl rfl f8 (ct_mono h (fun r S12 h => ?_))
          obtain ⟨hm2, h⟩ := h
          obtain ⟨rfl, h⟩ := h
          show T G J_M_key 45 [(0, .ref a0), (1, .int x1), (2, .int x2), (3, .int 1)] [] S12 _
          have hm := hm.tr hm2
          have f8 : te S12 a0 = some (.inr 11) := by rw [hm2.1]; exact f8
          have f11 : tR S12 a0 0 = some b10 := by rw [hm2.R]; exact f11
          refine tt_aload_n (k0 := 0) (by decide +kernel) rfl ?_
          refine tt_aload_n (k0 := 0) (by decide +kernel) rfl ?_
          obtain ⟨b13, f14, h⟩ := h
          refine tt_getR (k := 14) (by decide +kernel) KC_11 (by decide) w_879 (fun _ => rfl) f8 f14 ?_
          refine tt_bipush (n := 32) (v := 32) (by decide +kernel) (by decide) ?_
          refine tt_bipush (n := 8) (v := 8) (by decide +kernel) (by decide) ?_
          refine tt_iload_n (k0 := 1) (by decide +kernel) rfl ?_
          refine tt_imul (by decide +kernel) ?_
          refine tt_iload_n (k0 := 2) (by decide +kernel) rfl ?_
          refine tt_iadd (by decide +kernel) ?_
          refine tt_imul (by decide +kernel) ?_
          refine tt_callV (As := [.ref b13, .int ((32 : Int32) * (((8 : Int32) * x1) + x2))]) (rest := []) (ci := 11) (r0 := (R_11, F_11, 55)) (by decide +kernel) LK_M_hashTo w_1064 w_1066 (in_p (n := 55) 31 rfl) (by decide) (by decide) rfl rfl (Nat.le_of_ble_eq_true rfl) rfl rfl f8 (ct_mono h (fun r S15 h => ?_))
          obtain ⟨hm2, h⟩ := h
          obtain ⟨rfl, h⟩ := h
          show T G J_M_key 62 [(0, .ref a0), (1, .int x1), (2, .int x2), (3, .int 1)] [] S15 _
          have hm := hm.tr hm2
          have f8 : te S15 a0 = some (.inr 11) := by rw [hm2.1]; exact f8
          have f11 : tR S15 a0 0 = some b10 := by rw [hm2.R]; exact f11
          have f14 : tR S15 a0 14 = some b13 := by rw [hm2.R]; exact f14
          refine tt_aload_n (k0 := 0) (by decide +kernel) rfl ?_
          obtain ⟨b16, f17, h⟩ := h
          refine tt_getR (k := 13) (by decide +kernel) KC_11 (by decide) w_878 (fun _ => rfl) f8 f17 ?_
          refine tt_bipush (n := 8) (v := 8) (by decide +kernel) (by decide) ?_
          refine tt_iload_n (k0 := 1) (by decide +kernel) rfl ?_
          refine tt_imul (by decide +kernel) ?_
          refine tt_iload_n (k0 := 2) (by decide +kernel) rfl ?_
          refine tt_iadd (by decide +kernel) ?_
          refine tt_iconst (n := 1) (v := 1) (by decide +kernel) (by decide) ?_
          obtain ⟨n18, f19, h⟩ := h
          obtain ⟨g2, h⟩ := h
          refine tt_zast (by decide +kernel) f19 g2 ?_
          generalize eS20 : sI S15 b16 (upd (tI S15 b16) (((8 : Int32) * x1) + x2).toNatClampNeg (vp_nar .boolean 1)) = S20
          have h := h S20 eS20.symm
          have hm : Sm0 S S20 := by rw [← eS20]; exact hm.I
          have f8 : te S20 a0 = some (.inr 11) := by rw [← eS20, te_sI]; exact f8
          have f11 : tR S20 a0 0 = some b10 := by rw [← eS20, tR_sI]; exact f11
          have f14 : tR S20 a0 14 = some b13 := by rw [← eS20, tR_sI]; exact f14
          have f17 : tR S20 a0 13 = some b16 := by rw [← eS20, tR_sI]; exact f17
          have f19 : te S20 b16 = some (.inl (.boolean, n18)) := by rw [← eS20, te_sI]; exact f19
          refine tt_aload_n (k0 := 0) (by decide +kernel) rfl ?_
          refine tt_iconst (n := 0) (v := 0) (by decide +kernel) (by decide) ?_
          refine tt_putI (k := 1) (by decide +kernel) KC_11 (by decide) w_866 rfl rfl f8 ?_
          generalize eS21 : sI S20 a0 (upd (tI S20 a0) 1 0) = S21
          have h := h S21 eS21.symm
          have hm : Sm0 S S21 := by rw [← eS21]; exact hm.I
          have f8 : te S21 a0 = some (.inr 11) := by rw [← eS21, te_sI]; exact f8
          have f11 : tR S21 a0 0 = some b10 := by rw [← eS21, tR_sI]; exact f11
          have f14 : tR S21 a0 14 = some b13 := by rw [← eS21, tR_sI]; exact f14
          have f17 : tR S21 a0 13 = some b16 := by rw [← eS21, tR_sI]; exact f17
          have f19 : te S21 b16 = some (.inl (.boolean, n18)) := by rw [← eS21, te_sI]; exact f19
          refine tt_iload_n (k0 := 3) (by decide +kernel) rfl ?_
          refine tt_if_eq (off := 7) 87 (by decide +kernel) (by decide) (fun c => ?_) (fun c => ?_)
          · exact absurd c (by decide)
          · refine tt_iconst (n := 0) (v := 0) (by decide +kernel) (by decide) ?_
            refine tt_goto (off := 4) (tgt := 88) (by decide +kernel) (by decide) ?_
            exact tt_iret (by decide +kernel) rfl ⟨hm, h⟩
set_option maxRecDepth 100000 in
theorem v_M_block_III {G : pG} (a0 : Nat) (x1 : Int32) (x2 : Int32) (x3 : Int32) (S : TS) (Q : Option Value → TS → Prop)
    (h : T0 G J_M_block_III 3 [(0, .ref a0), (1, .int x1), (2, .int x2), (3, .int x3), (4, .int 0)] [] S Q) :
    C0 G J_M_block_III [.ref a0, .int x1, .int x2, .int x3] S Q := by
  unfold C0
  refine ct_of (by decide +kernel) (Nat.le_of_ble_eq_true rfl) (lv := [(0, .ref a0), (1, .int x1), (2, .int x2), (3, .int x3)]) rfl ?_
  have hm : Sm0 S S := Sm0.rf S
  refine tt_iconst (n := 0) (v := 0) (by decide +kernel) (by decide) ?_
  refine tt_istore (k0 := 4) (lv' := [(0, .ref a0), (1, .int x1), (2, .int x2), (3, .int x3), (4, .int 0)]) (by decide +kernel) (by decide) rfl ?_
  exact tt_mono h (fun r S' q => ⟨hm.tr q.1, q.2⟩)
set_option maxRecDepth 100000 in
theorem v_M_block_III_3 {G : pG} (a0 : Nat) (x1 : Int32) (x2 : Int32) (x3 : Int32) (x4 : Int32) (S : TS) (Q : Option Value → TS → Prop)
    (h : ((16 ≤ x4 → T0 G J_M_block_III 133 [(0, .ref a0), (1, .int x1), (2, .int x2), (3, .int x3), (4, .int 16)] [] S Q) ∧ (¬ (16 ≤ x4) → T0 G J_M_block_III 16 [(0, .ref a0), (1, .int x1), (2, .int x2), (3, .int x3), (4, .int x4), (5, .long 0), (7, .int 0)] [] S Q))) :
    T0 G J_M_block_III 3 [(0, .ref a0), (1, .int x1), (2, .int x2), (3, .int x3), (4, .int x4)] [] S Q := by
  unfold T0
  have hm : Sm0 S S := Sm0.rf S
  refine tt_iload (k0 := 4) (by decide +kernel) rfl ?_
  refine tt_bipush (n := 16) (v := 16) (by decide +kernel) (by decide) ?_
  refine tt_icmp_ge (off := 122) 129 (by decide +kernel) (by decide) (fun c => ?_) (fun c => ?_)
  · have h := h.1 c
    refine tt_bipush (n := 16) (v := 16) (by decide +kernel) (by decide) ?_
    refine tt_istore (k0 := 4) (lv' := [(0, .ref a0), (1, .int x1), (2, .int x2), (3, .int x3), (4, .int 16)]) (by decide +kernel) (by decide) rfl ?_
    exact tt_mono h (fun r S' q => ⟨hm.tr q.1, q.2⟩)
  · have h := h.2 c
    refine tt_lconst (n := 0) (v := 0) (by decide +kernel) (by decide) ?_
    refine tt_lstore (k0 := 5) (lv' := [(0, .ref a0), (1, .int x1), (2, .int x2), (3, .int x3), (4, .int x4), (5, .long 0)]) (by decide +kernel) (by decide) rfl ?_
    refine tt_iconst (n := 0) (v := 0) (by decide +kernel) (by decide) ?_
    refine tt_istore (k0 := 7) (lv' := [(0, .ref a0), (1, .int x1), (2, .int x2), (3, .int x3), (4, .int x4), (5, .long 0), (7, .int 0)]) (by decide +kernel) (by decide) rfl ?_
    exact tt_mono h (fun r S' q => ⟨hm.tr q.1, q.2⟩)
set_option maxRecDepth 100000 in
theorem v_M_block_III_133 {G : pG} (a0 : Nat) (x1 : Int32) (x2 : Int32) (x3 : Int32) (x4 : Int32) (S : TS) (Q : Option Value → TS → Prop)
    (h : ((64 ≤ x4 → te S a0 = some (.inr 11) ∧ ∃ b2 : Nat, tR S a0 7 = some b2 ∧ ∃ n4 : Nat, te S b2 = some (.inl (.long, n4)) ∧ vp_in 0 n4 ∧ ∀ y6 : Int64, y6 = tL S b2 0 → vp_in 1 n4 ∧ ∀ y7 : Int64, y7 = tL S b2 1 → vp_in 2 n4 ∧ ∀ y8 : Int64, y8 = tL S b2 2 → vp_in 3 n4 ∧ ∀ y9 : Int64, y9 = tL S b2 3 → vp_in 4 n4 ∧ ∀ y10 : Int64, y10 = tL S b2 4 → vp_in 5 n4 ∧ ∀ y11 : Int64, y11 = tL S b2 5 → vp_in 6 n4 ∧ ∀ y12 : Int64, y12 = tL S b2 6 → vp_in 7 n4 ∧ ∀ y13 : Int64, y13 = tL S b2 7 → T0 G J_M_block_III 343 [(0, .ref a0), (1, .int x1), (2, .int x2), (3, .int x3), (4, .long y6), (6, .long y7), (8, .long y8), (10, .long y9), (12, .long y10), (14, .long y11), (16, .long y12), (18, .long y13), (20, .int 0)] [] S Q) ∧ (¬ (64 ≤ x4) → te S a0 = some (.inr 11) ∧ ∃ b15 : Nat, tR S a0 8 = some b15 ∧ ∃ n17 : Nat, te S b15 = some (.inl (.long, n17)) ∧ vp_in (x4 - (15 : Int32)) n17 ∧ CP G J_M_turn [.long (tL S b15 (x4 - (15 : Int32)).toNatClampNeg), .int 7] S (fun r => ∃ q19 : Int64, r = some (.long q19) ∧ vp_in (x4 - (15 : Int32)) n17 ∧ CP G J_M_turn [.long (tL S b15 (x4 - (15 : Int32)).toNatClampNeg), .int 18] S (fun r => ∃ q20 : Int64, r = some (.long q20) ∧ vp_in (x4 - (15 : Int32)) n17 ∧ ∀ y21 : Int64, y21 = (q19 ^^^ q20) ^^^ ((tL S b15 (x4 - (15 : Int32)).toNatClampNeg) >>> (((3 : Int32).toInt64) &&& 63)) → vp_in (x4 - (2 : Int32)) n17 ∧ CP G J_M_turn [.long (tL S b15 (x4 - (2 : Int32)).toNatClampNeg), .int 17] S (fun r => ∃ q22 : Int64, r = some (.long q22) ∧ vp_in (x4 - (2 : Int32)) n17 ∧ CP G J_M_turn [.long (tL S b15 (x4 - (2 : Int32)).toNatClampNeg), .int 19] S (fun r => ∃ q23 : Int64, r = some (.long q23) ∧ vp_in (x4 - (2 : Int32)) n17 ∧ ∀ y24 : Int64, y24 = (q22 ^^^ q23) ^^^ ((tL S b15 (x4 - (2 : Int32)).toNatClampNeg) >>> (((10 : Int32).toInt64) &&& 63)) → vp_in (x4 - (16 : Int32)) n17 ∧ vp_in (x4 - (7 : Int32)) n17 ∧ vp_in x4 n17 ∧ ∀ S25 : TS, S25 = sL S b15 (vp_updL (tL S b15) x4.toNatClampNeg (((((tL S b15 (x4 - (16 : Int32)).toNatClampNeg) + y21) + (tL S b15 (x4 - (7 : Int32)).toNatClampNeg)) + y24) &&& (4294967295 : Int64))) → ∀ y26 : Int32, y26 = x4 + 1 → T0 G J_M_block_III 133 [(0, .ref a0), (1, .int x1), (2, .int x2), (3, .int x3), (4, .int y26)] [] S25 Q))))))) :
    T0 G J_M_block_III 133 [(0, .ref a0), (1, .int x1), (2, .int x2), (3, .int x3), (4, .int x4)] [] S Q := by
  unfold T0
  have hm : Sm0 S S := Sm0.rf S
  refine tt_iload (k0 := 4) (by decide +kernel) rfl ?_
  refine tt_bipush (n := 64) (v := 64) (by decide +kernel) (by decide) ?_
  refine tt_icmp_ge (off := 137) 274 (by decide +kernel) (by decide) (fun c => ?_) (fun c => ?_)
  · have h := h.1 c
    refine tt_aload_n (k0 := 0) (by decide +kernel) rfl ?_
    obtain ⟨f1, h⟩ := h
    obtain ⟨b2, f3, h⟩ := h
    refine tt_getR (k := 7) (by decide +kernel) KC_11 (by decide) w_872 (fun _ => rfl) f1 f3 ?_
    refine tt_iconst (n := 0) (v := 0) (by decide +kernel) (by decide) ?_
    obtain ⟨n4, f5, h⟩ := h
    obtain ⟨g2, h⟩ := h
    refine tt_lald (by decide +kernel) f5 g2 ?_
    show T G J_M_block_III 280 [(0, .ref a0), (1, .int x1), (2, .int x2), (3, .int x3), (4, .int x4)] [.long (tL S b2 0)] S _
    refine tt_topl (fun y6 ey6 => ?_)
    have h := h y6 ey6
    refine tt_lstore (k0 := 4) (lv' := [(0, .ref a0), (1, .int x1), (2, .int x2), (3, .int x3), (4, .long y6)]) (by decide +kernel) (by decide) rfl ?_
    refine tt_aload_n (k0 := 0) (by decide +kernel) rfl ?_
    refine tt_getR (k := 7) (by decide +kernel) KC_11 (by decide) w_872 (fun _ => rfl) f1 f3 ?_
    refine tt_iconst (n := 1) (v := 1) (by decide +kernel) (by decide) ?_
    obtain ⟨g2, h⟩ := h
    refine tt_lald (by decide +kernel) f5 g2 ?_
    show T G J_M_block_III 288 [(0, .ref a0), (1, .int x1), (2, .int x2), (3, .int x3), (4, .long y6)] [.long (tL S b2 1)] S _
    refine tt_topl (fun y7 ey7 => ?_)
    have h := h y7 ey7
    refine tt_lstore (k0 := 6) (lv' := [(0, .ref a0), (1, .int x1), (2, .int x2), (3, .int x3), (4, .long y6), (6, .long y7)]) (by decide +kernel) (by decide) rfl ?_
    refine tt_aload_n (k0 := 0) (by decide +kernel) rfl ?_
    refine tt_getR (k := 7) (by decide +kernel) KC_11 (by decide) w_872 (fun _ => rfl) f1 f3 ?_
    refine tt_iconst (n := 2) (v := 2) (by decide +kernel) (by decide) ?_
    obtain ⟨g2, h⟩ := h
    refine tt_lald (by decide +kernel) f5 g2 ?_
    show T G J_M_block_III 296 [(0, .ref a0), (1, .int x1), (2, .int x2), (3, .int x3), (4, .long y6), (6, .long y7)] [.long (tL S b2 2)] S _
    refine tt_topl (fun y8 ey8 => ?_)
    have h := h y8 ey8
    refine tt_lstore (k0 := 8) (lv' := [(0, .ref a0), (1, .int x1), (2, .int x2), (3, .int x3), (4, .long y6), (6, .long y7), (8, .long y8)]) (by decide +kernel) (by decide) rfl ?_
    refine tt_aload_n (k0 := 0) (by decide +kernel) rfl ?_
    refine tt_getR (k := 7) (by decide +kernel) KC_11 (by decide) w_872 (fun _ => rfl) f1 f3 ?_
    refine tt_iconst (n := 3) (v := 3) (by decide +kernel) (by decide) ?_
    obtain ⟨g2, h⟩ := h
    refine tt_lald (by decide +kernel) f5 g2 ?_
    show T G J_M_block_III 304 [(0, .ref a0), (1, .int x1), (2, .int x2), (3, .int x3), (4, .long y6), (6, .long y7), (8, .long y8)] [.long (tL S b2 3)] S _
    refine tt_topl (fun y9 ey9 => ?_)
    have h := h y9 ey9
    refine tt_lstore (k0 := 10) (lv' := [(0, .ref a0), (1, .int x1), (2, .int x2), (3, .int x3), (4, .long y6), (6, .long y7), (8, .long y8), (10, .long y9)]) (by decide +kernel) (by decide) rfl ?_
    refine tt_aload_n (k0 := 0) (by decide +kernel) rfl ?_
    refine tt_getR (k := 7) (by decide +kernel) KC_11 (by decide) w_872 (fun _ => rfl) f1 f3 ?_
    refine tt_iconst (n := 4) (v := 4) (by decide +kernel) (by decide) ?_
    obtain ⟨g2, h⟩ := h
    refine tt_lald (by decide +kernel) f5 g2 ?_
    show T G J_M_block_III 312 [(0, .ref a0), (1, .int x1), (2, .int x2), (3, .int x3), (4, .long y6), (6, .long y7), (8, .long y8), (10, .long y9)] [.long (tL S b2 4)] S _
    refine tt_topl (fun y10 ey10 => ?_)
    have h := h y10 ey10
    refine tt_lstore (k0 := 12) (lv' := [(0, .ref a0), (1, .int x1), (2, .int x2), (3, .int x3), (4, .long y6), (6, .long y7), (8, .long y8), (10, .long y9), (12, .long y10)]) (by decide +kernel) (by decide) rfl ?_
    refine tt_aload_n (k0 := 0) (by decide +kernel) rfl ?_
    refine tt_getR (k := 7) (by decide +kernel) KC_11 (by decide) w_872 (fun _ => rfl) f1 f3 ?_
    refine tt_iconst (n := 5) (v := 5) (by decide +kernel) (by decide) ?_
    obtain ⟨g2, h⟩ := h
    refine tt_lald (by decide +kernel) f5 g2 ?_
    show T G J_M_block_III 320 [(0, .ref a0), (1, .int x1), (2, .int x2), (3, .int x3), (4, .long y6), (6, .long y7), (8, .long y8), (10, .long y9), (12, .long y10)] [.long (tL S b2 5)] S _
    refine tt_topl (fun y11 ey11 => ?_)
    have h := h y11 ey11
    refine tt_lstore (k0 := 14) (lv' := [(0, .ref a0), (1, .int x1), (2, .int x2), (3, .int x3), (4, .long y6), (6, .long y7), (8, .long y8), (10, .long y9), (12, .long y10), (14, .long y11)]) (by decide +kernel) (by decide) rfl ?_
    refine tt_aload_n (k0 := 0) (by decide +kernel) rfl ?_
    refine tt_getR (k := 7) (by decide +kernel) KC_11 (by decide) w_872 (fun _ => rfl) f1 f3 ?_
    refine tt_bipush (n := 6) (v := 6) (by decide +kernel) (by decide) ?_
    obtain ⟨g2, h⟩ := h
    refine tt_lald (by decide +kernel) f5 g2 ?_
    show T G J_M_block_III 329 [(0, .ref a0), (1, .int x1), (2, .int x2), (3, .int x3), (4, .long y6), (6, .long y7), (8, .long y8), (10, .long y9), (12, .long y10), (14, .long y11)] [.long (tL S b2 6)] S _
    refine tt_topl (fun y12 ey12 => ?_)
    have h := h y12 ey12
    refine tt_lstore (k0 := 16) (lv' := [(0, .ref a0), (1, .int x1), (2, .int x2), (3, .int x3), (4, .long y6), (6, .long y7), (8, .long y8), (10, .long y9), (12, .long y10), (14, .long y11), (16, .long y12)]) (by decide +kernel) (by decide) rfl ?_
    refine tt_aload_n (k0 := 0) (by decide +kernel) rfl ?_
    refine tt_getR (k := 7) (by decide +kernel) KC_11 (by decide) w_872 (fun _ => rfl) f1 f3 ?_
    refine tt_bipush (n := 7) (v := 7) (by decide +kernel) (by decide) ?_
    obtain ⟨g2, h⟩ := h
    refine tt_lald (by decide +kernel) f5 g2 ?_
    show T G J_M_block_III 338 [(0, .ref a0), (1, .int x1), (2, .int x2), (3, .int x3), (4, .long y6), (6, .long y7), (8, .long y8), (10, .long y9), (12, .long y10), (14, .long y11), (16, .long y12)] [.long (tL S b2 7)] S _
    refine tt_topl (fun y13 ey13 => ?_)
    have h := h y13 ey13
    refine tt_lstore (k0 := 18) (lv' := [(0, .ref a0), (1, .int x1), (2, .int x2), (3, .int x3), (4, .long y6), (6, .long y7), (8, .long y8), (10, .long y9), (12, .long y10), (14, .long y11), (16, .long y12), (18, .long y13)]) (by decide +kernel) (by decide) rfl ?_
    refine tt_iconst (n := 0) (v := 0) (by decide +kernel) (by decide) ?_
    refine tt_istore (k0 := 20) (lv' := [(0, .ref a0), (1, .int x1), (2, .int x2), (3, .int x3), (4, .long y6), (6, .long y7), (8, .long y8), (10, .long y9), (12, .long y10), (14, .long y11), (16, .long y12), (18, .long y13), (20, .int 0)]) (by decide +kernel) (by decide) rfl ?_
    exact tt_mono h (fun r S' q => ⟨hm.tr q.1, q.2⟩)
  · have h := h.2 c
    refine tt_aload_n (k0 := 0) (by decide +kernel) rfl ?_
    obtain ⟨f14, h⟩ := h
    obtain ⟨b15, f16, h⟩ := h
    refine tt_getR (k := 8) (by decide +kernel) KC_11 (by decide) w_873 (fun _ => rfl) f14 f16 ?_
    refine tt_iload (k0 := 4) (by decide +kernel) rfl ?_
    refine tt_bipush (n := 15) (v := 15) (by decide +kernel) (by decide) ?_
    refine tt_isub (by decide +kernel) ?_
    obtain ⟨n17, f18, h⟩ := h
    obtain ⟨g2, h⟩ := h
    refine tt_lald (by decide +kernel) f18 g2 ?_
    refine tt_bipush (n := 7) (v := 7) (by decide +kernel) (by decide) ?_
    refine tt_callS (As := [.long (tL S b15 (x4 - (15 : Int32)).toNatClampNeg), .int 7]) (rest := []) (by decide +kernel) LK_M_turn w_1075 w_1076 (by decide) (by decide) rfl rfl (Nat.le_of_ble_eq_true rfl) (ct_mono h (fun r Sb h => ?_))
    obtain ⟨eb, h⟩ := h
    obtain ⟨q19, rfl, h⟩ := h
    rw [eb]
    show T G J_M_block_III 155 [(0, .ref a0), (1, .int x1), (2, .int x2), (3, .int x3), (4, .int x4)] [.long q19] S _
    refine tt_aload_n (k0 := 0) (by decide +kernel) rfl ?_
    refine tt_getR (k := 8) (by decide +kernel) KC_11 (by decide) w_873 (fun _ => rfl) f14 f16 ?_
    refine tt_iload (k0 := 4) (by decide +kernel) rfl ?_
    refine tt_bipush (n := 15) (v := 15) (by decide +kernel) (by decide) ?_
    refine tt_isub (by decide +kernel) ?_
    obtain ⟨g2, h⟩ := h
    refine tt_lald (by decide +kernel) f18 g2 ?_
    refine tt_bipush (n := 18) (v := 18) (by decide +kernel) (by decide) ?_
    refine tt_callS (As := [.long (tL S b15 (x4 - (15 : Int32)).toNatClampNeg), .int 18]) (rest := [.long q19]) (by decide +kernel) LK_M_turn w_1075 w_1076 (by decide) (by decide) rfl rfl (Nat.le_of_ble_eq_true rfl) (ct_mono h (fun r Sb h => ?_))
    obtain ⟨eb, h⟩ := h
    obtain ⟨q20, rfl, h⟩ := h
    rw [eb]
    show T G J_M_block_III 170 [(0, .ref a0), (1, .int x1), (2, .int x2), (3, .int x3), (4, .int x4)] [.long q20, .long q19] S _
    refine tt_lxor (by decide +kernel) ?_
    refine tt_aload_n (k0 := 0) (by decide +kernel) rfl ?_
    refine tt_getR (k := 8) (by decide +kernel) KC_11 (by decide) w_873 (fun _ => rfl) f14 f16 ?_
    refine tt_iload (k0 := 4) (by decide +kernel) rfl ?_
    refine tt_bipush (n := 15) (v := 15) (by decide +kernel) (by decide) ?_
    refine tt_isub (by decide +kernel) ?_
    obtain ⟨g2, h⟩ := h
    refine tt_lald (by decide +kernel) f18 g2 ?_
    refine tt_iconst (n := 3) (v := 3) (by decide +kernel) (by decide) ?_
    refine tt_lshr (by decide +kernel) ?_
    refine tt_lxor (by decide +kernel) ?_
    refine tt_topl (fun y21 ey21 => ?_)
    have h := h y21 ey21
    refine tt_lstore (k0 := 5) (lv' := [(0, .ref a0), (1, .int x1), (2, .int x2), (3, .int x3), (4, .int x4), (5, .long y21)]) (by decide +kernel) (by decide) rfl ?_
    refine tt_aload_n (k0 := 0) (by decide +kernel) rfl ?_
    refine tt_getR (k := 8) (by decide +kernel) KC_11 (by decide) w_873 (fun _ => rfl) f14 f16 ?_
    refine tt_iload (k0 := 4) (by decide +kernel) rfl ?_
    refine tt_iconst (n := 2) (v := 2) (by decide +kernel) (by decide) ?_
    refine tt_isub (by decide +kernel) ?_
    obtain ⟨g2, h⟩ := h
    refine tt_lald (by decide +kernel) f18 g2 ?_
    refine tt_bipush (n := 17) (v := 17) (by decide +kernel) (by decide) ?_
    refine tt_callS (As := [.long (tL S b15 (x4 - (2 : Int32)).toNatClampNeg), .int 17]) (rest := []) (by decide +kernel) LK_M_turn w_1075 w_1076 (by decide) (by decide) rfl rfl (Nat.le_of_ble_eq_true rfl) (ct_mono h (fun r Sb h => ?_))
    obtain ⟨eb, h⟩ := h
    obtain ⟨q22, rfl, h⟩ := h
    rw [eb]
    show T G J_M_block_III 200 [(0, .ref a0), (1, .int x1), (2, .int x2), (3, .int x3), (4, .int x4), (5, .long y21)] [.long q22] S _
    refine tt_aload_n (k0 := 0) (by decide +kernel) rfl ?_
    refine tt_getR (k := 8) (by decide +kernel) KC_11 (by decide) w_873 (fun _ => rfl) f14 f16 ?_
    refine tt_iload (k0 := 4) (by decide +kernel) rfl ?_
    refine tt_iconst (n := 2) (v := 2) (by decide +kernel) (by decide) ?_
    refine tt_isub (by decide +kernel) ?_
    obtain ⟨g2, h⟩ := h
    refine tt_lald (by decide +kernel) f18 g2 ?_
    refine tt_bipush (n := 19) (v := 19) (by decide +kernel) (by decide) ?_
    refine tt_callS (As := [.long (tL S b15 (x4 - (2 : Int32)).toNatClampNeg), .int 19]) (rest := [.long q22]) (by decide +kernel) LK_M_turn w_1075 w_1076 (by decide) (by decide) rfl rfl (Nat.le_of_ble_eq_true rfl) (ct_mono h (fun r Sb h => ?_))
    obtain ⟨eb, h⟩ := h
    obtain ⟨q23, rfl, h⟩ := h
    rw [eb]
    show T G J_M_block_III 214 [(0, .ref a0), (1, .int x1), (2, .int x2), (3, .int x3), (4, .int x4), (5, .long y21)] [.long q23, .long q22] S _
    refine tt_lxor (by decide +kernel) ?_
    refine tt_aload_n (k0 := 0) (by decide +kernel) rfl ?_
    refine tt_getR (k := 8) (by decide +kernel) KC_11 (by decide) w_873 (fun _ => rfl) f14 f16 ?_
    refine tt_iload (k0 := 4) (by decide +kernel) rfl ?_
    refine tt_iconst (n := 2) (v := 2) (by decide +kernel) (by decide) ?_
    refine tt_isub (by decide +kernel) ?_
    obtain ⟨g2, h⟩ := h
    refine tt_lald (by decide +kernel) f18 g2 ?_
    refine tt_bipush (n := 10) (v := 10) (by decide +kernel) (by decide) ?_
    refine tt_lshr (by decide +kernel) ?_
    refine tt_lxor (by decide +kernel) ?_
    refine tt_topl (fun y24 ey24 => ?_)
    have h := h y24 ey24
    refine tt_lstore (k0 := 7) (lv' := [(0, .ref a0), (1, .int x1), (2, .int x2), (3, .int x3), (4, .int x4), (5, .long y21), (7, .long y24)]) (by decide +kernel) (by decide) rfl ?_
    refine tt_aload_n (k0 := 0) (by decide +kernel) rfl ?_
    refine tt_getR (k := 8) (by decide +kernel) KC_11 (by decide) w_873 (fun _ => rfl) f14 f16 ?_
    refine tt_iload (k0 := 4) (by decide +kernel) rfl ?_
    refine tt_aload_n (k0 := 0) (by decide +kernel) rfl ?_
    refine tt_getR (k := 8) (by decide +kernel) KC_11 (by decide) w_873 (fun _ => rfl) f14 f16 ?_
    refine tt_iload (k0 := 4) (by decide +kernel) rfl ?_
    refine tt_bipush (n := 16) (v := 16) (by decide +kernel) (by decide) ?_
    refine tt_isub (by decide +kernel) ?_
    obtain ⟨g2, h⟩ := h
    refine tt_lald (by decide +kernel) f18 g2 ?_
    refine tt_lload (k0 := 5) (by decide +kernel) rfl ?_
    refine tt_ladd (by decide +kernel) ?_
    refine tt_aload_n (k0 := 0) (by decide +kernel) rfl ?_
    refine tt_getR (k := 8) (by decide +kernel) KC_11 (by decide) w_873 (fun _ => rfl) f14 f16 ?_
    refine tt_iload (k0 := 4) (by decide +kernel) rfl ?_
    refine tt_bipush (n := 7) (v := 7) (by decide +kernel) (by decide) ?_
    refine tt_isub (by decide +kernel) ?_
    obtain ⟨g2, h⟩ := h
    refine tt_lald (by decide +kernel) f18 g2 ?_
    refine tt_ladd (by decide +kernel) ?_
    refine tt_lload (k0 := 7) (by decide +kernel) rfl ?_
    refine tt_ladd (by decide +kernel) ?_
    refine tt_ldc2 (v := 4294967295) (by decide +kernel) w_1070 ?_
    refine tt_land (by decide +kernel) ?_
    obtain ⟨g2, h⟩ := h
    refine tt_last (by decide +kernel) f18 g2 ?_
    generalize eS25 : sL S b15 (vp_updL (tL S b15) x4.toNatClampNeg (((((tL S b15 (x4 - (16 : Int32)).toNatClampNeg) + y21) + (tL S b15 (x4 - (7 : Int32)).toNatClampNeg)) + y24) &&& (4294967295 : Int64))) = S25
    have h := h S25 eS25.symm
    have hm : Sm0 S S25 := by rw [← eS25]; exact hm.L
    have f14 : te S25 a0 = some (.inr 11) := by rw [← eS25, te_sL]; exact f14
    have f16 : tR S25 a0 8 = some b15 := by rw [← eS25, tR_sL]; exact f16
    have f18 : te S25 b15 = some (.inl (.long, n17)) := by rw [← eS25, te_sL]; exact f18
    obtain ⟨y26, ey26⟩ : ∃ y : Int32, y = x4 + 1 := ⟨_, rfl⟩
    have h := h y26 ey26
    refine tt_iinc (i := 4) (n := 1) (v := y26) (lv' := [(0, .ref a0), (1, .int x1), (2, .int x2), (3, .int x3), (4, .int y26), (5, .long y21), (7, .long y24)]) (by decide +kernel) (by decide) rfl ey26.symm rfl ?_
    refine tt_goto (off := -138) (tgt := 133) (by decide +kernel) (by decide) ?_
    refine tt_lv [(0, .ref a0), (1, .int x1), (2, .int x2), (3, .int x3), (4, .int y26)] (by simp) ?_
    exact tt_mono h (fun r S' q => ⟨hm.tr q.1, q.2⟩)
set_option maxRecDepth 100000 in
theorem v_M_block_III_16 {G : pG} (a0 : Nat) (x1 : Int32) (x2 : Int32) (x3 : Int32) (x4 : Int32) (l5 : Int64) (x7 : Int32) (S : TS) (Q : Option Value → TS → Prop)
    (h : ((4 ≤ x7 → te S a0 = some (.inr 11) ∧ ∃ b2 : Nat, tR S a0 8 = some b2 ∧ ∃ n4 : Nat, te S b2 = some (.inl (.long, n4)) ∧ vp_in x4 n4 ∧ ∀ S6 : TS, S6 = sL S b2 (vp_updL (tL S b2) x4.toNatClampNeg l5) → ∀ y7 : Int32, y7 = x4 + 1 → T0 G J_M_block_III 3 [(0, .ref a0), (1, .int x1), (2, .int x2), (3, .int x3), (4, .int y7)] [] S6 Q) ∧ (¬ (4 ≤ x7) → ∀ y8 : Int32, y8 = (x1 + ((4 : Int32) * x4)) + x7 → ((x2 ≤ y8 → ((¬ y8 = x2 → ((y8 < x3 - (4 : Int32) → ∀ y9 : Int64, y9 = (l5 <<< (((8 : Int32).toInt64) &&& 63)) ||| ((0 : Int32).toInt64) → ∀ y10 : Int32, y10 = x7 + 1 → T0 G J_M_block_III 16 [(0, .ref a0), (1, .int x1), (2, .int x2), (3, .int x3), (4, .int x4), (5, .long y9), (7, .int y10)] [] S Q) ∧ (¬ (y8 < x3 - (4 : Int32)) → ∀ y11 : Int32, y11 = (((8 : Int32) * x2) >>> (((8 : Int32) * ((x3 - (1 : Int32)) - y8)) &&& 31)) &&& (255 : Int32) → ∀ y12 : Int64, y12 = (l5 <<< (((8 : Int32).toInt64) &&& 63)) ||| ((y11 : Int32).toInt64) → ∀ y13 : Int32, y13 = x7 + 1 → T0 G J_M_block_III 16 [(0, .ref a0), (1, .int x1), (2, .int x2), (3, .int x3), (4, .int x4), (5, .long y12), (7, .int y13)] [] S Q))) ∧ (y8 = x2 → ∀ y14 : Int64, y14 = (l5 <<< (((8 : Int32).toInt64) &&& 63)) ||| ((128 : Int32).toInt64) → ∀ y15 : Int32, y15 = x7 + 1 → T0 G J_M_block_III 16 [(0, .ref a0), (1, .int x1), (2, .int x2), (3, .int x3), (4, .int x4), (5, .long y14), (7, .int y15)] [] S Q))) ∧ (¬ (x2 ≤ y8) → te S a0 = some (.inr 11) ∧ ∃ b17 : Nat, tR S a0 5 = some b17 ∧ ∃ n19 : Nat, te S b17 = some (.inl (.byte, n19)) ∧ vp_in y8 n19 ∧ ∀ y21 : Int32, y21 = (tI S b17 y8.toNatClampNeg) &&& (255 : Int32) → ∀ y22 : Int64, y22 = (l5 <<< (((8 : Int32).toInt64) &&& 63)) ||| ((y21 : Int32).toInt64) → ∀ y23 : Int32, y23 = x7 + 1 → T0 G J_M_block_III 16 [(0, .ref a0), (1, .int x1), (2, .int x2), (3, .int x3), (4, .int x4), (5, .long y22), (7, .int y23)] [] S Q))))) :
    T0 G J_M_block_III 16 [(0, .ref a0), (1, .int x1), (2, .int x2), (3, .int x3), (4, .int x4), (5, .long l5), (7, .int x7)] [] S Q := by
  unfold T0
  have hm : Sm0 S S := Sm0.rf S
  refine tt_iload (k0 := 7) (by decide +kernel) rfl ?_
  refine tt_iconst (n := 4) (v := 4) (by decide +kernel) (by decide) ?_
  refine tt_icmp_ge (off := 95) 114 (by decide +kernel) (by decide) (fun c => ?_) (fun c => ?_)
  · have h := h.1 c
    refine tt_aload_n (k0 := 0) (by decide +kernel) rfl ?_
    obtain ⟨f1, h⟩ := h
    obtain ⟨b2, f3, h⟩ := h
    refine tt_getR (k := 8) (by decide +kernel) KC_11 (by decide) w_873 (fun _ => rfl) f1 f3 ?_
    refine tt_iload (k0 := 4) (by decide +kernel) rfl ?_
    refine tt_lload (k0 := 5) (by decide +kernel) rfl ?_
    obtain ⟨n4, f5, h⟩ := h
    obtain ⟨g2, h⟩ := h
    refine tt_last (by decide +kernel) f5 g2 ?_
    generalize eS6 : sL S b2 (vp_updL (tL S b2) x4.toNatClampNeg l5) = S6
    have h := h S6 eS6.symm
    have hm : Sm0 S S6 := by rw [← eS6]; exact hm.L
    have f1 : te S6 a0 = some (.inr 11) := by rw [← eS6, te_sL]; exact f1
    have f3 : tR S6 a0 8 = some b2 := by rw [← eS6, tR_sL]; exact f3
    have f5 : te S6 b2 = some (.inl (.long, n4)) := by rw [← eS6, te_sL]; exact f5
    obtain ⟨y7, ey7⟩ : ∃ y : Int32, y = x4 + 1 := ⟨_, rfl⟩
    have h := h y7 ey7
    refine tt_iinc (i := 4) (n := 1) (v := y7) (lv' := [(0, .ref a0), (1, .int x1), (2, .int x2), (3, .int x3), (4, .int y7), (5, .long l5), (7, .int x7)]) (by decide +kernel) (by decide) rfl ey7.symm rfl ?_
    refine tt_goto (off := -123) (tgt := 3) (by decide +kernel) (by decide) ?_
    refine tt_lv [(0, .ref a0), (1, .int x1), (2, .int x2), (3, .int x3), (4, .int y7)] (by simp) ?_
    exact tt_mono h (fun r S' q => ⟨hm.tr q.1, q.2⟩)
  · have h := h.2 c
    refine tt_iload_n (k0 := 1) (by decide +kernel) rfl ?_
    refine tt_iconst (n := 4) (v := 4) (by decide +kernel) (by decide) ?_
    refine tt_iload (k0 := 4) (by decide +kernel) rfl ?_
    refine tt_imul (by decide +kernel) ?_
    refine tt_iadd (by decide +kernel) ?_
    refine tt_iload (k0 := 7) (by decide +kernel) rfl ?_
    refine tt_iadd (by decide +kernel) ?_
    refine tt_topi (fun y8 ey8 => ?_)
    have h := h y8 ey8
    refine tt_istore (k0 := 8) (lv' := [(0, .ref a0), (1, .int x1), (2, .int x2), (3, .int x3), (4, .int x4), (5, .long l5), (7, .int x7), (8, .int y8)]) (by decide +kernel) (by decide) rfl ?_
    refine tt_iload (k0 := 8) (by decide +kernel) rfl ?_
    refine tt_iload_n (k0 := 2) (by decide +kernel) rfl ?_
    refine tt_icmp_ge (off := 17) 53 (by decide +kernel) (by decide) (fun c => ?_) (fun c => ?_)
    · have h := h.1 c
      refine tt_iload (k0 := 8) (by decide +kernel) rfl ?_
      refine tt_iload_n (k0 := 2) (by decide +kernel) rfl ?_
      refine tt_icmp_ne (off := 9) 65 (by decide +kernel) (by decide) (fun c => ?_) (fun c => ?_)
      · have h := h.1 c
        refine tt_iload (k0 := 8) (by decide +kernel) rfl ?_
        refine tt_iload_n (k0 := 3) (by decide +kernel) rfl ?_
        refine tt_iconst (n := 4) (v := 4) (by decide +kernel) (by decide) ?_
        refine tt_isub (by decide +kernel) ?_
        refine tt_icmp_lt (off := 24) 94 (by decide +kernel) (by decide) (fun c => ?_) (fun c => ?_)
        · have h := h.1 c
          refine tt_iconst (n := 0) (v := 0) (by decide +kernel) (by decide) ?_
          refine tt_istore (k0 := 9) (lv' := [(0, .ref a0), (1, .int x1), (2, .int x2), (3, .int x3), (4, .int x4), (5, .long l5), (7, .int x7), (8, .int y8), (9, .int 0)]) (by decide +kernel) (by decide) rfl ?_
          refine tt_lload (k0 := 5) (by decide +kernel) rfl ?_
          refine tt_bipush (n := 8) (v := 8) (by decide +kernel) (by decide) ?_
          refine tt_lshl (by decide +kernel) ?_
          refine tt_iload (k0 := 9) (by decide +kernel) rfl ?_
          refine tt_i2l (by decide +kernel) ?_
          refine tt_lor (by decide +kernel) ?_
          refine tt_topl (fun y9 ey9 => ?_)
          have h := h y9 ey9
          refine tt_lstore (k0 := 5) (lv' := [(0, .ref a0), (1, .int x1), (2, .int x2), (3, .int x3), (4, .int x4), (5, .long y9), (7, .int x7), (8, .int y8), (9, .int 0)]) (by decide +kernel) (by decide) rfl ?_
          obtain ⟨y10, ey10⟩ : ∃ y : Int32, y = x7 + 1 := ⟨_, rfl⟩
          have h := h y10 ey10
          refine tt_iinc (i := 7) (n := 1) (v := y10) (lv' := [(0, .ref a0), (1, .int x1), (2, .int x2), (3, .int x3), (4, .int x4), (5, .long y9), (7, .int y10), (8, .int y8), (9, .int 0)]) (by decide +kernel) (by decide) rfl ey10.symm rfl ?_
          refine tt_goto (off := -95) (tgt := 16) (by decide +kernel) (by decide) ?_
          refine tt_lv [(0, .ref a0), (1, .int x1), (2, .int x2), (3, .int x3), (4, .int x4), (5, .long y9), (7, .int y10)] (by simp) ?_
          exact tt_mono h (fun r S' q => ⟨hm.tr q.1, q.2⟩)
        · have h := h.2 c
          refine tt_bipush (n := 8) (v := 8) (by decide +kernel) (by decide) ?_
          refine tt_iload_n (k0 := 2) (by decide +kernel) rfl ?_
          refine tt_imul (by decide +kernel) ?_
          refine tt_bipush (n := 8) (v := 8) (by decide +kernel) (by decide) ?_
          refine tt_iload_n (k0 := 3) (by decide +kernel) rfl ?_
          refine tt_iconst (n := 1) (v := 1) (by decide +kernel) (by decide) ?_
          refine tt_isub (by decide +kernel) ?_
          refine tt_iload (k0 := 8) (by decide +kernel) rfl ?_
          refine tt_isub (by decide +kernel) ?_
          refine tt_imul (by decide +kernel) ?_
          refine tt_ishr (by decide +kernel) ?_
          refine tt_sipush (n := 255) (v := 255) (by decide +kernel) (by decide) ?_
          refine tt_iand (by decide +kernel) ?_
          refine tt_goto (off := 4) (tgt := 95) (by decide +kernel) (by decide) ?_
          refine tt_topi (fun y11 ey11 => ?_)
          have h := h y11 ey11
          refine tt_istore (k0 := 9) (lv' := [(0, .ref a0), (1, .int x1), (2, .int x2), (3, .int x3), (4, .int x4), (5, .long l5), (7, .int x7), (8, .int y8), (9, .int y11)]) (by decide +kernel) (by decide) rfl ?_
          refine tt_lload (k0 := 5) (by decide +kernel) rfl ?_
          refine tt_bipush (n := 8) (v := 8) (by decide +kernel) (by decide) ?_
          refine tt_lshl (by decide +kernel) ?_
          refine tt_iload (k0 := 9) (by decide +kernel) rfl ?_
          refine tt_i2l (by decide +kernel) ?_
          refine tt_lor (by decide +kernel) ?_
          refine tt_topl (fun y12 ey12 => ?_)
          have h := h y12 ey12
          refine tt_lstore (k0 := 5) (lv' := [(0, .ref a0), (1, .int x1), (2, .int x2), (3, .int x3), (4, .int x4), (5, .long y12), (7, .int x7), (8, .int y8), (9, .int y11)]) (by decide +kernel) (by decide) rfl ?_
          obtain ⟨y13, ey13⟩ : ∃ y : Int32, y = x7 + 1 := ⟨_, rfl⟩
          have h := h y13 ey13
          refine tt_iinc (i := 7) (n := 1) (v := y13) (lv' := [(0, .ref a0), (1, .int x1), (2, .int x2), (3, .int x3), (4, .int x4), (5, .long y12), (7, .int y13), (8, .int y8), (9, .int y11)]) (by decide +kernel) (by decide) rfl ey13.symm rfl ?_
          refine tt_goto (off := -95) (tgt := 16) (by decide +kernel) (by decide) ?_
          refine tt_lv [(0, .ref a0), (1, .int x1), (2, .int x2), (3, .int x3), (4, .int x4), (5, .long y12), (7, .int y13)] (by simp) ?_
          exact tt_mono h (fun r S' q => ⟨hm.tr q.1, q.2⟩)
      · have h := h.2 c
        refine tt_sipush (n := 128) (v := 128) (by decide +kernel) (by decide) ?_
        refine tt_goto (off := 33) (tgt := 95) (by decide +kernel) (by decide) ?_
        refine tt_istore (k0 := 9) (lv' := [(0, .ref a0), (1, .int x1), (2, .int x2), (3, .int x3), (4, .int x4), (5, .long l5), (7, .int x7), (8, .int y8), (9, .int 128)]) (by decide +kernel) (by decide) rfl ?_
        refine tt_lload (k0 := 5) (by decide +kernel) rfl ?_
        refine tt_bipush (n := 8) (v := 8) (by decide +kernel) (by decide) ?_
        refine tt_lshl (by decide +kernel) ?_
        refine tt_iload (k0 := 9) (by decide +kernel) rfl ?_
        refine tt_i2l (by decide +kernel) ?_
        refine tt_lor (by decide +kernel) ?_
        refine tt_topl (fun y14 ey14 => ?_)
        have h := h y14 ey14
        refine tt_lstore (k0 := 5) (lv' := [(0, .ref a0), (1, .int x1), (2, .int x2), (3, .int x3), (4, .int x4), (5, .long y14), (7, .int x7), (8, .int y8), (9, .int 128)]) (by decide +kernel) (by decide) rfl ?_
        obtain ⟨y15, ey15⟩ : ∃ y : Int32, y = x7 + 1 := ⟨_, rfl⟩
        have h := h y15 ey15
        refine tt_iinc (i := 7) (n := 1) (v := y15) (lv' := [(0, .ref a0), (1, .int x1), (2, .int x2), (3, .int x3), (4, .int x4), (5, .long y14), (7, .int y15), (8, .int y8), (9, .int 128)]) (by decide +kernel) (by decide) rfl ey15.symm rfl ?_
        refine tt_goto (off := -95) (tgt := 16) (by decide +kernel) (by decide) ?_
        refine tt_lv [(0, .ref a0), (1, .int x1), (2, .int x2), (3, .int x3), (4, .int x4), (5, .long y14), (7, .int y15)] (by simp) ?_
        exact tt_mono h (fun r S' q => ⟨hm.tr q.1, q.2⟩)
    · have h := h.2 c
      refine tt_aload_n (k0 := 0) (by decide +kernel) rfl ?_
      obtain ⟨f16, h⟩ := h
      obtain ⟨b17, f18, h⟩ := h
      refine tt_getR (k := 5) (by decide +kernel) KC_11 (by decide) w_870 (fun _ => rfl) f16 f18 ?_
      refine tt_iload (k0 := 8) (by decide +kernel) rfl ?_
      obtain ⟨n19, f20, h⟩ := h
      obtain ⟨g2, h⟩ := h
      refine tt_bald (by decide +kernel) f20 g2 ?_
      refine tt_sipush (n := 255) (v := 255) (by decide +kernel) (by decide) ?_
      refine tt_iand (by decide +kernel) ?_
      refine tt_goto (off := 45) (tgt := 95) (by decide +kernel) (by decide) ?_
      refine tt_topi (fun y21 ey21 => ?_)
      have h := h y21 ey21
      refine tt_istore (k0 := 9) (lv' := [(0, .ref a0), (1, .int x1), (2, .int x2), (3, .int x3), (4, .int x4), (5, .long l5), (7, .int x7), (8, .int y8), (9, .int y21)]) (by decide +kernel) (by decide) rfl ?_
      refine tt_lload (k0 := 5) (by decide +kernel) rfl ?_
      refine tt_bipush (n := 8) (v := 8) (by decide +kernel) (by decide) ?_
      refine tt_lshl (by decide +kernel) ?_
      refine tt_iload (k0 := 9) (by decide +kernel) rfl ?_
      refine tt_i2l (by decide +kernel) ?_
      refine tt_lor (by decide +kernel) ?_
      refine tt_topl (fun y22 ey22 => ?_)
      have h := h y22 ey22
      refine tt_lstore (k0 := 5) (lv' := [(0, .ref a0), (1, .int x1), (2, .int x2), (3, .int x3), (4, .int x4), (5, .long y22), (7, .int x7), (8, .int y8), (9, .int y21)]) (by decide +kernel) (by decide) rfl ?_
      obtain ⟨y23, ey23⟩ : ∃ y : Int32, y = x7 + 1 := ⟨_, rfl⟩
      have h := h y23 ey23
      refine tt_iinc (i := 7) (n := 1) (v := y23) (lv' := [(0, .ref a0), (1, .int x1), (2, .int x2), (3, .int x3), (4, .int x4), (5, .long y22), (7, .int y23), (8, .int y8), (9, .int y21)]) (by decide +kernel) (by decide) rfl ey23.symm rfl ?_
      refine tt_goto (off := -95) (tgt := 16) (by decide +kernel) (by decide) ?_
      refine tt_lv [(0, .ref a0), (1, .int x1), (2, .int x2), (3, .int x3), (4, .int x4), (5, .long y22), (7, .int y23)] (by simp) ?_
      exact tt_mono h (fun r S' q => ⟨hm.tr q.1, q.2⟩)
set_option maxRecDepth 100000 in
theorem v_M_block_III_343 {G : pG} {t : Nat → Nat} (hG : GS G t) (a0 : Nat) (x1 : Int32) (x2 : Int32) (x3 : Int32) (l4 : Int64) (l6 : Int64) (l8 : Int64) (l10 : Int64) (l12 : Int64) (l14 : Int64) (l16 : Int64) (l18 : Int64) (x20 : Int32) (S : TS) (Q : Option Value → TS → Prop)
    (h : ((64 ≤ x20 → te S a0 = some (.inr 11) ∧ ∃ b2 : Nat, tR S a0 7 = some b2 ∧ ∃ n4 : Nat, te S b2 = some (.inl (.long, n4)) ∧ vp_in 0 n4 ∧ vp_in 0 n4 ∧ ∀ S6 : TS, S6 = sL S b2 (vp_updL (tL S b2) 0 (((tL S b2 0) + l4) &&& (4294967295 : Int64))) → vp_in 1 n4 ∧ vp_in 1 n4 ∧ ∀ S7 : TS, S7 = sL S6 b2 (vp_updL (tL S6 b2) 1 (((tL S6 b2 1) + l6) &&& (4294967295 : Int64))) → vp_in 2 n4 ∧ vp_in 2 n4 ∧ ∀ S8 : TS, S8 = sL S7 b2 (vp_updL (tL S7 b2) 2 (((tL S7 b2 2) + l8) &&& (4294967295 : Int64))) → vp_in 3 n4 ∧ vp_in 3 n4 ∧ ∀ S9 : TS, S9 = sL S8 b2 (vp_updL (tL S8 b2) 3 (((tL S8 b2 3) + l10) &&& (4294967295 : Int64))) → vp_in 4 n4 ∧ vp_in 4 n4 ∧ ∀ S10 : TS, S10 = sL S9 b2 (vp_updL (tL S9 b2) 4 (((tL S9 b2 4) + l12) &&& (4294967295 : Int64))) → vp_in 5 n4 ∧ vp_in 5 n4 ∧ ∀ S11 : TS, S11 = sL S10 b2 (vp_updL (tL S10 b2) 5 (((tL S10 b2 5) + l14) &&& (4294967295 : Int64))) → vp_in 6 n4 ∧ vp_in 6 n4 ∧ ∀ S12 : TS, S12 = sL S11 b2 (vp_updL (tL S11 b2) 6 (((tL S11 b2 6) + l16) &&& (4294967295 : Int64))) → vp_in 7 n4 ∧ vp_in 7 n4 ∧ ∀ S13 : TS, S13 = sL S12 b2 (vp_updL (tL S12 b2) 7 (((tL S12 b2 7) + l18) &&& (4294967295 : Int64))) → Q none S13) ∧ (¬ (64 ≤ x20) → CP G J_M_turn [.long l12, .int 6] S (fun r => ∃ q14 : Int64, r = some (.long q14) ∧ CP G J_M_turn [.long l12, .int 11] S (fun r => ∃ q15 : Int64, r = some (.long q15) ∧ CP G J_M_turn [.long l12, .int 25] S (fun r => ∃ q16 : Int64, r = some (.long q16) ∧ vp_in x20 64 ∧ te S a0 = some (.inr 11) ∧ ∃ b18 : Nat, tR S a0 8 = some b18 ∧ ∃ n20 : Nat, te S b18 = some (.inl (.long, n20)) ∧ vp_in x20 n20 ∧ ∀ y22 : Int64, y22 = (((l18 + ((q14 ^^^ q15) ^^^ q16)) + ((l12 &&& l14) ||| (((4294967295 : Int64) - l12) &&& l16))) + (((ro 3 x20.toNatClampNeg : Int32).toInt64) &&& (4294967295 : Int64))) + (tL S b18 x20.toNatClampNeg) → CP G J_M_turn [.long l4, .int 2] S (fun r => ∃ q23 : Int64, r = some (.long q23) ∧ CP G J_M_turn [.long l4, .int 13] S (fun r => ∃ q24 : Int64, r = some (.long q24) ∧ CP G J_M_turn [.long l4, .int 22] S (fun r => ∃ q25 : Int64, r = some (.long q25) ∧ ∀ y26 : Int64, y26 = ((q23 ^^^ q24) ^^^ q25) + (((l4 &&& l6) ||| (l4 &&& l8)) ||| (l6 &&& l8)) → ∀ y27 : Int64, y27 = (l10 + y22) &&& (4294967295 : Int64) → ∀ y28 : Int64, y28 = (y22 + y26) &&& (4294967295 : Int64) → ∀ y29 : Int32, y29 = x20 + 1 → T0 G J_M_block_III 343 [(0, .ref a0), (1, .int x1), (2, .int x2), (3, .int x3), (4, .long y28), (6, .long l4), (8, .long l6), (10, .long l8), (12, .long y27), (14, .long l12), (16, .long l14), (18, .long l16), (20, .int y29)] [] S Q))))))))) :
    T0 G J_M_block_III 343 [(0, .ref a0), (1, .int x1), (2, .int x2), (3, .int x3), (4, .long l4), (6, .long l6), (8, .long l8), (10, .long l10), (12, .long l12), (14, .long l14), (16, .long l16), (18, .long l18), (20, .int x20)] [] S Q := by
  unfold T0
  have hm : Sm0 S S := Sm0.rf S
  refine tt_iload (k0 := 20) (by decide +kernel) rfl ?_
  refine tt_bipush (n := 64) (v := 64) (by decide +kernel) (by decide) ?_
  refine tt_icmp_ge (off := 161) 508 (by decide +kernel) (by decide) (fun c => ?_) (fun c => ?_)
  · have h := h.1 c
    refine tt_aload_n (k0 := 0) (by decide +kernel) rfl ?_
    obtain ⟨f1, h⟩ := h
    obtain ⟨b2, f3, h⟩ := h
    refine tt_getR (k := 7) (by decide +kernel) KC_11 (by decide) w_872 (fun _ => rfl) f1 f3 ?_
    refine tt_iconst (n := 0) (v := 0) (by decide +kernel) (by decide) ?_
    refine tt_aload_n (k0 := 0) (by decide +kernel) rfl ?_
    refine tt_getR (k := 7) (by decide +kernel) KC_11 (by decide) w_872 (fun _ => rfl) f1 f3 ?_
    refine tt_iconst (n := 0) (v := 0) (by decide +kernel) (by decide) ?_
    obtain ⟨n4, f5, h⟩ := h
    obtain ⟨g2, h⟩ := h
    refine tt_lald (by decide +kernel) f5 g2 ?_
    show T G J_M_block_III 519 [(0, .ref a0), (1, .int x1), (2, .int x2), (3, .int x3), (4, .long l4), (6, .long l6), (8, .long l8), (10, .long l10), (12, .long l12), (14, .long l14), (16, .long l16), (18, .long l18), (20, .int x20)] [.long (tL S b2 0), .int 0, .ref b2] S _
    refine tt_lload (k0 := 4) (by decide +kernel) rfl ?_
    refine tt_ladd (by decide +kernel) ?_
    refine tt_ldc2 (v := 4294967295) (by decide +kernel) w_1070 ?_
    refine tt_land (by decide +kernel) ?_
    obtain ⟨g2, h⟩ := h
    refine tt_last (by decide +kernel) f5 g2 ?_
    show T G J_M_block_III 527 [(0, .ref a0), (1, .int x1), (2, .int x2), (3, .int x3), (4, .long l4), (6, .long l6), (8, .long l8), (10, .long l10), (12, .long l12), (14, .long l14), (16, .long l16), (18, .long l18), (20, .int x20)] [] (sL S b2 (vp_updL (tL S b2) 0 (((tL S b2 0) + l4) &&& (4294967295 : Int64)))) _
    generalize eS6 : sL S b2 (vp_updL (tL S b2) 0 (((tL S b2 0) + l4) &&& (4294967295 : Int64))) = S6
    have h := h S6 eS6.symm
    have hm : Sm0 S S6 := by rw [← eS6]; exact hm.L
    have f1 : te S6 a0 = some (.inr 11) := by rw [← eS6, te_sL]; exact f1
    have f3 : tR S6 a0 7 = some b2 := by rw [← eS6, tR_sL]; exact f3
    have f5 : te S6 b2 = some (.inl (.long, n4)) := by rw [← eS6, te_sL]; exact f5
    refine tt_aload_n (k0 := 0) (by decide +kernel) rfl ?_
    refine tt_getR (k := 7) (by decide +kernel) KC_11 (by decide) w_872 (fun _ => rfl) f1 f3 ?_
    refine tt_iconst (n := 1) (v := 1) (by decide +kernel) (by decide) ?_
    refine tt_aload_n (k0 := 0) (by decide +kernel) rfl ?_
    refine tt_getR (k := 7) (by decide +kernel) KC_11 (by decide) w_872 (fun _ => rfl) f1 f3 ?_
    refine tt_iconst (n := 1) (v := 1) (by decide +kernel) (by decide) ?_
    obtain ⟨g2, h⟩ := h
    refine tt_lald (by decide +kernel) f5 g2 ?_
    show T G J_M_block_III 538 [(0, .ref a0), (1, .int x1), (2, .int x2), (3, .int x3), (4, .long l4), (6, .long l6), (8, .long l8), (10, .long l10), (12, .long l12), (14, .long l14), (16, .long l16), (18, .long l18), (20, .int x20)] [.long (tL S6 b2 1), .int 1, .ref b2] S6 _
    refine tt_lload (k0 := 6) (by decide +kernel) rfl ?_
    refine tt_ladd (by decide +kernel) ?_
    refine tt_ldc2 (v := 4294967295) (by decide +kernel) w_1070 ?_
    refine tt_land (by decide +kernel) ?_
    obtain ⟨g2, h⟩ := h
    refine tt_last (by decide +kernel) f5 g2 ?_
    show T G J_M_block_III 546 [(0, .ref a0), (1, .int x1), (2, .int x2), (3, .int x3), (4, .long l4), (6, .long l6), (8, .long l8), (10, .long l10), (12, .long l12), (14, .long l14), (16, .long l16), (18, .long l18), (20, .int x20)] [] (sL S6 b2 (vp_updL (tL S6 b2) 1 (((tL S6 b2 1) + l6) &&& (4294967295 : Int64)))) _
    generalize eS7 : sL S6 b2 (vp_updL (tL S6 b2) 1 (((tL S6 b2 1) + l6) &&& (4294967295 : Int64))) = S7
    have h := h S7 eS7.symm
    have hm : Sm0 S S7 := by rw [← eS7]; exact hm.L
    have f1 : te S7 a0 = some (.inr 11) := by rw [← eS7, te_sL]; exact f1
    have f3 : tR S7 a0 7 = some b2 := by rw [← eS7, tR_sL]; exact f3
    have f5 : te S7 b2 = some (.inl (.long, n4)) := by rw [← eS7, te_sL]; exact f5
    refine tt_aload_n (k0 := 0) (by decide +kernel) rfl ?_
    refine tt_getR (k := 7) (by decide +kernel) KC_11 (by decide) w_872 (fun _ => rfl) f1 f3 ?_
    refine tt_iconst (n := 2) (v := 2) (by decide +kernel) (by decide) ?_
    refine tt_aload_n (k0 := 0) (by decide +kernel) rfl ?_
    refine tt_getR (k := 7) (by decide +kernel) KC_11 (by decide) w_872 (fun _ => rfl) f1 f3 ?_
    refine tt_iconst (n := 2) (v := 2) (by decide +kernel) (by decide) ?_
    obtain ⟨g2, h⟩ := h
    refine tt_lald (by decide +kernel) f5 g2 ?_
    show T G J_M_block_III 557 [(0, .ref a0), (1, .int x1), (2, .int x2), (3, .int x3), (4, .long l4), (6, .long l6), (8, .long l8), (10, .long l10), (12, .long l12), (14, .long l14), (16, .long l16), (18, .long l18), (20, .int x20)] [.long (tL S7 b2 2), .int 2, .ref b2] S7 _
    refine tt_lload (k0 := 8) (by decide +kernel) rfl ?_
    refine tt_ladd (by decide +kernel) ?_
    refine tt_ldc2 (v := 4294967295) (by decide +kernel) w_1070 ?_
    refine tt_land (by decide +kernel) ?_
    obtain ⟨g2, h⟩ := h
    refine tt_last (by decide +kernel) f5 g2 ?_
    show T G J_M_block_III 565 [(0, .ref a0), (1, .int x1), (2, .int x2), (3, .int x3), (4, .long l4), (6, .long l6), (8, .long l8), (10, .long l10), (12, .long l12), (14, .long l14), (16, .long l16), (18, .long l18), (20, .int x20)] [] (sL S7 b2 (vp_updL (tL S7 b2) 2 (((tL S7 b2 2) + l8) &&& (4294967295 : Int64)))) _
    generalize eS8 : sL S7 b2 (vp_updL (tL S7 b2) 2 (((tL S7 b2 2) + l8) &&& (4294967295 : Int64))) = S8
    have h := h S8 eS8.symm
    have hm : Sm0 S S8 := by rw [← eS8]; exact hm.L
    have f1 : te S8 a0 = some (.inr 11) := by rw [← eS8, te_sL]; exact f1
    have f3 : tR S8 a0 7 = some b2 := by rw [← eS8, tR_sL]; exact f3
    have f5 : te S8 b2 = some (.inl (.long, n4)) := by rw [← eS8, te_sL]; exact f5
    refine tt_aload_n (k0 := 0) (by decide +kernel) rfl ?_
    refine tt_getR (k := 7) (by decide +kernel) KC_11 (by decide) w_872 (fun _ => rfl) f1 f3 ?_
    refine tt_iconst (n := 3) (v := 3) (by decide +kernel) (by decide) ?_
    refine tt_aload_n (k0 := 0) (by decide +kernel) rfl ?_
    refine tt_getR (k := 7) (by decide +kernel) KC_11 (by decide) w_872 (fun _ => rfl) f1 f3 ?_
    refine tt_iconst (n := 3) (v := 3) (by decide +kernel) (by decide) ?_
    obtain ⟨g2, h⟩ := h
    refine tt_lald (by decide +kernel) f5 g2 ?_
    show T G J_M_block_III 576 [(0, .ref a0), (1, .int x1), (2, .int x2), (3, .int x3), (4, .long l4), (6, .long l6), (8, .long l8), (10, .long l10), (12, .long l12), (14, .long l14), (16, .long l16), (18, .long l18), (20, .int x20)] [.long (tL S8 b2 3), .int 3, .ref b2] S8 _
    refine tt_lload (k0 := 10) (by decide +kernel) rfl ?_
    refine tt_ladd (by decide +kernel) ?_
    refine tt_ldc2 (v := 4294967295) (by decide +kernel) w_1070 ?_
    refine tt_land (by decide +kernel) ?_
    obtain ⟨g2, h⟩ := h
    refine tt_last (by decide +kernel) f5 g2 ?_
    show T G J_M_block_III 584 [(0, .ref a0), (1, .int x1), (2, .int x2), (3, .int x3), (4, .long l4), (6, .long l6), (8, .long l8), (10, .long l10), (12, .long l12), (14, .long l14), (16, .long l16), (18, .long l18), (20, .int x20)] [] (sL S8 b2 (vp_updL (tL S8 b2) 3 (((tL S8 b2 3) + l10) &&& (4294967295 : Int64)))) _
    generalize eS9 : sL S8 b2 (vp_updL (tL S8 b2) 3 (((tL S8 b2 3) + l10) &&& (4294967295 : Int64))) = S9
    have h := h S9 eS9.symm
    have hm : Sm0 S S9 := by rw [← eS9]; exact hm.L
    have f1 : te S9 a0 = some (.inr 11) := by rw [← eS9, te_sL]; exact f1
    have f3 : tR S9 a0 7 = some b2 := by rw [← eS9, tR_sL]; exact f3
    have f5 : te S9 b2 = some (.inl (.long, n4)) := by rw [← eS9, te_sL]; exact f5
    refine tt_aload_n (k0 := 0) (by decide +kernel) rfl ?_
    refine tt_getR (k := 7) (by decide +kernel) KC_11 (by decide) w_872 (fun _ => rfl) f1 f3 ?_
    refine tt_iconst (n := 4) (v := 4) (by decide +kernel) (by decide) ?_
    refine tt_aload_n (k0 := 0) (by decide +kernel) rfl ?_
    refine tt_getR (k := 7) (by decide +kernel) KC_11 (by decide) w_872 (fun _ => rfl) f1 f3 ?_
    refine tt_iconst (n := 4) (v := 4) (by decide +kernel) (by decide) ?_
    obtain ⟨g2, h⟩ := h
    refine tt_lald (by decide +kernel) f5 g2 ?_
    show T G J_M_block_III 595 [(0, .ref a0), (1, .int x1), (2, .int x2), (3, .int x3), (4, .long l4), (6, .long l6), (8, .long l8), (10, .long l10), (12, .long l12), (14, .long l14), (16, .long l16), (18, .long l18), (20, .int x20)] [.long (tL S9 b2 4), .int 4, .ref b2] S9 _
    refine tt_lload (k0 := 12) (by decide +kernel) rfl ?_
    refine tt_ladd (by decide +kernel) ?_
    refine tt_ldc2 (v := 4294967295) (by decide +kernel) w_1070 ?_
    refine tt_land (by decide +kernel) ?_
    obtain ⟨g2, h⟩ := h
    refine tt_last (by decide +kernel) f5 g2 ?_
    show T G J_M_block_III 603 [(0, .ref a0), (1, .int x1), (2, .int x2), (3, .int x3), (4, .long l4), (6, .long l6), (8, .long l8), (10, .long l10), (12, .long l12), (14, .long l14), (16, .long l16), (18, .long l18), (20, .int x20)] [] (sL S9 b2 (vp_updL (tL S9 b2) 4 (((tL S9 b2 4) + l12) &&& (4294967295 : Int64)))) _
    generalize eS10 : sL S9 b2 (vp_updL (tL S9 b2) 4 (((tL S9 b2 4) + l12) &&& (4294967295 : Int64))) = S10
    have h := h S10 eS10.symm
    have hm : Sm0 S S10 := by rw [← eS10]; exact hm.L
    have f1 : te S10 a0 = some (.inr 11) := by rw [← eS10, te_sL]; exact f1
    have f3 : tR S10 a0 7 = some b2 := by rw [← eS10, tR_sL]; exact f3
    have f5 : te S10 b2 = some (.inl (.long, n4)) := by rw [← eS10, te_sL]; exact f5
    refine tt_aload_n (k0 := 0) (by decide +kernel) rfl ?_
    refine tt_getR (k := 7) (by decide +kernel) KC_11 (by decide) w_872 (fun _ => rfl) f1 f3 ?_
    refine tt_iconst (n := 5) (v := 5) (by decide +kernel) (by decide) ?_
    refine tt_aload_n (k0 := 0) (by decide +kernel) rfl ?_
    refine tt_getR (k := 7) (by decide +kernel) KC_11 (by decide) w_872 (fun _ => rfl) f1 f3 ?_
    refine tt_iconst (n := 5) (v := 5) (by decide +kernel) (by decide) ?_
    obtain ⟨g2, h⟩ := h
    refine tt_lald (by decide +kernel) f5 g2 ?_
    show T G J_M_block_III 614 [(0, .ref a0), (1, .int x1), (2, .int x2), (3, .int x3), (4, .long l4), (6, .long l6), (8, .long l8), (10, .long l10), (12, .long l12), (14, .long l14), (16, .long l16), (18, .long l18), (20, .int x20)] [.long (tL S10 b2 5), .int 5, .ref b2] S10 _
    refine tt_lload (k0 := 14) (by decide +kernel) rfl ?_
    refine tt_ladd (by decide +kernel) ?_
    refine tt_ldc2 (v := 4294967295) (by decide +kernel) w_1070 ?_
    refine tt_land (by decide +kernel) ?_
    obtain ⟨g2, h⟩ := h
    refine tt_last (by decide +kernel) f5 g2 ?_
    show T G J_M_block_III 622 [(0, .ref a0), (1, .int x1), (2, .int x2), (3, .int x3), (4, .long l4), (6, .long l6), (8, .long l8), (10, .long l10), (12, .long l12), (14, .long l14), (16, .long l16), (18, .long l18), (20, .int x20)] [] (sL S10 b2 (vp_updL (tL S10 b2) 5 (((tL S10 b2 5) + l14) &&& (4294967295 : Int64)))) _
    generalize eS11 : sL S10 b2 (vp_updL (tL S10 b2) 5 (((tL S10 b2 5) + l14) &&& (4294967295 : Int64))) = S11
    have h := h S11 eS11.symm
    have hm : Sm0 S S11 := by rw [← eS11]; exact hm.L
    have f1 : te S11 a0 = some (.inr 11) := by rw [← eS11, te_sL]; exact f1
    have f3 : tR S11 a0 7 = some b2 := by rw [← eS11, tR_sL]; exact f3
    have f5 : te S11 b2 = some (.inl (.long, n4)) := by rw [← eS11, te_sL]; exact f5
    refine tt_aload_n (k0 := 0) (by decide +kernel) rfl ?_
    refine tt_getR (k := 7) (by decide +kernel) KC_11 (by decide) w_872 (fun _ => rfl) f1 f3 ?_
    refine tt_bipush (n := 6) (v := 6) (by decide +kernel) (by decide) ?_
    refine tt_aload_n (k0 := 0) (by decide +kernel) rfl ?_
    refine tt_getR (k := 7) (by decide +kernel) KC_11 (by decide) w_872 (fun _ => rfl) f1 f3 ?_
    refine tt_bipush (n := 6) (v := 6) (by decide +kernel) (by decide) ?_
    obtain ⟨g2, h⟩ := h
    refine tt_lald (by decide +kernel) f5 g2 ?_
    show T G J_M_block_III 635 [(0, .ref a0), (1, .int x1), (2, .int x2), (3, .int x3), (4, .long l4), (6, .long l6), (8, .long l8), (10, .long l10), (12, .long l12), (14, .long l14), (16, .long l16), (18, .long l18), (20, .int x20)] [.long (tL S11 b2 6), .int 6, .ref b2] S11 _
    refine tt_lload (k0 := 16) (by decide +kernel) rfl ?_
    refine tt_ladd (by decide +kernel) ?_
    refine tt_ldc2 (v := 4294967295) (by decide +kernel) w_1070 ?_
    refine tt_land (by decide +kernel) ?_
    obtain ⟨g2, h⟩ := h
    refine tt_last (by decide +kernel) f5 g2 ?_
    show T G J_M_block_III 643 [(0, .ref a0), (1, .int x1), (2, .int x2), (3, .int x3), (4, .long l4), (6, .long l6), (8, .long l8), (10, .long l10), (12, .long l12), (14, .long l14), (16, .long l16), (18, .long l18), (20, .int x20)] [] (sL S11 b2 (vp_updL (tL S11 b2) 6 (((tL S11 b2 6) + l16) &&& (4294967295 : Int64)))) _
    generalize eS12 : sL S11 b2 (vp_updL (tL S11 b2) 6 (((tL S11 b2 6) + l16) &&& (4294967295 : Int64))) = S12
    have h := h S12 eS12.symm
    have hm : Sm0 S S12 := by rw [← eS12]; exact hm.L
    have f1 : te S12 a0 = some (.inr 11) := by rw [← eS12, te_sL]; exact f1
    have f3 : tR S12 a0 7 = some b2 := by rw [← eS12, tR_sL]; exact f3
    have f5 : te S12 b2 = some (.inl (.long, n4)) := by rw [← eS12, te_sL]; exact f5
    refine tt_aload_n (k0 := 0) (by decide +kernel) rfl ?_
    refine tt_getR (k := 7) (by decide +kernel) KC_11 (by decide) w_872 (fun _ => rfl) f1 f3 ?_
    refine tt_bipush (n := 7) (v := 7) (by decide +kernel) (by decide) ?_
    refine tt_aload_n (k0 := 0) (by decide +kernel) rfl ?_
    refine tt_getR (k := 7) (by decide +kernel) KC_11 (by decide) w_872 (fun _ => rfl) f1 f3 ?_
    refine tt_bipush (n := 7) (v := 7) (by decide +kernel) (by decide) ?_
    obtain ⟨g2, h⟩ := h
    refine tt_lald (by decide +kernel) f5 g2 ?_
    show T G J_M_block_III 656 [(0, .ref a0), (1, .int x1), (2, .int x2), (3, .int x3), (4, .long l4), (6, .long l6), (8, .long l8), (10, .long l10), (12, .long l12), (14, .long l14), (16, .long l16), (18, .long l18), (20, .int x20)] [.long (tL S12 b2 7), .int 7, .ref b2] S12 _
    refine tt_lload (k0 := 18) (by decide +kernel) rfl ?_
    refine tt_ladd (by decide +kernel) ?_
    refine tt_ldc2 (v := 4294967295) (by decide +kernel) w_1070 ?_
    refine tt_land (by decide +kernel) ?_
    obtain ⟨g2, h⟩ := h
    refine tt_last (by decide +kernel) f5 g2 ?_
    show T G J_M_block_III 664 [(0, .ref a0), (1, .int x1), (2, .int x2), (3, .int x3), (4, .long l4), (6, .long l6), (8, .long l8), (10, .long l10), (12, .long l12), (14, .long l14), (16, .long l16), (18, .long l18), (20, .int x20)] [] (sL S12 b2 (vp_updL (tL S12 b2) 7 (((tL S12 b2 7) + l18) &&& (4294967295 : Int64)))) _
    generalize eS13 : sL S12 b2 (vp_updL (tL S12 b2) 7 (((tL S12 b2 7) + l18) &&& (4294967295 : Int64))) = S13
    have h := h S13 eS13.symm
    have hm : Sm0 S S13 := by rw [← eS13]; exact hm.L
    have f1 : te S13 a0 = some (.inr 11) := by rw [← eS13, te_sL]; exact f1
    have f3 : tR S13 a0 7 = some b2 := by rw [← eS13, tR_sL]; exact f3
    have f5 : te S13 b2 = some (.inl (.long, n4)) := by rw [← eS13, te_sL]; exact f5
    exact tt_vret (by decide +kernel) rfl ⟨hm, h⟩
  · have h := h.2 c
    refine tt_lload (k0 := 18) (by decide +kernel) rfl ?_
    refine tt_lload (k0 := 12) (by decide +kernel) rfl ?_
    refine tt_bipush (n := 6) (v := 6) (by decide +kernel) (by decide) ?_
    refine tt_callS (As := [.long l12, .int 6]) (rest := [.long l18]) (by decide +kernel) LK_M_turn w_1075 w_1076 (by decide) (by decide) rfl rfl (Nat.le_of_ble_eq_true rfl) (ct_mono h (fun r Sb h => ?_))
    obtain ⟨eb, h⟩ := h
    obtain ⟨q14, rfl, h⟩ := h
    rw [eb]
    show T G J_M_block_III 359 [(0, .ref a0), (1, .int x1), (2, .int x2), (3, .int x3), (4, .long l4), (6, .long l6), (8, .long l8), (10, .long l10), (12, .long l12), (14, .long l14), (16, .long l16), (18, .long l18), (20, .int x20)] [.long q14, .long l18] S _
    refine tt_lload (k0 := 12) (by decide +kernel) rfl ?_
    refine tt_bipush (n := 11) (v := 11) (by decide +kernel) (by decide) ?_
    refine tt_callS (As := [.long l12, .int 11]) (rest := [.long q14, .long l18]) (by decide +kernel) LK_M_turn w_1075 w_1076 (by decide) (by decide) rfl rfl (Nat.le_of_ble_eq_true rfl) (ct_mono h (fun r Sb h => ?_))
    obtain ⟨eb, h⟩ := h
    obtain ⟨q15, rfl, h⟩ := h
    rw [eb]
    show T G J_M_block_III 366 [(0, .ref a0), (1, .int x1), (2, .int x2), (3, .int x3), (4, .long l4), (6, .long l6), (8, .long l8), (10, .long l10), (12, .long l12), (14, .long l14), (16, .long l16), (18, .long l18), (20, .int x20)] [.long q15, .long q14, .long l18] S _
    refine tt_lxor (by decide +kernel) ?_
    refine tt_lload (k0 := 12) (by decide +kernel) rfl ?_
    refine tt_bipush (n := 25) (v := 25) (by decide +kernel) (by decide) ?_
    refine tt_callS (As := [.long l12, .int 25]) (rest := [.long (q14 ^^^ q15), .long l18]) (by decide +kernel) LK_M_turn w_1075 w_1076 (by decide) (by decide) rfl rfl (Nat.le_of_ble_eq_true rfl) (ct_mono h (fun r Sb h => ?_))
    obtain ⟨eb, h⟩ := h
    obtain ⟨q16, rfl, h⟩ := h
    rw [eb]
    show T G J_M_block_III 374 [(0, .ref a0), (1, .int x1), (2, .int x2), (3, .int x3), (4, .long l4), (6, .long l6), (8, .long l8), (10, .long l10), (12, .long l12), (14, .long l14), (16, .long l16), (18, .long l18), (20, .int x20)] [.long q16, .long (q14 ^^^ q15), .long l18] S _
    refine tt_lxor (by decide +kernel) ?_
    refine tt_ladd (by decide +kernel) ?_
    refine tt_lload (k0 := 12) (by decide +kernel) rfl ?_
    refine tt_lload (k0 := 14) (by decide +kernel) rfl ?_
    refine tt_land (by decide +kernel) ?_
    refine tt_ldc2 (v := 4294967295) (by decide +kernel) w_1070 ?_
    refine tt_lload (k0 := 12) (by decide +kernel) rfl ?_
    refine tt_lsub (by decide +kernel) ?_
    refine tt_lload (k0 := 16) (by decide +kernel) rfl ?_
    refine tt_land (by decide +kernel) ?_
    refine tt_lor (by decide +kernel) ?_
    refine tt_ladd (by decide +kernel) ?_
    refine tt_gets (z := ("SealedWireModel", "ROUND", "[I", .ref (t 3))) (by decide +kernel) (by rw [hG.1]; simp [stt]) w_1078 ?_
    refine tt_iload (k0 := 20) (by decide +kernel) rfl ?_
    obtain ⟨g, h⟩ := h
    refine tt_iro (n := 64) (f := ro 3) (by decide +kernel) (by rw [hG.2]; simp [rot]) g ?_
    refine tt_i2l (by decide +kernel) ?_
    refine tt_ldc2 (v := 4294967295) (by decide +kernel) w_1070 ?_
    refine tt_land (by decide +kernel) ?_
    refine tt_ladd (by decide +kernel) ?_
    refine tt_aload_n (k0 := 0) (by decide +kernel) rfl ?_
    obtain ⟨f17, h⟩ := h
    obtain ⟨b18, f19, h⟩ := h
    refine tt_getR (k := 8) (by decide +kernel) KC_11 (by decide) w_873 (fun _ => rfl) f17 f19 ?_
    refine tt_iload (k0 := 20) (by decide +kernel) rfl ?_
    obtain ⟨n20, f21, h⟩ := h
    obtain ⟨g2, h⟩ := h
    refine tt_lald (by decide +kernel) f21 g2 ?_
    refine tt_ladd (by decide +kernel) ?_
    refine tt_topl (fun y22 ey22 => ?_)
    have h := h y22 ey22
    refine tt_lstore (k0 := 21) (lv' := [(0, .ref a0), (1, .int x1), (2, .int x2), (3, .int x3), (4, .long l4), (6, .long l6), (8, .long l8), (10, .long l10), (12, .long l12), (14, .long l14), (16, .long l16), (18, .long l18), (20, .int x20), (21, .long y22)]) (by decide +kernel) (by decide) rfl ?_
    refine tt_lload (k0 := 4) (by decide +kernel) rfl ?_
    refine tt_iconst (n := 2) (v := 2) (by decide +kernel) (by decide) ?_
    refine tt_callS (As := [.long l4, .int 2]) (rest := []) (by decide +kernel) LK_M_turn w_1075 w_1076 (by decide) (by decide) rfl rfl (Nat.le_of_ble_eq_true rfl) (ct_mono h (fun r Sb h => ?_))
    obtain ⟨eb, h⟩ := h
    obtain ⟨q23, rfl, h⟩ := h
    rw [eb]
    show T G J_M_block_III 420 [(0, .ref a0), (1, .int x1), (2, .int x2), (3, .int x3), (4, .long l4), (6, .long l6), (8, .long l8), (10, .long l10), (12, .long l12), (14, .long l14), (16, .long l16), (18, .long l18), (20, .int x20), (21, .long y22)] [.long q23] S _
    refine tt_lload (k0 := 4) (by decide +kernel) rfl ?_
    refine tt_bipush (n := 13) (v := 13) (by decide +kernel) (by decide) ?_
    refine tt_callS (As := [.long l4, .int 13]) (rest := [.long q23]) (by decide +kernel) LK_M_turn w_1075 w_1076 (by decide) (by decide) rfl rfl (Nat.le_of_ble_eq_true rfl) (ct_mono h (fun r Sb h => ?_))
    obtain ⟨eb, h⟩ := h
    obtain ⟨q24, rfl, h⟩ := h
    rw [eb]
    show T G J_M_block_III 427 [(0, .ref a0), (1, .int x1), (2, .int x2), (3, .int x3), (4, .long l4), (6, .long l6), (8, .long l8), (10, .long l10), (12, .long l12), (14, .long l14), (16, .long l16), (18, .long l18), (20, .int x20), (21, .long y22)] [.long q24, .long q23] S _
    refine tt_lxor (by decide +kernel) ?_
    refine tt_lload (k0 := 4) (by decide +kernel) rfl ?_
    refine tt_bipush (n := 22) (v := 22) (by decide +kernel) (by decide) ?_
    refine tt_callS (As := [.long l4, .int 22]) (rest := [.long (q23 ^^^ q24)]) (by decide +kernel) LK_M_turn w_1075 w_1076 (by decide) (by decide) rfl rfl (Nat.le_of_ble_eq_true rfl) (ct_mono h (fun r Sb h => ?_))
    obtain ⟨eb, h⟩ := h
    obtain ⟨q25, rfl, h⟩ := h
    rw [eb]
    show T G J_M_block_III 435 [(0, .ref a0), (1, .int x1), (2, .int x2), (3, .int x3), (4, .long l4), (6, .long l6), (8, .long l8), (10, .long l10), (12, .long l12), (14, .long l14), (16, .long l16), (18, .long l18), (20, .int x20), (21, .long y22)] [.long q25, .long (q23 ^^^ q24)] S _
    refine tt_lxor (by decide +kernel) ?_
    refine tt_lload (k0 := 4) (by decide +kernel) rfl ?_
    refine tt_lload (k0 := 6) (by decide +kernel) rfl ?_
    refine tt_land (by decide +kernel) ?_
    refine tt_lload (k0 := 4) (by decide +kernel) rfl ?_
    refine tt_lload (k0 := 8) (by decide +kernel) rfl ?_
    refine tt_land (by decide +kernel) ?_
    refine tt_lor (by decide +kernel) ?_
    refine tt_lload (k0 := 6) (by decide +kernel) rfl ?_
    refine tt_lload (k0 := 8) (by decide +kernel) rfl ?_
    refine tt_land (by decide +kernel) ?_
    refine tt_lor (by decide +kernel) ?_
    refine tt_ladd (by decide +kernel) ?_
    refine tt_topl (fun y26 ey26 => ?_)
    have h := h y26 ey26
    refine tt_lstore (k0 := 23) (lv' := [(0, .ref a0), (1, .int x1), (2, .int x2), (3, .int x3), (4, .long l4), (6, .long l6), (8, .long l8), (10, .long l10), (12, .long l12), (14, .long l14), (16, .long l16), (18, .long l18), (20, .int x20), (21, .long y22), (23, .long y26)]) (by decide +kernel) (by decide) rfl ?_
    refine tt_lload (k0 := 16) (by decide +kernel) rfl ?_
    refine tt_lstore (k0 := 18) (lv' := [(0, .ref a0), (1, .int x1), (2, .int x2), (3, .int x3), (4, .long l4), (6, .long l6), (8, .long l8), (10, .long l10), (12, .long l12), (14, .long l14), (16, .long l16), (18, .long l16), (20, .int x20), (21, .long y22), (23, .long y26)]) (by decide +kernel) (by decide) rfl ?_
    refine tt_lload (k0 := 14) (by decide +kernel) rfl ?_
    refine tt_lstore (k0 := 16) (lv' := [(0, .ref a0), (1, .int x1), (2, .int x2), (3, .int x3), (4, .long l4), (6, .long l6), (8, .long l8), (10, .long l10), (12, .long l12), (14, .long l14), (16, .long l14), (18, .long l16), (20, .int x20), (21, .long y22), (23, .long y26)]) (by decide +kernel) (by decide) rfl ?_
    refine tt_lload (k0 := 12) (by decide +kernel) rfl ?_
    refine tt_lstore (k0 := 14) (lv' := [(0, .ref a0), (1, .int x1), (2, .int x2), (3, .int x3), (4, .long l4), (6, .long l6), (8, .long l8), (10, .long l10), (12, .long l12), (14, .long l12), (16, .long l14), (18, .long l16), (20, .int x20), (21, .long y22), (23, .long y26)]) (by decide +kernel) (by decide) rfl ?_
    refine tt_lload (k0 := 10) (by decide +kernel) rfl ?_
    refine tt_lload (k0 := 21) (by decide +kernel) rfl ?_
    refine tt_ladd (by decide +kernel) ?_
    refine tt_ldc2 (v := 4294967295) (by decide +kernel) w_1070 ?_
    refine tt_land (by decide +kernel) ?_
    refine tt_topl (fun y27 ey27 => ?_)
    have h := h y27 ey27
    refine tt_lstore (k0 := 12) (lv' := [(0, .ref a0), (1, .int x1), (2, .int x2), (3, .int x3), (4, .long l4), (6, .long l6), (8, .long l8), (10, .long l10), (12, .long y27), (14, .long l12), (16, .long l14), (18, .long l16), (20, .int x20), (21, .long y22), (23, .long y26)]) (by decide +kernel) (by decide) rfl ?_
    refine tt_lload (k0 := 8) (by decide +kernel) rfl ?_
    refine tt_lstore (k0 := 10) (lv' := [(0, .ref a0), (1, .int x1), (2, .int x2), (3, .int x3), (4, .long l4), (6, .long l6), (8, .long l8), (10, .long l8), (12, .long y27), (14, .long l12), (16, .long l14), (18, .long l16), (20, .int x20), (21, .long y22), (23, .long y26)]) (by decide +kernel) (by decide) rfl ?_
    refine tt_lload (k0 := 6) (by decide +kernel) rfl ?_
    refine tt_lstore (k0 := 8) (lv' := [(0, .ref a0), (1, .int x1), (2, .int x2), (3, .int x3), (4, .long l4), (6, .long l6), (8, .long l6), (10, .long l8), (12, .long y27), (14, .long l12), (16, .long l14), (18, .long l16), (20, .int x20), (21, .long y22), (23, .long y26)]) (by decide +kernel) (by decide) rfl ?_
    refine tt_lload (k0 := 4) (by decide +kernel) rfl ?_
    refine tt_lstore (k0 := 6) (lv' := [(0, .ref a0), (1, .int x1), (2, .int x2), (3, .int x3), (4, .long l4), (6, .long l4), (8, .long l6), (10, .long l8), (12, .long y27), (14, .long l12), (16, .long l14), (18, .long l16), (20, .int x20), (21, .long y22), (23, .long y26)]) (by decide +kernel) (by decide) rfl ?_
    refine tt_lload (k0 := 21) (by decide +kernel) rfl ?_
    refine tt_lload (k0 := 23) (by decide +kernel) rfl ?_
    refine tt_ladd (by decide +kernel) ?_
    refine tt_ldc2 (v := 4294967295) (by decide +kernel) w_1070 ?_
    refine tt_land (by decide +kernel) ?_
    refine tt_topl (fun y28 ey28 => ?_)
    have h := h y28 ey28
    refine tt_lstore (k0 := 4) (lv' := [(0, .ref a0), (1, .int x1), (2, .int x2), (3, .int x3), (4, .long y28), (6, .long l4), (8, .long l6), (10, .long l8), (12, .long y27), (14, .long l12), (16, .long l14), (18, .long l16), (20, .int x20), (21, .long y22), (23, .long y26)]) (by decide +kernel) (by decide) rfl ?_
    obtain ⟨y29, ey29⟩ : ∃ y : Int32, y = x20 + 1 := ⟨_, rfl⟩
    have h := h y29 ey29
    refine tt_iinc (i := 20) (n := 1) (v := y29) (lv' := [(0, .ref a0), (1, .int x1), (2, .int x2), (3, .int x3), (4, .long y28), (6, .long l4), (8, .long l6), (10, .long l8), (12, .long y27), (14, .long l12), (16, .long l14), (18, .long l16), (20, .int y29), (21, .long y22), (23, .long y26)]) (by decide +kernel) (by decide) rfl ey29.symm rfl ?_
    refine tt_goto (off := -162) (tgt := 343) (by decide +kernel) (by decide) ?_
    refine tt_lv [(0, .ref a0), (1, .int x1), (2, .int x2), (3, .int x3), (4, .long y28), (6, .long l4), (8, .long l6), (10, .long l8), (12, .long y27), (14, .long l12), (16, .long l14), (18, .long l16), (20, .int y29)] (by simp) ?_
    exact tt_mono h (fun r S' q => ⟨hm.tr q.1, q.2⟩)
set_option maxRecDepth 100000 in
theorem v_M_low {G : pG} (a0 : Nat) (x1 : Int32) (S : TS) (Q : Option Value → Prop)
    (h : ∃ n1 : Nat, te S a0 = some (.inl (.byte, n1)) ∧ vp_in x1 n1 ∧ vp_in (x1 + (1 : Int32)) n1 ∧ vp_in (x1 + (2 : Int32)) n1 ∧ vp_in (x1 + (3 : Int32)) n1 ∧ Q (some (.int (((((tI S a0 x1.toNatClampNeg) &&& (255 : Int32)) ||| (((tI S a0 (x1 + (1 : Int32)).toNatClampNeg) &&& (255 : Int32)) <<< ((8 : Int32) &&& 31))) ||| (((tI S a0 (x1 + (2 : Int32)).toNatClampNeg) &&& (255 : Int32)) <<< ((16 : Int32) &&& 31))) ||| (((tI S a0 (x1 + (3 : Int32)).toNatClampNeg) &&& (255 : Int32)) <<< ((24 : Int32) &&& 31)))))) :
    CP G J_M_low [.ref a0, .int x1] S Q := by
  unfold CP
  refine ct_of (by decide +kernel) (Nat.le_of_ble_eq_true rfl) (lv := [(0, .ref a0), (1, .int x1)]) rfl ?_
  refine tt_aload_n (k0 := 0) (by decide +kernel) rfl ?_
  refine tt_iload_n (k0 := 1) (by decide +kernel) rfl ?_
  obtain ⟨n1, f2, h⟩ := h
  obtain ⟨g2, h⟩ := h
  refine tt_bald (by decide +kernel) f2 g2 ?_
  refine tt_sipush (n := 255) (v := 255) (by decide +kernel) (by decide) ?_
  refine tt_iand (by decide +kernel) ?_
  refine tt_aload_n (k0 := 0) (by decide +kernel) rfl ?_
  refine tt_iload_n (k0 := 1) (by decide +kernel) rfl ?_
  refine tt_iconst (n := 1) (v := 1) (by decide +kernel) (by decide) ?_
  refine tt_iadd (by decide +kernel) ?_
  obtain ⟨g2, h⟩ := h
  refine tt_bald (by decide +kernel) f2 g2 ?_
  refine tt_sipush (n := 255) (v := 255) (by decide +kernel) (by decide) ?_
  refine tt_iand (by decide +kernel) ?_
  refine tt_bipush (n := 8) (v := 8) (by decide +kernel) (by decide) ?_
  refine tt_ishl (by decide +kernel) ?_
  refine tt_ior (by decide +kernel) ?_
  refine tt_aload_n (k0 := 0) (by decide +kernel) rfl ?_
  refine tt_iload_n (k0 := 1) (by decide +kernel) rfl ?_
  refine tt_iconst (n := 2) (v := 2) (by decide +kernel) (by decide) ?_
  refine tt_iadd (by decide +kernel) ?_
  obtain ⟨g2, h⟩ := h
  refine tt_bald (by decide +kernel) f2 g2 ?_
  refine tt_sipush (n := 255) (v := 255) (by decide +kernel) (by decide) ?_
  refine tt_iand (by decide +kernel) ?_
  refine tt_bipush (n := 16) (v := 16) (by decide +kernel) (by decide) ?_
  refine tt_ishl (by decide +kernel) ?_
  refine tt_ior (by decide +kernel) ?_
  refine tt_aload_n (k0 := 0) (by decide +kernel) rfl ?_
  refine tt_iload_n (k0 := 1) (by decide +kernel) rfl ?_
  refine tt_iconst (n := 3) (v := 3) (by decide +kernel) (by decide) ?_
  refine tt_iadd (by decide +kernel) ?_
  obtain ⟨g2, h⟩ := h
  refine tt_bald (by decide +kernel) f2 g2 ?_
  refine tt_sipush (n := 255) (v := 255) (by decide +kernel) (by decide) ?_
  refine tt_iand (by decide +kernel) ?_
  refine tt_bipush (n := 24) (v := 24) (by decide +kernel) (by decide) ?_
  refine tt_ishl (by decide +kernel) ?_
  refine tt_ior (by decide +kernel) ?_
  exact tt_iret (by decide +kernel) rfl ⟨rfl, h⟩
set_option maxRecDepth 100000 in
theorem v_M_mix {G : pG} (a0 : Nat) (x1 : Int32) (x2 : Int32) (x3 : Int32) (x4 : Int32) (S : TS) (Q : Option Value → TS → Prop)
    (h : te S a0 = some (.inr 11) ∧ ∃ b2 : Nat, tR S a0 36 = some b2 ∧ ∃ n4 : Nat, te S b2 = some (.inl (.int, n4)) ∧ vp_in x1 n4 ∧ vp_in x2 n4 ∧ vp_in x1 n4 ∧ ∀ S6 : TS, S6 = sI S b2 (upd (tI S b2) x1.toNatClampNeg ((tI S b2 x1.toNatClampNeg) + (tI S b2 x2.toNatClampNeg))) → vp_in x4 n4 ∧ vp_in x1 n4 ∧ CP G J_M_turned [.int ((tI S6 b2 x4.toNatClampNeg) ^^^ (tI S6 b2 x1.toNatClampNeg)), .int 16] S6 (fun r => ∃ r7 : Int32, r = some (.int r7) ∧ vp_in x4 n4 ∧ ∀ S8 : TS, S8 = sI S6 b2 (upd (tI S6 b2) x4.toNatClampNeg r7) → vp_in x3 n4 ∧ vp_in x4 n4 ∧ vp_in x3 n4 ∧ ∀ S9 : TS, S9 = sI S8 b2 (upd (tI S8 b2) x3.toNatClampNeg ((tI S8 b2 x3.toNatClampNeg) + (tI S8 b2 x4.toNatClampNeg))) → vp_in x2 n4 ∧ vp_in x3 n4 ∧ CP G J_M_turned [.int ((tI S9 b2 x2.toNatClampNeg) ^^^ (tI S9 b2 x3.toNatClampNeg)), .int 12] S9 (fun r => ∃ r10 : Int32, r = some (.int r10) ∧ vp_in x2 n4 ∧ ∀ S11 : TS, S11 = sI S9 b2 (upd (tI S9 b2) x2.toNatClampNeg r10) → vp_in x1 n4 ∧ vp_in x2 n4 ∧ vp_in x1 n4 ∧ ∀ S12 : TS, S12 = sI S11 b2 (upd (tI S11 b2) x1.toNatClampNeg ((tI S11 b2 x1.toNatClampNeg) + (tI S11 b2 x2.toNatClampNeg))) → vp_in x4 n4 ∧ vp_in x1 n4 ∧ CP G J_M_turned [.int ((tI S12 b2 x4.toNatClampNeg) ^^^ (tI S12 b2 x1.toNatClampNeg)), .int 8] S12 (fun r => ∃ r13 : Int32, r = some (.int r13) ∧ vp_in x4 n4 ∧ ∀ S14 : TS, S14 = sI S12 b2 (upd (tI S12 b2) x4.toNatClampNeg r13) → vp_in x3 n4 ∧ vp_in x4 n4 ∧ vp_in x3 n4 ∧ ∀ S15 : TS, S15 = sI S14 b2 (upd (tI S14 b2) x3.toNatClampNeg ((tI S14 b2 x3.toNatClampNeg) + (tI S14 b2 x4.toNatClampNeg))) → vp_in x2 n4 ∧ vp_in x3 n4 ∧ CP G J_M_turned [.int ((tI S15 b2 x2.toNatClampNeg) ^^^ (tI S15 b2 x3.toNatClampNeg)), .int 7] S15 (fun r => ∃ r16 : Int32, r = some (.int r16) ∧ vp_in x2 n4 ∧ ∀ S17 : TS, S17 = sI S15 b2 (upd (tI S15 b2) x2.toNatClampNeg r16) → Q none S17))))) :
    C0 G J_M_mix [.ref a0, .int x1, .int x2, .int x3, .int x4] S Q := by
  unfold C0
  refine ct_of (by decide +kernel) (Nat.le_of_ble_eq_true rfl) (lv := [(0, .ref a0), (1, .int x1), (2, .int x2), (3, .int x3), (4, .int x4)]) rfl ?_
  have hm : Sm0 S S := Sm0.rf S
  refine tt_aload_n (k0 := 0) (by decide +kernel) rfl ?_
  obtain ⟨f1, h⟩ := h
  obtain ⟨b2, f3, h⟩ := h
  refine tt_getR (k := 36) (by decide +kernel) KC_11 (by decide) w_901 (fun _ => rfl) f1 f3 ?_
  refine tt_iload_n (k0 := 1) (by decide +kernel) rfl ?_
  refine tt_dup2_11 (by decide +kernel) rfl rfl ?_
  obtain ⟨n4, f5, h⟩ := h
  obtain ⟨g2, h⟩ := h
  refine tt_iald (by decide +kernel) f5 g2 ?_
  refine tt_aload_n (k0 := 0) (by decide +kernel) rfl ?_
  refine tt_getR (k := 36) (by decide +kernel) KC_11 (by decide) w_901 (fun _ => rfl) f1 f3 ?_
  refine tt_iload_n (k0 := 2) (by decide +kernel) rfl ?_
  obtain ⟨g2, h⟩ := h
  refine tt_iald (by decide +kernel) f5 g2 ?_
  refine tt_iadd (by decide +kernel) ?_
  obtain ⟨g2, h⟩ := h
  refine tt_iast (by decide +kernel) f5 g2 ?_
  generalize eS6 : sI S b2 (upd (tI S b2) x1.toNatClampNeg ((tI S b2 x1.toNatClampNeg) + (tI S b2 x2.toNatClampNeg))) = S6
  have h := h S6 eS6.symm
  have hm : Sm0 S S6 := by rw [← eS6]; exact hm.I
  have f1 : te S6 a0 = some (.inr 11) := by rw [← eS6, te_sI]; exact f1
  have f3 : tR S6 a0 36 = some b2 := by rw [← eS6, tR_sI]; exact f3
  have f5 : te S6 b2 = some (.inl (.int, n4)) := by rw [← eS6, te_sI]; exact f5
  refine tt_aload_n (k0 := 0) (by decide +kernel) rfl ?_
  refine tt_getR (k := 36) (by decide +kernel) KC_11 (by decide) w_901 (fun _ => rfl) f1 f3 ?_
  refine tt_iload (k0 := 4) (by decide +kernel) rfl ?_
  refine tt_aload_n (k0 := 0) (by decide +kernel) rfl ?_
  refine tt_getR (k := 36) (by decide +kernel) KC_11 (by decide) w_901 (fun _ => rfl) f1 f3 ?_
  refine tt_iload (k0 := 4) (by decide +kernel) rfl ?_
  obtain ⟨g2, h⟩ := h
  refine tt_iald (by decide +kernel) f5 g2 ?_
  refine tt_aload_n (k0 := 0) (by decide +kernel) rfl ?_
  refine tt_getR (k := 36) (by decide +kernel) KC_11 (by decide) w_901 (fun _ => rfl) f1 f3 ?_
  refine tt_iload_n (k0 := 1) (by decide +kernel) rfl ?_
  obtain ⟨g2, h⟩ := h
  refine tt_iald (by decide +kernel) f5 g2 ?_
  refine tt_ixor (by decide +kernel) ?_
  refine tt_bipush (n := 16) (v := 16) (by decide +kernel) (by decide) ?_
  refine tt_callS (As := [.int ((tI S6 b2 x4.toNatClampNeg) ^^^ (tI S6 b2 x1.toNatClampNeg)), .int 16]) (rest := [.int x4, .ref b2]) (by decide +kernel) LK_M_turned w_1151 w_1152 (by decide) (by decide) rfl rfl (Nat.le_of_ble_eq_true rfl) (ct_mono h (fun r Sb h => ?_))
  obtain ⟨eb, h⟩ := h
  obtain ⟨r7, rfl, h⟩ := h
  rw [eb]
  show T G J_M_mix 40 [(0, .ref a0), (1, .int x1), (2, .int x2), (3, .int x3), (4, .int x4)] [.int r7, .int x4, .ref b2] S6 _
  obtain ⟨g2, h⟩ := h
  refine tt_iast (by decide +kernel) f5 g2 ?_
  generalize eS8 : sI S6 b2 (upd (tI S6 b2) x4.toNatClampNeg r7) = S8
  have h := h S8 eS8.symm
  have hm : Sm0 S S8 := by rw [← eS8]; exact hm.I
  have f1 : te S8 a0 = some (.inr 11) := by rw [← eS8, te_sI]; exact f1
  have f3 : tR S8 a0 36 = some b2 := by rw [← eS8, tR_sI]; exact f3
  have f5 : te S8 b2 = some (.inl (.int, n4)) := by rw [← eS8, te_sI]; exact f5
  refine tt_aload_n (k0 := 0) (by decide +kernel) rfl ?_
  refine tt_getR (k := 36) (by decide +kernel) KC_11 (by decide) w_901 (fun _ => rfl) f1 f3 ?_
  refine tt_iload_n (k0 := 3) (by decide +kernel) rfl ?_
  refine tt_dup2_11 (by decide +kernel) rfl rfl ?_
  obtain ⟨g2, h⟩ := h
  refine tt_iald (by decide +kernel) f5 g2 ?_
  refine tt_aload_n (k0 := 0) (by decide +kernel) rfl ?_
  refine tt_getR (k := 36) (by decide +kernel) KC_11 (by decide) w_901 (fun _ => rfl) f1 f3 ?_
  refine tt_iload (k0 := 4) (by decide +kernel) rfl ?_
  obtain ⟨g2, h⟩ := h
  refine tt_iald (by decide +kernel) f5 g2 ?_
  refine tt_iadd (by decide +kernel) ?_
  obtain ⟨g2, h⟩ := h
  refine tt_iast (by decide +kernel) f5 g2 ?_
  generalize eS9 : sI S8 b2 (upd (tI S8 b2) x3.toNatClampNeg ((tI S8 b2 x3.toNatClampNeg) + (tI S8 b2 x4.toNatClampNeg))) = S9
  have h := h S9 eS9.symm
  have hm : Sm0 S S9 := by rw [← eS9]; exact hm.I
  have f1 : te S9 a0 = some (.inr 11) := by rw [← eS9, te_sI]; exact f1
  have f3 : tR S9 a0 36 = some b2 := by rw [← eS9, tR_sI]; exact f3
  have f5 : te S9 b2 = some (.inl (.int, n4)) := by rw [← eS9, te_sI]; exact f5
  refine tt_aload_n (k0 := 0) (by decide +kernel) rfl ?_
  refine tt_getR (k := 36) (by decide +kernel) KC_11 (by decide) w_901 (fun _ => rfl) f1 f3 ?_
  refine tt_iload_n (k0 := 2) (by decide +kernel) rfl ?_
  refine tt_aload_n (k0 := 0) (by decide +kernel) rfl ?_
  refine tt_getR (k := 36) (by decide +kernel) KC_11 (by decide) w_901 (fun _ => rfl) f1 f3 ?_
  refine tt_iload_n (k0 := 2) (by decide +kernel) rfl ?_
  obtain ⟨g2, h⟩ := h
  refine tt_iald (by decide +kernel) f5 g2 ?_
  refine tt_aload_n (k0 := 0) (by decide +kernel) rfl ?_
  refine tt_getR (k := 36) (by decide +kernel) KC_11 (by decide) w_901 (fun _ => rfl) f1 f3 ?_
  refine tt_iload_n (k0 := 3) (by decide +kernel) rfl ?_
  obtain ⟨g2, h⟩ := h
  refine tt_iald (by decide +kernel) f5 g2 ?_
  refine tt_ixor (by decide +kernel) ?_
  refine tt_bipush (n := 12) (v := 12) (by decide +kernel) (by decide) ?_
  refine tt_callS (As := [.int ((tI S9 b2 x2.toNatClampNeg) ^^^ (tI S9 b2 x3.toNatClampNeg)), .int 12]) (rest := [.int x2, .ref b2]) (by decide +kernel) LK_M_turned w_1151 w_1152 (by decide) (by decide) rfl rfl (Nat.le_of_ble_eq_true rfl) (ct_mono h (fun r Sb h => ?_))
  obtain ⟨eb, h⟩ := h
  obtain ⟨r10, rfl, h⟩ := h
  rw [eb]
  show T G J_M_mix 80 [(0, .ref a0), (1, .int x1), (2, .int x2), (3, .int x3), (4, .int x4)] [.int r10, .int x2, .ref b2] S9 _
  obtain ⟨g2, h⟩ := h
  refine tt_iast (by decide +kernel) f5 g2 ?_
  generalize eS11 : sI S9 b2 (upd (tI S9 b2) x2.toNatClampNeg r10) = S11
  have h := h S11 eS11.symm
  have hm : Sm0 S S11 := by rw [← eS11]; exact hm.I
  have f1 : te S11 a0 = some (.inr 11) := by rw [← eS11, te_sI]; exact f1
  have f3 : tR S11 a0 36 = some b2 := by rw [← eS11, tR_sI]; exact f3
  have f5 : te S11 b2 = some (.inl (.int, n4)) := by rw [← eS11, te_sI]; exact f5
  refine tt_aload_n (k0 := 0) (by decide +kernel) rfl ?_
  refine tt_getR (k := 36) (by decide +kernel) KC_11 (by decide) w_901 (fun _ => rfl) f1 f3 ?_
  refine tt_iload_n (k0 := 1) (by decide +kernel) rfl ?_
  refine tt_dup2_11 (by decide +kernel) rfl rfl ?_
  obtain ⟨g2, h⟩ := h
  refine tt_iald (by decide +kernel) f5 g2 ?_
  refine tt_aload_n (k0 := 0) (by decide +kernel) rfl ?_
  refine tt_getR (k := 36) (by decide +kernel) KC_11 (by decide) w_901 (fun _ => rfl) f1 f3 ?_
  refine tt_iload_n (k0 := 2) (by decide +kernel) rfl ?_
  obtain ⟨g2, h⟩ := h
  refine tt_iald (by decide +kernel) f5 g2 ?_
  refine tt_iadd (by decide +kernel) ?_
  obtain ⟨g2, h⟩ := h
  refine tt_iast (by decide +kernel) f5 g2 ?_
  generalize eS12 : sI S11 b2 (upd (tI S11 b2) x1.toNatClampNeg ((tI S11 b2 x1.toNatClampNeg) + (tI S11 b2 x2.toNatClampNeg))) = S12
  have h := h S12 eS12.symm
  have hm : Sm0 S S12 := by rw [← eS12]; exact hm.I
  have f1 : te S12 a0 = some (.inr 11) := by rw [← eS12, te_sI]; exact f1
  have f3 : tR S12 a0 36 = some b2 := by rw [← eS12, tR_sI]; exact f3
  have f5 : te S12 b2 = some (.inl (.int, n4)) := by rw [← eS12, te_sI]; exact f5
  refine tt_aload_n (k0 := 0) (by decide +kernel) rfl ?_
  refine tt_getR (k := 36) (by decide +kernel) KC_11 (by decide) w_901 (fun _ => rfl) f1 f3 ?_
  refine tt_iload (k0 := 4) (by decide +kernel) rfl ?_
  refine tt_aload_n (k0 := 0) (by decide +kernel) rfl ?_
  refine tt_getR (k := 36) (by decide +kernel) KC_11 (by decide) w_901 (fun _ => rfl) f1 f3 ?_
  refine tt_iload (k0 := 4) (by decide +kernel) rfl ?_
  obtain ⟨g2, h⟩ := h
  refine tt_iald (by decide +kernel) f5 g2 ?_
  refine tt_aload_n (k0 := 0) (by decide +kernel) rfl ?_
  refine tt_getR (k := 36) (by decide +kernel) KC_11 (by decide) w_901 (fun _ => rfl) f1 f3 ?_
  refine tt_iload_n (k0 := 1) (by decide +kernel) rfl ?_
  obtain ⟨g2, h⟩ := h
  refine tt_iald (by decide +kernel) f5 g2 ?_
  refine tt_ixor (by decide +kernel) ?_
  refine tt_bipush (n := 8) (v := 8) (by decide +kernel) (by decide) ?_
  refine tt_callS (As := [.int ((tI S12 b2 x4.toNatClampNeg) ^^^ (tI S12 b2 x1.toNatClampNeg)), .int 8]) (rest := [.int x4, .ref b2]) (by decide +kernel) LK_M_turned w_1151 w_1152 (by decide) (by decide) rfl rfl (Nat.le_of_ble_eq_true rfl) (ct_mono h (fun r Sb h => ?_))
  obtain ⟨eb, h⟩ := h
  obtain ⟨r13, rfl, h⟩ := h
  rw [eb]
  show T G J_M_mix 121 [(0, .ref a0), (1, .int x1), (2, .int x2), (3, .int x3), (4, .int x4)] [.int r13, .int x4, .ref b2] S12 _
  obtain ⟨g2, h⟩ := h
  refine tt_iast (by decide +kernel) f5 g2 ?_
  generalize eS14 : sI S12 b2 (upd (tI S12 b2) x4.toNatClampNeg r13) = S14
  have h := h S14 eS14.symm
  have hm : Sm0 S S14 := by rw [← eS14]; exact hm.I
  have f1 : te S14 a0 = some (.inr 11) := by rw [← eS14, te_sI]; exact f1
  have f3 : tR S14 a0 36 = some b2 := by rw [← eS14, tR_sI]; exact f3
  have f5 : te S14 b2 = some (.inl (.int, n4)) := by rw [← eS14, te_sI]; exact f5
  refine tt_aload_n (k0 := 0) (by decide +kernel) rfl ?_
  refine tt_getR (k := 36) (by decide +kernel) KC_11 (by decide) w_901 (fun _ => rfl) f1 f3 ?_
  refine tt_iload_n (k0 := 3) (by decide +kernel) rfl ?_
  refine tt_dup2_11 (by decide +kernel) rfl rfl ?_
  obtain ⟨g2, h⟩ := h
  refine tt_iald (by decide +kernel) f5 g2 ?_
  refine tt_aload_n (k0 := 0) (by decide +kernel) rfl ?_
  refine tt_getR (k := 36) (by decide +kernel) KC_11 (by decide) w_901 (fun _ => rfl) f1 f3 ?_
  refine tt_iload (k0 := 4) (by decide +kernel) rfl ?_
  obtain ⟨g2, h⟩ := h
  refine tt_iald (by decide +kernel) f5 g2 ?_
  refine tt_iadd (by decide +kernel) ?_
  obtain ⟨g2, h⟩ := h
  refine tt_iast (by decide +kernel) f5 g2 ?_
  generalize eS15 : sI S14 b2 (upd (tI S14 b2) x3.toNatClampNeg ((tI S14 b2 x3.toNatClampNeg) + (tI S14 b2 x4.toNatClampNeg))) = S15
  have h := h S15 eS15.symm
  have hm : Sm0 S S15 := by rw [← eS15]; exact hm.I
  have f1 : te S15 a0 = some (.inr 11) := by rw [← eS15, te_sI]; exact f1
  have f3 : tR S15 a0 36 = some b2 := by rw [← eS15, tR_sI]; exact f3
  have f5 : te S15 b2 = some (.inl (.int, n4)) := by rw [← eS15, te_sI]; exact f5
  refine tt_aload_n (k0 := 0) (by decide +kernel) rfl ?_
  refine tt_getR (k := 36) (by decide +kernel) KC_11 (by decide) w_901 (fun _ => rfl) f1 f3 ?_
  refine tt_iload_n (k0 := 2) (by decide +kernel) rfl ?_
  refine tt_aload_n (k0 := 0) (by decide +kernel) rfl ?_
  refine tt_getR (k := 36) (by decide +kernel) KC_11 (by decide) w_901 (fun _ => rfl) f1 f3 ?_
  refine tt_iload_n (k0 := 2) (by decide +kernel) rfl ?_
  obtain ⟨g2, h⟩ := h
  refine tt_iald (by decide +kernel) f5 g2 ?_
  refine tt_aload_n (k0 := 0) (by decide +kernel) rfl ?_
  refine tt_getR (k := 36) (by decide +kernel) KC_11 (by decide) w_901 (fun _ => rfl) f1 f3 ?_
  refine tt_iload_n (k0 := 3) (by decide +kernel) rfl ?_
  obtain ⟨g2, h⟩ := h
  refine tt_iald (by decide +kernel) f5 g2 ?_
  refine tt_ixor (by decide +kernel) ?_
  refine tt_bipush (n := 7) (v := 7) (by decide +kernel) (by decide) ?_
  refine tt_callS (As := [.int ((tI S15 b2 x2.toNatClampNeg) ^^^ (tI S15 b2 x3.toNatClampNeg)), .int 7]) (rest := [.int x2, .ref b2]) (by decide +kernel) LK_M_turned w_1151 w_1152 (by decide) (by decide) rfl rfl (Nat.le_of_ble_eq_true rfl) (ct_mono h (fun r Sb h => ?_))
  obtain ⟨eb, h⟩ := h
  obtain ⟨r16, rfl, h⟩ := h
  rw [eb]
  show T G J_M_mix 161 [(0, .ref a0), (1, .int x1), (2, .int x2), (3, .int x3), (4, .int x4)] [.int r16, .int x2, .ref b2] S15 _
  obtain ⟨g2, h⟩ := h
  refine tt_iast (by decide +kernel) f5 g2 ?_
  generalize eS17 : sI S15 b2 (upd (tI S15 b2) x2.toNatClampNeg r16) = S17
  have h := h S17 eS17.symm
  have hm : Sm0 S S17 := by rw [← eS17]; exact hm.I
  have f1 : te S17 a0 = some (.inr 11) := by rw [← eS17, te_sI]; exact f1
  have f3 : tR S17 a0 36 = some b2 := by rw [← eS17, tR_sI]; exact f3
  have f5 : te S17 b2 = some (.inl (.int, n4)) := by rw [← eS17, te_sI]; exact f5
  exact tt_vret (by decide +kernel) rfl ⟨hm, h⟩
set_option maxRecDepth 100000 in
theorem v_M_same {G : pG} (a0 : Nat) (x1 : Int32) (a2 : Nat) (x3 : Int32) (S : TS) (Q : Option Value → Prop)
    (h : TP G J_M_same 3 [(0, .ref a0), (1, .int x1), (2, .ref a2), (3, .int x3), (4, .int 0)] [] S Q) :
    CP G J_M_same [.ref a0, .int x1, .ref a2, .int x3] S Q := by
  unfold CP
  refine ct_of (by decide +kernel) (Nat.le_of_ble_eq_true rfl) (lv := [(0, .ref a0), (1, .int x1), (2, .ref a2), (3, .int x3)]) rfl ?_
  refine tt_iconst (n := 0) (v := 0) (by decide +kernel) (by decide) ?_
  refine tt_istore (k0 := 4) (lv' := [(0, .ref a0), (1, .int x1), (2, .ref a2), (3, .int x3), (4, .int 0)]) (by decide +kernel) (by decide) rfl ?_
  exact h
set_option maxRecDepth 100000 in
theorem v_M_same_3 {G : pG} (a0 : Nat) (x1 : Int32) (a2 : Nat) (x3 : Int32) (x4 : Int32) (S : TS) (Q : Option Value → Prop)
    (h : ((32 ≤ x4 → Q (some (.int 1))) ∧ (¬ (32 ≤ x4) → ∃ n1 : Nat, te S a0 = some (.inl (.byte, n1)) ∧ vp_in (x1 + x4) n1 ∧ ∃ n3 : Nat, te S a2 = some (.inl (.byte, n3)) ∧ vp_in (x3 + x4) n3 ∧ ((tI S a0 (x1 + x4).toNatClampNeg = tI S a2 (x3 + x4).toNatClampNeg → ∀ y5 : Int32, y5 = x4 + 1 → TP G J_M_same 3 [(0, .ref a0), (1, .int x1), (2, .ref a2), (3, .int x3), (4, .int y5)] [] S Q) ∧ (¬ (tI S a0 (x1 + x4).toNatClampNeg = tI S a2 (x3 + x4).toNatClampNeg) → Q (some (.int 0))))))) :
    TP G J_M_same 3 [(0, .ref a0), (1, .int x1), (2, .ref a2), (3, .int x3), (4, .int x4)] [] S Q := by
  unfold TP
  refine tt_iload (k0 := 4) (by decide +kernel) rfl ?_
  refine tt_bipush (n := 32) (v := 32) (by decide +kernel) (by decide) ?_
  refine tt_icmp_ge (off := 26) 33 (by decide +kernel) (by decide) (fun c => ?_) (fun c => ?_)
  · have h := h.1 c
    refine tt_iconst (n := 1) (v := 1) (by decide +kernel) (by decide) ?_
    exact tt_zret (by decide +kernel) rfl rfl ⟨rfl, h⟩
  · have h := h.2 c
    refine tt_aload_n (k0 := 0) (by decide +kernel) rfl ?_
    refine tt_iload_n (k0 := 1) (by decide +kernel) rfl ?_
    refine tt_iload (k0 := 4) (by decide +kernel) rfl ?_
    refine tt_iadd (by decide +kernel) ?_
    obtain ⟨n1, f2, h⟩ := h
    obtain ⟨g2, h⟩ := h
    refine tt_bald (by decide +kernel) f2 g2 ?_
    refine tt_aload_n (k0 := 2) (by decide +kernel) rfl ?_
    refine tt_iload_n (k0 := 3) (by decide +kernel) rfl ?_
    refine tt_iload (k0 := 4) (by decide +kernel) rfl ?_
    refine tt_iadd (by decide +kernel) ?_
    obtain ⟨n3, f4, h⟩ := h
    obtain ⟨g2, h⟩ := h
    refine tt_bald (by decide +kernel) f4 g2 ?_
    refine tt_icmp_eq (off := 5) 27 (by decide +kernel) (by decide) (fun c => ?_) (fun c => ?_)
    · have h := h.1 c
      obtain ⟨y5, ey5⟩ : ∃ y : Int32, y = x4 + 1 := ⟨_, rfl⟩
      have h := h y5 ey5
      refine tt_iinc (i := 4) (n := 1) (v := y5) (lv' := [(0, .ref a0), (1, .int x1), (2, .ref a2), (3, .int x3), (4, .int y5)]) (by decide +kernel) (by decide) rfl ey5.symm rfl ?_
      refine tt_goto (off := -27) (tgt := 3) (by decide +kernel) (by decide) ?_
      exact h
    · have h := h.2 c
      refine tt_iconst (n := 0) (v := 0) (by decide +kernel) (by decide) ?_
      exact tt_zret (by decide +kernel) rfl rfl ⟨rfl, h⟩
set_option maxRecDepth 100000 in
theorem v_M_opens {G : pG} (a0 : Nat) (x1 : Int32) (a2 : Nat) (S : TS) (Q : Option Value → TS → Prop)
    (h : te S a0 = some (.inr 11) ∧ ∃ b2 : Nat, tR S a0 15 = some b2 ∧ ∃ n4 : Nat, te S b2 = some (.inl (.int, n4)) ∧ vp_in x1 n4 ∧ ∀ S6 : TS, S6 = sI S b2 (upd (tI S b2) x1.toNatClampNeg 2) → T0 G J_M_opens 9 [(0, .ref a0), (1, .int x1), (2, .ref a2), (3, .int 0)] [] S6 Q) :
    C0 G J_M_opens [.ref a0, .int x1, .ref a2] S Q := by
  unfold C0
  refine ct_of (by decide +kernel) (Nat.le_of_ble_eq_true rfl) (lv := [(0, .ref a0), (1, .int x1), (2, .ref a2)]) rfl ?_
  have hm : Sm0 S S := Sm0.rf S
  refine tt_aload_n (k0 := 0) (by decide +kernel) rfl ?_
  obtain ⟨f1, h⟩ := h
  obtain ⟨b2, f3, h⟩ := h
  refine tt_getR (k := 15) (by decide +kernel) KC_11 (by decide) w_880 (fun _ => rfl) f1 f3 ?_
  refine tt_iload_n (k0 := 1) (by decide +kernel) rfl ?_
  refine tt_iconst (n := 2) (v := 2) (by decide +kernel) (by decide) ?_
  obtain ⟨n4, f5, h⟩ := h
  obtain ⟨g2, h⟩ := h
  refine tt_iast (by decide +kernel) f5 g2 ?_
  generalize eS6 : sI S b2 (upd (tI S b2) x1.toNatClampNeg 2) = S6
  have h := h S6 eS6.symm
  have hm : Sm0 S S6 := by rw [← eS6]; exact hm.I
  have f1 : te S6 a0 = some (.inr 11) := by rw [← eS6, te_sI]; exact f1
  have f3 : tR S6 a0 15 = some b2 := by rw [← eS6, tR_sI]; exact f3
  have f5 : te S6 b2 = some (.inl (.int, n4)) := by rw [← eS6, te_sI]; exact f5
  refine tt_iconst (n := 0) (v := 0) (by decide +kernel) (by decide) ?_
  refine tt_istore_n (k0 := 3) (lv' := [(0, .ref a0), (1, .int x1), (2, .ref a2), (3, .int 0)]) (by decide +kernel) (by decide) rfl ?_
  exact tt_mono h (fun r S' q => ⟨hm.tr q.1, q.2⟩)
set_option maxRecDepth 100000 in
theorem v_M_opens_9 {G : pG} (a0 : Nat) (x1 : Int32) (a2 : Nat) (x3 : Int32) (S : TS) (Q : Option Value → TS → Prop)
    (h : ((2 ≤ x3 → ((¬ x1 = 0 → Q none S) ∧ (x1 = 0 → te S a0 = some (.inr 11) ∧ ∀ S2 : TS, S2 = sI S a0 (upd (tI S a0) 33 0) → Q none S2))) ∧ (¬ (2 ≤ x3) → ∀ y3 : Int32, y3 = ((2 : Int32) * x1) + x3 → T0 G J_M_opens 24 [(0, .ref a0), (1, .int x1), (2, .ref a2), (3, .int x3), (4, .int y3), (5, .int 0)] [] S Q))) :
    T0 G J_M_opens 9 [(0, .ref a0), (1, .int x1), (2, .ref a2), (3, .int x3)] [] S Q := by
  unfold T0
  have hm : Sm0 S S := Sm0.rf S
  refine tt_iload_n (k0 := 3) (by decide +kernel) rfl ?_
  refine tt_iconst (n := 2) (v := 2) (by decide +kernel) (by decide) ?_
  refine tt_icmp_ge (off := 100) 111 (by decide +kernel) (by decide) (fun c => ?_) (fun c => ?_)
  · have h := h.1 c
    refine tt_iload_n (k0 := 1) (by decide +kernel) rfl ?_
    refine tt_if_ne (off := 8) 120 (by decide +kernel) (by decide) (fun c => ?_) (fun c => ?_)
    · have h := h.1 c
      exact tt_vret (by decide +kernel) rfl ⟨hm, h⟩
    · have h := h.2 c
      refine tt_aload_n (k0 := 0) (by decide +kernel) rfl ?_
      refine tt_iconst (n := 0) (v := 0) (by decide +kernel) (by decide) ?_
      obtain ⟨f1, h⟩ := h
      refine tt_putI (k := 33) (by decide +kernel) KC_11 (by decide) w_898 rfl rfl f1 ?_
      generalize eS2 : sI S a0 (upd (tI S a0) 33 0) = S2
      have h := h S2 eS2.symm
      have hm : Sm0 S S2 := by rw [← eS2]; exact hm.I
      have f1 : te S2 a0 = some (.inr 11) := by rw [← eS2, te_sI]; exact f1
      exact tt_vret (by decide +kernel) rfl ⟨hm, h⟩
  · have h := h.2 c
    refine tt_iconst (n := 2) (v := 2) (by decide +kernel) (by decide) ?_
    refine tt_iload_n (k0 := 1) (by decide +kernel) rfl ?_
    refine tt_imul (by decide +kernel) ?_
    refine tt_iload_n (k0 := 3) (by decide +kernel) rfl ?_
    refine tt_iadd (by decide +kernel) ?_
    refine tt_topi (fun y3 ey3 => ?_)
    have h := h y3 ey3
    refine tt_istore (k0 := 4) (lv' := [(0, .ref a0), (1, .int x1), (2, .ref a2), (3, .int x3), (4, .int y3)]) (by decide +kernel) (by decide) rfl ?_
    refine tt_iconst (n := 0) (v := 0) (by decide +kernel) (by decide) ?_
    refine tt_istore (k0 := 5) (lv' := [(0, .ref a0), (1, .int x1), (2, .ref a2), (3, .int x3), (4, .int y3), (5, .int 0)]) (by decide +kernel) (by decide) rfl ?_
    exact tt_mono h (fun r S' q => ⟨hm.tr q.1, q.2⟩)
set_option maxRecDepth 100000 in
theorem v_M_opens_24 {G : pG} (a0 : Nat) (x1 : Int32) (a2 : Nat) (x3 : Int32) (x4 : Int32) (x5 : Int32) (S : TS) (Q : Option Value → TS → Prop)
    (h : ((32 ≤ x5 → te S a0 = some (.inr 11) ∧ ∃ b2 : Nat, tR S a0 11 = some b2 ∧ ∃ n4 : Nat, te S b2 = some (.inl (.byte, n4)) ∧ vp_in 0 n4 ∧ ∀ S6 : TS, S6 = sI S b2 (upd (tI S b2) 0 (107 : Int32).toInt8.toInt32) → vp_in 1 n4 ∧ ∀ S7 : TS, S7 = sI S6 b2 (upd (tI S6 b2) 1 ((x3 : Int32).toInt8.toInt32 : Int32).toInt8.toInt32) → vp_in 2 n4 ∧ ∀ S8 : TS, S8 = sI S7 b2 (upd (tI S7 b2) 2 (0 : Int32).toInt8.toInt32) → ∀ S9 : TS, S9 = sI S8 a0 (upd (tI S8 a0) 12 3) → ∃ b10 : Nat, tR S9 a0 19 = some b10 ∧ C0 G J_M_macTo [.ref a0, .ref b10, .int ((32 : Int32) * x4)] S9 (fun r S12 => r = none ∧ ∃ b13 : Nat, tR S12 a0 20 = some b13 ∧ ∃ n15 : Nat, te S12 b13 = some (.inl (.int, n15)) ∧ vp_in x4 n15 ∧ ∀ S17 : TS, S17 = sI S12 b13 (upd (tI S12 b13) x4.toNatClampNeg 0) → ∃ b18 : Nat, tR S17 a0 21 = some b18 ∧ ∃ n20 : Nat, te S17 b18 = some (.inl (.int, n20)) ∧ vp_in x4 n20 ∧ ∀ S22 : TS, S22 = sI S17 b18 (upd (tI S17 b18) x4.toNatClampNeg 0) → ∀ y23 : Int32, y23 = x3 + 1 → T0 G J_M_opens 9 [(0, .ref a0), (1, .int x1), (2, .ref a2), (3, .int y23)] [] S22 Q)) ∧ (¬ (32 ≤ x5) → te S a0 = some (.inr 11) ∧ ∃ b25 : Nat, tR S a0 10 = some b25 ∧ ∃ n27 : Nat, te S a2 = some (.inl (.byte, n27)) ∧ vp_in x5 n27 ∧ ∃ n29 : Nat, te S b25 = some (.inl (.byte, n29)) ∧ vp_in x5 n29 ∧ ∀ S31 : TS, S31 = sI S b25 (upd (tI S b25) x5.toNatClampNeg (tI S a2 x5.toNatClampNeg : Int32).toInt8.toInt32) → ∀ y32 : Int32, y32 = x5 + 1 → T0 G J_M_opens 24 [(0, .ref a0), (1, .int x1), (2, .ref a2), (3, .int x3), (4, .int x4), (5, .int y32)] [] S31 Q))) :
    T0 G J_M_opens 24 [(0, .ref a0), (1, .int x1), (2, .ref a2), (3, .int x3), (4, .int x4), (5, .int x5)] [] S Q := by
  unfold T0
  have hm : Sm0 S S := Sm0.rf S
  refine tt_iload (k0 := 5) (by decide +kernel) rfl ?_
  refine tt_bipush (n := 32) (v := 32) (by decide +kernel) (by decide) ?_
  refine tt_icmp_ge (off := 20) 48 (by decide +kernel) (by decide) (fun c => ?_) (fun c => ?_)
  · have h := h.1 c
    refine tt_aload_n (k0 := 0) (by decide +kernel) rfl ?_
    obtain ⟨f1, h⟩ := h
    obtain ⟨b2, f3, h⟩ := h
    refine tt_getR (k := 11) (by decide +kernel) KC_11 (by decide) w_876 (fun _ => rfl) f1 f3 ?_
    refine tt_iconst (n := 0) (v := 0) (by decide +kernel) (by decide) ?_
    refine tt_bipush (n := 107) (v := 107) (by decide +kernel) (by decide) ?_
    obtain ⟨n4, f5, h⟩ := h
    obtain ⟨g2, h⟩ := h
    refine tt_bast (by decide +kernel) f5 g2 ?_
    show T G J_M_opens 56 [(0, .ref a0), (1, .int x1), (2, .ref a2), (3, .int x3), (4, .int x4), (5, .int x5)] [] (sI S b2 (upd (tI S b2) 0 (107 : Int32).toInt8.toInt32)) _
    generalize eS6 : sI S b2 (upd (tI S b2) 0 (107 : Int32).toInt8.toInt32) = S6
    have h := h S6 eS6.symm
    have hm : Sm0 S S6 := by rw [← eS6]; exact hm.I
    have f1 : te S6 a0 = some (.inr 11) := by rw [← eS6, te_sI]; exact f1
    have f3 : tR S6 a0 11 = some b2 := by rw [← eS6, tR_sI]; exact f3
    have f5 : te S6 b2 = some (.inl (.byte, n4)) := by rw [← eS6, te_sI]; exact f5
    refine tt_aload_n (k0 := 0) (by decide +kernel) rfl ?_
    refine tt_getR (k := 11) (by decide +kernel) KC_11 (by decide) w_876 (fun _ => rfl) f1 f3 ?_
    refine tt_iconst (n := 1) (v := 1) (by decide +kernel) (by decide) ?_
    refine tt_iload_n (k0 := 3) (by decide +kernel) rfl ?_
    refine tt_i2b (by decide +kernel) ?_
    obtain ⟨g2, h⟩ := h
    refine tt_bast (by decide +kernel) f5 g2 ?_
    show T G J_M_opens 64 [(0, .ref a0), (1, .int x1), (2, .ref a2), (3, .int x3), (4, .int x4), (5, .int x5)] [] (sI S6 b2 (upd (tI S6 b2) 1 ((x3 : Int32).toInt8.toInt32 : Int32).toInt8.toInt32)) _
    generalize eS7 : sI S6 b2 (upd (tI S6 b2) 1 ((x3 : Int32).toInt8.toInt32 : Int32).toInt8.toInt32) = S7
    have h := h S7 eS7.symm
    have hm : Sm0 S S7 := by rw [← eS7]; exact hm.I
    have f1 : te S7 a0 = some (.inr 11) := by rw [← eS7, te_sI]; exact f1
    have f3 : tR S7 a0 11 = some b2 := by rw [← eS7, tR_sI]; exact f3
    have f5 : te S7 b2 = some (.inl (.byte, n4)) := by rw [← eS7, te_sI]; exact f5
    refine tt_aload_n (k0 := 0) (by decide +kernel) rfl ?_
    refine tt_getR (k := 11) (by decide +kernel) KC_11 (by decide) w_876 (fun _ => rfl) f1 f3 ?_
    refine tt_iconst (n := 2) (v := 2) (by decide +kernel) (by decide) ?_
    refine tt_iconst (n := 0) (v := 0) (by decide +kernel) (by decide) ?_
    obtain ⟨g2, h⟩ := h
    refine tt_bast (by decide +kernel) f5 g2 ?_
    show T G J_M_opens 71 [(0, .ref a0), (1, .int x1), (2, .ref a2), (3, .int x3), (4, .int x4), (5, .int x5)] [] (sI S7 b2 (upd (tI S7 b2) 2 (0 : Int32).toInt8.toInt32)) _
    generalize eS8 : sI S7 b2 (upd (tI S7 b2) 2 (0 : Int32).toInt8.toInt32) = S8
    have h := h S8 eS8.symm
    have hm : Sm0 S S8 := by rw [← eS8]; exact hm.I
    have f1 : te S8 a0 = some (.inr 11) := by rw [← eS8, te_sI]; exact f1
    have f3 : tR S8 a0 11 = some b2 := by rw [← eS8, tR_sI]; exact f3
    have f5 : te S8 b2 = some (.inl (.byte, n4)) := by rw [← eS8, te_sI]; exact f5
    refine tt_aload_n (k0 := 0) (by decide +kernel) rfl ?_
    refine tt_iconst (n := 3) (v := 3) (by decide +kernel) (by decide) ?_
    refine tt_putI (k := 12) (by decide +kernel) KC_11 (by decide) w_877 rfl rfl f1 ?_
    generalize eS9 : sI S8 a0 (upd (tI S8 a0) 12 3) = S9
    have h := h S9 eS9.symm
    have hm : Sm0 S S9 := by rw [← eS9]; exact hm.I
    have f1 : te S9 a0 = some (.inr 11) := by rw [← eS9, te_sI]; exact f1
    have f3 : tR S9 a0 11 = some b2 := by rw [← eS9, tR_sI]; exact f3
    have f5 : te S9 b2 = some (.inl (.byte, n4)) := by rw [← eS9, te_sI]; exact f5
    refine tt_aload_n (k0 := 0) (by decide +kernel) rfl ?_
    refine tt_aload_n (k0 := 0) (by decide +kernel) rfl ?_
    obtain ⟨b10, f11, h⟩ := h
    refine tt_getR (k := 19) (by decide +kernel) KC_11 (by decide) w_884 (fun _ => rfl) f1 f11 ?_
    refine tt_bipush (n := 32) (v := 32) (by decide +kernel) (by decide) ?_
    refine tt_iload (k0 := 4) (by decide +kernel) rfl ?_
    refine tt_imul (by decide +kernel) ?_
    refine tt_callV (As := [.ref b10, .int ((32 : Int32) * x4)]) (rest := []) (ci := 11) (r0 := (R_11, F_11, 55)) (by decide +kernel) LK_M_macTo w_1182 w_1184 (in_p (n := 55) 49 rfl) (by decide) (by decide) rfl rfl (Nat.le_of_ble_eq_true rfl) rfl rfl f1 (ct_mono h (fun r S12 h => ?_))
    obtain ⟨hm2, h⟩ := h
    obtain ⟨rfl, h⟩ := h
    show T G J_M_opens 89 [(0, .ref a0), (1, .int x1), (2, .ref a2), (3, .int x3), (4, .int x4), (5, .int x5)] [] S12 _
    have hm := hm.tr hm2
    have f1 : te S12 a0 = some (.inr 11) := by rw [hm2.1]; exact f1
    have f3 : tR S12 a0 11 = some b2 := by rw [hm2.R]; exact f3
    have f5 : te S12 b2 = some (.inl (.byte, n4)) := by rw [hm2.1]; exact f5
    have f11 : tR S12 a0 19 = some b10 := by rw [hm2.R]; exact f11
    refine tt_aload_n (k0 := 0) (by decide +kernel) rfl ?_
    obtain ⟨b13, f14, h⟩ := h
    refine tt_getR (k := 20) (by decide +kernel) KC_11 (by decide) w_885 (fun _ => rfl) f1 f14 ?_
    refine tt_iload (k0 := 4) (by decide +kernel) rfl ?_
    refine tt_iconst (n := 0) (v := 0) (by decide +kernel) (by decide) ?_
    obtain ⟨n15, f16, h⟩ := h
    obtain ⟨g2, h⟩ := h
    refine tt_iast (by decide +kernel) f16 g2 ?_
    generalize eS17 : sI S12 b13 (upd (tI S12 b13) x4.toNatClampNeg 0) = S17
    have h := h S17 eS17.symm
    have hm : Sm0 S S17 := by rw [← eS17]; exact hm.I
    have f1 : te S17 a0 = some (.inr 11) := by rw [← eS17, te_sI]; exact f1
    have f3 : tR S17 a0 11 = some b2 := by rw [← eS17, tR_sI]; exact f3
    have f5 : te S17 b2 = some (.inl (.byte, n4)) := by rw [← eS17, te_sI]; exact f5
    have f11 : tR S17 a0 19 = some b10 := by rw [← eS17, tR_sI]; exact f11
    have f14 : tR S17 a0 20 = some b13 := by rw [← eS17, tR_sI]; exact f14
    have f16 : te S17 b13 = some (.inl (.int, n15)) := by rw [← eS17, te_sI]; exact f16
    refine tt_aload_n (k0 := 0) (by decide +kernel) rfl ?_
    obtain ⟨b18, f19, h⟩ := h
    refine tt_getR (k := 21) (by decide +kernel) KC_11 (by decide) w_886 (fun _ => rfl) f1 f19 ?_
    refine tt_iload (k0 := 4) (by decide +kernel) rfl ?_
    refine tt_iconst (n := 0) (v := 0) (by decide +kernel) (by decide) ?_
    obtain ⟨n20, f21, h⟩ := h
    obtain ⟨g2, h⟩ := h
    refine tt_iast (by decide +kernel) f21 g2 ?_
    generalize eS22 : sI S17 b18 (upd (tI S17 b18) x4.toNatClampNeg 0) = S22
    have h := h S22 eS22.symm
    have hm : Sm0 S S22 := by rw [← eS22]; exact hm.I
    have f1 : te S22 a0 = some (.inr 11) := by rw [← eS22, te_sI]; exact f1
    have f3 : tR S22 a0 11 = some b2 := by rw [← eS22, tR_sI]; exact f3
    have f5 : te S22 b2 = some (.inl (.byte, n4)) := by rw [← eS22, te_sI]; exact f5
    have f11 : tR S22 a0 19 = some b10 := by rw [← eS22, tR_sI]; exact f11
    have f14 : tR S22 a0 20 = some b13 := by rw [← eS22, tR_sI]; exact f14
    have f16 : te S22 b13 = some (.inl (.int, n15)) := by rw [← eS22, te_sI]; exact f16
    have f19 : tR S22 a0 21 = some b18 := by rw [← eS22, tR_sI]; exact f19
    have f21 : te S22 b18 = some (.inl (.int, n20)) := by rw [← eS22, te_sI]; exact f21
    obtain ⟨y23, ey23⟩ : ∃ y : Int32, y = x3 + 1 := ⟨_, rfl⟩
    have h := h y23 ey23
    refine tt_iinc (i := 3) (n := 1) (v := y23) (lv' := [(0, .ref a0), (1, .int x1), (2, .ref a2), (3, .int y23), (4, .int x4), (5, .int x5)]) (by decide +kernel) (by decide) rfl ey23.symm rfl ?_
    refine tt_goto (off := -99) (tgt := 9) (by decide +kernel) (by decide) ?_
    refine tt_lv [(0, .ref a0), (1, .int x1), (2, .ref a2), (3, .int y23)] (by simp) ?_
    exact tt_mono h (fun r S' q => ⟨hm.tr q.1, q.2⟩)
  · have h := h.2 c
    refine tt_aload_n (k0 := 0) (by decide +kernel) rfl ?_
    obtain ⟨f24, h⟩ := h
    obtain ⟨b25, f26, h⟩ := h
    refine tt_getR (k := 10) (by decide +kernel) KC_11 (by decide) w_875 (fun _ => rfl) f24 f26 ?_
    refine tt_iload (k0 := 5) (by decide +kernel) rfl ?_
    refine tt_aload_n (k0 := 2) (by decide +kernel) rfl ?_
    refine tt_iload (k0 := 5) (by decide +kernel) rfl ?_
    obtain ⟨n27, f28, h⟩ := h
    obtain ⟨g2, h⟩ := h
    refine tt_bald (by decide +kernel) f28 g2 ?_
    obtain ⟨n29, f30, h⟩ := h
    obtain ⟨g2, h⟩ := h
    refine tt_bast (by decide +kernel) f30 g2 ?_
    generalize eS31 : sI S b25 (upd (tI S b25) x5.toNatClampNeg (tI S a2 x5.toNatClampNeg : Int32).toInt8.toInt32) = S31
    have h := h S31 eS31.symm
    have hm : Sm0 S S31 := by rw [← eS31]; exact hm.I
    have f24 : te S31 a0 = some (.inr 11) := by rw [← eS31, te_sI]; exact f24
    have f26 : tR S31 a0 10 = some b25 := by rw [← eS31, tR_sI]; exact f26
    have f28 : te S31 a2 = some (.inl (.byte, n27)) := by rw [← eS31, te_sI]; exact f28
    have f30 : te S31 b25 = some (.inl (.byte, n29)) := by rw [← eS31, te_sI]; exact f30
    obtain ⟨y32, ey32⟩ : ∃ y : Int32, y = x5 + 1 := ⟨_, rfl⟩
    have h := h y32 ey32
    refine tt_iinc (i := 5) (n := 1) (v := y32) (lv' := [(0, .ref a0), (1, .int x1), (2, .ref a2), (3, .int x3), (4, .int x4), (5, .int y32)]) (by decide +kernel) (by decide) rfl ey32.symm rfl ?_
    refine tt_goto (off := -21) (tgt := 24) (by decide +kernel) (by decide) ?_
    exact tt_mono h (fun r S' q => ⟨hm.tr q.1, q.2⟩)
set_option maxRecDepth 100000 in
theorem v_M_sealed {G : pG} (a0 : Nat) (x1 : Int32) (x2 : Int32) (x3 : Int32) (S : TS) (Q : Option Value → TS → Prop)
    (h : ∀ y1 : Int32, y1 = (1 : Int32) - x1 → ∀ y2 : Int32, y2 = ((2 : Int32) * x1) + y1 → ((x3 ≤ 116 → T0 G J_M_sealed 22 [(0, .ref a0), (1, .int x1), (2, .int x2), (3, .int x3), (4, .int y1), (5, .int y2)] [] S Q) ∧ (¬ (x3 ≤ 116) → Q (some (.int ((-4)))) S))) :
    C0 G J_M_sealed [.ref a0, .int x1, .int x2, .int x3] S Q := by
  unfold C0
  refine ct_of (by decide +kernel) (Nat.le_of_ble_eq_true rfl) (lv := [(0, .ref a0), (1, .int x1), (2, .int x2), (3, .int x3)]) rfl ?_
  have hm : Sm0 S S := Sm0.rf S
  refine tt_iconst (n := 1) (v := 1) (by decide +kernel) (by decide) ?_
  refine tt_iload_n (k0 := 1) (by decide +kernel) rfl ?_
  refine tt_isub (by decide +kernel) ?_
  refine tt_topi (fun y1 ey1 => ?_)
  have h := h y1 ey1
  refine tt_istore (k0 := 4) (lv' := [(0, .ref a0), (1, .int x1), (2, .int x2), (3, .int x3), (4, .int y1)]) (by decide +kernel) (by decide) rfl ?_
  refine tt_iconst (n := 2) (v := 2) (by decide +kernel) (by decide) ?_
  refine tt_iload_n (k0 := 1) (by decide +kernel) rfl ?_
  refine tt_imul (by decide +kernel) ?_
  refine tt_iload (k0 := 4) (by decide +kernel) rfl ?_
  refine tt_iadd (by decide +kernel) ?_
  refine tt_topi (fun y2 ey2 => ?_)
  have h := h y2 ey2
  refine tt_istore (k0 := 5) (lv' := [(0, .ref a0), (1, .int x1), (2, .int x2), (3, .int x3), (4, .int y1), (5, .int y2)]) (by decide +kernel) (by decide) rfl ?_
  refine tt_iload_n (k0 := 3) (by decide +kernel) rfl ?_
  refine tt_bipush (n := 116) (v := 116) (by decide +kernel) (by decide) ?_
  refine tt_icmp_le (off := 6) 22 (by decide +kernel) (by decide) (fun c => ?_) (fun c => ?_)
  · have h := h.1 c
    exact tt_mono h (fun r S' q => ⟨hm.tr q.1, q.2⟩)
  · have h := h.2 c
    refine tt_bipush (n := -4) (v := -4) (by decide +kernel) (by decide) ?_
    exact tt_iret (by decide +kernel) rfl ⟨hm, h⟩
set_option maxRecDepth 100000 in
theorem v_M_sealed_22 {G : pG} (a0 : Nat) (x1 : Int32) (x2 : Int32) (x3 : Int32) (x4 : Int32) (x5 : Int32) (S : TS) (Q : Option Value → TS → Prop)
    (h : te S a0 = some (.inr 11) ∧ C0 G J_M_opened [.ref a0, .int x2, .int x3, .int x5] S (fun r S2 => ∃ r3 : Int32, r = some (.int r3) ∧ ((r3 < 0 → T0 G J_M_sealed 71 [(0, .ref a0), (1, .int x1), (2, .int x2), (3, .int x3), (4, .int x4), (5, .int x5), (6, .int r3)] [] S2 Q) ∧ (¬ (r3 < 0) → ∃ b4 : Nat, tR S2 a0 45 = some b4 ∧ ∃ n6 : Nat, te S2 b4 = some (.inl (.byte, n6)) ∧ vp_in 0 n6 ∧ ((tI S2 b4 0 < 0 → T0 G J_M_sealed 71 [(0, .ref a0), (1, .int x1), (2, .int x2), (3, .int x3), (4, .int x4), (5, .int x5), (6, .int r3)] [] S2 Q) ∧ (¬ (tI S2 b4 0 < 0) → vp_in 0 n6 ∧ ((2 < tI S2 b4 0 → T0 G J_M_sealed 71 [(0, .ref a0), (1, .int x1), (2, .int x2), (3, .int x3), (4, .int x4), (5, .int x5), (6, .int r3)] [] S2 Q) ∧ (¬ (2 < tI S2 b4 0) → vp_in 0 n6 ∧ ((tI S2 b4 0 ≤ 0 → T0 G J_M_sealed 74 [(0, .ref a0), (1, .int x1), (2, .int x2), (3, .int x3), (4, .int x4), (5, .int x5), (6, .int r3)] [] S2 Q) ∧ (¬ (tI S2 b4 0 ≤ 0) → ((r3 ≤ 1 → T0 G J_M_sealed 74 [(0, .ref a0), (1, .int x1), (2, .int x2), (3, .int x3), (4, .int x4), (5, .int x5), (6, .int r3)] [] S2 Q) ∧ (¬ (r3 ≤ 1) → T0 G J_M_sealed 71 [(0, .ref a0), (1, .int x1), (2, .int x2), (3, .int x3), (4, .int x4), (5, .int x5), (6, .int r3)] [] S2 Q)))))))))))) :
    T0 G J_M_sealed 22 [(0, .ref a0), (1, .int x1), (2, .int x2), (3, .int x3), (4, .int x4), (5, .int x5)] [] S Q := by
  unfold T0
  have hm : Sm0 S S := Sm0.rf S
  refine tt_aload_n (k0 := 0) (by decide +kernel) rfl ?_
  refine tt_iload_n (k0 := 2) (by decide +kernel) rfl ?_
  refine tt_iload_n (k0 := 3) (by decide +kernel) rfl ?_
  refine tt_iload (k0 := 5) (by decide +kernel) rfl ?_
  obtain ⟨f1, h⟩ := h
  refine tt_callV (As := [.int x2, .int x3, .int x5]) (rest := []) (ci := 11) (r0 := (R_11, F_11, 55)) (by decide +kernel) LK_M_opened w_1221 w_1223 (in_p (n := 55) 56 rfl) (by decide) (by decide) rfl rfl (Nat.le_of_ble_eq_true rfl) rfl rfl f1 (ct_mono h (fun r S2 h => ?_))
  obtain ⟨hm2, h⟩ := h
  obtain ⟨r3, rfl, h⟩ := h
  show T G J_M_sealed 30 [(0, .ref a0), (1, .int x1), (2, .int x2), (3, .int x3), (4, .int x4), (5, .int x5)] [.int r3] S2 _
  have hm := hm.tr hm2
  have f1 : te S2 a0 = some (.inr 11) := by rw [hm2.1]; exact f1
  refine tt_istore (k0 := 6) (lv' := [(0, .ref a0), (1, .int x1), (2, .int x2), (3, .int x3), (4, .int x4), (5, .int x5), (6, .int r3)]) (by decide +kernel) (by decide) rfl ?_
  refine tt_iload (k0 := 6) (by decide +kernel) rfl ?_
  refine tt_if_lt (off := 37) 71 (by decide +kernel) (by decide) (fun c => ?_) (fun c => ?_)
  · have h := h.1 c
    exact tt_mono h (fun r S' q => ⟨hm.tr q.1, q.2⟩)
  · have h := h.2 c
    refine tt_aload_n (k0 := 0) (by decide +kernel) rfl ?_
    obtain ⟨b4, f5, h⟩ := h
    refine tt_getR (k := 45) (by decide +kernel) KC_11 (by decide) w_910 (fun _ => rfl) f1 f5 ?_
    refine tt_iconst (n := 0) (v := 0) (by decide +kernel) (by decide) ?_
    obtain ⟨n6, f7, h⟩ := h
    obtain ⟨g2, h⟩ := h
    refine tt_bald (by decide +kernel) f7 g2 ?_
    show T G J_M_sealed 43 [(0, .ref a0), (1, .int x1), (2, .int x2), (3, .int x3), (4, .int x4), (5, .int x5), (6, .int r3)] [.int (tI S2 b4 0)] S2 _
    refine tt_if_lt (off := 28) 71 (by decide +kernel) (by decide) (fun c => ?_) (fun c => ?_)
    · have h := h.1 c
      exact tt_mono h (fun r S' q => ⟨hm.tr q.1, q.2⟩)
    · have h := h.2 c
      refine tt_aload_n (k0 := 0) (by decide +kernel) rfl ?_
      refine tt_getR (k := 45) (by decide +kernel) KC_11 (by decide) w_910 (fun _ => rfl) f1 f5 ?_
      refine tt_iconst (n := 0) (v := 0) (by decide +kernel) (by decide) ?_
      obtain ⟨g2, h⟩ := h
      refine tt_bald (by decide +kernel) f7 g2 ?_
      show T G J_M_sealed 52 [(0, .ref a0), (1, .int x1), (2, .int x2), (3, .int x3), (4, .int x4), (5, .int x5), (6, .int r3)] [.int (tI S2 b4 0)] S2 _
      refine tt_iconst (n := 2) (v := 2) (by decide +kernel) (by decide) ?_
      refine tt_icmp_gt (off := 18) 71 (by decide +kernel) (by decide) (fun c => ?_) (fun c => ?_)
      · have h := h.1 c
        exact tt_mono h (fun r S' q => ⟨hm.tr q.1, q.2⟩)
      · have h := h.2 c
        refine tt_aload_n (k0 := 0) (by decide +kernel) rfl ?_
        refine tt_getR (k := 45) (by decide +kernel) KC_11 (by decide) w_910 (fun _ => rfl) f1 f5 ?_
        refine tt_iconst (n := 0) (v := 0) (by decide +kernel) (by decide) ?_
        obtain ⟨g2, h⟩ := h
        refine tt_bald (by decide +kernel) f7 g2 ?_
        show T G J_M_sealed 62 [(0, .ref a0), (1, .int x1), (2, .int x2), (3, .int x3), (4, .int x4), (5, .int x5), (6, .int r3)] [.int (tI S2 b4 0)] S2 _
        refine tt_if_le (off := 12) 74 (by decide +kernel) (by decide) (fun c => ?_) (fun c => ?_)
        · have h := h.1 c
          exact tt_mono h (fun r S' q => ⟨hm.tr q.1, q.2⟩)
        · have h := h.2 c
          refine tt_iload (k0 := 6) (by decide +kernel) rfl ?_
          refine tt_iconst (n := 1) (v := 1) (by decide +kernel) (by decide) ?_
          refine tt_icmp_le (off := 6) 74 (by decide +kernel) (by decide) (fun c => ?_) (fun c => ?_)
          · have h := h.1 c
            exact tt_mono h (fun r S' q => ⟨hm.tr q.1, q.2⟩)
          · have h := h.2 c
            exact tt_mono h (fun r S' q => ⟨hm.tr q.1, q.2⟩)
set_option maxRecDepth 100000 in
theorem v_M_sealed_71 {G : pG} (a0 : Nat) (x1 : Int32) (x2 : Int32) (x3 : Int32) (x4 : Int32) (x5 : Int32) (x6 : Int32) (S : TS) (Q : Option Value → TS → Prop)
    (h : Q (some (.int ((-4)))) S) :
    T0 G J_M_sealed 71 [(0, .ref a0), (1, .int x1), (2, .int x2), (3, .int x3), (4, .int x4), (5, .int x5), (6, .int x6)] [] S Q := by
  unfold T0
  have hm : Sm0 S S := Sm0.rf S
  refine tt_bipush (n := -4) (v := -4) (by decide +kernel) (by decide) ?_
  exact tt_iret (by decide +kernel) rfl ⟨hm, h⟩
set_option maxRecDepth 100000 in
theorem v_M_sealed_74 {G : pG} (a0 : Nat) (x1 : Int32) (x2 : Int32) (x3 : Int32) (x4 : Int32) (x5 : Int32) (x6 : Int32) (S : TS) (Q : Option Value → TS → Prop)
    (h : te S a0 = some (.inr 11) ∧ ∃ b2 : Nat, tR S a0 45 = some b2 ∧ ∃ n4 : Nat, te S b2 = some (.inl (.byte, n4)) ∧ vp_in 0 n4 ∧ ((¬ tI S b2 0 = 0 → T0 G J_M_sealed 112 [(0, .ref a0), (1, .int x1), (2, .int x2), (3, .int x3), (4, .int x4), (5, .int x5), (6, .int x6)] [] S Q) ∧ (tI S b2 0 = 0 → ((¬ x1 = 1 → T0 G J_M_sealed 100 [(0, .ref a0), (1, .int x1), (2, .int x2), (3, .int x3), (4, .int x4), (5, .int x5), (6, .int x6)] [] S Q) ∧ (x1 = 1 → CP G J_M_isRequest [.ref a0, .int x6] S (fun r => ∃ r6 : Int32, r = some (.int r6) ∧ ((r6 = 0 → T0 G J_M_sealed 109 [(0, .ref a0), (1, .int x1), (2, .int x2), (3, .int x3), (4, .int x4), (5, .int x5), (6, .int x6)] [] S Q) ∧ (¬ (r6 = 0) → T0 G J_M_sealed 112 [(0, .ref a0), (1, .int x1), (2, .int x2), (3, .int x3), (4, .int x4), (5, .int x5), (6, .int x6)] [] S Q)))))))) :
    T0 G J_M_sealed 74 [(0, .ref a0), (1, .int x1), (2, .int x2), (3, .int x3), (4, .int x4), (5, .int x5), (6, .int x6)] [] S Q := by
  unfold T0
  have hm : Sm0 S S := Sm0.rf S
  refine tt_aload_n (k0 := 0) (by decide +kernel) rfl ?_
  obtain ⟨f1, h⟩ := h
  obtain ⟨b2, f3, h⟩ := h
  refine tt_getR (k := 45) (by decide +kernel) KC_11 (by decide) w_910 (fun _ => rfl) f1 f3 ?_
  refine tt_iconst (n := 0) (v := 0) (by decide +kernel) (by decide) ?_
  obtain ⟨n4, f5, h⟩ := h
  obtain ⟨g2, h⟩ := h
  refine tt_bald (by decide +kernel) f5 g2 ?_
  show T G J_M_sealed 80 [(0, .ref a0), (1, .int x1), (2, .int x2), (3, .int x3), (4, .int x4), (5, .int x5), (6, .int x6)] [.int (tI S b2 0)] S _
  refine tt_if_ne (off := 32) 112 (by decide +kernel) (by decide) (fun c => ?_) (fun c => ?_)
  · have h := h.1 c
    exact tt_mono h (fun r S' q => ⟨hm.tr q.1, q.2⟩)
  · have h := h.2 c
    refine tt_iload_n (k0 := 1) (by decide +kernel) rfl ?_
    refine tt_iconst (n := 1) (v := 1) (by decide +kernel) (by decide) ?_
    refine tt_icmp_ne (off := 15) 100 (by decide +kernel) (by decide) (fun c => ?_) (fun c => ?_)
    · have h := h.1 c
      exact tt_mono h (fun r S' q => ⟨hm.tr q.1, q.2⟩)
    · have h := h.2 c
      refine tt_aload_n (k0 := 0) (by decide +kernel) rfl ?_
      refine tt_iload (k0 := 6) (by decide +kernel) rfl ?_
      refine tt_callV (As := [.int x6]) (rest := []) (ci := 11) (r0 := (R_11, F_11, 55)) (by decide +kernel) LK_M_isRequest w_1225 w_1227 (in_p (n := 55) 57 rfl) (by decide) (by decide) rfl rfl (Nat.le_of_ble_eq_true rfl) rfl rfl f1 (ct_mono h (fun r Sb h => ?_))
      obtain ⟨eb, h⟩ := h
      obtain ⟨r6, rfl, h⟩ := h
      rw [eb]
      show T G J_M_sealed 94 [(0, .ref a0), (1, .int x1), (2, .int x2), (3, .int x3), (4, .int x4), (5, .int x5), (6, .int x6)] [.int r6] S _
      refine tt_if_eq (off := 15) 109 (by decide +kernel) (by decide) (fun c => ?_) (fun c => ?_)
      · have h := h.1 c
        exact tt_mono h (fun r S' q => ⟨hm.tr q.1, q.2⟩)
      · have h := h.2 c
        refine tt_goto (off := 15) (tgt := 112) (by decide +kernel) (by decide) ?_
        exact tt_mono h (fun r S' q => ⟨hm.tr q.1, q.2⟩)
set_option maxRecDepth 100000 in
theorem v_M_sealed_112 {G : pG} (a0 : Nat) (x1 : Int32) (x2 : Int32) (x3 : Int32) (x4 : Int32) (x5 : Int32) (x6 : Int32) (S : TS) (Q : Option Value → TS → Prop)
    (h : te S a0 = some (.inr 11) ∧ ∃ b2 : Nat, tR S a0 45 = some b2 ∧ ∃ n4 : Nat, te S b2 = some (.inl (.byte, n4)) ∧ vp_in 0 n4 ∧ ((¬ tI S b2 0 = 0 → T0 G J_M_sealed 137 [(0, .ref a0), (1, .int x1), (2, .int x2), (3, .int x3), (4, .int x4), (5, .int x5), (6, .int x6)] [] S Q) ∧ (tI S b2 0 = 0 → ((¬ x1 = 1 → T0 G J_M_sealed 137 [(0, .ref a0), (1, .int x1), (2, .int x2), (3, .int x3), (4, .int x4), (5, .int x5), (6, .int x6)] [] S Q) ∧ (x1 = 1 → CP G J_M_full [.ref a0, .int 1] S (fun r => ∃ r6 : Int32, r = some (.int r6) ∧ ((r6 = 0 → T0 G J_M_sealed 137 [(0, .ref a0), (1, .int x1), (2, .int x2), (3, .int x3), (4, .int x4), (5, .int x5), (6, .int x6)] [] S Q) ∧ (¬ (r6 = 0) → Q (some (.int ((-3)))) S)))))))) :
    T0 G J_M_sealed 112 [(0, .ref a0), (1, .int x1), (2, .int x2), (3, .int x3), (4, .int x4), (5, .int x5), (6, .int x6)] [] S Q := by
  unfold T0
  have hm : Sm0 S S := Sm0.rf S
  refine tt_aload_n (k0 := 0) (by decide +kernel) rfl ?_
  obtain ⟨f1, h⟩ := h
  obtain ⟨b2, f3, h⟩ := h
  refine tt_getR (k := 45) (by decide +kernel) KC_11 (by decide) w_910 (fun _ => rfl) f1 f3 ?_
  refine tt_iconst (n := 0) (v := 0) (by decide +kernel) (by decide) ?_
  obtain ⟨n4, f5, h⟩ := h
  obtain ⟨g2, h⟩ := h
  refine tt_bald (by decide +kernel) f5 g2 ?_
  show T G J_M_sealed 118 [(0, .ref a0), (1, .int x1), (2, .int x2), (3, .int x3), (4, .int x4), (5, .int x5), (6, .int x6)] [.int (tI S b2 0)] S _
  refine tt_if_ne (off := 19) 137 (by decide +kernel) (by decide) (fun c => ?_) (fun c => ?_)
  · have h := h.1 c
    exact tt_mono h (fun r S' q => ⟨hm.tr q.1, q.2⟩)
  · have h := h.2 c
    refine tt_iload_n (k0 := 1) (by decide +kernel) rfl ?_
    refine tt_iconst (n := 1) (v := 1) (by decide +kernel) (by decide) ?_
    refine tt_icmp_ne (off := 14) 137 (by decide +kernel) (by decide) (fun c => ?_) (fun c => ?_)
    · have h := h.1 c
      exact tt_mono h (fun r S' q => ⟨hm.tr q.1, q.2⟩)
    · have h := h.2 c
      refine tt_aload_n (k0 := 0) (by decide +kernel) rfl ?_
      refine tt_iconst (n := 1) (v := 1) (by decide +kernel) (by decide) ?_
      refine tt_callV (As := [.int 1]) (rest := []) (ci := 11) (r0 := (R_11, F_11, 55)) (by decide +kernel) LK_M_full w_1088 w_1090 (in_p (n := 55) 33 rfl) (by decide) (by decide) rfl rfl (Nat.le_of_ble_eq_true rfl) rfl rfl f1 (ct_mono h (fun r Sb h => ?_))
      obtain ⟨eb, h⟩ := h
      obtain ⟨r6, rfl, h⟩ := h
      rw [eb]
      show T G J_M_sealed 131 [(0, .ref a0), (1, .int x1), (2, .int x2), (3, .int x3), (4, .int x4), (5, .int x5), (6, .int x6)] [.int r6] S _
      refine tt_if_eq (off := 6) 137 (by decide +kernel) (by decide) (fun c => ?_) (fun c => ?_)
      · have h := h.1 c
        exact tt_mono h (fun r S' q => ⟨hm.tr q.1, q.2⟩)
      · have h := h.2 c
        refine tt_bipush (n := -3) (v := -3) (by decide +kernel) (by decide) ?_
        exact tt_iret (by decide +kernel) rfl ⟨hm, h⟩
set_option maxRecDepth 100000 in
theorem v_M_sealed_100 {G : pG} (a0 : Nat) (x1 : Int32) (x2 : Int32) (x3 : Int32) (x4 : Int32) (x5 : Int32) (x6 : Int32) (S : TS) (Q : Option Value → TS → Prop)
    (h : te S a0 = some (.inr 11) ∧ CP G J_M_isAnswer [.ref a0, .int x6] S (fun r => ∃ r2 : Int32, r = some (.int r2) ∧ ((¬ r2 = 0 → T0 G J_M_sealed 112 [(0, .ref a0), (1, .int x1), (2, .int x2), (3, .int x3), (4, .int x4), (5, .int x5), (6, .int x6)] [] S Q) ∧ (r2 = 0 → T0 G J_M_sealed 109 [(0, .ref a0), (1, .int x1), (2, .int x2), (3, .int x3), (4, .int x4), (5, .int x5), (6, .int x6)] [] S Q)))) :
    T0 G J_M_sealed 100 [(0, .ref a0), (1, .int x1), (2, .int x2), (3, .int x3), (4, .int x4), (5, .int x5), (6, .int x6)] [] S Q := by
  unfold T0
  have hm : Sm0 S S := Sm0.rf S
  refine tt_aload_n (k0 := 0) (by decide +kernel) rfl ?_
  refine tt_iload (k0 := 6) (by decide +kernel) rfl ?_
  obtain ⟨f1, h⟩ := h
  refine tt_callV (As := [.int x6]) (rest := []) (ci := 11) (r0 := (R_11, F_11, 55)) (by decide +kernel) LK_M_isAnswer w_1229 w_1231 (in_p (n := 55) 58 rfl) (by decide) (by decide) rfl rfl (Nat.le_of_ble_eq_true rfl) rfl rfl f1 (ct_mono h (fun r Sb h => ?_))
  obtain ⟨eb, h⟩ := h
  obtain ⟨r2, rfl, h⟩ := h
  rw [eb]
  show T G J_M_sealed 106 [(0, .ref a0), (1, .int x1), (2, .int x2), (3, .int x3), (4, .int x4), (5, .int x5), (6, .int x6)] [.int r2] S _
  refine tt_if_ne (off := 6) 112 (by decide +kernel) (by decide) (fun c => ?_) (fun c => ?_)
  · have h := h.1 c
    exact tt_mono h (fun r S' q => ⟨hm.tr q.1, q.2⟩)
  · have h := h.2 c
    exact tt_mono h (fun r S' q => ⟨hm.tr q.1, q.2⟩)
set_option maxRecDepth 100000 in
theorem v_M_sealed_109 {G : pG} (a0 : Nat) (x1 : Int32) (x2 : Int32) (x3 : Int32) (x4 : Int32) (x5 : Int32) (x6 : Int32) (S : TS) (Q : Option Value → TS → Prop)
    (h : Q (some (.int ((-4)))) S) :
    T0 G J_M_sealed 109 [(0, .ref a0), (1, .int x1), (2, .int x2), (3, .int x3), (4, .int x4), (5, .int x5), (6, .int x6)] [] S Q := by
  unfold T0
  have hm : Sm0 S S := Sm0.rf S
  refine tt_bipush (n := -4) (v := -4) (by decide +kernel) (by decide) ?_
  exact tt_iret (by decide +kernel) rfl ⟨hm, h⟩
set_option maxRecDepth 100000 in
theorem v_M_sealed_137 {G : pG} (a0 : Nat) (x1 : Int32) (x2 : Int32) (x3 : Int32) (x4 : Int32) (x5 : Int32) (x6 : Int32) (S : TS) (Q : Option Value → TS → Prop)
    (h : te S a0 = some (.inr 11) ∧ ∃ b2 : Nat, tR S a0 20 = some b2 ∧ ∃ n4 : Nat, te S b2 = some (.inl (.int, n4)) ∧ vp_in x5 n4 ∧ vp_in x5 n4 ∧ ∀ S6 : TS, S6 = sI S b2 (upd (tI S b2) x5.toNatClampNeg ((tI S b2 x5.toNatClampNeg) + (1 : Int32))) → ∃ b7 : Nat, tR S6 a0 45 = some b7 ∧ ∃ n9 : Nat, te S6 b7 = some (.inl (.byte, n9)) ∧ vp_in 0 n9 ∧ ((¬ tI S6 b7 0 = 1 → T0 G J_M_sealed 169 [(0, .ref a0), (1, .int x1), (2, .int x2), (3, .int x3), (4, .int x4), (5, .int x5), (6, .int x6)] [] S6 Q) ∧ (tI S6 b7 0 = 1 → C0 G J_M_next [.ref a0, .int x5, .int x4] S6 (fun r S11 => r = none ∧ T0 G J_M_sealed 260 [(0, .ref a0), (1, .int x1), (2, .int x2), (3, .int x3), (4, .int x4), (5, .int x5), (6, .int x6)] [] S11 Q)))) :
    T0 G J_M_sealed 137 [(0, .ref a0), (1, .int x1), (2, .int x2), (3, .int x3), (4, .int x4), (5, .int x5), (6, .int x6)] [] S Q := by
  unfold T0
  have hm : Sm0 S S := Sm0.rf S
  refine tt_aload_n (k0 := 0) (by decide +kernel) rfl ?_
  obtain ⟨f1, h⟩ := h
  obtain ⟨b2, f3, h⟩ := h
  refine tt_getR (k := 20) (by decide +kernel) KC_11 (by decide) w_885 (fun _ => rfl) f1 f3 ?_
  refine tt_iload (k0 := 5) (by decide +kernel) rfl ?_
  refine tt_dup2_11 (by decide +kernel) rfl rfl ?_
  obtain ⟨n4, f5, h⟩ := h
  obtain ⟨g2, h⟩ := h
  refine tt_iald (by decide +kernel) f5 g2 ?_
  refine tt_iconst (n := 1) (v := 1) (by decide +kernel) (by decide) ?_
  refine tt_iadd (by decide +kernel) ?_
  obtain ⟨g2, h⟩ := h
  refine tt_iast (by decide +kernel) f5 g2 ?_
  generalize eS6 : sI S b2 (upd (tI S b2) x5.toNatClampNeg ((tI S b2 x5.toNatClampNeg) + (1 : Int32))) = S6
  have h := h S6 eS6.symm
  have hm : Sm0 S S6 := by rw [← eS6]; exact hm.I
  have f1 : te S6 a0 = some (.inr 11) := by rw [← eS6, te_sI]; exact f1
  have f3 : tR S6 a0 20 = some b2 := by rw [← eS6, tR_sI]; exact f3
  have f5 : te S6 b2 = some (.inl (.int, n4)) := by rw [← eS6, te_sI]; exact f5
  refine tt_aload_n (k0 := 0) (by decide +kernel) rfl ?_
  obtain ⟨b7, f8, h⟩ := h
  refine tt_getR (k := 45) (by decide +kernel) KC_11 (by decide) w_910 (fun _ => rfl) f1 f8 ?_
  refine tt_iconst (n := 0) (v := 0) (by decide +kernel) (by decide) ?_
  obtain ⟨n9, f10, h⟩ := h
  obtain ⟨g2, h⟩ := h
  refine tt_bald (by decide +kernel) f10 g2 ?_
  show T G J_M_sealed 154 [(0, .ref a0), (1, .int x1), (2, .int x2), (3, .int x3), (4, .int x4), (5, .int x5), (6, .int x6)] [.int (tI S6 b7 0)] S6 _
  refine tt_iconst (n := 1) (v := 1) (by decide +kernel) (by decide) ?_
  refine tt_icmp_ne (off := 14) 169 (by decide +kernel) (by decide) (fun c => ?_) (fun c => ?_)
  · have h := h.1 c
    exact tt_mono h (fun r S' q => ⟨hm.tr q.1, q.2⟩)
  · have h := h.2 c
    refine tt_aload_n (k0 := 0) (by decide +kernel) rfl ?_
    refine tt_iload (k0 := 5) (by decide +kernel) rfl ?_
    refine tt_iload (k0 := 4) (by decide +kernel) rfl ?_
    refine tt_callV (As := [.int x5, .int x4]) (rest := []) (ci := 11) (r0 := (R_11, F_11, 55)) (by decide +kernel) LK_M_next w_1178 w_1180 (in_p (n := 55) 48 rfl) (by decide) (by decide) rfl rfl (Nat.le_of_ble_eq_true rfl) rfl rfl f1 (ct_mono h (fun r S11 h => ?_))
    obtain ⟨hm2, h⟩ := h
    obtain ⟨rfl, h⟩ := h
    show T G J_M_sealed 166 [(0, .ref a0), (1, .int x1), (2, .int x2), (3, .int x3), (4, .int x4), (5, .int x5), (6, .int x6)] [] S11 _
    have hm := hm.tr hm2
    have f1 : te S11 a0 = some (.inr 11) := by rw [hm2.1]; exact f1
    have f3 : tR S11 a0 20 = some b2 := by rw [hm2.R]; exact f3
    have f5 : te S11 b2 = some (.inl (.int, n4)) := by rw [hm2.1]; exact f5
    have f8 : tR S11 a0 45 = some b7 := by rw [hm2.R]; exact f8
    have f10 : te S11 b7 = some (.inl (.byte, n9)) := by rw [hm2.1]; exact f10
    refine tt_goto (off := 94) (tgt := 260) (by decide +kernel) (by decide) ?_
    exact tt_mono h (fun r S' q => ⟨hm.tr q.1, q.2⟩)
set_option maxRecDepth 100000 in
theorem v_M_sealed_169 {G : pG} (a0 : Nat) (x1 : Int32) (x2 : Int32) (x3 : Int32) (x4 : Int32) (x5 : Int32) (x6 : Int32) (S : TS) (Q : Option Value → TS → Prop)
    (h : te S a0 = some (.inr 11) ∧ ∃ b2 : Nat, tR S a0 45 = some b2 ∧ ∃ n4 : Nat, te S b2 = some (.inl (.byte, n4)) ∧ vp_in 0 n4 ∧ ((¬ tI S b2 0 = 2 → T0 G J_M_sealed 189 [(0, .ref a0), (1, .int x1), (2, .int x2), (3, .int x3), (4, .int x4), (5, .int x5), (6, .int x6)] [] S Q) ∧ (tI S b2 0 = 2 → ∃ b6 : Nat, tR S a0 15 = some b6 ∧ ∃ n8 : Nat, te S b6 = some (.inl (.int, n8)) ∧ vp_in x1 n8 ∧ ∀ S10 : TS, S10 = sI S b6 (upd (tI S b6) x1.toNatClampNeg 3) → T0 G J_M_sealed 260 [(0, .ref a0), (1, .int x1), (2, .int x2), (3, .int x3), (4, .int x4), (5, .int x5), (6, .int x6)] [] S10 Q))) :
    T0 G J_M_sealed 169 [(0, .ref a0), (1, .int x1), (2, .int x2), (3, .int x3), (4, .int x4), (5, .int x5), (6, .int x6)] [] S Q := by
  unfold T0
  have hm : Sm0 S S := Sm0.rf S
  refine tt_aload_n (k0 := 0) (by decide +kernel) rfl ?_
  obtain ⟨f1, h⟩ := h
  obtain ⟨b2, f3, h⟩ := h
  refine tt_getR (k := 45) (by decide +kernel) KC_11 (by decide) w_910 (fun _ => rfl) f1 f3 ?_
  refine tt_iconst (n := 0) (v := 0) (by decide +kernel) (by decide) ?_
  obtain ⟨n4, f5, h⟩ := h
  obtain ⟨g2, h⟩ := h
  refine tt_bald (by decide +kernel) f5 g2 ?_
  show T G J_M_sealed 175 [(0, .ref a0), (1, .int x1), (2, .int x2), (3, .int x3), (4, .int x4), (5, .int x5), (6, .int x6)] [.int (tI S b2 0)] S _
  refine tt_iconst (n := 2) (v := 2) (by decide +kernel) (by decide) ?_
  refine tt_icmp_ne (off := 13) 189 (by decide +kernel) (by decide) (fun c => ?_) (fun c => ?_)
  · have h := h.1 c
    exact tt_mono h (fun r S' q => ⟨hm.tr q.1, q.2⟩)
  · have h := h.2 c
    refine tt_aload_n (k0 := 0) (by decide +kernel) rfl ?_
    obtain ⟨b6, f7, h⟩ := h
    refine tt_getR (k := 15) (by decide +kernel) KC_11 (by decide) w_880 (fun _ => rfl) f1 f7 ?_
    refine tt_iload_n (k0 := 1) (by decide +kernel) rfl ?_
    refine tt_iconst (n := 3) (v := 3) (by decide +kernel) (by decide) ?_
    obtain ⟨n8, f9, h⟩ := h
    obtain ⟨g2, h⟩ := h
    refine tt_iast (by decide +kernel) f9 g2 ?_
    generalize eS10 : sI S b6 (upd (tI S b6) x1.toNatClampNeg 3) = S10
    have h := h S10 eS10.symm
    have hm : Sm0 S S10 := by rw [← eS10]; exact hm.I
    have f1 : te S10 a0 = some (.inr 11) := by rw [← eS10, te_sI]; exact f1
    have f3 : tR S10 a0 45 = some b2 := by rw [← eS10, tR_sI]; exact f3
    have f5 : te S10 b2 = some (.inl (.byte, n4)) := by rw [← eS10, te_sI]; exact f5
    have f7 : tR S10 a0 15 = some b6 := by rw [← eS10, tR_sI]; exact f7
    have f9 : te S10 b6 = some (.inl (.int, n8)) := by rw [← eS10, te_sI]; exact f9
    refine tt_goto (off := 74) (tgt := 260) (by decide +kernel) (by decide) ?_
    exact tt_mono h (fun r S' q => ⟨hm.tr q.1, q.2⟩)
set_option maxRecDepth 100000 in
theorem v_M_sealed_260 {G : pG} (a0 : Nat) (x1 : Int32) (x2 : Int32) (x3 : Int32) (x4 : Int32) (x5 : Int32) (x6 : Int32) (S : TS) (Q : Option Value → TS → Prop)
    (h : Q (some (.int 0)) S) :
    T0 G J_M_sealed 260 [(0, .ref a0), (1, .int x1), (2, .int x2), (3, .int x3), (4, .int x4), (5, .int x5), (6, .int x6)] [] S Q := by
  unfold T0
  have hm : Sm0 S S := Sm0.rf S
  refine tt_iconst (n := 0) (v := 0) (by decide +kernel) (by decide) ?_
  exact tt_iret (by decide +kernel) rfl ⟨hm, h⟩
set_option maxRecDepth 100000 in
theorem v_M_sealed_189 {G : pG} (a0 : Nat) (x1 : Int32) (x2 : Int32) (x3 : Int32) (x4 : Int32) (x5 : Int32) (x6 : Int32) (S : TS) (Q : Option Value → TS → Prop)
    (h : ((¬ x1 = 1 → T0 G J_M_sealed 208 [(0, .ref a0), (1, .int x1), (2, .int x2), (3, .int x3), (4, .int x4), (5, .int x5), (6, .int x6)] [] S Q) ∧ (x1 = 1 → te S a0 = some (.inr 11) ∧ C0 G J_M_work [.ref a0, .int x6] S (fun r S2 => r = none ∧ C0 G J_M_sendSealed [.ref a0, .int 1] S2 (fun r S3 => r = none ∧ T0 G J_M_sealed 260 [(0, .ref a0), (1, .int x1), (2, .int x2), (3, .int x3), (4, .int x4), (5, .int x5), (6, .int x6)] [] S3 Q))))) :
    T0 G J_M_sealed 189 [(0, .ref a0), (1, .int x1), (2, .int x2), (3, .int x3), (4, .int x4), (5, .int x5), (6, .int x6)] [] S Q := by
  unfold T0
  have hm : Sm0 S S := Sm0.rf S
  refine tt_iload_n (k0 := 1) (by decide +kernel) rfl ?_
  refine tt_iconst (n := 1) (v := 1) (by decide +kernel) (by decide) ?_
  refine tt_icmp_ne (off := 17) 208 (by decide +kernel) (by decide) (fun c => ?_) (fun c => ?_)
  · have h := h.1 c
    exact tt_mono h (fun r S' q => ⟨hm.tr q.1, q.2⟩)
  · have h := h.2 c
    refine tt_aload_n (k0 := 0) (by decide +kernel) rfl ?_
    refine tt_iload (k0 := 6) (by decide +kernel) rfl ?_
    obtain ⟨f1, h⟩ := h
    refine tt_callV (As := [.int x6]) (rest := []) (ci := 11) (r0 := (R_11, F_11, 55)) (by decide +kernel) LK_M_work w_1233 w_1235 (in_p (n := 55) 59 rfl) (by decide) (by decide) rfl rfl (Nat.le_of_ble_eq_true rfl) rfl rfl f1 (ct_mono h (fun r S2 h => ?_))
    obtain ⟨hm2, h⟩ := h
    obtain ⟨rfl, h⟩ := h
    show T G J_M_sealed 200 [(0, .ref a0), (1, .int x1), (2, .int x2), (3, .int x3), (4, .int x4), (5, .int x5), (6, .int x6)] [] S2 _
    have hm := hm.tr hm2
    have f1 : te S2 a0 = some (.inr 11) := by rw [hm2.1]; exact f1
    refine tt_aload_n (k0 := 0) (by decide +kernel) rfl ?_
    refine tt_iconst (n := 1) (v := 1) (by decide +kernel) (by decide) ?_
    refine tt_callV (As := [.int 1]) (rest := []) (ci := 11) (r0 := (R_11, F_11, 55)) (by decide +kernel) LK_M_sendSealed w_1124 w_1126 (in_p (n := 55) 39 rfl) (by decide) (by decide) rfl rfl (Nat.le_of_ble_eq_true rfl) rfl rfl f1 (ct_mono h (fun r S3 h => ?_))
    obtain ⟨hm2, h⟩ := h
    obtain ⟨rfl, h⟩ := h
    show T G J_M_sealed 205 [(0, .ref a0), (1, .int x1), (2, .int x2), (3, .int x3), (4, .int x4), (5, .int x5), (6, .int x6)] [] S3 _
    have hm := hm.tr hm2
    have f1 : te S3 a0 = some (.inr 11) := by rw [hm2.1]; exact f1
    refine tt_goto (off := 55) (tgt := 260) (by decide +kernel) (by decide) ?_
    exact tt_mono h (fun r S' q => ⟨hm.tr q.1, q.2⟩)
set_option maxRecDepth 100000 in
theorem v_M_sealed_208 {G : pG} (a0 : Nat) (x1 : Int32) (x2 : Int32) (x3 : Int32) (x4 : Int32) (x5 : Int32) (x6 : Int32) (S : TS) (Q : Option Value → TS → Prop)
    (h : te S a0 = some (.inr 11) ∧ ∀ S2 : TS, S2 = sI S a0 (upd (tI S a0) 33 (x6 - (1 : Int32))) → T0 G J_M_sealed 219 [(0, .ref a0), (1, .int x1), (2, .int x2), (3, .int x3), (4, .int x4), (5, .int x5), (6, .int x6), (7, .int 0)] [] S2 Q) :
    T0 G J_M_sealed 208 [(0, .ref a0), (1, .int x1), (2, .int x2), (3, .int x3), (4, .int x4), (5, .int x5), (6, .int x6)] [] S Q := by
  unfold T0
  have hm : Sm0 S S := Sm0.rf S
  refine tt_aload_n (k0 := 0) (by decide +kernel) rfl ?_
  refine tt_iload (k0 := 6) (by decide +kernel) rfl ?_
  refine tt_iconst (n := 1) (v := 1) (by decide +kernel) (by decide) ?_
  refine tt_isub (by decide +kernel) ?_
  obtain ⟨f1, h⟩ := h
  refine tt_putI (k := 33) (by decide +kernel) KC_11 (by decide) w_898 rfl rfl f1 ?_
  generalize eS2 : sI S a0 (upd (tI S a0) 33 (x6 - (1 : Int32))) = S2
  have h := h S2 eS2.symm
  have hm : Sm0 S S2 := by rw [← eS2]; exact hm.I
  have f1 : te S2 a0 = some (.inr 11) := by rw [← eS2, te_sI]; exact f1
  refine tt_iconst (n := 0) (v := 0) (by decide +kernel) (by decide) ?_
  refine tt_istore (k0 := 7) (lv' := [(0, .ref a0), (1, .int x1), (2, .int x2), (3, .int x3), (4, .int x4), (5, .int x5), (6, .int x6), (7, .int 0)]) (by decide +kernel) (by decide) rfl ?_
  exact tt_mono h (fun r S' q => ⟨hm.tr q.1, q.2⟩)
set_option maxRecDepth 100000 in
theorem v_M_sealed_219 {G : pG} (a0 : Nat) (x1 : Int32) (x2 : Int32) (x3 : Int32) (x4 : Int32) (x5 : Int32) (x6 : Int32) (x7 : Int32) (S : TS) (Q : Option Value → TS → Prop)
    (h : te S a0 = some (.inr 11) ∧ ((tI S a0 33 ≤ x7 → T0 G J_M_sealed 250 [(0, .ref a0), (1, .int x1), (2, .int x2), (3, .int x3), (4, .int x4), (5, .int x5), (6, .int x6), (7, .int x7)] [] S Q) ∧ (¬ (tI S a0 33 ≤ x7) → ∃ b2 : Nat, tR S a0 32 = some b2 ∧ ∃ b4 : Nat, tR S a0 45 = some b4 ∧ ∃ n6 : Nat, te S b4 = some (.inl (.byte, n6)) ∧ vp_in ((1 : Int32) + x7) n6 ∧ ∃ n8 : Nat, te S b2 = some (.inl (.byte, n8)) ∧ vp_in x7 n8 ∧ ∀ S10 : TS, S10 = sI S b2 (upd (tI S b2) x7.toNatClampNeg (tI S b4 ((1 : Int32) + x7).toNatClampNeg : Int32).toInt8.toInt32) → ∀ y11 : Int32, y11 = x7 + 1 → T0 G J_M_sealed 219 [(0, .ref a0), (1, .int x1), (2, .int x2), (3, .int x3), (4, .int x4), (5, .int x5), (6, .int x6), (7, .int y11)] [] S10 Q))) :
    T0 G J_M_sealed 219 [(0, .ref a0), (1, .int x1), (2, .int x2), (3, .int x3), (4, .int x4), (5, .int x5), (6, .int x6), (7, .int x7)] [] S Q := by
  unfold T0
  have hm : Sm0 S S := Sm0.rf S
  refine tt_iload (k0 := 7) (by decide +kernel) rfl ?_
  refine tt_aload_n (k0 := 0) (by decide +kernel) rfl ?_
  obtain ⟨f1, h⟩ := h
  refine tt_getI (k := 33) (by decide +kernel) KC_11 (by decide) w_898 (fun _ => rfl) f1 ?_
  refine tt_icmp_ge (off := 25) 250 (by decide +kernel) (by decide) (fun c => ?_) (fun c => ?_)
  · have h := h.1 c
    exact tt_mono h (fun r S' q => ⟨hm.tr q.1, q.2⟩)
  · have h := h.2 c
    refine tt_aload_n (k0 := 0) (by decide +kernel) rfl ?_
    obtain ⟨b2, f3, h⟩ := h
    refine tt_getR (k := 32) (by decide +kernel) KC_11 (by decide) w_897 (fun _ => rfl) f1 f3 ?_
    refine tt_iload (k0 := 7) (by decide +kernel) rfl ?_
    refine tt_aload_n (k0 := 0) (by decide +kernel) rfl ?_
    obtain ⟨b4, f5, h⟩ := h
    refine tt_getR (k := 45) (by decide +kernel) KC_11 (by decide) w_910 (fun _ => rfl) f1 f5 ?_
    refine tt_iconst (n := 1) (v := 1) (by decide +kernel) (by decide) ?_
    refine tt_iload (k0 := 7) (by decide +kernel) rfl ?_
    refine tt_iadd (by decide +kernel) ?_
    obtain ⟨n6, f7, h⟩ := h
    obtain ⟨g2, h⟩ := h
    refine tt_bald (by decide +kernel) f7 g2 ?_
    obtain ⟨n8, f9, h⟩ := h
    obtain ⟨g2, h⟩ := h
    refine tt_bast (by decide +kernel) f9 g2 ?_
    generalize eS10 : sI S b2 (upd (tI S b2) x7.toNatClampNeg (tI S b4 ((1 : Int32) + x7).toNatClampNeg : Int32).toInt8.toInt32) = S10
    have h := h S10 eS10.symm
    have hm : Sm0 S S10 := by rw [← eS10]; exact hm.I
    have f1 : te S10 a0 = some (.inr 11) := by rw [← eS10, te_sI]; exact f1
    have f3 : tR S10 a0 32 = some b2 := by rw [← eS10, tR_sI]; exact f3
    have f5 : tR S10 a0 45 = some b4 := by rw [← eS10, tR_sI]; exact f5
    have f7 : te S10 b4 = some (.inl (.byte, n6)) := by rw [← eS10, te_sI]; exact f7
    have f9 : te S10 b2 = some (.inl (.byte, n8)) := by rw [← eS10, te_sI]; exact f9
    obtain ⟨y11, ey11⟩ : ∃ y : Int32, y = x7 + 1 := ⟨_, rfl⟩
    have h := h y11 ey11
    refine tt_iinc (i := 7) (n := 1) (v := y11) (lv' := [(0, .ref a0), (1, .int x1), (2, .int x2), (3, .int x3), (4, .int x4), (5, .int x5), (6, .int x6), (7, .int y11)]) (by decide +kernel) (by decide) rfl ey11.symm rfl ?_
    refine tt_goto (off := -28) (tgt := 219) (by decide +kernel) (by decide) ?_
    exact tt_mono h (fun r S' q => ⟨hm.tr q.1, q.2⟩)
set_option maxRecDepth 100000 in
theorem v_M_sealed_250 {G : pG} (a0 : Nat) (x1 : Int32) (x2 : Int32) (x3 : Int32) (x4 : Int32) (x5 : Int32) (x6 : Int32) (x7 : Int32) (S : TS) (Q : Option Value → TS → Prop)
    (h : te S a0 = some (.inr 11) ∧ ∀ S2 : TS, S2 = sI S a0 (upd (tI S a0) 35 ((tI S a0 35) + (1 : Int32))) → T0 G J_M_sealed 260 [(0, .ref a0), (1, .int x1), (2, .int x2), (3, .int x3), (4, .int x4), (5, .int x5), (6, .int x6)] [] S2 Q) :
    T0 G J_M_sealed 250 [(0, .ref a0), (1, .int x1), (2, .int x2), (3, .int x3), (4, .int x4), (5, .int x5), (6, .int x6), (7, .int x7)] [] S Q := by
  unfold T0
  have hm : Sm0 S S := Sm0.rf S
  refine tt_aload_n (k0 := 0) (by decide +kernel) rfl ?_
  refine tt_dup (by decide +kernel) rfl ?_
  obtain ⟨f1, h⟩ := h
  refine tt_getI (k := 35) (by decide +kernel) KC_11 (by decide) w_900 (fun _ => rfl) f1 ?_
  refine tt_iconst (n := 1) (v := 1) (by decide +kernel) (by decide) ?_
  refine tt_iadd (by decide +kernel) ?_
  refine tt_putI (k := 35) (by decide +kernel) KC_11 (by decide) w_900 rfl rfl f1 ?_
  generalize eS2 : sI S a0 (upd (tI S a0) 35 ((tI S a0 35) + (1 : Int32))) = S2
  have h := h S2 eS2.symm
  have hm : Sm0 S S2 := by rw [← eS2]; exact hm.I
  have f1 : te S2 a0 = some (.inr 11) := by rw [← eS2, te_sI]; exact f1
  refine tt_lv [(0, .ref a0), (1, .int x1), (2, .int x2), (3, .int x3), (4, .int x4), (5, .int x5), (6, .int x6)] (by simp) ?_
  exact tt_mono h (fun r S' q => ⟨hm.tr q.1, q.2⟩)
set_option maxRecDepth 100000 in
theorem v_M_opened {G : pG} (a0 : Nat) (x1 : Int32) (x2 : Int32) (x3 : Int32) (S : TS) (Q : Option Value → TS → Prop)
    (h : ((17 ≤ x2 → ∀ y1 : Int32, y1 = x2 - (16 : Int32) → te S a0 = some (.inr 11) ∧ ∃ b3 : Nat, tR S a0 22 = some b3 ∧ C0 G J_M_tagRecord [.ref a0, .ref b3, .int x1, .int y1, .int x3] S (fun r S5 => r = none ∧ T0 G J_M_opened 29 [(0, .ref a0), (1, .int x1), (2, .int x2), (3, .int x3), (4, .int y1), (5, .int 0)] [] S5 Q)) ∧ (¬ (17 ≤ x2) → Q (some (.int ((-1)))) S))) :
    C0 G J_M_opened [.ref a0, .int x1, .int x2, .int x3] S Q := by
  unfold C0
  refine ct_of (by decide +kernel) (Nat.le_of_ble_eq_true rfl) (lv := [(0, .ref a0), (1, .int x1), (2, .int x2), (3, .int x3)]) rfl ?_
  have hm : Sm0 S S := Sm0.rf S
  refine tt_iload_n (k0 := 2) (by decide +kernel) rfl ?_
  refine tt_bipush (n := 17) (v := 17) (by decide +kernel) (by decide) ?_
  refine tt_icmp_ge (off := 5) 8 (by decide +kernel) (by decide) (fun c => ?_) (fun c => ?_)
  · have h := h.1 c
    refine tt_iload_n (k0 := 2) (by decide +kernel) rfl ?_
    refine tt_bipush (n := 16) (v := 16) (by decide +kernel) (by decide) ?_
    refine tt_isub (by decide +kernel) ?_
    refine tt_topi (fun y1 ey1 => ?_)
    have h := h y1 ey1
    refine tt_istore (k0 := 4) (lv' := [(0, .ref a0), (1, .int x1), (2, .int x2), (3, .int x3), (4, .int y1)]) (by decide +kernel) (by decide) rfl ?_
    refine tt_aload_n (k0 := 0) (by decide +kernel) rfl ?_
    refine tt_aload_n (k0 := 0) (by decide +kernel) rfl ?_
    obtain ⟨f2, h⟩ := h
    obtain ⟨b3, f4, h⟩ := h
    refine tt_getR (k := 22) (by decide +kernel) KC_11 (by decide) w_887 (fun _ => rfl) f2 f4 ?_
    refine tt_iload_n (k0 := 1) (by decide +kernel) rfl ?_
    refine tt_iload (k0 := 4) (by decide +kernel) rfl ?_
    refine tt_iload_n (k0 := 3) (by decide +kernel) rfl ?_
    refine tt_callV (As := [.ref b3, .int x1, .int y1, .int x3]) (rest := []) (ci := 11) (r0 := (R_11, F_11, 55)) (by decide +kernel) LK_M_tagRecord w_1154 w_1156 (in_p (n := 55) 43 rfl) (by decide) (by decide) rfl rfl (Nat.le_of_ble_eq_true rfl) rfl rfl f2 (ct_mono h (fun r S5 h => ?_))
    obtain ⟨hm2, h⟩ := h
    obtain ⟨rfl, h⟩ := h
    show T G J_M_opened 26 [(0, .ref a0), (1, .int x1), (2, .int x2), (3, .int x3), (4, .int y1)] [] S5 _
    have hm := hm.tr hm2
    have f2 : te S5 a0 = some (.inr 11) := by rw [hm2.1]; exact f2
    have f4 : tR S5 a0 22 = some b3 := by rw [hm2.R]; exact f4
    refine tt_iconst (n := 0) (v := 0) (by decide +kernel) (by decide) ?_
    refine tt_istore (k0 := 5) (lv' := [(0, .ref a0), (1, .int x1), (2, .int x2), (3, .int x3), (4, .int y1), (5, .int 0)]) (by decide +kernel) (by decide) rfl ?_
    exact tt_mono h (fun r S' q => ⟨hm.tr q.1, q.2⟩)
  · have h := h.2 c
    refine tt_iconst (n := -1) (v := -1) (by decide +kernel) (by decide) ?_
    exact tt_iret (by decide +kernel) rfl ⟨hm, h⟩
set_option maxRecDepth 100000 in
theorem v_M_opened_29 {G : pG} (a0 : Nat) (x1 : Int32) (x2 : Int32) (x3 : Int32) (x4 : Int32) (x5 : Int32) (S : TS) (Q : Option Value → TS → Prop)
    (h : ((16 ≤ x5 → T0 G J_M_opened 71 [(0, .ref a0), (1, .int x1), (2, .int x2), (3, .int x3), (4, .int x4), (5, .int 0)] [] S Q) ∧ (¬ (16 ≤ x5) → te S a0 = some (.inr 11) ∧ ∃ b2 : Nat, tR S a0 22 = some b2 ∧ ∃ n4 : Nat, te S b2 = some (.inl (.byte, n4)) ∧ vp_in (((x1 + (3 : Int32)) + x4) + x5) n4 ∧ ∃ b6 : Nat, tR S a0 43 = some b6 ∧ ∃ n8 : Nat, te S b6 = some (.inl (.byte, n8)) ∧ vp_in x5 n8 ∧ ((tI S b2 (((x1 + (3 : Int32)) + x4) + x5).toNatClampNeg = tI S b6 x5.toNatClampNeg → ∀ y10 : Int32, y10 = x5 + 1 → T0 G J_M_opened 29 [(0, .ref a0), (1, .int x1), (2, .int x2), (3, .int x3), (4, .int x4), (5, .int y10)] [] S Q) ∧ (¬ (tI S b2 (((x1 + (3 : Int32)) + x4) + x5).toNatClampNeg = tI S b6 x5.toNatClampNeg) → Q (some (.int ((-1)))) S))))) :
    T0 G J_M_opened 29 [(0, .ref a0), (1, .int x1), (2, .int x2), (3, .int x3), (4, .int x4), (5, .int x5)] [] S Q := by
  unfold T0
  have hm : Sm0 S S := Sm0.rf S
  refine tt_iload (k0 := 5) (by decide +kernel) rfl ?_
  refine tt_bipush (n := 16) (v := 16) (by decide +kernel) (by decide) ?_
  refine tt_icmp_ge (off := 35) 68 (by decide +kernel) (by decide) (fun c => ?_) (fun c => ?_)
  · have h := h.1 c
    refine tt_iconst (n := 0) (v := 0) (by decide +kernel) (by decide) ?_
    refine tt_istore (k0 := 5) (lv' := [(0, .ref a0), (1, .int x1), (2, .int x2), (3, .int x3), (4, .int x4), (5, .int 0)]) (by decide +kernel) (by decide) rfl ?_
    exact tt_mono h (fun r S' q => ⟨hm.tr q.1, q.2⟩)
  · have h := h.2 c
    refine tt_aload_n (k0 := 0) (by decide +kernel) rfl ?_
    obtain ⟨f1, h⟩ := h
    obtain ⟨b2, f3, h⟩ := h
    refine tt_getR (k := 22) (by decide +kernel) KC_11 (by decide) w_887 (fun _ => rfl) f1 f3 ?_
    refine tt_iload_n (k0 := 1) (by decide +kernel) rfl ?_
    refine tt_iconst (n := 3) (v := 3) (by decide +kernel) (by decide) ?_
    refine tt_iadd (by decide +kernel) ?_
    refine tt_iload (k0 := 4) (by decide +kernel) rfl ?_
    refine tt_iadd (by decide +kernel) ?_
    refine tt_iload (k0 := 5) (by decide +kernel) rfl ?_
    refine tt_iadd (by decide +kernel) ?_
    obtain ⟨n4, f5, h⟩ := h
    obtain ⟨g2, h⟩ := h
    refine tt_bald (by decide +kernel) f5 g2 ?_
    refine tt_aload_n (k0 := 0) (by decide +kernel) rfl ?_
    obtain ⟨b6, f7, h⟩ := h
    refine tt_getR (k := 43) (by decide +kernel) KC_11 (by decide) w_908 (fun _ => rfl) f1 f7 ?_
    refine tt_iload (k0 := 5) (by decide +kernel) rfl ?_
    obtain ⟨n8, f9, h⟩ := h
    obtain ⟨g2, h⟩ := h
    refine tt_bald (by decide +kernel) f9 g2 ?_
    refine tt_icmp_eq (off := 5) 62 (by decide +kernel) (by decide) (fun c => ?_) (fun c => ?_)
    · have h := h.1 c
      obtain ⟨y10, ey10⟩ : ∃ y : Int32, y = x5 + 1 := ⟨_, rfl⟩
      have h := h y10 ey10
      refine tt_iinc (i := 5) (n := 1) (v := y10) (lv' := [(0, .ref a0), (1, .int x1), (2, .int x2), (3, .int x3), (4, .int x4), (5, .int y10)]) (by decide +kernel) (by decide) rfl ey10.symm rfl ?_
      refine tt_goto (off := -36) (tgt := 29) (by decide +kernel) (by decide) ?_
      exact tt_mono h (fun r S' q => ⟨hm.tr q.1, q.2⟩)
    · have h := h.2 c
      refine tt_iconst (n := -1) (v := -1) (by decide +kernel) (by decide) ?_
      exact tt_iret (by decide +kernel) rfl ⟨hm, h⟩
set_option maxRecDepth 100000 in
theorem v_M_opened_71 {G : pG} (a0 : Nat) (x1 : Int32) (x2 : Int32) (x3 : Int32) (x4 : Int32) (x5 : Int32) (S : TS) (Q : Option Value → TS → Prop)
    (h : ((x4 ≤ x5 → te S a0 = some (.inr 11) ∧ ∃ b2 : Nat, tR S a0 45 = some b2 ∧ C0 G J_M_cover [.ref a0, .ref b2, .int 0, .int x4, .int x3] S (fun r S4 => r = none ∧ Q (some (.int x4)) S4)) ∧ (¬ (x4 ≤ x5) → te S a0 = some (.inr 11) ∧ ∃ b6 : Nat, tR S a0 45 = some b6 ∧ ∃ b8 : Nat, tR S a0 22 = some b8 ∧ ∃ n10 : Nat, te S b8 = some (.inl (.byte, n10)) ∧ vp_in ((x1 + (3 : Int32)) + x5) n10 ∧ ∃ n12 : Nat, te S b6 = some (.inl (.byte, n12)) ∧ vp_in x5 n12 ∧ ∀ S14 : TS, S14 = sI S b6 (upd (tI S b6) x5.toNatClampNeg (tI S b8 ((x1 + (3 : Int32)) + x5).toNatClampNeg : Int32).toInt8.toInt32) → ∀ y15 : Int32, y15 = x5 + 1 → T0 G J_M_opened 71 [(0, .ref a0), (1, .int x1), (2, .int x2), (3, .int x3), (4, .int x4), (5, .int y15)] [] S14 Q))) :
    T0 G J_M_opened 71 [(0, .ref a0), (1, .int x1), (2, .int x2), (3, .int x3), (4, .int x4), (5, .int x5)] [] S Q := by
  unfold T0
  have hm : Sm0 S S := Sm0.rf S
  refine tt_iload (k0 := 5) (by decide +kernel) rfl ?_
  refine tt_iload (k0 := 4) (by decide +kernel) rfl ?_
  refine tt_icmp_ge (off := 27) 102 (by decide +kernel) (by decide) (fun c => ?_) (fun c => ?_)
  · have h := h.1 c
    refine tt_aload_n (k0 := 0) (by decide +kernel) rfl ?_
    refine tt_aload_n (k0 := 0) (by decide +kernel) rfl ?_
    obtain ⟨f1, h⟩ := h
    obtain ⟨b2, f3, h⟩ := h
    refine tt_getR (k := 45) (by decide +kernel) KC_11 (by decide) w_910 (fun _ => rfl) f1 f3 ?_
    refine tt_iconst (n := 0) (v := 0) (by decide +kernel) (by decide) ?_
    refine tt_iload (k0 := 4) (by decide +kernel) rfl ?_
    refine tt_iload_n (k0 := 3) (by decide +kernel) rfl ?_
    refine tt_callV (As := [.ref b2, .int 0, .int x4, .int x3]) (rest := []) (ci := 11) (r0 := (R_11, F_11, 55)) (by decide +kernel) LK_M_cover w_1128 w_1130 (in_p (n := 55) 40 rfl) (by decide) (by decide) rfl rfl (Nat.le_of_ble_eq_true rfl) rfl rfl f1 (ct_mono h (fun r S4 h => ?_))
    obtain ⟨hm2, h⟩ := h
    obtain ⟨rfl, h⟩ := h
    show T G J_M_opened 114 [(0, .ref a0), (1, .int x1), (2, .int x2), (3, .int x3), (4, .int x4), (5, .int x5)] [] S4 _
    have hm := hm.tr hm2
    have f1 : te S4 a0 = some (.inr 11) := by rw [hm2.1]; exact f1
    have f3 : tR S4 a0 45 = some b2 := by rw [hm2.R]; exact f3
    refine tt_iload (k0 := 4) (by decide +kernel) rfl ?_
    exact tt_iret (by decide +kernel) rfl ⟨hm, h⟩
  · have h := h.2 c
    refine tt_aload_n (k0 := 0) (by decide +kernel) rfl ?_
    obtain ⟨f5, h⟩ := h
    obtain ⟨b6, f7, h⟩ := h
    refine tt_getR (k := 45) (by decide +kernel) KC_11 (by decide) w_910 (fun _ => rfl) f5 f7 ?_
    refine tt_iload (k0 := 5) (by decide +kernel) rfl ?_
    refine tt_aload_n (k0 := 0) (by decide +kernel) rfl ?_
    obtain ⟨b8, f9, h⟩ := h
    refine tt_getR (k := 22) (by decide +kernel) KC_11 (by decide) w_887 (fun _ => rfl) f5 f9 ?_
    refine tt_iload_n (k0 := 1) (by decide +kernel) rfl ?_
    refine tt_iconst (n := 3) (v := 3) (by decide +kernel) (by decide) ?_
    refine tt_iadd (by decide +kernel) ?_
    refine tt_iload (k0 := 5) (by decide +kernel) rfl ?_
    refine tt_iadd (by decide +kernel) ?_
    obtain ⟨n10, f11, h⟩ := h
    obtain ⟨g2, h⟩ := h
    refine tt_bald (by decide +kernel) f11 g2 ?_
    obtain ⟨n12, f13, h⟩ := h
    obtain ⟨g2, h⟩ := h
    refine tt_bast (by decide +kernel) f13 g2 ?_
    generalize eS14 : sI S b6 (upd (tI S b6) x5.toNatClampNeg (tI S b8 ((x1 + (3 : Int32)) + x5).toNatClampNeg : Int32).toInt8.toInt32) = S14
    have h := h S14 eS14.symm
    have hm : Sm0 S S14 := by rw [← eS14]; exact hm.I
    have f5 : te S14 a0 = some (.inr 11) := by rw [← eS14, te_sI]; exact f5
    have f7 : tR S14 a0 45 = some b6 := by rw [← eS14, tR_sI]; exact f7
    have f9 : tR S14 a0 22 = some b8 := by rw [← eS14, tR_sI]; exact f9
    have f11 : te S14 b8 = some (.inl (.byte, n10)) := by rw [← eS14, te_sI]; exact f11
    have f13 : te S14 b6 = some (.inl (.byte, n12)) := by rw [← eS14, te_sI]; exact f13
    obtain ⟨y15, ey15⟩ : ∃ y : Int32, y = x5 + 1 := ⟨_, rfl⟩
    have h := h y15 ey15
    refine tt_iinc (i := 5) (n := 1) (v := y15) (lv' := [(0, .ref a0), (1, .int x1), (2, .int x2), (3, .int x3), (4, .int x4), (5, .int y15)]) (by decide +kernel) (by decide) rfl ey15.symm rfl ?_
    refine tt_goto (off := -28) (tgt := 71) (by decide +kernel) (by decide) ?_
    exact tt_mono h (fun r S' q => ⟨hm.tr q.1, q.2⟩)
set_option maxRecDepth 100000 in
theorem v_M_isRequest {G : pG} (a0 : Nat) (x1 : Int32) (S : TS) (Q : Option Value → Prop)
    (h : ((x1 < 4 → Q (some (.int 0))) ∧ (¬ (x1 < 4) → te S a0 = some (.inr 11) ∧ ∃ b2 : Nat, tR S a0 45 = some b2 ∧ ∃ n4 : Nat, te S b2 = some (.inl (.byte, n4)) ∧ vp_in 1 n4 ∧ ((tI S b2 1 < 0 → Q (some (.int 0))) ∧ (¬ (tI S b2 1 < 0) → vp_in 1 n4 ∧ ((4 < tI S b2 1 → Q (some (.int 0))) ∧ (¬ (4 < tI S b2 1) → vp_in 2 n4 ∧ ((tI S b2 2 < 1 → Q (some (.int 0))) ∧ (¬ (tI S b2 2 < 1) → vp_in 2 n4 ∧ ((tI S b2 2 ≤ 16 → vp_in 2 n4 ∧ ∀ y6 : Int32, y6 = (x1 - (3 : Int32)) - (tI S b2 2) → ((y6 < 0 → Q (some (.int 0))) ∧ (¬ (y6 < 0) → vp_in 1 n4 ∧ ((tI S b2 1 = 0 → ((0 < y6 → Q (some (.int 0))) ∧ (¬ (0 < y6) → Q (some (.int 1))))) ∧ (¬ (tI S b2 1 = 0) → vp_in 1 n4 ∧ ((¬ tI S b2 1 = 2 → ((64 < y6 → Q (some (.int 0))) ∧ (¬ (64 < y6) → Q (some (.int 1))))) ∧ (tI S b2 1 = 2 → ((0 < y6 → Q (some (.int 0))) ∧ (¬ (0 < y6) → Q (some (.int 1))))))))))) ∧ (¬ (tI S b2 2 ≤ 16) → Q (some (.int 0))))))))))))) :
    CP G J_M_isRequest [.ref a0, .int x1] S Q := by
  unfold CP
  refine ct_of (by decide +kernel) (Nat.le_of_ble_eq_true rfl) (lv := [(0, .ref a0), (1, .int x1)]) rfl ?_
  refine tt_iload_n (k0 := 1) (by decide +kernel) rfl ?_
  refine tt_iconst (n := 4) (v := 4) (by decide +kernel) (by decide) ?_
  refine tt_icmp_lt (off := 43) 45 (by decide +kernel) (by decide) (fun c => ?_) (fun c => ?_)
  · have h := h.1 c
    refine tt_iconst (n := 0) (v := 0) (by decide +kernel) (by decide) ?_
    exact tt_zret (by decide +kernel) rfl rfl ⟨rfl, h⟩
  · have h := h.2 c
    refine tt_aload_n (k0 := 0) (by decide +kernel) rfl ?_
    obtain ⟨f1, h⟩ := h
    obtain ⟨b2, f3, h⟩ := h
    refine tt_getR (k := 45) (by decide +kernel) KC_11 (by decide) w_910 (fun _ => rfl) f1 f3 ?_
    refine tt_iconst (n := 1) (v := 1) (by decide +kernel) (by decide) ?_
    obtain ⟨n4, f5, h⟩ := h
    obtain ⟨g2, h⟩ := h
    refine tt_bald (by decide +kernel) f5 g2 ?_
    show T G J_M_isRequest 11 [(0, .ref a0), (1, .int x1)] [.int (tI S b2 1)] S _
    refine tt_if_lt (off := 34) 45 (by decide +kernel) (by decide) (fun c => ?_) (fun c => ?_)
    · have h := h.1 c
      refine tt_iconst (n := 0) (v := 0) (by decide +kernel) (by decide) ?_
      exact tt_zret (by decide +kernel) rfl rfl ⟨rfl, h⟩
    · have h := h.2 c
      refine tt_aload_n (k0 := 0) (by decide +kernel) rfl ?_
      refine tt_getR (k := 45) (by decide +kernel) KC_11 (by decide) w_910 (fun _ => rfl) f1 f3 ?_
      refine tt_iconst (n := 1) (v := 1) (by decide +kernel) (by decide) ?_
      obtain ⟨g2, h⟩ := h
      refine tt_bald (by decide +kernel) f5 g2 ?_
      show T G J_M_isRequest 20 [(0, .ref a0), (1, .int x1)] [.int (tI S b2 1)] S _
      refine tt_iconst (n := 4) (v := 4) (by decide +kernel) (by decide) ?_
      refine tt_icmp_gt (off := 24) 45 (by decide +kernel) (by decide) (fun c => ?_) (fun c => ?_)
      · have h := h.1 c
        refine tt_iconst (n := 0) (v := 0) (by decide +kernel) (by decide) ?_
        exact tt_zret (by decide +kernel) rfl rfl ⟨rfl, h⟩
      · have h := h.2 c
        refine tt_aload_n (k0 := 0) (by decide +kernel) rfl ?_
        refine tt_getR (k := 45) (by decide +kernel) KC_11 (by decide) w_910 (fun _ => rfl) f1 f3 ?_
        refine tt_iconst (n := 2) (v := 2) (by decide +kernel) (by decide) ?_
        obtain ⟨g2, h⟩ := h
        refine tt_bald (by decide +kernel) f5 g2 ?_
        show T G J_M_isRequest 30 [(0, .ref a0), (1, .int x1)] [.int (tI S b2 2)] S _
        refine tt_iconst (n := 1) (v := 1) (by decide +kernel) (by decide) ?_
        refine tt_icmp_lt (off := 14) 45 (by decide +kernel) (by decide) (fun c => ?_) (fun c => ?_)
        · have h := h.1 c
          refine tt_iconst (n := 0) (v := 0) (by decide +kernel) (by decide) ?_
          exact tt_zret (by decide +kernel) rfl rfl ⟨rfl, h⟩
        · have h := h.2 c
          refine tt_aload_n (k0 := 0) (by decide +kernel) rfl ?_
          refine tt_getR (k := 45) (by decide +kernel) KC_11 (by decide) w_910 (fun _ => rfl) f1 f3 ?_
          refine tt_iconst (n := 2) (v := 2) (by decide +kernel) (by decide) ?_
          obtain ⟨g2, h⟩ := h
          refine tt_bald (by decide +kernel) f5 g2 ?_
          show T G J_M_isRequest 40 [(0, .ref a0), (1, .int x1)] [.int (tI S b2 2)] S _
          refine tt_bipush (n := 16) (v := 16) (by decide +kernel) (by decide) ?_
          refine tt_icmp_le (off := 5) 47 (by decide +kernel) (by decide) (fun c => ?_) (fun c => ?_)
          · have h := h.1 c
            refine tt_iload_n (k0 := 1) (by decide +kernel) rfl ?_
            refine tt_iconst (n := 3) (v := 3) (by decide +kernel) (by decide) ?_
            refine tt_isub (by decide +kernel) ?_
            refine tt_aload_n (k0 := 0) (by decide +kernel) rfl ?_
            refine tt_getR (k := 45) (by decide +kernel) KC_11 (by decide) w_910 (fun _ => rfl) f1 f3 ?_
            refine tt_iconst (n := 2) (v := 2) (by decide +kernel) (by decide) ?_
            obtain ⟨g2, h⟩ := h
            refine tt_bald (by decide +kernel) f5 g2 ?_
            show T G J_M_isRequest 56 [(0, .ref a0), (1, .int x1)] [.int (tI S b2 2), .int (x1 - (3 : Int32))] S _
            refine tt_isub (by decide +kernel) ?_
            refine tt_topi (fun y6 ey6 => ?_)
            have h := h y6 ey6
            refine tt_istore_n (k0 := 2) (lv' := [(0, .ref a0), (1, .int x1), (2, .int y6)]) (by decide +kernel) (by decide) rfl ?_
            refine tt_iload_n (k0 := 2) (by decide +kernel) rfl ?_
            refine tt_if_lt (off := 36) 95 (by decide +kernel) (by decide) (fun c => ?_) (fun c => ?_)
            · have h := h.1 c
              refine tt_iconst (n := 0) (v := 0) (by decide +kernel) (by decide) ?_
              exact tt_zret (by decide +kernel) rfl rfl ⟨rfl, h⟩
            · have h := h.2 c
              refine tt_iload_n (k0 := 2) (by decide +kernel) rfl ?_
              refine tt_aload_n (k0 := 0) (by decide +kernel) rfl ?_
              refine tt_getR (k := 45) (by decide +kernel) KC_11 (by decide) w_910 (fun _ => rfl) f1 f3 ?_
              refine tt_iconst (n := 1) (v := 1) (by decide +kernel) (by decide) ?_
              obtain ⟨g2, h⟩ := h
              refine tt_bald (by decide +kernel) f5 g2 ?_
              show T G J_M_isRequest 69 [(0, .ref a0), (1, .int x1), (2, .int y6)] [.int (tI S b2 1), .int y6] S _
              refine tt_if_eq (off := 13) 82 (by decide +kernel) (by decide) (fun c => ?_) (fun c => ?_)
              · have h := h.1 c
                refine tt_iconst (n := 0) (v := 0) (by decide +kernel) (by decide) ?_
                refine tt_goto (off := 5) (tgt := 88) (by decide +kernel) (by decide) ?_
                refine tt_icmp_gt (off := 7) 95 (by decide +kernel) (by decide) (fun c => ?_) (fun c => ?_)
                · have h := h.1 c
                  refine tt_iconst (n := 0) (v := 0) (by decide +kernel) (by decide) ?_
                  exact tt_zret (by decide +kernel) rfl rfl ⟨rfl, h⟩
                · have h := h.2 c
                  refine tt_iconst (n := 1) (v := 1) (by decide +kernel) (by decide) ?_
                  refine tt_goto (off := 4) (tgt := 96) (by decide +kernel) (by decide) ?_
                  exact tt_zret (by decide +kernel) rfl rfl ⟨rfl, h⟩
              · have h := h.2 c
                refine tt_aload_n (k0 := 0) (by decide +kernel) rfl ?_
                refine tt_getR (k := 45) (by decide +kernel) KC_11 (by decide) w_910 (fun _ => rfl) f1 f3 ?_
                refine tt_iconst (n := 1) (v := 1) (by decide +kernel) (by decide) ?_
                obtain ⟨g2, h⟩ := h
                refine tt_bald (by decide +kernel) f5 g2 ?_
                show T G J_M_isRequest 78 [(0, .ref a0), (1, .int x1), (2, .int y6)] [.int (tI S b2 1), .int y6] S _
                refine tt_iconst (n := 2) (v := 2) (by decide +kernel) (by decide) ?_
                refine tt_icmp_ne (off := 7) 86 (by decide +kernel) (by decide) (fun c => ?_) (fun c => ?_)
                · have h := h.1 c
                  refine tt_bipush (n := 64) (v := 64) (by decide +kernel) (by decide) ?_
                  refine tt_icmp_gt (off := 7) 95 (by decide +kernel) (by decide) (fun c => ?_) (fun c => ?_)
                  · have h := h.1 c
                    refine tt_iconst (n := 0) (v := 0) (by decide +kernel) (by decide) ?_
                    exact tt_zret (by decide +kernel) rfl rfl ⟨rfl, h⟩
                  · have h := h.2 c
                    refine tt_iconst (n := 1) (v := 1) (by decide +kernel) (by decide) ?_
                    refine tt_goto (off := 4) (tgt := 96) (by decide +kernel) (by decide) ?_
                    exact tt_zret (by decide +kernel) rfl rfl ⟨rfl, h⟩
                · have h := h.2 c
                  refine tt_iconst (n := 0) (v := 0) (by decide +kernel) (by decide) ?_
                  refine tt_goto (off := 5) (tgt := 88) (by decide +kernel) (by decide) ?_
                  refine tt_icmp_gt (off := 7) 95 (by decide +kernel) (by decide) (fun c => ?_) (fun c => ?_)
                  · have h := h.1 c
                    refine tt_iconst (n := 0) (v := 0) (by decide +kernel) (by decide) ?_
                    exact tt_zret (by decide +kernel) rfl rfl ⟨rfl, h⟩
                  · have h := h.2 c
                    refine tt_iconst (n := 1) (v := 1) (by decide +kernel) (by decide) ?_
                    refine tt_goto (off := 4) (tgt := 96) (by decide +kernel) (by decide) ?_
                    exact tt_zret (by decide +kernel) rfl rfl ⟨rfl, h⟩
          · have h := h.2 c
            refine tt_iconst (n := 0) (v := 0) (by decide +kernel) (by decide) ?_
            exact tt_zret (by decide +kernel) rfl rfl ⟨rfl, h⟩
set_option maxRecDepth 100000 in
theorem v_M_isAnswer {G : pG} (a0 : Nat) (x1 : Int32) (S : TS) (Q : Option Value → Prop)
    (h : ((x1 < 2 → Q (some (.int 0))) ∧ (¬ (x1 < 2) → te S a0 = some (.inr 11) ∧ ∃ b2 : Nat, tR S a0 45 = some b2 ∧ ∃ n4 : Nat, te S b2 = some (.inl (.byte, n4)) ∧ vp_in 1 n4 ∧ ((tI S b2 1 < 0 → Q (some (.int 0))) ∧ (¬ (tI S b2 1 < 0) → vp_in 1 n4 ∧ ((3 < tI S b2 1 → Q (some (.int 0))) ∧ (¬ (3 < tI S b2 1) → vp_in 1 n4 ∧ ((¬ tI S b2 1 = 0 → ((0 < x1 - (2 : Int32) → Q (some (.int 0))) ∧ (¬ (0 < x1 - (2 : Int32)) → Q (some (.int 1))))) ∧ (tI S b2 1 = 0 → ((64 < x1 - (2 : Int32) → Q (some (.int 0))) ∧ (¬ (64 < x1 - (2 : Int32)) → Q (some (.int 1))))))))))))) :
    CP G J_M_isAnswer [.ref a0, .int x1] S Q := by
  unfold CP
  refine ct_of (by decide +kernel) (Nat.le_of_ble_eq_true rfl) (lv := [(0, .ref a0), (1, .int x1)]) rfl ?_
  refine tt_iload_n (k0 := 1) (by decide +kernel) rfl ?_
  refine tt_iconst (n := 2) (v := 2) (by decide +kernel) (by decide) ?_
  refine tt_icmp_lt (off := 47) 49 (by decide +kernel) (by decide) (fun c => ?_) (fun c => ?_)
  · have h := h.1 c
    refine tt_iconst (n := 0) (v := 0) (by decide +kernel) (by decide) ?_
    exact tt_zret (by decide +kernel) rfl rfl ⟨rfl, h⟩
  · have h := h.2 c
    refine tt_aload_n (k0 := 0) (by decide +kernel) rfl ?_
    obtain ⟨f1, h⟩ := h
    obtain ⟨b2, f3, h⟩ := h
    refine tt_getR (k := 45) (by decide +kernel) KC_11 (by decide) w_910 (fun _ => rfl) f1 f3 ?_
    refine tt_iconst (n := 1) (v := 1) (by decide +kernel) (by decide) ?_
    obtain ⟨n4, f5, h⟩ := h
    obtain ⟨g2, h⟩ := h
    refine tt_bald (by decide +kernel) f5 g2 ?_
    show T G J_M_isAnswer 11 [(0, .ref a0), (1, .int x1)] [.int (tI S b2 1)] S _
    refine tt_if_lt (off := 38) 49 (by decide +kernel) (by decide) (fun c => ?_) (fun c => ?_)
    · have h := h.1 c
      refine tt_iconst (n := 0) (v := 0) (by decide +kernel) (by decide) ?_
      exact tt_zret (by decide +kernel) rfl rfl ⟨rfl, h⟩
    · have h := h.2 c
      refine tt_aload_n (k0 := 0) (by decide +kernel) rfl ?_
      refine tt_getR (k := 45) (by decide +kernel) KC_11 (by decide) w_910 (fun _ => rfl) f1 f3 ?_
      refine tt_iconst (n := 1) (v := 1) (by decide +kernel) (by decide) ?_
      obtain ⟨g2, h⟩ := h
      refine tt_bald (by decide +kernel) f5 g2 ?_
      show T G J_M_isAnswer 20 [(0, .ref a0), (1, .int x1)] [.int (tI S b2 1)] S _
      refine tt_iconst (n := 3) (v := 3) (by decide +kernel) (by decide) ?_
      refine tt_icmp_gt (off := 28) 49 (by decide +kernel) (by decide) (fun c => ?_) (fun c => ?_)
      · have h := h.1 c
        refine tt_iconst (n := 0) (v := 0) (by decide +kernel) (by decide) ?_
        exact tt_zret (by decide +kernel) rfl rfl ⟨rfl, h⟩
      · have h := h.2 c
        refine tt_iload_n (k0 := 1) (by decide +kernel) rfl ?_
        refine tt_iconst (n := 2) (v := 2) (by decide +kernel) (by decide) ?_
        refine tt_isub (by decide +kernel) ?_
        refine tt_aload_n (k0 := 0) (by decide +kernel) rfl ?_
        refine tt_getR (k := 45) (by decide +kernel) KC_11 (by decide) w_910 (fun _ => rfl) f1 f3 ?_
        refine tt_iconst (n := 1) (v := 1) (by decide +kernel) (by decide) ?_
        obtain ⟨g2, h⟩ := h
        refine tt_bald (by decide +kernel) f5 g2 ?_
        show T G J_M_isAnswer 33 [(0, .ref a0), (1, .int x1)] [.int (tI S b2 1), .int (x1 - (2 : Int32))] S _
        refine tt_if_ne (off := 8) 41 (by decide +kernel) (by decide) (fun c => ?_) (fun c => ?_)
        · have h := h.1 c
          refine tt_iconst (n := 0) (v := 0) (by decide +kernel) (by decide) ?_
          refine tt_icmp_gt (off := 7) 49 (by decide +kernel) (by decide) (fun c => ?_) (fun c => ?_)
          · have h := h.1 c
            refine tt_iconst (n := 0) (v := 0) (by decide +kernel) (by decide) ?_
            exact tt_zret (by decide +kernel) rfl rfl ⟨rfl, h⟩
          · have h := h.2 c
            refine tt_iconst (n := 1) (v := 1) (by decide +kernel) (by decide) ?_
            refine tt_goto (off := 4) (tgt := 50) (by decide +kernel) (by decide) ?_
            exact tt_zret (by decide +kernel) rfl rfl ⟨rfl, h⟩
        · have h := h.2 c
          refine tt_bipush (n := 64) (v := 64) (by decide +kernel) (by decide) ?_
          refine tt_goto (off := 4) (tgt := 42) (by decide +kernel) (by decide) ?_
          refine tt_icmp_gt (off := 7) 49 (by decide +kernel) (by decide) (fun c => ?_) (fun c => ?_)
          · have h := h.1 c
            refine tt_iconst (n := 0) (v := 0) (by decide +kernel) (by decide) ?_
            exact tt_zret (by decide +kernel) rfl rfl ⟨rfl, h⟩
          · have h := h.2 c
            refine tt_iconst (n := 1) (v := 1) (by decide +kernel) (by decide) ?_
            refine tt_goto (off := 4) (tgt := 50) (by decide +kernel) (by decide) ?_
            exact tt_zret (by decide +kernel) rfl rfl ⟨rfl, h⟩
set_option maxRecDepth 100000 in
theorem v_M_work {G : pG} (a0 : Nat) (x1 : Int32) (S : TS) (Q : Option Value → TS → Prop)
    (h : te S a0 = some (.inr 11) ∧ ∃ b2 : Nat, tR S a0 45 = some b2 ∧ ∃ n4 : Nat, te S b2 = some (.inl (.byte, n4)) ∧ vp_in 1 n4 ∧ ∀ y6 : Int32, y6 = tI S b2 1 → vp_in 2 n4 ∧ ∀ y7 : Int32, y7 = tI S b2 2 → ∀ y8 : Int32, y8 = (3 : Int32) + y7 → CP G J_M_place [.ref a0, .ref b2, .int 3, .int y7] S (fun r => ∃ r9 : Int32, r = some (.int r9) ∧ ∀ y10 : Int32, y10 = x1 - y8 → ((y6 = 0 → T0 G J_M_work 54 [(0, .ref a0), (1, .int x1), (2, .int y6), (3, .int y7), (4, .int y8), (5, .int r9), (6, .int 0), (7, .int y10)] [] S Q) ∧ (¬ (y6 = 0) → ((y6 = 2 → T0 G J_M_work 54 [(0, .ref a0), (1, .int x1), (2, .int y6), (3, .int y7), (4, .int y8), (5, .int r9), (6, .int 0), (7, .int y10)] [] S Q) ∧ (¬ (y6 = 2) → ((¬ y6 = 4 → T0 G J_M_work 66 [(0, .ref a0), (1, .int x1), (2, .int y6), (3, .int y7), (4, .int y8), (5, .int r9), (6, .int 0), (7, .int y10)] [] S Q) ∧ (y6 = 4 → T0 G J_M_work 54 [(0, .ref a0), (1, .int x1), (2, .int y6), (3, .int y7), (4, .int y8), (5, .int r9), (6, .int 0), (7, .int y10)] [] S Q)))))))) :
    C0 G J_M_work [.ref a0, .int x1] S Q := by
  unfold C0
  refine ct_of (by decide +kernel) (Nat.le_of_ble_eq_true rfl) (lv := [(0, .ref a0), (1, .int x1)]) rfl ?_
  have hm : Sm0 S S := Sm0.rf S
  refine tt_aload_n (k0 := 0) (by decide +kernel) rfl ?_
  obtain ⟨f1, h⟩ := h
  obtain ⟨b2, f3, h⟩ := h
  refine tt_getR (k := 45) (by decide +kernel) KC_11 (by decide) w_910 (fun _ => rfl) f1 f3 ?_
  refine tt_iconst (n := 1) (v := 1) (by decide +kernel) (by decide) ?_
  obtain ⟨n4, f5, h⟩ := h
  obtain ⟨g2, h⟩ := h
  refine tt_bald (by decide +kernel) f5 g2 ?_
  show T G J_M_work 6 [(0, .ref a0), (1, .int x1)] [.int (tI S b2 1)] S _
  refine tt_topi (fun y6 ey6 => ?_)
  have h := h y6 ey6
  refine tt_istore_n (k0 := 2) (lv' := [(0, .ref a0), (1, .int x1), (2, .int y6)]) (by decide +kernel) (by decide) rfl ?_
  refine tt_aload_n (k0 := 0) (by decide +kernel) rfl ?_
  refine tt_getR (k := 45) (by decide +kernel) KC_11 (by decide) w_910 (fun _ => rfl) f1 f3 ?_
  refine tt_iconst (n := 2) (v := 2) (by decide +kernel) (by decide) ?_
  obtain ⟨g2, h⟩ := h
  refine tt_bald (by decide +kernel) f5 g2 ?_
  show T G J_M_work 13 [(0, .ref a0), (1, .int x1), (2, .int y6)] [.int (tI S b2 2)] S _
  refine tt_topi (fun y7 ey7 => ?_)
  have h := h y7 ey7
  refine tt_istore_n (k0 := 3) (lv' := [(0, .ref a0), (1, .int x1), (2, .int y6), (3, .int y7)]) (by decide +kernel) (by decide) rfl ?_
  refine tt_iconst (n := 3) (v := 3) (by decide +kernel) (by decide) ?_
  refine tt_iload_n (k0 := 3) (by decide +kernel) rfl ?_
  refine tt_iadd (by decide +kernel) ?_
  refine tt_topi (fun y8 ey8 => ?_)
  have h := h y8 ey8
  refine tt_istore (k0 := 4) (lv' := [(0, .ref a0), (1, .int x1), (2, .int y6), (3, .int y7), (4, .int y8)]) (by decide +kernel) (by decide) rfl ?_
  refine tt_aload_n (k0 := 0) (by decide +kernel) rfl ?_
  refine tt_aload_n (k0 := 0) (by decide +kernel) rfl ?_
  refine tt_getR (k := 45) (by decide +kernel) KC_11 (by decide) w_910 (fun _ => rfl) f1 f3 ?_
  refine tt_iconst (n := 3) (v := 3) (by decide +kernel) (by decide) ?_
  refine tt_iload_n (k0 := 3) (by decide +kernel) rfl ?_
  refine tt_callV (As := [.ref b2, .int 3, .int y7]) (rest := []) (ci := 11) (r0 := (R_11, F_11, 55)) (by decide +kernel) LK_M_place w_1237 w_1239 (in_p (n := 55) 60 rfl) (by decide) (by decide) rfl rfl (Nat.le_of_ble_eq_true rfl) rfl rfl f1 (ct_mono h (fun r Sb h => ?_))
  obtain ⟨eb, h⟩ := h
  obtain ⟨r9, rfl, h⟩ := h
  rw [eb]
  show T G J_M_work 29 [(0, .ref a0), (1, .int x1), (2, .int y6), (3, .int y7), (4, .int y8)] [.int r9] S _
  refine tt_istore (k0 := 5) (lv' := [(0, .ref a0), (1, .int x1), (2, .int y6), (3, .int y7), (4, .int y8), (5, .int r9)]) (by decide +kernel) (by decide) rfl ?_
  refine tt_iconst (n := 0) (v := 0) (by decide +kernel) (by decide) ?_
  refine tt_istore (k0 := 6) (lv' := [(0, .ref a0), (1, .int x1), (2, .int y6), (3, .int y7), (4, .int y8), (5, .int r9), (6, .int 0)]) (by decide +kernel) (by decide) rfl ?_
  refine tt_iload_n (k0 := 1) (by decide +kernel) rfl ?_
  refine tt_iload (k0 := 4) (by decide +kernel) rfl ?_
  refine tt_isub (by decide +kernel) ?_
  refine tt_topi (fun y10 ey10 => ?_)
  have h := h y10 ey10
  refine tt_istore (k0 := 7) (lv' := [(0, .ref a0), (1, .int x1), (2, .int y6), (3, .int y7), (4, .int y8), (5, .int r9), (6, .int 0), (7, .int y10)]) (by decide +kernel) (by decide) rfl ?_
  refine tt_iload_n (k0 := 2) (by decide +kernel) rfl ?_
  refine tt_if_eq (off := 13) 54 (by decide +kernel) (by decide) (fun c => ?_) (fun c => ?_)
  · have h := h.1 c
    exact tt_mono h (fun r S' q => ⟨hm.tr q.1, q.2⟩)
  · have h := h.2 c
    refine tt_iload_n (k0 := 2) (by decide +kernel) rfl ?_
    refine tt_iconst (n := 2) (v := 2) (by decide +kernel) (by decide) ?_
    refine tt_icmp_eq (off := 8) 54 (by decide +kernel) (by decide) (fun c => ?_) (fun c => ?_)
    · have h := h.1 c
      exact tt_mono h (fun r S' q => ⟨hm.tr q.1, q.2⟩)
    · have h := h.2 c
      refine tt_iload_n (k0 := 2) (by decide +kernel) rfl ?_
      refine tt_iconst (n := 4) (v := 4) (by decide +kernel) (by decide) ?_
      refine tt_icmp_ne (off := 15) 66 (by decide +kernel) (by decide) (fun c => ?_) (fun c => ?_)
      · have h := h.1 c
        exact tt_mono h (fun r S' q => ⟨hm.tr q.1, q.2⟩)
      · have h := h.2 c
        exact tt_mono h (fun r S' q => ⟨hm.tr q.1, q.2⟩)
set_option maxRecDepth 100000 in
theorem v_M_work_54 {G : pG} (a0 : Nat) (x1 : Int32) (x2 : Int32) (x3 : Int32) (x4 : Int32) (x5 : Int32) (x6 : Int32) (x7 : Int32) (S : TS) (Q : Option Value → TS → Prop)
    (h : ((0 ≤ x5 → T0 G J_M_work 63 [(0, .ref a0), (1, .int x1), (2, .int x2), (3, .int x3), (4, .int x4), (5, .int x5), (6, .int x6), (7, .int x7)] [] S Q) ∧ (¬ (0 ≤ x5) → T0 G J_M_work 66 [(0, .ref a0), (1, .int x1), (2, .int x2), (3, .int x3), (4, .int x4), (5, .int x5), (6, .int 1), (7, .int x7)] [] S Q))) :
    T0 G J_M_work 54 [(0, .ref a0), (1, .int x1), (2, .int x2), (3, .int x3), (4, .int x4), (5, .int x5), (6, .int x6), (7, .int x7)] [] S Q := by
  unfold T0
  have hm : Sm0 S S := Sm0.rf S
  refine tt_iload (k0 := 5) (by decide +kernel) rfl ?_
  refine tt_if_ge (off := 7) 63 (by decide +kernel) (by decide) (fun c => ?_) (fun c => ?_)
  · have h := h.1 c
    exact tt_mono h (fun r S' q => ⟨hm.tr q.1, q.2⟩)
  · have h := h.2 c
    refine tt_iconst (n := 1) (v := 1) (by decide +kernel) (by decide) ?_
    refine tt_goto (off := 4) (tgt := 64) (by decide +kernel) (by decide) ?_
    refine tt_istore (k0 := 6) (lv' := [(0, .ref a0), (1, .int x1), (2, .int x2), (3, .int x3), (4, .int x4), (5, .int x5), (6, .int 1), (7, .int x7)]) (by decide +kernel) (by decide) rfl ?_
    exact tt_mono h (fun r S' q => ⟨hm.tr q.1, q.2⟩)
set_option maxRecDepth 100000 in
theorem v_M_work_66 {G : pG} (a0 : Nat) (x1 : Int32) (x2 : Int32) (x3 : Int32) (x4 : Int32) (x5 : Int32) (x6 : Int32) (x7 : Int32) (S : TS) (Q : Option Value → TS → Prop)
    (h : ((¬ x2 = 3 → T0 G J_M_work 79 [(0, .ref a0), (1, .int x1), (2, .int x2), (3, .int x3), (4, .int x4), (5, .int x5), (6, .int x6), (7, .int x7)] [] S Q) ∧ (x2 = 3 → ((x5 < 0 → T0 G J_M_work 79 [(0, .ref a0), (1, .int x1), (2, .int x2), (3, .int x3), (4, .int x4), (5, .int x5), (6, .int x6), (7, .int x7)] [] S Q) ∧ (¬ (x5 < 0) → T0 G J_M_work 79 [(0, .ref a0), (1, .int x1), (2, .int x2), (3, .int x3), (4, .int x4), (5, .int x5), (6, .int 2), (7, .int x7)] [] S Q))))) :
    T0 G J_M_work 66 [(0, .ref a0), (1, .int x1), (2, .int x2), (3, .int x3), (4, .int x4), (5, .int x5), (6, .int x6), (7, .int x7)] [] S Q := by
  unfold T0
  have hm : Sm0 S S := Sm0.rf S
  refine tt_iload_n (k0 := 2) (by decide +kernel) rfl ?_
  refine tt_iconst (n := 3) (v := 3) (by decide +kernel) (by decide) ?_
  refine tt_icmp_ne (off := 11) 79 (by decide +kernel) (by decide) (fun c => ?_) (fun c => ?_)
  · have h := h.1 c
    exact tt_mono h (fun r S' q => ⟨hm.tr q.1, q.2⟩)
  · have h := h.2 c
    refine tt_iload (k0 := 5) (by decide +kernel) rfl ?_
    refine tt_if_lt (off := 6) 79 (by decide +kernel) (by decide) (fun c => ?_) (fun c => ?_)
    · have h := h.1 c
      exact tt_mono h (fun r S' q => ⟨hm.tr q.1, q.2⟩)
    · have h := h.2 c
      refine tt_iconst (n := 2) (v := 2) (by decide +kernel) (by decide) ?_
      refine tt_istore (k0 := 6) (lv' := [(0, .ref a0), (1, .int x1), (2, .int x2), (3, .int x3), (4, .int x4), (5, .int x5), (6, .int 2), (7, .int x7)]) (by decide +kernel) (by decide) rfl ?_
      exact tt_mono h (fun r S' q => ⟨hm.tr q.1, q.2⟩)
set_option maxRecDepth 100000 in
theorem v_M_work_63 {G : pG} (a0 : Nat) (x1 : Int32) (x2 : Int32) (x3 : Int32) (x4 : Int32) (x5 : Int32) (x6 : Int32) (x7 : Int32) (S : TS) (Q : Option Value → TS → Prop)
    (h : T0 G J_M_work 66 [(0, .ref a0), (1, .int x1), (2, .int x2), (3, .int x3), (4, .int x4), (5, .int x5), (6, .int 0), (7, .int x7)] [] S Q) :
    T0 G J_M_work 63 [(0, .ref a0), (1, .int x1), (2, .int x2), (3, .int x3), (4, .int x4), (5, .int x5), (6, .int x6), (7, .int x7)] [] S Q := by
  unfold T0
  have hm : Sm0 S S := Sm0.rf S
  refine tt_iconst (n := 0) (v := 0) (by decide +kernel) (by decide) ?_
  refine tt_istore (k0 := 6) (lv' := [(0, .ref a0), (1, .int x1), (2, .int x2), (3, .int x3), (4, .int x4), (5, .int x5), (6, .int 0), (7, .int x7)]) (by decide +kernel) (by decide) rfl ?_
  exact tt_mono h (fun r S' q => ⟨hm.tr q.1, q.2⟩)
set_option maxRecDepth 100000 in
theorem v_M_work_79 {G : pG} (a0 : Nat) (x1 : Int32) (x2 : Int32) (x3 : Int32) (x4 : Int32) (x5 : Int32) (x6 : Int32) (x7 : Int32) (S : TS) (Q : Option Value → TS → Prop)
    (h : ((x2 = 1 → T0 G J_M_work 89 [(0, .ref a0), (1, .int x1), (2, .int x2), (3, .int x3), (4, .int x4), (5, .int x5), (6, .int x6), (7, .int x7)] [] S Q) ∧ (¬ (x2 = 1) → ((¬ x2 = 3 → T0 G J_M_work 106 [(0, .ref a0), (1, .int x1), (2, .int x2), (3, .int x3), (4, .int x4), (5, .int x5), (6, .int x6), (7, .int x7)] [] S Q) ∧ (x2 = 3 → T0 G J_M_work 89 [(0, .ref a0), (1, .int x1), (2, .int x2), (3, .int x3), (4, .int x4), (5, .int x5), (6, .int x6), (7, .int x7)] [] S Q))))) :
    T0 G J_M_work 79 [(0, .ref a0), (1, .int x1), (2, .int x2), (3, .int x3), (4, .int x4), (5, .int x5), (6, .int x6), (7, .int x7)] [] S Q := by
  unfold T0
  have hm : Sm0 S S := Sm0.rf S
  refine tt_iload_n (k0 := 2) (by decide +kernel) rfl ?_
  refine tt_iconst (n := 1) (v := 1) (by decide +kernel) (by decide) ?_
  refine tt_icmp_eq (off := 8) 89 (by decide +kernel) (by decide) (fun c => ?_) (fun c => ?_)
  · have h := h.1 c
    exact tt_mono h (fun r S' q => ⟨hm.tr q.1, q.2⟩)
  · have h := h.2 c
    refine tt_iload_n (k0 := 2) (by decide +kernel) rfl ?_
    refine tt_iconst (n := 3) (v := 3) (by decide +kernel) (by decide) ?_
    refine tt_icmp_ne (off := 20) 106 (by decide +kernel) (by decide) (fun c => ?_) (fun c => ?_)
    · have h := h.1 c
      exact tt_mono h (fun r S' q => ⟨hm.tr q.1, q.2⟩)
    · have h := h.2 c
      exact tt_mono h (fun r S' q => ⟨hm.tr q.1, q.2⟩)
set_option maxRecDepth 100000 in
theorem v_M_work_89 {G : pG} (a0 : Nat) (x1 : Int32) (x2 : Int32) (x3 : Int32) (x4 : Int32) (x5 : Int32) (x6 : Int32) (x7 : Int32) (S : TS) (Q : Option Value → TS → Prop)
    (h : ((0 ≤ x5 → T0 G J_M_work 106 [(0, .ref a0), (1, .int x1), (2, .int x2), (3, .int x3), (4, .int x4), (5, .int x5), (6, .int x6), (7, .int x7)] [] S Q) ∧ (¬ (0 ≤ x5) → te S a0 = some (.inr 11) ∧ ((¬ tI S a0 31 = 20 → T0 G J_M_work 106 [(0, .ref a0), (1, .int x1), (2, .int x2), (3, .int x3), (4, .int x4), (5, .int x5), (6, .int x6), (7, .int x7)] [] S Q) ∧ (tI S a0 31 = 20 → T0 G J_M_work 106 [(0, .ref a0), (1, .int x1), (2, .int x2), (3, .int x3), (4, .int x4), (5, .int x5), (6, .int 3), (7, .int x7)] [] S Q))))) :
    T0 G J_M_work 89 [(0, .ref a0), (1, .int x1), (2, .int x2), (3, .int x3), (4, .int x4), (5, .int x5), (6, .int x6), (7, .int x7)] [] S Q := by
  unfold T0
  have hm : Sm0 S S := Sm0.rf S
  refine tt_iload (k0 := 5) (by decide +kernel) rfl ?_
  refine tt_if_ge (off := 15) 106 (by decide +kernel) (by decide) (fun c => ?_) (fun c => ?_)
  · have h := h.1 c
    exact tt_mono h (fun r S' q => ⟨hm.tr q.1, q.2⟩)
  · have h := h.2 c
    refine tt_aload_n (k0 := 0) (by decide +kernel) rfl ?_
    obtain ⟨f1, h⟩ := h
    refine tt_getI (k := 31) (by decide +kernel) KC_11 (by decide) w_896 (fun _ => rfl) f1 ?_
    refine tt_bipush (n := 20) (v := 20) (by decide +kernel) (by decide) ?_
    refine tt_icmp_ne (off := 6) 106 (by decide +kernel) (by decide) (fun c => ?_) (fun c => ?_)
    · have h := h.1 c
      exact tt_mono h (fun r S' q => ⟨hm.tr q.1, q.2⟩)
    · have h := h.2 c
      refine tt_iconst (n := 3) (v := 3) (by decide +kernel) (by decide) ?_
      refine tt_istore (k0 := 6) (lv' := [(0, .ref a0), (1, .int x1), (2, .int x2), (3, .int x3), (4, .int x4), (5, .int x5), (6, .int 3), (7, .int x7)]) (by decide +kernel) (by decide) rfl ?_
      exact tt_mono h (fun r S' q => ⟨hm.tr q.1, q.2⟩)
set_option maxRecDepth 100000 in
theorem v_M_work_106 {G : pG} (a0 : Nat) (x1 : Int32) (x2 : Int32) (x3 : Int32) (x4 : Int32) (x5 : Int32) (x6 : Int32) (x7 : Int32) (S : TS) (Q : Option Value → TS → Prop)
    (h : ((¬ x2 = 4 → T0 G J_M_work 134 [(0, .ref a0), (1, .int x1), (2, .int x2), (3, .int x3), (4, .int x4), (5, .int x5), (6, .int x6), (7, .int x7)] [] S Q) ∧ (x2 = 4 → ((x5 < 0 → T0 G J_M_work 134 [(0, .ref a0), (1, .int x1), (2, .int x2), (3, .int x3), (4, .int x4), (5, .int x5), (6, .int x6), (7, .int x7)] [] S Q) ∧ (¬ (x5 < 0) → te S a0 = some (.inr 11) ∧ ∃ b2 : Nat, tR S a0 30 = some b2 ∧ ∃ n4 : Nat, te S b2 = some (.inl (.int, n4)) ∧ vp_in x5 n4 ∧ (((tI S b2 x5.toNatClampNeg) + x7 ≤ 64 → T0 G J_M_work 134 [(0, .ref a0), (1, .int x1), (2, .int x2), (3, .int x3), (4, .int x4), (5, .int x5), (6, .int x6), (7, .int x7)] [] S Q) ∧ (¬ ((tI S b2 x5.toNatClampNeg) + x7 ≤ 64) → T0 G J_M_work 134 [(0, .ref a0), (1, .int x1), (2, .int x2), (3, .int x3), (4, .int x4), (5, .int x5), (6, .int 3), (7, .int x7)] [] S Q))))))) :
    T0 G J_M_work 106 [(0, .ref a0), (1, .int x1), (2, .int x2), (3, .int x3), (4, .int x4), (5, .int x5), (6, .int x6), (7, .int x7)] [] S Q := by
  unfold T0
  have hm : Sm0 S S := Sm0.rf S
  refine tt_iload_n (k0 := 2) (by decide +kernel) rfl ?_
  refine tt_iconst (n := 4) (v := 4) (by decide +kernel) (by decide) ?_
  refine tt_icmp_ne (off := 26) 134 (by decide +kernel) (by decide) (fun c => ?_) (fun c => ?_)
  · have h := h.1 c
    exact tt_mono h (fun r S' q => ⟨hm.tr q.1, q.2⟩)
  · have h := h.2 c
    refine tt_iload (k0 := 5) (by decide +kernel) rfl ?_
    refine tt_if_lt (off := 21) 134 (by decide +kernel) (by decide) (fun c => ?_) (fun c => ?_)
    · have h := h.1 c
      exact tt_mono h (fun r S' q => ⟨hm.tr q.1, q.2⟩)
    · have h := h.2 c
      refine tt_aload_n (k0 := 0) (by decide +kernel) rfl ?_
      obtain ⟨f1, h⟩ := h
      obtain ⟨b2, f3, h⟩ := h
      refine tt_getR (k := 30) (by decide +kernel) KC_11 (by decide) w_895 (fun _ => rfl) f1 f3 ?_
      refine tt_iload (k0 := 5) (by decide +kernel) rfl ?_
      obtain ⟨n4, f5, h⟩ := h
      obtain ⟨g2, h⟩ := h
      refine tt_iald (by decide +kernel) f5 g2 ?_
      refine tt_iload (k0 := 7) (by decide +kernel) rfl ?_
      refine tt_iadd (by decide +kernel) ?_
      refine tt_bipush (n := 64) (v := 64) (by decide +kernel) (by decide) ?_
      refine tt_icmp_le (off := 6) 134 (by decide +kernel) (by decide) (fun c => ?_) (fun c => ?_)
      · have h := h.1 c
        exact tt_mono h (fun r S' q => ⟨hm.tr q.1, q.2⟩)
      · have h := h.2 c
        refine tt_iconst (n := 3) (v := 3) (by decide +kernel) (by decide) ?_
        refine tt_istore (k0 := 6) (lv' := [(0, .ref a0), (1, .int x1), (2, .int x2), (3, .int x3), (4, .int x4), (5, .int x5), (6, .int 3), (7, .int x7)]) (by decide +kernel) (by decide) rfl ?_
        exact tt_mono h (fun r S' q => ⟨hm.tr q.1, q.2⟩)
set_option maxRecDepth 100000 in
theorem v_M_work_134 {G : pG} (a0 : Nat) (x1 : Int32) (x2 : Int32) (x3 : Int32) (x4 : Int32) (x5 : Int32) (x6 : Int32) (x7 : Int32) (S : TS) (Q : Option Value → TS → Prop)
    (h : ((¬ x6 = 0 → T0 G J_M_work 286 [(0, .ref a0), (1, .int x1), (2, .int x2), (3, .int x3), (4, .int x4), (5, .int x5), (6, .int x6), (7, .int x7)] [] S Q) ∧ (x6 = 0 → ((x2 = 0 → T0 G J_M_work 286 [(0, .ref a0), (1, .int x1), (2, .int x2), (3, .int x3), (4, .int x4), (5, .int x5), (6, .int x6), (7, .int x7)] [] S Q) ∧ (¬ (x2 = 0) → ((x2 = 2 → T0 G J_M_work 286 [(0, .ref a0), (1, .int x1), (2, .int x2), (3, .int x3), (4, .int x4), (5, .int x5), (6, .int x6), (7, .int x7)] [] S Q) ∧ (¬ (x2 = 2) → ((0 ≤ x5 → T0 G J_M_work 214 [(0, .ref a0), (1, .int x1), (2, .int x2), (3, .int x3), (4, .int x4), (5, .int x5), (6, .int x6), (7, .int x7)] [] S Q) ∧ (¬ (0 ≤ x5) → te S a0 = some (.inr 11) ∧ ∀ y2 : Int32, y2 = tI S a0 31 → ∀ S3 : TS, S3 = sI S a0 (upd (tI S a0) 31 ((tI S a0 31) + (1 : Int32))) → ∃ b4 : Nat, tR S3 a0 28 = some b4 ∧ ∃ n6 : Nat, te S3 b4 = some (.inl (.int, n6)) ∧ vp_in y2 n6 ∧ ∀ S8 : TS, S8 = sI S3 b4 (upd (tI S3 b4) y2.toNatClampNeg x3) → T0 G J_M_work 180 [(0, .ref a0), (1, .int x1), (2, .int x2), (3, .int x3), (4, .int x4), (5, .int y2), (6, .int x6), (7, .int x7), (8, .int 0)] [] S8 Q))))))))) :
    T0 G J_M_work 134 [(0, .ref a0), (1, .int x1), (2, .int x2), (3, .int x3), (4, .int x4), (5, .int x5), (6, .int x6), (7, .int x7)] [] S Q := by
  unfold T0
  have hm : Sm0 S S := Sm0.rf S
  refine tt_iload (k0 := 6) (by decide +kernel) rfl ?_
  refine tt_if_ne (off := 150) 286 (by decide +kernel) (by decide) (fun c => ?_) (fun c => ?_)
  · have h := h.1 c
    exact tt_mono h (fun r S' q => ⟨hm.tr q.1, q.2⟩)
  · have h := h.2 c
    refine tt_iload_n (k0 := 2) (by decide +kernel) rfl ?_
    refine tt_if_eq (off := 146) 286 (by decide +kernel) (by decide) (fun c => ?_) (fun c => ?_)
    · have h := h.1 c
      exact tt_mono h (fun r S' q => ⟨hm.tr q.1, q.2⟩)
    · have h := h.2 c
      refine tt_iload_n (k0 := 2) (by decide +kernel) rfl ?_
      refine tt_iconst (n := 2) (v := 2) (by decide +kernel) (by decide) ?_
      refine tt_icmp_eq (off := 141) 286 (by decide +kernel) (by decide) (fun c => ?_) (fun c => ?_)
      · have h := h.1 c
        exact tt_mono h (fun r S' q => ⟨hm.tr q.1, q.2⟩)
      · have h := h.2 c
        refine tt_iload (k0 := 5) (by decide +kernel) rfl ?_
        refine tt_if_ge (off := 64) 214 (by decide +kernel) (by decide) (fun c => ?_) (fun c => ?_)
        · have h := h.1 c
          exact tt_mono h (fun r S' q => ⟨hm.tr q.1, q.2⟩)
        · have h := h.2 c
          refine tt_aload_n (k0 := 0) (by decide +kernel) rfl ?_
          obtain ⟨f1, h⟩ := h
          refine tt_getI (k := 31) (by decide +kernel) KC_11 (by decide) w_896 (fun _ => rfl) f1 ?_
          refine tt_topi (fun y2 ey2 => ?_)
          have h := h y2 ey2
          refine tt_istore (k0 := 5) (lv' := [(0, .ref a0), (1, .int x1), (2, .int x2), (3, .int x3), (4, .int x4), (5, .int y2), (6, .int x6), (7, .int x7)]) (by decide +kernel) (by decide) rfl ?_
          refine tt_aload_n (k0 := 0) (by decide +kernel) rfl ?_
          refine tt_dup (by decide +kernel) rfl ?_
          refine tt_getI (k := 31) (by decide +kernel) KC_11 (by decide) w_896 (fun _ => rfl) f1 ?_
          refine tt_iconst (n := 1) (v := 1) (by decide +kernel) (by decide) ?_
          refine tt_iadd (by decide +kernel) ?_
          refine tt_putI (k := 31) (by decide +kernel) KC_11 (by decide) w_896 rfl rfl f1 ?_
          generalize eS3 : sI S a0 (upd (tI S a0) 31 ((tI S a0 31) + (1 : Int32))) = S3
          have h := h S3 eS3.symm
          have hm : Sm0 S S3 := by rw [← eS3]; exact hm.I
          have f1 : te S3 a0 = some (.inr 11) := by rw [← eS3, te_sI]; exact f1
          refine tt_aload_n (k0 := 0) (by decide +kernel) rfl ?_
          obtain ⟨b4, f5, h⟩ := h
          refine tt_getR (k := 28) (by decide +kernel) KC_11 (by decide) w_893 (fun _ => rfl) f1 f5 ?_
          refine tt_iload (k0 := 5) (by decide +kernel) rfl ?_
          refine tt_iload_n (k0 := 3) (by decide +kernel) rfl ?_
          obtain ⟨n6, f7, h⟩ := h
          obtain ⟨g2, h⟩ := h
          refine tt_iast (by decide +kernel) f7 g2 ?_
          generalize eS8 : sI S3 b4 (upd (tI S3 b4) y2.toNatClampNeg x3) = S8
          have h := h S8 eS8.symm
          have hm : Sm0 S S8 := by rw [← eS8]; exact hm.I
          have f1 : te S8 a0 = some (.inr 11) := by rw [← eS8, te_sI]; exact f1
          have f5 : tR S8 a0 28 = some b4 := by rw [← eS8, tR_sI]; exact f5
          have f7 : te S8 b4 = some (.inl (.int, n6)) := by rw [← eS8, te_sI]; exact f7
          refine tt_iconst (n := 0) (v := 0) (by decide +kernel) (by decide) ?_
          refine tt_istore (k0 := 8) (lv' := [(0, .ref a0), (1, .int x1), (2, .int x2), (3, .int x3), (4, .int x4), (5, .int y2), (6, .int x6), (7, .int x7), (8, .int 0)]) (by decide +kernel) (by decide) rfl ?_
          exact tt_mono h (fun r S' q => ⟨hm.tr q.1, q.2⟩)
set_option maxRecDepth 100000 in
theorem v_M_work_286 {G : pG} (a0 : Nat) (x1 : Int32) (x2 : Int32) (x3 : Int32) (x4 : Int32) (x5 : Int32) (x6 : Int32) (x7 : Int32) (S : TS) (Q : Option Value → TS → Prop)
    (h : te S a0 = some (.inr 11) ∧ ∀ S2 : TS, S2 = sI S a0 (upd (tI S a0) 46 0) → C0 G J_M_say [.ref a0, .int 0] S2 (fun r S3 => r = none ∧ C0 G J_M_say [.ref a0, .int x6] S3 (fun r S4 => r = none ∧ ((¬ x2 = 0 → T0 G J_M_work 349 [(0, .ref a0), (1, .int x1), (2, .int x2), (3, .int x3), (4, .int x4), (5, .int x5), (6, .int x6), (7, .int x7)] [] S4 Q) ∧ (x2 = 0 → ((¬ x6 = 0 → T0 G J_M_work 349 [(0, .ref a0), (1, .int x1), (2, .int x2), (3, .int x3), (4, .int x4), (5, .int x5), (6, .int x6), (7, .int x7)] [] S4 Q) ∧ (x6 = 0 → T0 G J_M_work 314 [(0, .ref a0), (1, .int x1), (2, .int x2), (3, .int x3), (4, .int x4), (5, .int x5), (6, .int x6), (7, .int x7), (8, .int 0)] [] S4 Q))))))) :
    T0 G J_M_work 286 [(0, .ref a0), (1, .int x1), (2, .int x2), (3, .int x3), (4, .int x4), (5, .int x5), (6, .int x6), (7, .int x7)] [] S Q := by
  unfold T0
  have hm : Sm0 S S := Sm0.rf S
  refine tt_aload_n (k0 := 0) (by decide +kernel) rfl ?_
  refine tt_iconst (n := 0) (v := 0) (by decide +kernel) (by decide) ?_
  obtain ⟨f1, h⟩ := h
  refine tt_putI (k := 46) (by decide +kernel) KC_11 (by decide) w_911 rfl rfl f1 ?_
  generalize eS2 : sI S a0 (upd (tI S a0) 46 0) = S2
  have h := h S2 eS2.symm
  have hm : Sm0 S S2 := by rw [← eS2]; exact hm.I
  have f1 : te S2 a0 = some (.inr 11) := by rw [← eS2, te_sI]; exact f1
  refine tt_aload_n (k0 := 0) (by decide +kernel) rfl ?_
  refine tt_iconst (n := 0) (v := 0) (by decide +kernel) (by decide) ?_
  refine tt_callV (As := [.int 0]) (rest := []) (ci := 11) (r0 := (R_11, F_11, 55)) (by decide +kernel) LK_M_say w_1120 w_1122 (in_p (n := 55) 38 rfl) (by decide) (by decide) rfl rfl (Nat.le_of_ble_eq_true rfl) rfl rfl f1 (ct_mono h (fun r S3 h => ?_))
  obtain ⟨hm2, h⟩ := h
  obtain ⟨rfl, h⟩ := h
  show T G J_M_work 296 [(0, .ref a0), (1, .int x1), (2, .int x2), (3, .int x3), (4, .int x4), (5, .int x5), (6, .int x6), (7, .int x7)] [] S3 _
  have hm := hm.tr hm2
  have f1 : te S3 a0 = some (.inr 11) := by rw [hm2.1]; exact f1
  refine tt_aload_n (k0 := 0) (by decide +kernel) rfl ?_
  refine tt_iload (k0 := 6) (by decide +kernel) rfl ?_
  refine tt_callV (As := [.int x6]) (rest := []) (ci := 11) (r0 := (R_11, F_11, 55)) (by decide +kernel) LK_M_say w_1120 w_1122 (in_p (n := 55) 38 rfl) (by decide) (by decide) rfl rfl (Nat.le_of_ble_eq_true rfl) rfl rfl f1 (ct_mono h (fun r S4 h => ?_))
  obtain ⟨hm2, h⟩ := h
  obtain ⟨rfl, h⟩ := h
  show T G J_M_work 302 [(0, .ref a0), (1, .int x1), (2, .int x2), (3, .int x3), (4, .int x4), (5, .int x5), (6, .int x6), (7, .int x7)] [] S4 _
  have hm := hm.tr hm2
  have f1 : te S4 a0 = some (.inr 11) := by rw [hm2.1]; exact f1
  refine tt_iload_n (k0 := 2) (by decide +kernel) rfl ?_
  refine tt_if_ne (off := 46) 349 (by decide +kernel) (by decide) (fun c => ?_) (fun c => ?_)
  · have h := h.1 c
    exact tt_mono h (fun r S' q => ⟨hm.tr q.1, q.2⟩)
  · have h := h.2 c
    refine tt_iload (k0 := 6) (by decide +kernel) rfl ?_
    refine tt_if_ne (off := 41) 349 (by decide +kernel) (by decide) (fun c => ?_) (fun c => ?_)
    · have h := h.1 c
      exact tt_mono h (fun r S' q => ⟨hm.tr q.1, q.2⟩)
    · have h := h.2 c
      refine tt_iconst (n := 0) (v := 0) (by decide +kernel) (by decide) ?_
      refine tt_istore (k0 := 8) (lv' := [(0, .ref a0), (1, .int x1), (2, .int x2), (3, .int x3), (4, .int x4), (5, .int x5), (6, .int x6), (7, .int x7), (8, .int 0)]) (by decide +kernel) (by decide) rfl ?_
      exact tt_mono h (fun r S' q => ⟨hm.tr q.1, q.2⟩)
set_option maxRecDepth 100000 in
theorem v_M_work_214 {G : pG} (a0 : Nat) (x1 : Int32) (x2 : Int32) (x3 : Int32) (x4 : Int32) (x5 : Int32) (x6 : Int32) (x7 : Int32) (S : TS) (Q : Option Value → TS → Prop)
    (h : ((¬ x2 = 4 → T0 G J_M_work 229 [(0, .ref a0), (1, .int x1), (2, .int x2), (3, .int x3), (4, .int x4), (5, .int x5), (6, .int x6), (7, .int x7)] [] S Q) ∧ (x2 = 4 → te S a0 = some (.inr 11) ∧ ∃ b2 : Nat, tR S a0 30 = some b2 ∧ ∃ n4 : Nat, te S b2 = some (.inl (.int, n4)) ∧ vp_in x5 n4 ∧ ∀ y6 : Int32, y6 = tI S b2 x5.toNatClampNeg → T0 G J_M_work 235 [(0, .ref a0), (1, .int x1), (2, .int x2), (3, .int x3), (4, .int x4), (5, .int x5), (6, .int x6), (7, .int x7), (8, .int y6), (9, .int 0)] [] S Q))) :
    T0 G J_M_work 214 [(0, .ref a0), (1, .int x1), (2, .int x2), (3, .int x3), (4, .int x4), (5, .int x5), (6, .int x6), (7, .int x7)] [] S Q := by
  unfold T0
  have hm : Sm0 S S := Sm0.rf S
  refine tt_iload_n (k0 := 2) (by decide +kernel) rfl ?_
  refine tt_iconst (n := 4) (v := 4) (by decide +kernel) (by decide) ?_
  refine tt_icmp_ne (off := 13) 229 (by decide +kernel) (by decide) (fun c => ?_) (fun c => ?_)
  · have h := h.1 c
    exact tt_mono h (fun r S' q => ⟨hm.tr q.1, q.2⟩)
  · have h := h.2 c
    refine tt_aload_n (k0 := 0) (by decide +kernel) rfl ?_
    obtain ⟨f1, h⟩ := h
    obtain ⟨b2, f3, h⟩ := h
    refine tt_getR (k := 30) (by decide +kernel) KC_11 (by decide) w_895 (fun _ => rfl) f1 f3 ?_
    refine tt_iload (k0 := 5) (by decide +kernel) rfl ?_
    obtain ⟨n4, f5, h⟩ := h
    obtain ⟨g2, h⟩ := h
    refine tt_iald (by decide +kernel) f5 g2 ?_
    refine tt_goto (off := 4) (tgt := 230) (by decide +kernel) (by decide) ?_
    refine tt_topi (fun y6 ey6 => ?_)
    have h := h y6 ey6
    refine tt_istore (k0 := 8) (lv' := [(0, .ref a0), (1, .int x1), (2, .int x2), (3, .int x3), (4, .int x4), (5, .int x5), (6, .int x6), (7, .int x7), (8, .int y6)]) (by decide +kernel) (by decide) rfl ?_
    refine tt_iconst (n := 0) (v := 0) (by decide +kernel) (by decide) ?_
    refine tt_istore (k0 := 9) (lv' := [(0, .ref a0), (1, .int x1), (2, .int x2), (3, .int x3), (4, .int x4), (5, .int x5), (6, .int x6), (7, .int x7), (8, .int y6), (9, .int 0)]) (by decide +kernel) (by decide) rfl ?_
    exact tt_mono h (fun r S' q => ⟨hm.tr q.1, q.2⟩)
set_option maxRecDepth 100000 in
theorem v_M_work_180 {G : pG} (a0 : Nat) (x1 : Int32) (x2 : Int32) (x3 : Int32) (x4 : Int32) (x5 : Int32) (x6 : Int32) (x7 : Int32) (x8 : Int32) (S : TS) (Q : Option Value → TS → Prop)
    (h : ((x3 ≤ x8 → T0 G J_M_work 214 [(0, .ref a0), (1, .int x1), (2, .int x2), (3, .int x3), (4, .int x4), (5, .int x5), (6, .int x6), (7, .int x7)] [] S Q) ∧ (¬ (x3 ≤ x8) → te S a0 = some (.inr 11) ∧ ∃ b2 : Nat, tR S a0 27 = some b2 ∧ ∃ b4 : Nat, tR S a0 45 = some b4 ∧ ∃ n6 : Nat, te S b4 = some (.inl (.byte, n6)) ∧ vp_in ((3 : Int32) + x8) n6 ∧ ∃ n8 : Nat, te S b2 = some (.inl (.byte, n8)) ∧ vp_in (((16 : Int32) * x5) + x8) n8 ∧ ∀ S10 : TS, S10 = sI S b2 (upd (tI S b2) (((16 : Int32) * x5) + x8).toNatClampNeg (tI S b4 ((3 : Int32) + x8).toNatClampNeg : Int32).toInt8.toInt32) → ∀ y11 : Int32, y11 = x8 + 1 → T0 G J_M_work 180 [(0, .ref a0), (1, .int x1), (2, .int x2), (3, .int x3), (4, .int x4), (5, .int x5), (6, .int x6), (7, .int x7), (8, .int y11)] [] S10 Q))) :
    T0 G J_M_work 180 [(0, .ref a0), (1, .int x1), (2, .int x2), (3, .int x3), (4, .int x4), (5, .int x5), (6, .int x6), (7, .int x7), (8, .int x8)] [] S Q := by
  unfold T0
  have hm : Sm0 S S := Sm0.rf S
  refine tt_iload (k0 := 8) (by decide +kernel) rfl ?_
  refine tt_iload_n (k0 := 3) (by decide +kernel) rfl ?_
  refine tt_icmp_ge (off := 31) 214 (by decide +kernel) (by decide) (fun c => ?_) (fun c => ?_)
  · have h := h.1 c
    refine tt_lv [(0, .ref a0), (1, .int x1), (2, .int x2), (3, .int x3), (4, .int x4), (5, .int x5), (6, .int x6), (7, .int x7)] (by simp) ?_
    exact tt_mono h (fun r S' q => ⟨hm.tr q.1, q.2⟩)
  · have h := h.2 c
    refine tt_aload_n (k0 := 0) (by decide +kernel) rfl ?_
    obtain ⟨f1, h⟩ := h
    obtain ⟨b2, f3, h⟩ := h
    refine tt_getR (k := 27) (by decide +kernel) KC_11 (by decide) w_892 (fun _ => rfl) f1 f3 ?_
    refine tt_bipush (n := 16) (v := 16) (by decide +kernel) (by decide) ?_
    refine tt_iload (k0 := 5) (by decide +kernel) rfl ?_
    refine tt_imul (by decide +kernel) ?_
    refine tt_iload (k0 := 8) (by decide +kernel) rfl ?_
    refine tt_iadd (by decide +kernel) ?_
    refine tt_aload_n (k0 := 0) (by decide +kernel) rfl ?_
    obtain ⟨b4, f5, h⟩ := h
    refine tt_getR (k := 45) (by decide +kernel) KC_11 (by decide) w_910 (fun _ => rfl) f1 f5 ?_
    refine tt_iconst (n := 3) (v := 3) (by decide +kernel) (by decide) ?_
    refine tt_iload (k0 := 8) (by decide +kernel) rfl ?_
    refine tt_iadd (by decide +kernel) ?_
    obtain ⟨n6, f7, h⟩ := h
    obtain ⟨g2, h⟩ := h
    refine tt_bald (by decide +kernel) f7 g2 ?_
    obtain ⟨n8, f9, h⟩ := h
    obtain ⟨g2, h⟩ := h
    refine tt_bast (by decide +kernel) f9 g2 ?_
    generalize eS10 : sI S b2 (upd (tI S b2) (((16 : Int32) * x5) + x8).toNatClampNeg (tI S b4 ((3 : Int32) + x8).toNatClampNeg : Int32).toInt8.toInt32) = S10
    have h := h S10 eS10.symm
    have hm : Sm0 S S10 := by rw [← eS10]; exact hm.I
    have f1 : te S10 a0 = some (.inr 11) := by rw [← eS10, te_sI]; exact f1
    have f3 : tR S10 a0 27 = some b2 := by rw [← eS10, tR_sI]; exact f3
    have f5 : tR S10 a0 45 = some b4 := by rw [← eS10, tR_sI]; exact f5
    have f7 : te S10 b4 = some (.inl (.byte, n6)) := by rw [← eS10, te_sI]; exact f7
    have f9 : te S10 b2 = some (.inl (.byte, n8)) := by rw [← eS10, te_sI]; exact f9
    obtain ⟨y11, ey11⟩ : ∃ y : Int32, y = x8 + 1 := ⟨_, rfl⟩
    have h := h y11 ey11
    refine tt_iinc (i := 8) (n := 1) (v := y11) (lv' := [(0, .ref a0), (1, .int x1), (2, .int x2), (3, .int x3), (4, .int x4), (5, .int x5), (6, .int x6), (7, .int x7), (8, .int y11)]) (by decide +kernel) (by decide) rfl ey11.symm rfl ?_
    refine tt_goto (off := -31) (tgt := 180) (by decide +kernel) (by decide) ?_
    exact tt_mono h (fun r S' q => ⟨hm.tr q.1, q.2⟩)
set_option maxRecDepth 100000 in
theorem v_M_work_349 {G : pG} (a0 : Nat) (x1 : Int32) (x2 : Int32) (x3 : Int32) (x4 : Int32) (x5 : Int32) (x6 : Int32) (x7 : Int32) (S : TS) (Q : Option Value → TS → Prop)
    (h : ((¬ x2 = 2 → T0 G J_M_work 365 [(0, .ref a0), (1, .int x1), (2, .int x2), (3, .int x3), (4, .int x4), (5, .int x5), (6, .int x6), (7, .int x7)] [] S Q) ∧ (x2 = 2 → ((¬ x6 = 0 → T0 G J_M_work 365 [(0, .ref a0), (1, .int x1), (2, .int x2), (3, .int x3), (4, .int x4), (5, .int x5), (6, .int x6), (7, .int x7)] [] S Q) ∧ (x6 = 0 → te S a0 = some (.inr 11) ∧ C0 G J_M_remove [.ref a0, .int x5] S (fun r S2 => r = none ∧ T0 G J_M_work 365 [(0, .ref a0), (1, .int x1), (2, .int x2), (3, .int x3), (4, .int x4), (5, .int x5), (6, .int x6), (7, .int x7)] [] S2 Q)))))) :
    T0 G J_M_work 349 [(0, .ref a0), (1, .int x1), (2, .int x2), (3, .int x3), (4, .int x4), (5, .int x5), (6, .int x6), (7, .int x7)] [] S Q := by
  unfold T0
  have hm : Sm0 S S := Sm0.rf S
  refine tt_iload_n (k0 := 2) (by decide +kernel) rfl ?_
  refine tt_iconst (n := 2) (v := 2) (by decide +kernel) (by decide) ?_
  refine tt_icmp_ne (off := 14) 365 (by decide +kernel) (by decide) (fun c => ?_) (fun c => ?_)
  · have h := h.1 c
    exact tt_mono h (fun r S' q => ⟨hm.tr q.1, q.2⟩)
  · have h := h.2 c
    refine tt_iload (k0 := 6) (by decide +kernel) rfl ?_
    refine tt_if_ne (off := 9) 365 (by decide +kernel) (by decide) (fun c => ?_) (fun c => ?_)
    · have h := h.1 c
      exact tt_mono h (fun r S' q => ⟨hm.tr q.1, q.2⟩)
    · have h := h.2 c
      refine tt_aload_n (k0 := 0) (by decide +kernel) rfl ?_
      refine tt_iload (k0 := 5) (by decide +kernel) rfl ?_
      obtain ⟨f1, h⟩ := h
      refine tt_callV (As := [.int x5]) (rest := []) (ci := 11) (r0 := (R_11, F_11, 55)) (by decide +kernel) LK_M_remove w_1241 w_1243 (in_p (n := 55) 61 rfl) (by decide) (by decide) rfl rfl (Nat.le_of_ble_eq_true rfl) rfl rfl f1 (ct_mono h (fun r S2 h => ?_))
      obtain ⟨hm2, h⟩ := h
      obtain ⟨rfl, h⟩ := h
      show T G J_M_work 365 [(0, .ref a0), (1, .int x1), (2, .int x2), (3, .int x3), (4, .int x4), (5, .int x5), (6, .int x6), (7, .int x7)] [] S2 _
      have hm := hm.tr hm2
      have f1 : te S2 a0 = some (.inr 11) := by rw [hm2.1]; exact f1
      exact tt_mono h (fun r S' q => ⟨hm.tr q.1, q.2⟩)
set_option maxRecDepth 100000 in
theorem v_M_work_314 {G : pG} (a0 : Nat) (x1 : Int32) (x2 : Int32) (x3 : Int32) (x4 : Int32) (x5 : Int32) (x6 : Int32) (x7 : Int32) (x8 : Int32) (S : TS) (Q : Option Value → TS → Prop)
    (h : te S a0 = some (.inr 11) ∧ ∃ b2 : Nat, tR S a0 30 = some b2 ∧ ∃ n4 : Nat, te S b2 = some (.inl (.int, n4)) ∧ vp_in x5 n4 ∧ ((tI S b2 x5.toNatClampNeg ≤ x8 → T0 G J_M_work 349 [(0, .ref a0), (1, .int x1), (2, .int x2), (3, .int x3), (4, .int x4), (5, .int x5), (6, .int x6), (7, .int x7)] [] S Q) ∧ (¬ (tI S b2 x5.toNatClampNeg ≤ x8) → ∃ b6 : Nat, tR S a0 29 = some b6 ∧ ∃ n8 : Nat, te S b6 = some (.inl (.byte, n8)) ∧ vp_in (((64 : Int32) * x5) + x8) n8 ∧ C0 G J_M_say [.ref a0, .int (tI S b6 (((64 : Int32) * x5) + x8).toNatClampNeg)] S (fun r S10 => r = none ∧ ∀ y11 : Int32, y11 = x8 + 1 → T0 G J_M_work 314 [(0, .ref a0), (1, .int x1), (2, .int x2), (3, .int x3), (4, .int x4), (5, .int x5), (6, .int x6), (7, .int x7), (8, .int y11)] [] S10 Q)))) :
    T0 G J_M_work 314 [(0, .ref a0), (1, .int x1), (2, .int x2), (3, .int x3), (4, .int x4), (5, .int x5), (6, .int x6), (7, .int x7), (8, .int x8)] [] S Q := by
  unfold T0
  have hm : Sm0 S S := Sm0.rf S
  refine tt_iload (k0 := 8) (by decide +kernel) rfl ?_
  refine tt_aload_n (k0 := 0) (by decide +kernel) rfl ?_
  obtain ⟨f1, h⟩ := h
  obtain ⟨b2, f3, h⟩ := h
  refine tt_getR (k := 30) (by decide +kernel) KC_11 (by decide) w_895 (fun _ => rfl) f1 f3 ?_
  refine tt_iload (k0 := 5) (by decide +kernel) rfl ?_
  obtain ⟨n4, f5, h⟩ := h
  obtain ⟨g2, h⟩ := h
  refine tt_iald (by decide +kernel) f5 g2 ?_
  refine tt_icmp_ge (off := 26) 349 (by decide +kernel) (by decide) (fun c => ?_) (fun c => ?_)
  · have h := h.1 c
    refine tt_lv [(0, .ref a0), (1, .int x1), (2, .int x2), (3, .int x3), (4, .int x4), (5, .int x5), (6, .int x6), (7, .int x7)] (by simp) ?_
    exact tt_mono h (fun r S' q => ⟨hm.tr q.1, q.2⟩)
  · have h := h.2 c
    refine tt_aload_n (k0 := 0) (by decide +kernel) rfl ?_
    refine tt_aload_n (k0 := 0) (by decide +kernel) rfl ?_
    obtain ⟨b6, f7, h⟩ := h
    refine tt_getR (k := 29) (by decide +kernel) KC_11 (by decide) w_894 (fun _ => rfl) f1 f7 ?_
    refine tt_bipush (n := 64) (v := 64) (by decide +kernel) (by decide) ?_
    refine tt_iload (k0 := 5) (by decide +kernel) rfl ?_
    refine tt_imul (by decide +kernel) ?_
    refine tt_iload (k0 := 8) (by decide +kernel) rfl ?_
    refine tt_iadd (by decide +kernel) ?_
    obtain ⟨n8, f9, h⟩ := h
    obtain ⟨g2, h⟩ := h
    refine tt_bald (by decide +kernel) f9 g2 ?_
    refine tt_callV (As := [.int (tI S b6 (((64 : Int32) * x5) + x8).toNatClampNeg)]) (rest := []) (ci := 11) (r0 := (R_11, F_11, 55)) (by decide +kernel) LK_M_say w_1120 w_1122 (in_p (n := 55) 38 rfl) (by decide) (by decide) rfl rfl (Nat.le_of_ble_eq_true rfl) rfl rfl f1 (ct_mono h (fun r S10 h => ?_))
    obtain ⟨hm2, h⟩ := h
    obtain ⟨rfl, h⟩ := h
    show T G J_M_work 343 [(0, .ref a0), (1, .int x1), (2, .int x2), (3, .int x3), (4, .int x4), (5, .int x5), (6, .int x6), (7, .int x7), (8, .int x8)] [] S10 _
    have hm := hm.tr hm2
    have f1 : te S10 a0 = some (.inr 11) := by rw [hm2.1]; exact f1
    have f3 : tR S10 a0 30 = some b2 := by rw [hm2.R]; exact f3
    have f5 : te S10 b2 = some (.inl (.int, n4)) := by rw [hm2.1]; exact f5
    have f7 : tR S10 a0 29 = some b6 := by rw [hm2.R]; exact f7
    have f9 : te S10 b6 = some (.inl (.byte, n8)) := by rw [hm2.1]; exact f9
    obtain ⟨y11, ey11⟩ : ∃ y : Int32, y = x8 + 1 := ⟨_, rfl⟩
    have h := h y11 ey11
    refine tt_iinc (i := 8) (n := 1) (v := y11) (lv' := [(0, .ref a0), (1, .int x1), (2, .int x2), (3, .int x3), (4, .int x4), (5, .int x5), (6, .int x6), (7, .int x7), (8, .int y11)]) (by decide +kernel) (by decide) rfl ey11.symm rfl ?_
    refine tt_goto (off := -32) (tgt := 314) (by decide +kernel) (by decide) ?_
    exact tt_mono h (fun r S' q => ⟨hm.tr q.1, q.2⟩)
set_option maxRecDepth 100000 in
theorem v_M_work_229 {G : pG} (a0 : Nat) (x1 : Int32) (x2 : Int32) (x3 : Int32) (x4 : Int32) (x5 : Int32) (x6 : Int32) (x7 : Int32) (S : TS) (Q : Option Value → TS → Prop)
    (h : T0 G J_M_work 235 [(0, .ref a0), (1, .int x1), (2, .int x2), (3, .int x3), (4, .int x4), (5, .int x5), (6, .int x6), (7, .int x7), (8, .int 0), (9, .int 0)] [] S Q) :
    T0 G J_M_work 229 [(0, .ref a0), (1, .int x1), (2, .int x2), (3, .int x3), (4, .int x4), (5, .int x5), (6, .int x6), (7, .int x7)] [] S Q := by
  unfold T0
  have hm : Sm0 S S := Sm0.rf S
  refine tt_iconst (n := 0) (v := 0) (by decide +kernel) (by decide) ?_
  refine tt_istore (k0 := 8) (lv' := [(0, .ref a0), (1, .int x1), (2, .int x2), (3, .int x3), (4, .int x4), (5, .int x5), (6, .int x6), (7, .int x7), (8, .int 0)]) (by decide +kernel) (by decide) rfl ?_
  refine tt_iconst (n := 0) (v := 0) (by decide +kernel) (by decide) ?_
  refine tt_istore (k0 := 9) (lv' := [(0, .ref a0), (1, .int x1), (2, .int x2), (3, .int x3), (4, .int x4), (5, .int x5), (6, .int x6), (7, .int x7), (8, .int 0), (9, .int 0)]) (by decide +kernel) (by decide) rfl ?_
  exact tt_mono h (fun r S' q => ⟨hm.tr q.1, q.2⟩)
set_option maxRecDepth 100000 in
theorem v_M_work_235 {G : pG} (a0 : Nat) (x1 : Int32) (x2 : Int32) (x3 : Int32) (x4 : Int32) (x5 : Int32) (x6 : Int32) (x7 : Int32) (x8 : Int32) (x9 : Int32) (S : TS) (Q : Option Value → TS → Prop)
    (h : ((x7 ≤ x9 → T0 G J_M_work 274 [(0, .ref a0), (1, .int x1), (2, .int x2), (3, .int x3), (4, .int x4), (5, .int x5), (6, .int x6), (7, .int x7), (8, .int x8), (9, .int x9)] [] S Q) ∧ (¬ (x7 ≤ x9) → te S a0 = some (.inr 11) ∧ ∃ b2 : Nat, tR S a0 29 = some b2 ∧ ∃ b4 : Nat, tR S a0 45 = some b4 ∧ ∃ n6 : Nat, te S b4 = some (.inl (.byte, n6)) ∧ vp_in (x4 + x9) n6 ∧ ∃ n8 : Nat, te S b2 = some (.inl (.byte, n8)) ∧ vp_in ((((64 : Int32) * x5) + x8) + x9) n8 ∧ ∀ S10 : TS, S10 = sI S b2 (upd (tI S b2) ((((64 : Int32) * x5) + x8) + x9).toNatClampNeg (tI S b4 (x4 + x9).toNatClampNeg : Int32).toInt8.toInt32) → ∀ y11 : Int32, y11 = x9 + 1 → T0 G J_M_work 235 [(0, .ref a0), (1, .int x1), (2, .int x2), (3, .int x3), (4, .int x4), (5, .int x5), (6, .int x6), (7, .int x7), (8, .int x8), (9, .int y11)] [] S10 Q))) :
    T0 G J_M_work 235 [(0, .ref a0), (1, .int x1), (2, .int x2), (3, .int x3), (4, .int x4), (5, .int x5), (6, .int x6), (7, .int x7), (8, .int x8), (9, .int x9)] [] S Q := by
  unfold T0
  have hm : Sm0 S S := Sm0.rf S
  refine tt_iload (k0 := 9) (by decide +kernel) rfl ?_
  refine tt_iload (k0 := 7) (by decide +kernel) rfl ?_
  refine tt_icmp_ge (off := 35) 274 (by decide +kernel) (by decide) (fun c => ?_) (fun c => ?_)
  · have h := h.1 c
    exact tt_mono h (fun r S' q => ⟨hm.tr q.1, q.2⟩)
  · have h := h.2 c
    refine tt_aload_n (k0 := 0) (by decide +kernel) rfl ?_
    obtain ⟨f1, h⟩ := h
    obtain ⟨b2, f3, h⟩ := h
    refine tt_getR (k := 29) (by decide +kernel) KC_11 (by decide) w_894 (fun _ => rfl) f1 f3 ?_
    refine tt_bipush (n := 64) (v := 64) (by decide +kernel) (by decide) ?_
    refine tt_iload (k0 := 5) (by decide +kernel) rfl ?_
    refine tt_imul (by decide +kernel) ?_
    refine tt_iload (k0 := 8) (by decide +kernel) rfl ?_
    refine tt_iadd (by decide +kernel) ?_
    refine tt_iload (k0 := 9) (by decide +kernel) rfl ?_
    refine tt_iadd (by decide +kernel) ?_
    refine tt_aload_n (k0 := 0) (by decide +kernel) rfl ?_
    obtain ⟨b4, f5, h⟩ := h
    refine tt_getR (k := 45) (by decide +kernel) KC_11 (by decide) w_910 (fun _ => rfl) f1 f5 ?_
    refine tt_iload (k0 := 4) (by decide +kernel) rfl ?_
    refine tt_iload (k0 := 9) (by decide +kernel) rfl ?_
    refine tt_iadd (by decide +kernel) ?_
    obtain ⟨n6, f7, h⟩ := h
    obtain ⟨g2, h⟩ := h
    refine tt_bald (by decide +kernel) f7 g2 ?_
    obtain ⟨n8, f9, h⟩ := h
    obtain ⟨g2, h⟩ := h
    refine tt_bast (by decide +kernel) f9 g2 ?_
    generalize eS10 : sI S b2 (upd (tI S b2) ((((64 : Int32) * x5) + x8) + x9).toNatClampNeg (tI S b4 (x4 + x9).toNatClampNeg : Int32).toInt8.toInt32) = S10
    have h := h S10 eS10.symm
    have hm : Sm0 S S10 := by rw [← eS10]; exact hm.I
    have f1 : te S10 a0 = some (.inr 11) := by rw [← eS10, te_sI]; exact f1
    have f3 : tR S10 a0 29 = some b2 := by rw [← eS10, tR_sI]; exact f3
    have f5 : tR S10 a0 45 = some b4 := by rw [← eS10, tR_sI]; exact f5
    have f7 : te S10 b4 = some (.inl (.byte, n6)) := by rw [← eS10, te_sI]; exact f7
    have f9 : te S10 b2 = some (.inl (.byte, n8)) := by rw [← eS10, te_sI]; exact f9
    obtain ⟨y11, ey11⟩ : ∃ y : Int32, y = x9 + 1 := ⟨_, rfl⟩
    have h := h y11 ey11
    refine tt_iinc (i := 9) (n := 1) (v := y11) (lv' := [(0, .ref a0), (1, .int x1), (2, .int x2), (3, .int x3), (4, .int x4), (5, .int x5), (6, .int x6), (7, .int x7), (8, .int x8), (9, .int y11)]) (by decide +kernel) (by decide) rfl ey11.symm rfl ?_
    refine tt_goto (off := -36) (tgt := 235) (by decide +kernel) (by decide) ?_
    exact tt_mono h (fun r S' q => ⟨hm.tr q.1, q.2⟩)
set_option maxRecDepth 100000 in
theorem v_M_work_365 {G : pG} (a0 : Nat) (x1 : Int32) (x2 : Int32) (x3 : Int32) (x4 : Int32) (x5 : Int32) (x6 : Int32) (x7 : Int32) (S : TS) (Q : Option Value → TS → Prop)
    (h : te S a0 = some (.inr 11) ∧ ∀ S2 : TS, S2 = sI S a0 (upd (tI S a0) 34 ((tI S a0 34) + (1 : Int32))) → Q none S2) :
    T0 G J_M_work 365 [(0, .ref a0), (1, .int x1), (2, .int x2), (3, .int x3), (4, .int x4), (5, .int x5), (6, .int x6), (7, .int x7)] [] S Q := by
  unfold T0
  have hm : Sm0 S S := Sm0.rf S
  refine tt_aload_n (k0 := 0) (by decide +kernel) rfl ?_
  refine tt_dup (by decide +kernel) rfl ?_
  obtain ⟨f1, h⟩ := h
  refine tt_getI (k := 34) (by decide +kernel) KC_11 (by decide) w_899 (fun _ => rfl) f1 ?_
  refine tt_iconst (n := 1) (v := 1) (by decide +kernel) (by decide) ?_
  refine tt_iadd (by decide +kernel) ?_
  refine tt_putI (k := 34) (by decide +kernel) KC_11 (by decide) w_899 rfl rfl f1 ?_
  generalize eS2 : sI S a0 (upd (tI S a0) 34 ((tI S a0 34) + (1 : Int32))) = S2
  have h := h S2 eS2.symm
  have hm : Sm0 S S2 := by rw [← eS2]; exact hm.I
  have f1 : te S2 a0 = some (.inr 11) := by rw [← eS2, te_sI]; exact f1
  exact tt_vret (by decide +kernel) rfl ⟨hm, h⟩
set_option maxRecDepth 100000 in
theorem v_M_work_274 {G : pG} (a0 : Nat) (x1 : Int32) (x2 : Int32) (x3 : Int32) (x4 : Int32) (x5 : Int32) (x6 : Int32) (x7 : Int32) (x8 : Int32) (x9 : Int32) (S : TS) (Q : Option Value → TS → Prop)
    (h : te S a0 = some (.inr 11) ∧ ∃ b2 : Nat, tR S a0 30 = some b2 ∧ ∃ n4 : Nat, te S b2 = some (.inl (.int, n4)) ∧ vp_in x5 n4 ∧ ∀ S6 : TS, S6 = sI S b2 (upd (tI S b2) x5.toNatClampNeg (x8 + x7)) → T0 G J_M_work 286 [(0, .ref a0), (1, .int x1), (2, .int x2), (3, .int x3), (4, .int x4), (5, .int x5), (6, .int x6), (7, .int x7)] [] S6 Q) :
    T0 G J_M_work 274 [(0, .ref a0), (1, .int x1), (2, .int x2), (3, .int x3), (4, .int x4), (5, .int x5), (6, .int x6), (7, .int x7), (8, .int x8), (9, .int x9)] [] S Q := by
  unfold T0
  have hm : Sm0 S S := Sm0.rf S
  refine tt_aload_n (k0 := 0) (by decide +kernel) rfl ?_
  obtain ⟨f1, h⟩ := h
  obtain ⟨b2, f3, h⟩ := h
  refine tt_getR (k := 30) (by decide +kernel) KC_11 (by decide) w_895 (fun _ => rfl) f1 f3 ?_
  refine tt_iload (k0 := 5) (by decide +kernel) rfl ?_
  refine tt_iload (k0 := 8) (by decide +kernel) rfl ?_
  refine tt_iload (k0 := 7) (by decide +kernel) rfl ?_
  refine tt_iadd (by decide +kernel) ?_
  obtain ⟨n4, f5, h⟩ := h
  obtain ⟨g2, h⟩ := h
  refine tt_iast (by decide +kernel) f5 g2 ?_
  generalize eS6 : sI S b2 (upd (tI S b2) x5.toNatClampNeg (x8 + x7)) = S6
  have h := h S6 eS6.symm
  have hm : Sm0 S S6 := by rw [← eS6]; exact hm.I
  have f1 : te S6 a0 = some (.inr 11) := by rw [← eS6, te_sI]; exact f1
  have f3 : tR S6 a0 30 = some b2 := by rw [← eS6, tR_sI]; exact f3
  have f5 : te S6 b2 = some (.inl (.int, n4)) := by rw [← eS6, te_sI]; exact f5
  refine tt_lv [(0, .ref a0), (1, .int x1), (2, .int x2), (3, .int x3), (4, .int x4), (5, .int x5), (6, .int x6), (7, .int x7)] (by simp) ?_
  exact tt_mono h (fun r S' q => ⟨hm.tr q.1, q.2⟩)
set_option maxRecDepth 100000 in
theorem v_M_place {G : pG} (a0 : Nat) (a1 : Nat) (x2 : Int32) (x3 : Int32) (S : TS) (Q : Option Value → Prop)
    (h : TP G J_M_place 3 [(0, .ref a0), (1, .ref a1), (2, .int x2), (3, .int x3), (4, .int 0)] [] S Q) :
    CP G J_M_place [.ref a0, .ref a1, .int x2, .int x3] S Q := by
  unfold CP
  refine ct_of (by decide +kernel) (Nat.le_of_ble_eq_true rfl) (lv := [(0, .ref a0), (1, .ref a1), (2, .int x2), (3, .int x3)]) rfl ?_
  refine tt_iconst (n := 0) (v := 0) (by decide +kernel) (by decide) ?_
  refine tt_istore (k0 := 4) (lv' := [(0, .ref a0), (1, .ref a1), (2, .int x2), (3, .int x3), (4, .int 0)]) (by decide +kernel) (by decide) rfl ?_
  exact h
set_option maxRecDepth 100000 in
theorem v_M_place_3 {G : pG} (a0 : Nat) (a1 : Nat) (x2 : Int32) (x3 : Int32) (x4 : Int32) (S : TS) (Q : Option Value → Prop)
    (h : te S a0 = some (.inr 11) ∧ ((tI S a0 31 ≤ x4 → Q (some (.int ((-1))))) ∧ (¬ (tI S a0 31 ≤ x4) → ∃ b2 : Nat, tR S a0 28 = some b2 ∧ ∃ n4 : Nat, te S b2 = some (.inl (.int, n4)) ∧ vp_in x4 n4 ∧ ((¬ tI S b2 x4.toNatClampNeg = x3 → TP G J_M_place 33 [(0, .ref a0), (1, .ref a1), (2, .int x2), (3, .int x3), (4, .int x4), (5, .int 0), (6, .int 0)] [] S Q) ∧ (tI S b2 x4.toNatClampNeg = x3 → TP G J_M_place 33 [(0, .ref a0), (1, .ref a1), (2, .int x2), (3, .int x3), (4, .int x4), (5, .int 1), (6, .int 0)] [] S Q))))) :
    TP G J_M_place 3 [(0, .ref a0), (1, .ref a1), (2, .int x2), (3, .int x3), (4, .int x4)] [] S Q := by
  unfold TP
  refine tt_iload (k0 := 4) (by decide +kernel) rfl ?_
  refine tt_aload_n (k0 := 0) (by decide +kernel) rfl ?_
  obtain ⟨f1, h⟩ := h
  refine tt_getI (k := 31) (by decide +kernel) KC_11 (by decide) w_896 (fun _ => rfl) f1 ?_
  refine tt_icmp_ge (off := 84) 93 (by decide +kernel) (by decide) (fun c => ?_) (fun c => ?_)
  · have h := h.1 c
    refine tt_iconst (n := -1) (v := -1) (by decide +kernel) (by decide) ?_
    exact tt_iret (by decide +kernel) rfl ⟨rfl, h⟩
  · have h := h.2 c
    refine tt_aload_n (k0 := 0) (by decide +kernel) rfl ?_
    obtain ⟨b2, f3, h⟩ := h
    refine tt_getR (k := 28) (by decide +kernel) KC_11 (by decide) w_893 (fun _ => rfl) f1 f3 ?_
    refine tt_iload (k0 := 4) (by decide +kernel) rfl ?_
    obtain ⟨n4, f5, h⟩ := h
    obtain ⟨g2, h⟩ := h
    refine tt_iald (by decide +kernel) f5 g2 ?_
    refine tt_iload_n (k0 := 3) (by decide +kernel) rfl ?_
    refine tt_icmp_ne (off := 7) 27 (by decide +kernel) (by decide) (fun c => ?_) (fun c => ?_)
    · have h := h.1 c
      refine tt_iconst (n := 0) (v := 0) (by decide +kernel) (by decide) ?_
      refine tt_istore (k0 := 5) (lv' := [(0, .ref a0), (1, .ref a1), (2, .int x2), (3, .int x3), (4, .int x4), (5, .int 0)]) (by decide +kernel) (by decide) rfl ?_
      refine tt_iconst (n := 0) (v := 0) (by decide +kernel) (by decide) ?_
      refine tt_istore (k0 := 6) (lv' := [(0, .ref a0), (1, .ref a1), (2, .int x2), (3, .int x3), (4, .int x4), (5, .int 0), (6, .int 0)]) (by decide +kernel) (by decide) rfl ?_
      exact h
    · have h := h.2 c
      refine tt_iconst (n := 1) (v := 1) (by decide +kernel) (by decide) ?_
      refine tt_goto (off := 4) (tgt := 28) (by decide +kernel) (by decide) ?_
      refine tt_istore (k0 := 5) (lv' := [(0, .ref a0), (1, .ref a1), (2, .int x2), (3, .int x3), (4, .int x4), (5, .int 1)]) (by decide +kernel) (by decide) rfl ?_
      refine tt_iconst (n := 0) (v := 0) (by decide +kernel) (by decide) ?_
      refine tt_istore (k0 := 6) (lv' := [(0, .ref a0), (1, .ref a1), (2, .int x2), (3, .int x3), (4, .int x4), (5, .int 1), (6, .int 0)]) (by decide +kernel) (by decide) rfl ?_
      exact h
set_option maxRecDepth 100000 in
theorem v_M_place_33 {G : pG} (a0 : Nat) (a1 : Nat) (x2 : Int32) (x3 : Int32) (x4 : Int32) (x5 : Int32) (x6 : Int32) (S : TS) (Q : Option Value → Prop)
    (h : ((x3 ≤ x6 → ((x5 = 0 → ∀ y1 : Int32, y1 = x4 + 1 → TP G J_M_place 3 [(0, .ref a0), (1, .ref a1), (2, .int x2), (3, .int x3), (4, .int y1)] [] S Q) ∧ (¬ (x5 = 0) → Q (some (.int x4))))) ∧ (¬ (x3 ≤ x6) → ((x5 = 0 → ((x5 = 0 → ∀ y2 : Int32, y2 = x4 + 1 → TP G J_M_place 3 [(0, .ref a0), (1, .ref a1), (2, .int x2), (3, .int x3), (4, .int y2)] [] S Q) ∧ (¬ (x5 = 0) → Q (some (.int x4))))) ∧ (¬ (x5 = 0) → te S a0 = some (.inr 11) ∧ ∃ b4 : Nat, tR S a0 27 = some b4 ∧ ∃ n6 : Nat, te S b4 = some (.inl (.byte, n6)) ∧ vp_in (((16 : Int32) * x4) + x6) n6 ∧ ∃ n8 : Nat, te S a1 = some (.inl (.byte, n8)) ∧ vp_in (x2 + x6) n8 ∧ ((¬ tI S b4 (((16 : Int32) * x4) + x6).toNatClampNeg = tI S a1 (x2 + x6).toNatClampNeg → ∀ y10 : Int32, y10 = x6 + 1 → TP G J_M_place 33 [(0, .ref a0), (1, .ref a1), (2, .int x2), (3, .int x3), (4, .int x4), (5, .int 0), (6, .int y10)] [] S Q) ∧ (tI S b4 (((16 : Int32) * x4) + x6).toNatClampNeg = tI S a1 (x2 + x6).toNatClampNeg → ∀ y11 : Int32, y11 = x6 + 1 → TP G J_M_place 33 [(0, .ref a0), (1, .ref a1), (2, .int x2), (3, .int x3), (4, .int x4), (5, .int 1), (6, .int y11)] [] S Q))))))) :
    TP G J_M_place 33 [(0, .ref a0), (1, .ref a1), (2, .int x2), (3, .int x3), (4, .int x4), (5, .int x5), (6, .int x6)] [] S Q := by
  unfold TP
  refine tt_iload (k0 := 6) (by decide +kernel) rfl ?_
  refine tt_iload_n (k0 := 3) (by decide +kernel) rfl ?_
  refine tt_icmp_ge (off := 43) 79 (by decide +kernel) (by decide) (fun c => ?_) (fun c => ?_)
  · have h := h.1 c
    refine tt_iload (k0 := 5) (by decide +kernel) rfl ?_
    refine tt_if_eq (off := 6) 87 (by decide +kernel) (by decide) (fun c => ?_) (fun c => ?_)
    · have h := h.1 c
      obtain ⟨y1, ey1⟩ : ∃ y : Int32, y = x4 + 1 := ⟨_, rfl⟩
      have h := h y1 ey1
      refine tt_iinc (i := 4) (n := 1) (v := y1) (lv' := [(0, .ref a0), (1, .ref a1), (2, .int x2), (3, .int x3), (4, .int y1), (5, .int x5), (6, .int x6)]) (by decide +kernel) (by decide) rfl ey1.symm rfl ?_
      refine tt_goto (off := -87) (tgt := 3) (by decide +kernel) (by decide) ?_
      refine tt_lv [(0, .ref a0), (1, .ref a1), (2, .int x2), (3, .int x3), (4, .int y1)] (by simp) ?_
      exact h
    · have h := h.2 c
      refine tt_iload (k0 := 4) (by decide +kernel) rfl ?_
      exact tt_iret (by decide +kernel) rfl ⟨rfl, h⟩
  · have h := h.2 c
    refine tt_iload (k0 := 5) (by decide +kernel) rfl ?_
    refine tt_if_eq (off := 38) 79 (by decide +kernel) (by decide) (fun c => ?_) (fun c => ?_)
    · have h := h.1 c
      refine tt_iload (k0 := 5) (by decide +kernel) rfl ?_
      refine tt_if_eq (off := 6) 87 (by decide +kernel) (by decide) (fun c => ?_) (fun c => ?_)
      · have h := h.1 c
        obtain ⟨y2, ey2⟩ : ∃ y : Int32, y = x4 + 1 := ⟨_, rfl⟩
        have h := h y2 ey2
        refine tt_iinc (i := 4) (n := 1) (v := y2) (lv' := [(0, .ref a0), (1, .ref a1), (2, .int x2), (3, .int x3), (4, .int y2), (5, .int x5), (6, .int x6)]) (by decide +kernel) (by decide) rfl ey2.symm rfl ?_
        refine tt_goto (off := -87) (tgt := 3) (by decide +kernel) (by decide) ?_
        refine tt_lv [(0, .ref a0), (1, .ref a1), (2, .int x2), (3, .int x3), (4, .int y2)] (by simp) ?_
        exact h
      · have h := h.2 c
        refine tt_iload (k0 := 4) (by decide +kernel) rfl ?_
        exact tt_iret (by decide +kernel) rfl ⟨rfl, h⟩
    · have h := h.2 c
      refine tt_aload_n (k0 := 0) (by decide +kernel) rfl ?_
      obtain ⟨f3, h⟩ := h
      obtain ⟨b4, f5, h⟩ := h
      refine tt_getR (k := 27) (by decide +kernel) KC_11 (by decide) w_892 (fun _ => rfl) f3 f5 ?_
      refine tt_bipush (n := 16) (v := 16) (by decide +kernel) (by decide) ?_
      refine tt_iload (k0 := 4) (by decide +kernel) rfl ?_
      refine tt_imul (by decide +kernel) ?_
      refine tt_iload (k0 := 6) (by decide +kernel) rfl ?_
      refine tt_iadd (by decide +kernel) ?_
      obtain ⟨n6, f7, h⟩ := h
      obtain ⟨g2, h⟩ := h
      refine tt_bald (by decide +kernel) f7 g2 ?_
      refine tt_aload_n (k0 := 1) (by decide +kernel) rfl ?_
      refine tt_iload_n (k0 := 2) (by decide +kernel) rfl ?_
      refine tt_iload (k0 := 6) (by decide +kernel) rfl ?_
      refine tt_iadd (by decide +kernel) ?_
      obtain ⟨n8, f9, h⟩ := h
      obtain ⟨g2, h⟩ := h
      refine tt_bald (by decide +kernel) f9 g2 ?_
      refine tt_icmp_ne (off := 7) 70 (by decide +kernel) (by decide) (fun c => ?_) (fun c => ?_)
      · have h := h.1 c
        refine tt_iconst (n := 0) (v := 0) (by decide +kernel) (by decide) ?_
        refine tt_istore (k0 := 5) (lv' := [(0, .ref a0), (1, .ref a1), (2, .int x2), (3, .int x3), (4, .int x4), (5, .int 0), (6, .int x6)]) (by decide +kernel) (by decide) rfl ?_
        obtain ⟨y10, ey10⟩ : ∃ y : Int32, y = x6 + 1 := ⟨_, rfl⟩
        have h := h y10 ey10
        refine tt_iinc (i := 6) (n := 1) (v := y10) (lv' := [(0, .ref a0), (1, .ref a1), (2, .int x2), (3, .int x3), (4, .int x4), (5, .int 0), (6, .int y10)]) (by decide +kernel) (by decide) rfl ey10.symm rfl ?_
        refine tt_goto (off := -43) (tgt := 33) (by decide +kernel) (by decide) ?_
        exact h
      · have h := h.2 c
        refine tt_iconst (n := 1) (v := 1) (by decide +kernel) (by decide) ?_
        refine tt_goto (off := 4) (tgt := 71) (by decide +kernel) (by decide) ?_
        refine tt_istore (k0 := 5) (lv' := [(0, .ref a0), (1, .ref a1), (2, .int x2), (3, .int x3), (4, .int x4), (5, .int 1), (6, .int x6)]) (by decide +kernel) (by decide) rfl ?_
        obtain ⟨y11, ey11⟩ : ∃ y : Int32, y = x6 + 1 := ⟨_, rfl⟩
        have h := h y11 ey11
        refine tt_iinc (i := 6) (n := 1) (v := y11) (lv' := [(0, .ref a0), (1, .ref a1), (2, .int x2), (3, .int x3), (4, .int x4), (5, .int 1), (6, .int y11)]) (by decide +kernel) (by decide) rfl ey11.symm rfl ?_
        refine tt_goto (off := -43) (tgt := 33) (by decide +kernel) (by decide) ?_
        exact h
set_option maxRecDepth 100000 in
theorem v_M_remove {G : pG} (a0 : Nat) (x1 : Int32) (S : TS) (Q : Option Value → TS → Prop)
    (h : te S a0 = some (.inr 11) ∧ ∀ S2 : TS, S2 = sI S a0 (upd (tI S a0) 31 ((tI S a0 31) - (1 : Int32))) → ∃ b3 : Nat, tR S2 a0 28 = some b3 ∧ ∃ n5 : Nat, te S2 b3 = some (.inl (.int, n5)) ∧ vp_in (tI S2 a0 31) n5 ∧ vp_in x1 n5 ∧ ∀ S7 : TS, S7 = sI S2 b3 (upd (tI S2 b3) x1.toNatClampNeg (tI S2 b3 (tI S2 a0 31).toNatClampNeg)) → ∃ b8 : Nat, tR S7 a0 30 = some b8 ∧ ∃ n10 : Nat, te S7 b8 = some (.inl (.int, n10)) ∧ vp_in (tI S7 a0 31) n10 ∧ vp_in x1 n10 ∧ ∀ S12 : TS, S12 = sI S7 b8 (upd (tI S7 b8) x1.toNatClampNeg (tI S7 b8 (tI S7 a0 31).toNatClampNeg)) → T0 G J_M_remove 42 [(0, .ref a0), (1, .int x1), (2, .int 0)] [] S12 Q) :
    C0 G J_M_remove [.ref a0, .int x1] S Q := by
  unfold C0
  refine ct_of (by decide +kernel) (Nat.le_of_ble_eq_true rfl) (lv := [(0, .ref a0), (1, .int x1)]) rfl ?_
  have hm : Sm0 S S := Sm0.rf S
  refine tt_aload_n (k0 := 0) (by decide +kernel) rfl ?_
  refine tt_dup (by decide +kernel) rfl ?_
  obtain ⟨f1, h⟩ := h
  refine tt_getI (k := 31) (by decide +kernel) KC_11 (by decide) w_896 (fun _ => rfl) f1 ?_
  refine tt_iconst (n := 1) (v := 1) (by decide +kernel) (by decide) ?_
  refine tt_isub (by decide +kernel) ?_
  refine tt_putI (k := 31) (by decide +kernel) KC_11 (by decide) w_896 rfl rfl f1 ?_
  generalize eS2 : sI S a0 (upd (tI S a0) 31 ((tI S a0 31) - (1 : Int32))) = S2
  have h := h S2 eS2.symm
  have hm : Sm0 S S2 := by rw [← eS2]; exact hm.I
  have f1 : te S2 a0 = some (.inr 11) := by rw [← eS2, te_sI]; exact f1
  refine tt_aload_n (k0 := 0) (by decide +kernel) rfl ?_
  obtain ⟨b3, f4, h⟩ := h
  refine tt_getR (k := 28) (by decide +kernel) KC_11 (by decide) w_893 (fun _ => rfl) f1 f4 ?_
  refine tt_iload_n (k0 := 1) (by decide +kernel) rfl ?_
  refine tt_aload_n (k0 := 0) (by decide +kernel) rfl ?_
  refine tt_getR (k := 28) (by decide +kernel) KC_11 (by decide) w_893 (fun _ => rfl) f1 f4 ?_
  refine tt_aload_n (k0 := 0) (by decide +kernel) rfl ?_
  refine tt_getI (k := 31) (by decide +kernel) KC_11 (by decide) w_896 (fun _ => rfl) f1 ?_
  obtain ⟨n5, f6, h⟩ := h
  obtain ⟨g2, h⟩ := h
  refine tt_iald (by decide +kernel) f6 g2 ?_
  obtain ⟨g2, h⟩ := h
  refine tt_iast (by decide +kernel) f6 g2 ?_
  generalize eS7 : sI S2 b3 (upd (tI S2 b3) x1.toNatClampNeg (tI S2 b3 (tI S2 a0 31).toNatClampNeg)) = S7
  have h := h S7 eS7.symm
  have hm : Sm0 S S7 := by rw [← eS7]; exact hm.I
  have f1 : te S7 a0 = some (.inr 11) := by rw [← eS7, te_sI]; exact f1
  have f4 : tR S7 a0 28 = some b3 := by rw [← eS7, tR_sI]; exact f4
  have f6 : te S7 b3 = some (.inl (.int, n5)) := by rw [← eS7, te_sI]; exact f6
  refine tt_aload_n (k0 := 0) (by decide +kernel) rfl ?_
  obtain ⟨b8, f9, h⟩ := h
  refine tt_getR (k := 30) (by decide +kernel) KC_11 (by decide) w_895 (fun _ => rfl) f1 f9 ?_
  refine tt_iload_n (k0 := 1) (by decide +kernel) rfl ?_
  refine tt_aload_n (k0 := 0) (by decide +kernel) rfl ?_
  refine tt_getR (k := 30) (by decide +kernel) KC_11 (by decide) w_895 (fun _ => rfl) f1 f9 ?_
  refine tt_aload_n (k0 := 0) (by decide +kernel) rfl ?_
  refine tt_getI (k := 31) (by decide +kernel) KC_11 (by decide) w_896 (fun _ => rfl) f1 ?_
  obtain ⟨n10, f11, h⟩ := h
  obtain ⟨g2, h⟩ := h
  refine tt_iald (by decide +kernel) f11 g2 ?_
  obtain ⟨g2, h⟩ := h
  refine tt_iast (by decide +kernel) f11 g2 ?_
  generalize eS12 : sI S7 b8 (upd (tI S7 b8) x1.toNatClampNeg (tI S7 b8 (tI S7 a0 31).toNatClampNeg)) = S12
  have h := h S12 eS12.symm
  have hm : Sm0 S S12 := by rw [← eS12]; exact hm.I
  have f1 : te S12 a0 = some (.inr 11) := by rw [← eS12, te_sI]; exact f1
  have f4 : tR S12 a0 28 = some b3 := by rw [← eS12, tR_sI]; exact f4
  have f6 : te S12 b3 = some (.inl (.int, n5)) := by rw [← eS12, te_sI]; exact f6
  have f9 : tR S12 a0 30 = some b8 := by rw [← eS12, tR_sI]; exact f9
  have f11 : te S12 b8 = some (.inl (.int, n10)) := by rw [← eS12, te_sI]; exact f11
  refine tt_iconst (n := 0) (v := 0) (by decide +kernel) (by decide) ?_
  refine tt_istore_n (k0 := 2) (lv' := [(0, .ref a0), (1, .int x1), (2, .int 0)]) (by decide +kernel) (by decide) rfl ?_
  exact tt_mono h (fun r S' q => ⟨hm.tr q.1, q.2⟩)
set_option maxRecDepth 100000 in
theorem v_M_remove_42 {G : pG} (a0 : Nat) (x1 : Int32) (x2 : Int32) (S : TS) (Q : Option Value → TS → Prop)
    (h : ((16 ≤ x2 → T0 G J_M_remove 81 [(0, .ref a0), (1, .int x1), (2, .int 0)] [] S Q) ∧ (¬ (16 ≤ x2) → te S a0 = some (.inr 11) ∧ ∃ b2 : Nat, tR S a0 27 = some b2 ∧ ∃ n4 : Nat, te S b2 = some (.inl (.byte, n4)) ∧ vp_in (((16 : Int32) * (tI S a0 31)) + x2) n4 ∧ vp_in (((16 : Int32) * x1) + x2) n4 ∧ ∀ S6 : TS, S6 = sI S b2 (upd (tI S b2) (((16 : Int32) * x1) + x2).toNatClampNeg (tI S b2 (((16 : Int32) * (tI S a0 31)) + x2).toNatClampNeg : Int32).toInt8.toInt32) → ∀ y7 : Int32, y7 = x2 + 1 → T0 G J_M_remove 42 [(0, .ref a0), (1, .int x1), (2, .int y7)] [] S6 Q))) :
    T0 G J_M_remove 42 [(0, .ref a0), (1, .int x1), (2, .int x2)] [] S Q := by
  unfold T0
  have hm : Sm0 S S := Sm0.rf S
  refine tt_iload_n (k0 := 2) (by decide +kernel) rfl ?_
  refine tt_bipush (n := 16) (v := 16) (by decide +kernel) (by decide) ?_
  refine tt_icmp_ge (off := 34) 79 (by decide +kernel) (by decide) (fun c => ?_) (fun c => ?_)
  · have h := h.1 c
    refine tt_iconst (n := 0) (v := 0) (by decide +kernel) (by decide) ?_
    refine tt_istore_n (k0 := 2) (lv' := [(0, .ref a0), (1, .int x1), (2, .int 0)]) (by decide +kernel) (by decide) rfl ?_
    exact tt_mono h (fun r S' q => ⟨hm.tr q.1, q.2⟩)
  · have h := h.2 c
    refine tt_aload_n (k0 := 0) (by decide +kernel) rfl ?_
    obtain ⟨f1, h⟩ := h
    obtain ⟨b2, f3, h⟩ := h
    refine tt_getR (k := 27) (by decide +kernel) KC_11 (by decide) w_892 (fun _ => rfl) f1 f3 ?_
    refine tt_bipush (n := 16) (v := 16) (by decide +kernel) (by decide) ?_
    refine tt_iload_n (k0 := 1) (by decide +kernel) rfl ?_
    refine tt_imul (by decide +kernel) ?_
    refine tt_iload_n (k0 := 2) (by decide +kernel) rfl ?_
    refine tt_iadd (by decide +kernel) ?_
    refine tt_aload_n (k0 := 0) (by decide +kernel) rfl ?_
    refine tt_getR (k := 27) (by decide +kernel) KC_11 (by decide) w_892 (fun _ => rfl) f1 f3 ?_
    refine tt_bipush (n := 16) (v := 16) (by decide +kernel) (by decide) ?_
    refine tt_aload_n (k0 := 0) (by decide +kernel) rfl ?_
    refine tt_getI (k := 31) (by decide +kernel) KC_11 (by decide) w_896 (fun _ => rfl) f1 ?_
    refine tt_imul (by decide +kernel) ?_
    refine tt_iload_n (k0 := 2) (by decide +kernel) rfl ?_
    refine tt_iadd (by decide +kernel) ?_
    obtain ⟨n4, f5, h⟩ := h
    obtain ⟨g2, h⟩ := h
    refine tt_bald (by decide +kernel) f5 g2 ?_
    obtain ⟨g2, h⟩ := h
    refine tt_bast (by decide +kernel) f5 g2 ?_
    generalize eS6 : sI S b2 (upd (tI S b2) (((16 : Int32) * x1) + x2).toNatClampNeg (tI S b2 (((16 : Int32) * (tI S a0 31)) + x2).toNatClampNeg : Int32).toInt8.toInt32) = S6
    have h := h S6 eS6.symm
    have hm : Sm0 S S6 := by rw [← eS6]; exact hm.I
    have f1 : te S6 a0 = some (.inr 11) := by rw [← eS6, te_sI]; exact f1
    have f3 : tR S6 a0 27 = some b2 := by rw [← eS6, tR_sI]; exact f3
    have f5 : te S6 b2 = some (.inl (.byte, n4)) := by rw [← eS6, te_sI]; exact f5
    obtain ⟨y7, ey7⟩ : ∃ y : Int32, y = x2 + 1 := ⟨_, rfl⟩
    have h := h y7 ey7
    refine tt_iinc (i := 2) (n := 1) (v := y7) (lv' := [(0, .ref a0), (1, .int x1), (2, .int y7)]) (by decide +kernel) (by decide) rfl ey7.symm rfl ?_
    refine tt_goto (off := -34) (tgt := 42) (by decide +kernel) (by decide) ?_
    exact tt_mono h (fun r S' q => ⟨hm.tr q.1, q.2⟩)
set_option maxRecDepth 100000 in
theorem v_M_remove_81 {G : pG} (a0 : Nat) (x1 : Int32) (x2 : Int32) (S : TS) (Q : Option Value → TS → Prop)
    (h : ((64 ≤ x2 → Q none S) ∧ (¬ (64 ≤ x2) → te S a0 = some (.inr 11) ∧ ∃ b2 : Nat, tR S a0 29 = some b2 ∧ ∃ n4 : Nat, te S b2 = some (.inl (.byte, n4)) ∧ vp_in (((64 : Int32) * (tI S a0 31)) + x2) n4 ∧ vp_in (((64 : Int32) * x1) + x2) n4 ∧ ∀ S6 : TS, S6 = sI S b2 (upd (tI S b2) (((64 : Int32) * x1) + x2).toNatClampNeg (tI S b2 (((64 : Int32) * (tI S a0 31)) + x2).toNatClampNeg : Int32).toInt8.toInt32) → ∀ y7 : Int32, y7 = x2 + 1 → T0 G J_M_remove 81 [(0, .ref a0), (1, .int x1), (2, .int y7)] [] S6 Q))) :
    T0 G J_M_remove 81 [(0, .ref a0), (1, .int x1), (2, .int x2)] [] S Q := by
  unfold T0
  have hm : Sm0 S S := Sm0.rf S
  refine tt_iload_n (k0 := 2) (by decide +kernel) rfl ?_
  refine tt_bipush (n := 64) (v := 64) (by decide +kernel) (by decide) ?_
  refine tt_icmp_ge (off := 34) 118 (by decide +kernel) (by decide) (fun c => ?_) (fun c => ?_)
  · have h := h.1 c
    exact tt_vret (by decide +kernel) rfl ⟨hm, h⟩
  · have h := h.2 c
    refine tt_aload_n (k0 := 0) (by decide +kernel) rfl ?_
    obtain ⟨f1, h⟩ := h
    obtain ⟨b2, f3, h⟩ := h
    refine tt_getR (k := 29) (by decide +kernel) KC_11 (by decide) w_894 (fun _ => rfl) f1 f3 ?_
    refine tt_bipush (n := 64) (v := 64) (by decide +kernel) (by decide) ?_
    refine tt_iload_n (k0 := 1) (by decide +kernel) rfl ?_
    refine tt_imul (by decide +kernel) ?_
    refine tt_iload_n (k0 := 2) (by decide +kernel) rfl ?_
    refine tt_iadd (by decide +kernel) ?_
    refine tt_aload_n (k0 := 0) (by decide +kernel) rfl ?_
    refine tt_getR (k := 29) (by decide +kernel) KC_11 (by decide) w_894 (fun _ => rfl) f1 f3 ?_
    refine tt_bipush (n := 64) (v := 64) (by decide +kernel) (by decide) ?_
    refine tt_aload_n (k0 := 0) (by decide +kernel) rfl ?_
    refine tt_getI (k := 31) (by decide +kernel) KC_11 (by decide) w_896 (fun _ => rfl) f1 ?_
    refine tt_imul (by decide +kernel) ?_
    refine tt_iload_n (k0 := 2) (by decide +kernel) rfl ?_
    refine tt_iadd (by decide +kernel) ?_
    obtain ⟨n4, f5, h⟩ := h
    obtain ⟨g2, h⟩ := h
    refine tt_bald (by decide +kernel) f5 g2 ?_
    obtain ⟨g2, h⟩ := h
    refine tt_bast (by decide +kernel) f5 g2 ?_
    generalize eS6 : sI S b2 (upd (tI S b2) (((64 : Int32) * x1) + x2).toNatClampNeg (tI S b2 (((64 : Int32) * (tI S a0 31)) + x2).toNatClampNeg : Int32).toInt8.toInt32) = S6
    have h := h S6 eS6.symm
    have hm : Sm0 S S6 := by rw [← eS6]; exact hm.I
    have f1 : te S6 a0 = some (.inr 11) := by rw [← eS6, te_sI]; exact f1
    have f3 : tR S6 a0 29 = some b2 := by rw [← eS6, tR_sI]; exact f3
    have f5 : te S6 b2 = some (.inl (.byte, n4)) := by rw [← eS6, te_sI]; exact f5
    obtain ⟨y7, ey7⟩ : ∃ y : Int32, y = x2 + 1 := ⟨_, rfl⟩
    have h := h y7 ey7
    refine tt_iinc (i := 2) (n := 1) (v := y7) (lv' := [(0, .ref a0), (1, .int x1), (2, .int y7)]) (by decide +kernel) (by decide) rfl ey7.symm rfl ?_
    refine tt_goto (off := -34) (tgt := 81) (by decide +kernel) (by decide) ?_
    exact tt_mono h (fun r S' q => ⟨hm.tr q.1, q.2⟩)
set_option maxRecDepth 100000 in
theorem v_M_take {G : pG} (a0 : Nat) (x1 : Int32) (x2 : Int32) (S : TS) (Q : Option Value → TS → Prop)
    (h : T0 G J_M_take 2 [(0, .ref a0), (1, .int x1), (2, .int x2), (3, .int x2)] [] S Q) :
    C0 G J_M_take [.ref a0, .int x1, .int x2] S Q := by
  unfold C0
  refine ct_of (by decide +kernel) (Nat.le_of_ble_eq_true rfl) (lv := [(0, .ref a0), (1, .int x1), (2, .int x2)]) rfl ?_
  have hm : Sm0 S S := Sm0.rf S
  refine tt_iload_n (k0 := 2) (by decide +kernel) rfl ?_
  refine tt_istore_n (k0 := 3) (lv' := [(0, .ref a0), (1, .int x1), (2, .int x2), (3, .int x2)]) (by decide +kernel) (by decide) rfl ?_
  exact tt_mono h (fun r S' q => ⟨hm.tr q.1, q.2⟩)
set_option maxRecDepth 100000 in
theorem v_M_take_2 {G : pG} (a0 : Nat) (x1 : Int32) (x2 : Int32) (x3 : Int32) (S : TS) (Q : Option Value → TS → Prop)
    (h : te S a0 = some (.inr 11) ∧ ∃ b2 : Nat, tR S a0 24 = some b2 ∧ ∃ n4 : Nat, te S b2 = some (.inl (.int, n4)) ∧ vp_in x1 n4 ∧ ((tI S b2 x1.toNatClampNeg ≤ x3 + (1 : Int32) → vp_in x1 n4 ∧ vp_in x1 n4 ∧ ∀ S6 : TS, S6 = sI S b2 (upd (tI S b2) x1.toNatClampNeg ((tI S b2 x1.toNatClampNeg) - (1 : Int32))) → Q none S6) ∧ (¬ (tI S b2 x1.toNatClampNeg ≤ x3 + (1 : Int32)) → ∃ b7 : Nat, tR S a0 23 = some b7 ∧ ∃ n9 : Nat, te S b7 = some (.inl (.int, n9)) ∧ vp_in (((x1 * (12 : Int32)) + x3) + (1 : Int32)) n9 ∧ vp_in ((x1 * (12 : Int32)) + x3) n9 ∧ ∀ S11 : TS, S11 = sI S b7 (upd (tI S b7) ((x1 * (12 : Int32)) + x3).toNatClampNeg (tI S b7 (((x1 * (12 : Int32)) + x3) + (1 : Int32)).toNatClampNeg)) → T0 G J_M_take 41 [(0, .ref a0), (1, .int x1), (2, .int x2), (3, .int x3), (4, .int 0)] [] S11 Q))) :
    T0 G J_M_take 2 [(0, .ref a0), (1, .int x1), (2, .int x2), (3, .int x3)] [] S Q := by
  unfold T0
  have hm : Sm0 S S := Sm0.rf S
  refine tt_iload_n (k0 := 3) (by decide +kernel) rfl ?_
  refine tt_iconst (n := 1) (v := 1) (by decide +kernel) (by decide) ?_
  refine tt_iadd (by decide +kernel) ?_
  refine tt_aload_n (k0 := 0) (by decide +kernel) rfl ?_
  obtain ⟨f1, h⟩ := h
  obtain ⟨b2, f3, h⟩ := h
  refine tt_getR (k := 24) (by decide +kernel) KC_11 (by decide) w_889 (fun _ => rfl) f1 f3 ?_
  refine tt_iload_n (k0 := 1) (by decide +kernel) rfl ?_
  obtain ⟨n4, f5, h⟩ := h
  obtain ⟨g2, h⟩ := h
  refine tt_iald (by decide +kernel) f5 g2 ?_
  refine tt_icmp_ge (off := 80) 91 (by decide +kernel) (by decide) (fun c => ?_) (fun c => ?_)
  · have h := h.1 c
    refine tt_aload_n (k0 := 0) (by decide +kernel) rfl ?_
    refine tt_getR (k := 24) (by decide +kernel) KC_11 (by decide) w_889 (fun _ => rfl) f1 f3 ?_
    refine tt_iload_n (k0 := 1) (by decide +kernel) rfl ?_
    refine tt_dup2_11 (by decide +kernel) rfl rfl ?_
    obtain ⟨g2, h⟩ := h
    refine tt_iald (by decide +kernel) f5 g2 ?_
    refine tt_iconst (n := 1) (v := 1) (by decide +kernel) (by decide) ?_
    refine tt_isub (by decide +kernel) ?_
    obtain ⟨g2, h⟩ := h
    refine tt_iast (by decide +kernel) f5 g2 ?_
    generalize eS6 : sI S b2 (upd (tI S b2) x1.toNatClampNeg ((tI S b2 x1.toNatClampNeg) - (1 : Int32))) = S6
    have h := h S6 eS6.symm
    have hm : Sm0 S S6 := by rw [← eS6]; exact hm.I
    have f1 : te S6 a0 = some (.inr 11) := by rw [← eS6, te_sI]; exact f1
    have f3 : tR S6 a0 24 = some b2 := by rw [← eS6, tR_sI]; exact f3
    have f5 : te S6 b2 = some (.inl (.int, n4)) := by rw [← eS6, te_sI]; exact f5
    exact tt_vret (by decide +kernel) rfl ⟨hm, h⟩
  · have h := h.2 c
    refine tt_aload_n (k0 := 0) (by decide +kernel) rfl ?_
    obtain ⟨b7, f8, h⟩ := h
    refine tt_getR (k := 23) (by decide +kernel) KC_11 (by decide) w_888 (fun _ => rfl) f1 f8 ?_
    refine tt_iload_n (k0 := 1) (by decide +kernel) rfl ?_
    refine tt_bipush (n := 12) (v := 12) (by decide +kernel) (by decide) ?_
    refine tt_imul (by decide +kernel) ?_
    refine tt_iload_n (k0 := 3) (by decide +kernel) rfl ?_
    refine tt_iadd (by decide +kernel) ?_
    refine tt_aload_n (k0 := 0) (by decide +kernel) rfl ?_
    refine tt_getR (k := 23) (by decide +kernel) KC_11 (by decide) w_888 (fun _ => rfl) f1 f8 ?_
    refine tt_iload_n (k0 := 1) (by decide +kernel) rfl ?_
    refine tt_bipush (n := 12) (v := 12) (by decide +kernel) (by decide) ?_
    refine tt_imul (by decide +kernel) ?_
    refine tt_iload_n (k0 := 3) (by decide +kernel) rfl ?_
    refine tt_iadd (by decide +kernel) ?_
    refine tt_iconst (n := 1) (v := 1) (by decide +kernel) (by decide) ?_
    refine tt_iadd (by decide +kernel) ?_
    obtain ⟨n9, f10, h⟩ := h
    obtain ⟨g2, h⟩ := h
    refine tt_iald (by decide +kernel) f10 g2 ?_
    obtain ⟨g2, h⟩ := h
    refine tt_iast (by decide +kernel) f10 g2 ?_
    generalize eS11 : sI S b7 (upd (tI S b7) ((x1 * (12 : Int32)) + x3).toNatClampNeg (tI S b7 (((x1 * (12 : Int32)) + x3) + (1 : Int32)).toNatClampNeg)) = S11
    have h := h S11 eS11.symm
    have hm : Sm0 S S11 := by rw [← eS11]; exact hm.I
    have f1 : te S11 a0 = some (.inr 11) := by rw [← eS11, te_sI]; exact f1
    have f3 : tR S11 a0 24 = some b2 := by rw [← eS11, tR_sI]; exact f3
    have f5 : te S11 b2 = some (.inl (.int, n4)) := by rw [← eS11, te_sI]; exact f5
    have f8 : tR S11 a0 23 = some b7 := by rw [← eS11, tR_sI]; exact f8
    have f10 : te S11 b7 = some (.inl (.int, n9)) := by rw [← eS11, te_sI]; exact f10
    refine tt_iconst (n := 0) (v := 0) (by decide +kernel) (by decide) ?_
    refine tt_istore (k0 := 4) (lv' := [(0, .ref a0), (1, .int x1), (2, .int x2), (3, .int x3), (4, .int 0)]) (by decide +kernel) (by decide) rfl ?_
    exact tt_mono h (fun r S' q => ⟨hm.tr q.1, q.2⟩)
set_option maxRecDepth 100000 in
theorem v_M_take_41 {G : pG} (a0 : Nat) (x1 : Int32) (x2 : Int32) (x3 : Int32) (x4 : Int32) (S : TS) (Q : Option Value → TS → Prop)
    (h : ((200 ≤ x4 → ∀ y1 : Int32, y1 = x3 + 1 → T0 G J_M_take 2 [(0, .ref a0), (1, .int x1), (2, .int x2), (3, .int y1)] [] S Q) ∧ (¬ (200 ≤ x4) → te S a0 = some (.inr 11) ∧ ∃ b3 : Nat, tR S a0 22 = some b3 ∧ CP G J_M_at [.ref a0, .int x1, .int x3] S (fun r => ∃ r5 : Int32, r = some (.int r5) ∧ CP G J_M_at [.ref a0, .int x1, .int (x3 + (1 : Int32))] S (fun r => ∃ r6 : Int32, r = some (.int r6) ∧ ∃ n7 : Nat, te S b3 = some (.inl (.byte, n7)) ∧ vp_in (r6 + x4) n7 ∧ vp_in (r5 + x4) n7 ∧ ∀ S9 : TS, S9 = sI S b3 (upd (tI S b3) (r5 + x4).toNatClampNeg (tI S b3 (r6 + x4).toNatClampNeg : Int32).toInt8.toInt32) → ∀ y10 : Int32, y10 = x4 + 1 → T0 G J_M_take 41 [(0, .ref a0), (1, .int x1), (2, .int x2), (3, .int x3), (4, .int y10)] [] S9 Q))))) :
    T0 G J_M_take 41 [(0, .ref a0), (1, .int x1), (2, .int x2), (3, .int x3), (4, .int x4)] [] S Q := by
  unfold T0
  have hm : Sm0 S S := Sm0.rf S
  refine tt_iload (k0 := 4) (by decide +kernel) rfl ?_
  refine tt_sipush (n := 200) (v := 200) (by decide +kernel) (by decide) ?_
  refine tt_icmp_ge (off := 39) 85 (by decide +kernel) (by decide) (fun c => ?_) (fun c => ?_)
  · have h := h.1 c
    obtain ⟨y1, ey1⟩ : ∃ y : Int32, y = x3 + 1 := ⟨_, rfl⟩
    have h := h y1 ey1
    refine tt_iinc (i := 3) (n := 1) (v := y1) (lv' := [(0, .ref a0), (1, .int x1), (2, .int x2), (3, .int y1), (4, .int x4)]) (by decide +kernel) (by decide) rfl ey1.symm rfl ?_
    refine tt_goto (off := -86) (tgt := 2) (by decide +kernel) (by decide) ?_
    refine tt_lv [(0, .ref a0), (1, .int x1), (2, .int x2), (3, .int y1)] (by simp) ?_
    exact tt_mono h (fun r S' q => ⟨hm.tr q.1, q.2⟩)
  · have h := h.2 c
    refine tt_aload_n (k0 := 0) (by decide +kernel) rfl ?_
    obtain ⟨f2, h⟩ := h
    obtain ⟨b3, f4, h⟩ := h
    refine tt_getR (k := 22) (by decide +kernel) KC_11 (by decide) w_887 (fun _ => rfl) f2 f4 ?_
    refine tt_aload_n (k0 := 0) (by decide +kernel) rfl ?_
    refine tt_iload_n (k0 := 1) (by decide +kernel) rfl ?_
    refine tt_iload_n (k0 := 3) (by decide +kernel) rfl ?_
    refine tt_callV (As := [.int x1, .int x3]) (rest := [.ref b3]) (ci := 11) (r0 := (R_11, F_11, 55)) (by decide +kernel) LK_M_at w_1104 w_1106 (in_p (n := 55) 37 rfl) (by decide) (by decide) rfl rfl (Nat.le_of_ble_eq_true rfl) rfl rfl f2 (ct_mono h (fun r Sb h => ?_))
    obtain ⟨eb, h⟩ := h
    obtain ⟨r5, rfl, h⟩ := h
    rw [eb]
    show T G J_M_take 59 [(0, .ref a0), (1, .int x1), (2, .int x2), (3, .int x3), (4, .int x4)] [.int r5, .ref b3] S _
    refine tt_iload (k0 := 4) (by decide +kernel) rfl ?_
    refine tt_iadd (by decide +kernel) ?_
    refine tt_aload_n (k0 := 0) (by decide +kernel) rfl ?_
    refine tt_getR (k := 22) (by decide +kernel) KC_11 (by decide) w_887 (fun _ => rfl) f2 f4 ?_
    refine tt_aload_n (k0 := 0) (by decide +kernel) rfl ?_
    refine tt_iload_n (k0 := 1) (by decide +kernel) rfl ?_
    refine tt_iload_n (k0 := 3) (by decide +kernel) rfl ?_
    refine tt_iconst (n := 1) (v := 1) (by decide +kernel) (by decide) ?_
    refine tt_iadd (by decide +kernel) ?_
    refine tt_callV (As := [.int x1, .int (x3 + (1 : Int32))]) (rest := [.ref b3, .int (r5 + x4), .ref b3]) (ci := 11) (r0 := (R_11, F_11, 55)) (by decide +kernel) LK_M_at w_1104 w_1106 (in_p (n := 55) 37 rfl) (by decide) (by decide) rfl rfl (Nat.le_of_ble_eq_true rfl) rfl rfl f2 (ct_mono h (fun r Sb h => ?_))
    obtain ⟨eb, h⟩ := h
    obtain ⟨r6, rfl, h⟩ := h
    rw [eb]
    show T G J_M_take 74 [(0, .ref a0), (1, .int x1), (2, .int x2), (3, .int x3), (4, .int x4)] [.int r6, .ref b3, .int (r5 + x4), .ref b3] S _
    refine tt_iload (k0 := 4) (by decide +kernel) rfl ?_
    refine tt_iadd (by decide +kernel) ?_
    obtain ⟨n7, f8, h⟩ := h
    obtain ⟨g2, h⟩ := h
    refine tt_bald (by decide +kernel) f8 g2 ?_
    obtain ⟨g2, h⟩ := h
    refine tt_bast (by decide +kernel) f8 g2 ?_
    generalize eS9 : sI S b3 (upd (tI S b3) (r5 + x4).toNatClampNeg (tI S b3 (r6 + x4).toNatClampNeg : Int32).toInt8.toInt32) = S9
    have h := h S9 eS9.symm
    have hm : Sm0 S S9 := by rw [← eS9]; exact hm.I
    have f2 : te S9 a0 = some (.inr 11) := by rw [← eS9, te_sI]; exact f2
    have f4 : tR S9 a0 22 = some b3 := by rw [← eS9, tR_sI]; exact f4
    have f8 : te S9 b3 = some (.inl (.byte, n7)) := by rw [← eS9, te_sI]; exact f8
    obtain ⟨y10, ey10⟩ : ∃ y : Int32, y = x4 + 1 := ⟨_, rfl⟩
    have h := h y10 ey10
    refine tt_iinc (i := 4) (n := 1) (v := y10) (lv' := [(0, .ref a0), (1, .int x1), (2, .int x2), (3, .int x3), (4, .int y10)]) (by decide +kernel) (by decide) rfl ey10.symm rfl ?_
    refine tt_goto (off := -41) (tgt := 41) (by decide +kernel) (by decide) ?_
    exact tt_mono h (fun r S' q => ⟨hm.tr q.1, q.2⟩)
set_option maxRecDepth 100000 in
theorem v_M_wire {G : pG} (a0 : Nat) (x1 : Int32) (x2 : Int32) (x3 : Int32) (S : TS) (Q : Option Value → Prop)
    (h : te S a0 = some (.inr 11) ∧ CP G J_M_is [.ref a0, .int x1, .int x2] S (fun r => ∃ r2 : Int32, r = some (.int r2) ∧ ((¬ r2 = 0 → ∃ b3 : Nat, tR S a0 23 = some b3 ∧ ∃ n5 : Nat, te S b3 = some (.inl (.int, n5)) ∧ vp_in ((x1 * (12 : Int32)) + x2) n5 ∧ ∀ y7 : Int32, y7 = tI S b3 ((x1 * (12 : Int32)) + x2).toNatClampNeg → ((¬ x3 = (-1) → ((x3 < 0 → Q (some (.int ((-2))))) ∧ (¬ (x3 < 0) → ((x3 < y7 → ∃ b8 : Nat, tR S a0 22 = some b8 ∧ CP G J_M_at [.ref a0, .int x1, .int x2] S (fun r => ∃ r10 : Int32, r = some (.int r10) ∧ ∃ n11 : Nat, te S b8 = some (.inl (.byte, n11)) ∧ vp_in (r10 + x3) n11 ∧ Q (some (.int ((tI S b8 (r10 + x3).toNatClampNeg) &&& (255 : Int32)))))) ∧ (¬ (x3 < y7) → Q (some (.int ((-2))))))))) ∧ (x3 = (-1) → Q (some (.int y7))))) ∧ (r2 = 0 → Q (some (.int ((-2)))))))) :
    CP G J_M_wire [.ref a0, .int x1, .int x2, .int x3] S Q := by
  unfold CP
  refine ct_of (by decide +kernel) (Nat.le_of_ble_eq_true rfl) (lv := [(0, .ref a0), (1, .int x1), (2, .int x2), (3, .int x3)]) rfl ?_
  refine tt_aload_n (k0 := 0) (by decide +kernel) rfl ?_
  refine tt_iload_n (k0 := 1) (by decide +kernel) rfl ?_
  refine tt_iload_n (k0 := 2) (by decide +kernel) rfl ?_
  obtain ⟨f1, h⟩ := h
  refine tt_callV (As := [.int x1, .int x2]) (rest := []) (ci := 11) (r0 := (R_11, F_11, 55)) (by decide +kernel) LK_M_is w_1253 w_1255 (in_p (n := 55) 63 rfl) (by decide) (by decide) rfl rfl (Nat.le_of_ble_eq_true rfl) rfl rfl f1 (ct_mono h (fun r Sb h => ?_))
  obtain ⟨eb, h⟩ := h
  obtain ⟨r2, rfl, h⟩ := h
  rw [eb]
  show T G J_M_wire 6 [(0, .ref a0), (1, .int x1), (2, .int x2), (3, .int x3)] [.int r2] S _
  refine tt_if_ne (off := 6) 12 (by decide +kernel) (by decide) (fun c => ?_) (fun c => ?_)
  · have h := h.1 c
    refine tt_aload_n (k0 := 0) (by decide +kernel) rfl ?_
    obtain ⟨b3, f4, h⟩ := h
    refine tt_getR (k := 23) (by decide +kernel) KC_11 (by decide) w_888 (fun _ => rfl) f1 f4 ?_
    refine tt_iload_n (k0 := 1) (by decide +kernel) rfl ?_
    refine tt_bipush (n := 12) (v := 12) (by decide +kernel) (by decide) ?_
    refine tt_imul (by decide +kernel) ?_
    refine tt_iload_n (k0 := 2) (by decide +kernel) rfl ?_
    refine tt_iadd (by decide +kernel) ?_
    obtain ⟨n5, f6, h⟩ := h
    obtain ⟨g2, h⟩ := h
    refine tt_iald (by decide +kernel) f6 g2 ?_
    refine tt_topi (fun y7 ey7 => ?_)
    have h := h y7 ey7
    refine tt_istore (k0 := 4) (lv' := [(0, .ref a0), (1, .int x1), (2, .int x2), (3, .int x3), (4, .int y7)]) (by decide +kernel) (by decide) rfl ?_
    refine tt_iload_n (k0 := 3) (by decide +kernel) rfl ?_
    refine tt_iconst (n := -1) (v := -1) (by decide +kernel) (by decide) ?_
    refine tt_icmp_ne (off := 6) 33 (by decide +kernel) (by decide) (fun c => ?_) (fun c => ?_)
    · have h := h.1 c
      refine tt_iload_n (k0 := 3) (by decide +kernel) rfl ?_
      refine tt_if_lt (off := 9) 43 (by decide +kernel) (by decide) (fun c => ?_) (fun c => ?_)
      · have h := h.1 c
        refine tt_bipush (n := -2) (v := -2) (by decide +kernel) (by decide) ?_
        refine tt_goto (off := 20) (tgt := 65) (by decide +kernel) (by decide) ?_
        exact tt_iret (by decide +kernel) rfl ⟨rfl, h⟩
      · have h := h.2 c
        refine tt_iload_n (k0 := 3) (by decide +kernel) rfl ?_
        refine tt_iload (k0 := 4) (by decide +kernel) rfl ?_
        refine tt_icmp_lt (off := 8) 48 (by decide +kernel) (by decide) (fun c => ?_) (fun c => ?_)
        · have h := h.1 c
          refine tt_aload_n (k0 := 0) (by decide +kernel) rfl ?_
          obtain ⟨b8, f9, h⟩ := h
          refine tt_getR (k := 22) (by decide +kernel) KC_11 (by decide) w_887 (fun _ => rfl) f1 f9 ?_
          refine tt_aload_n (k0 := 0) (by decide +kernel) rfl ?_
          refine tt_iload_n (k0 := 1) (by decide +kernel) rfl ?_
          refine tt_iload_n (k0 := 2) (by decide +kernel) rfl ?_
          refine tt_callV (As := [.int x1, .int x2]) (rest := [.ref b8]) (ci := 11) (r0 := (R_11, F_11, 55)) (by decide +kernel) LK_M_at w_1104 w_1106 (in_p (n := 55) 37 rfl) (by decide) (by decide) rfl rfl (Nat.le_of_ble_eq_true rfl) rfl rfl f1 (ct_mono h (fun r Sb h => ?_))
          obtain ⟨eb, h⟩ := h
          obtain ⟨r10, rfl, h⟩ := h
          rw [eb]
          show T G J_M_wire 58 [(0, .ref a0), (1, .int x1), (2, .int x2), (3, .int x3), (4, .int y7)] [.int r10, .ref b8] S _
          refine tt_iload_n (k0 := 3) (by decide +kernel) rfl ?_
          refine tt_iadd (by decide +kernel) ?_
          obtain ⟨n11, f12, h⟩ := h
          obtain ⟨g2, h⟩ := h
          refine tt_bald (by decide +kernel) f12 g2 ?_
          refine tt_sipush (n := 255) (v := 255) (by decide +kernel) (by decide) ?_
          refine tt_iand (by decide +kernel) ?_
          exact tt_iret (by decide +kernel) rfl ⟨rfl, h⟩
        · have h := h.2 c
          refine tt_bipush (n := -2) (v := -2) (by decide +kernel) (by decide) ?_
          refine tt_goto (off := 20) (tgt := 65) (by decide +kernel) (by decide) ?_
          exact tt_iret (by decide +kernel) rfl ⟨rfl, h⟩
    · have h := h.2 c
      refine tt_iload (k0 := 4) (by decide +kernel) rfl ?_
      exact tt_iret (by decide +kernel) rfl ⟨rfl, h⟩
  · have h := h.2 c
    refine tt_bipush (n := -2) (v := -2) (by decide +kernel) (by decide) ?_
    exact tt_iret (by decide +kernel) rfl ⟨rfl, h⟩
set_option maxRecDepth 100000 in
theorem v_M_is {G : pG} (a0 : Nat) (x1 : Int32) (x2 : Int32) (S : TS) (Q : Option Value → Prop)
    (h : CP G J_M_side [.int x1] S (fun r => ∃ r1 : Int32, r = some (.int r1) ∧ ((r1 = 0 → Q (some (.int 0))) ∧ (¬ (r1 = 0) → ((x2 < 0 → Q (some (.int 0))) ∧ (¬ (x2 < 0) → te S a0 = some (.inr 11) ∧ ∃ b3 : Nat, tR S a0 24 = some b3 ∧ ∃ n5 : Nat, te S b3 = some (.inl (.int, n5)) ∧ vp_in x1 n5 ∧ ((tI S b3 x1.toNatClampNeg ≤ x2 → Q (some (.int 0))) ∧ (¬ (tI S b3 x1.toNatClampNeg ≤ x2) → Q (some (.int 1)))))))))) :
    CP G J_M_is [.ref a0, .int x1, .int x2] S Q := by
  unfold CP
  refine ct_of (by decide +kernel) (Nat.le_of_ble_eq_true rfl) (lv := [(0, .ref a0), (1, .int x1), (2, .int x2)]) rfl ?_
  refine tt_iload_n (k0 := 1) (by decide +kernel) rfl ?_
  refine tt_callS (As := [.int x1]) (rest := []) (by decide +kernel) LK_M_side w_1053 w_1054 (by decide) (by decide) rfl rfl (Nat.le_of_ble_eq_true rfl) (ct_mono h (fun r Sb h => ?_))
  obtain ⟨eb, h⟩ := h
  obtain ⟨r1, rfl, h⟩ := h
  rw [eb]
  show T G J_M_is 4 [(0, .ref a0), (1, .int x1), (2, .int x2)] [.int r1] S _
  refine tt_if_eq (off := 21) 25 (by decide +kernel) (by decide) (fun c => ?_) (fun c => ?_)
  · have h := h.1 c
    refine tt_iconst (n := 0) (v := 0) (by decide +kernel) (by decide) ?_
    exact tt_zret (by decide +kernel) rfl rfl ⟨rfl, h⟩
  · have h := h.2 c
    refine tt_iload_n (k0 := 2) (by decide +kernel) rfl ?_
    refine tt_if_lt (off := 17) 25 (by decide +kernel) (by decide) (fun c => ?_) (fun c => ?_)
    · have h := h.1 c
      refine tt_iconst (n := 0) (v := 0) (by decide +kernel) (by decide) ?_
      exact tt_zret (by decide +kernel) rfl rfl ⟨rfl, h⟩
    · have h := h.2 c
      refine tt_iload_n (k0 := 2) (by decide +kernel) rfl ?_
      refine tt_aload_n (k0 := 0) (by decide +kernel) rfl ?_
      obtain ⟨f2, h⟩ := h
      obtain ⟨b3, f4, h⟩ := h
      refine tt_getR (k := 24) (by decide +kernel) KC_11 (by decide) w_889 (fun _ => rfl) f2 f4 ?_
      refine tt_iload_n (k0 := 1) (by decide +kernel) rfl ?_
      obtain ⟨n5, f6, h⟩ := h
      obtain ⟨g2, h⟩ := h
      refine tt_iald (by decide +kernel) f6 g2 ?_
      refine tt_icmp_ge (off := 7) 25 (by decide +kernel) (by decide) (fun c => ?_) (fun c => ?_)
      · have h := h.1 c
        refine tt_iconst (n := 0) (v := 0) (by decide +kernel) (by decide) ?_
        exact tt_zret (by decide +kernel) rfl rfl ⟨rfl, h⟩
      · have h := h.2 c
        refine tt_iconst (n := 1) (v := 1) (by decide +kernel) (by decide) ?_
        refine tt_goto (off := 4) (tgt := 26) (by decide +kernel) (by decide) ?_
        exact tt_zret (by decide +kernel) rfl rfl ⟨rfl, h⟩
set_option maxRecDepth 100000 in
theorem v_M_flip {G : pG} (a0 : Nat) (x1 : Int32) (x2 : Int32) (x3 : Int32) (x4 : Int32) (S : TS) (Q : Option Value → TS → Prop)
    (h : te S a0 = some (.inr 11) ∧ CP G J_M_is [.ref a0, .int x1, .int x2] S (fun r => ∃ r2 : Int32, r = some (.int r2) ∧ ((r2 = 0 → Q (some (.int ((-2)))) S) ∧ (¬ (r2 = 0) → ((x3 < 0 → Q (some (.int ((-2)))) S) ∧ (¬ (x3 < 0) → ∃ b3 : Nat, tR S a0 23 = some b3 ∧ ∃ n5 : Nat, te S b3 = some (.inl (.int, n5)) ∧ vp_in ((x1 * (12 : Int32)) + x2) n5 ∧ ((x3 < tI S b3 ((x1 * (12 : Int32)) + x2).toNatClampNeg → ∃ b7 : Nat, tR S a0 22 = some b7 ∧ CP G J_M_at [.ref a0, .int x1, .int x2] S (fun r => ∃ r9 : Int32, r = some (.int r9) ∧ ∃ n10 : Nat, te S b7 = some (.inl (.byte, n10)) ∧ vp_in (r9 + x3) n10 ∧ vp_in (r9 + x3) n10 ∧ ∀ S12 : TS, S12 = sI S b7 (upd (tI S b7) (r9 + x3).toNatClampNeg (((tI S b7 (r9 + x3).toNatClampNeg) ^^^ ((x4 : Int32).toInt8.toInt32) : Int32).toInt8.toInt32 : Int32).toInt8.toInt32) → CP G J_M_at [.ref a0, .int x1, .int x2] S12 (fun r => ∃ r13 : Int32, r = some (.int r13) ∧ vp_in (r13 + x3) n10 ∧ Q (some (.int ((tI S12 b7 (r13 + x3).toNatClampNeg) &&& (255 : Int32)))) S12))) ∧ (¬ (x3 < tI S b3 ((x1 * (12 : Int32)) + x2).toNatClampNeg) → Q (some (.int ((-2)))) S)))))))) :
    C0 G J_M_flip [.ref a0, .int x1, .int x2, .int x3, .int x4] S Q := by
  unfold C0
  refine ct_of (by decide +kernel) (Nat.le_of_ble_eq_true rfl) (lv := [(0, .ref a0), (1, .int x1), (2, .int x2), (3, .int x3), (4, .int x4)]) rfl ?_
  have hm : Sm0 S S := Sm0.rf S
  refine tt_aload_n (k0 := 0) (by decide +kernel) rfl ?_
  refine tt_iload_n (k0 := 1) (by decide +kernel) rfl ?_
  refine tt_iload_n (k0 := 2) (by decide +kernel) rfl ?_
  obtain ⟨f1, h⟩ := h
  refine tt_callV (As := [.int x1, .int x2]) (rest := []) (ci := 11) (r0 := (R_11, F_11, 55)) (by decide +kernel) LK_M_is w_1253 w_1255 (in_p (n := 55) 63 rfl) (by decide) (by decide) rfl rfl (Nat.le_of_ble_eq_true rfl) rfl rfl f1 (ct_mono h (fun r Sb h => ?_))
  obtain ⟨eb, h⟩ := h
  obtain ⟨r2, rfl, h⟩ := h
  rw [eb]
  show T G J_M_flip 6 [(0, .ref a0), (1, .int x1), (2, .int x2), (3, .int x3), (4, .int x4)] [.int r2] S _
  refine tt_if_eq (off := 22) 28 (by decide +kernel) (by decide) (fun c => ?_) (fun c => ?_)
  · have h := h.1 c
    refine tt_bipush (n := -2) (v := -2) (by decide +kernel) (by decide) ?_
    exact tt_iret (by decide +kernel) rfl ⟨hm, h⟩
  · have h := h.2 c
    refine tt_iload_n (k0 := 3) (by decide +kernel) rfl ?_
    refine tt_if_lt (off := 18) 28 (by decide +kernel) (by decide) (fun c => ?_) (fun c => ?_)
    · have h := h.1 c
      refine tt_bipush (n := -2) (v := -2) (by decide +kernel) (by decide) ?_
      exact tt_iret (by decide +kernel) rfl ⟨hm, h⟩
    · have h := h.2 c
      refine tt_iload_n (k0 := 3) (by decide +kernel) rfl ?_
      refine tt_aload_n (k0 := 0) (by decide +kernel) rfl ?_
      obtain ⟨b3, f4, h⟩ := h
      refine tt_getR (k := 23) (by decide +kernel) KC_11 (by decide) w_888 (fun _ => rfl) f1 f4 ?_
      refine tt_iload_n (k0 := 1) (by decide +kernel) rfl ?_
      refine tt_bipush (n := 12) (v := 12) (by decide +kernel) (by decide) ?_
      refine tt_imul (by decide +kernel) ?_
      refine tt_iload_n (k0 := 2) (by decide +kernel) rfl ?_
      refine tt_iadd (by decide +kernel) ?_
      obtain ⟨n5, f6, h⟩ := h
      obtain ⟨g2, h⟩ := h
      refine tt_iald (by decide +kernel) f6 g2 ?_
      refine tt_icmp_lt (off := 6) 31 (by decide +kernel) (by decide) (fun c => ?_) (fun c => ?_)
      · have h := h.1 c
        refine tt_aload_n (k0 := 0) (by decide +kernel) rfl ?_
        obtain ⟨b7, f8, h⟩ := h
        refine tt_getR (k := 22) (by decide +kernel) KC_11 (by decide) w_887 (fun _ => rfl) f1 f8 ?_
        refine tt_aload_n (k0 := 0) (by decide +kernel) rfl ?_
        refine tt_iload_n (k0 := 1) (by decide +kernel) rfl ?_
        refine tt_iload_n (k0 := 2) (by decide +kernel) rfl ?_
        refine tt_callV (As := [.int x1, .int x2]) (rest := [.ref b7]) (ci := 11) (r0 := (R_11, F_11, 55)) (by decide +kernel) LK_M_at w_1104 w_1106 (in_p (n := 55) 37 rfl) (by decide) (by decide) rfl rfl (Nat.le_of_ble_eq_true rfl) rfl rfl f1 (ct_mono h (fun r Sb h => ?_))
        obtain ⟨eb, h⟩ := h
        obtain ⟨r9, rfl, h⟩ := h
        rw [eb]
        show T G J_M_flip 41 [(0, .ref a0), (1, .int x1), (2, .int x2), (3, .int x3), (4, .int x4)] [.int r9, .ref b7] S _
        refine tt_iload_n (k0 := 3) (by decide +kernel) rfl ?_
        refine tt_iadd (by decide +kernel) ?_
        refine tt_dup2_11 (by decide +kernel) rfl rfl ?_
        obtain ⟨n10, f11, h⟩ := h
        obtain ⟨g2, h⟩ := h
        refine tt_bald (by decide +kernel) f11 g2 ?_
        refine tt_iload (k0 := 4) (by decide +kernel) rfl ?_
        refine tt_i2b (by decide +kernel) ?_
        refine tt_ixor (by decide +kernel) ?_
        refine tt_i2b (by decide +kernel) ?_
        obtain ⟨g2, h⟩ := h
        refine tt_bast (by decide +kernel) f11 g2 ?_
        generalize eS12 : sI S b7 (upd (tI S b7) (r9 + x3).toNatClampNeg (((tI S b7 (r9 + x3).toNatClampNeg) ^^^ ((x4 : Int32).toInt8.toInt32) : Int32).toInt8.toInt32 : Int32).toInt8.toInt32) = S12
        have h := h S12 eS12.symm
        have hm : Sm0 S S12 := by rw [← eS12]; exact hm.I
        have f1 : te S12 a0 = some (.inr 11) := by rw [← eS12, te_sI]; exact f1
        have f4 : tR S12 a0 23 = some b3 := by rw [← eS12, tR_sI]; exact f4
        have f6 : te S12 b3 = some (.inl (.int, n5)) := by rw [← eS12, te_sI]; exact f6
        have f8 : tR S12 a0 22 = some b7 := by rw [← eS12, tR_sI]; exact f8
        have f11 : te S12 b7 = some (.inl (.byte, n10)) := by rw [← eS12, te_sI]; exact f11
        refine tt_aload_n (k0 := 0) (by decide +kernel) rfl ?_
        refine tt_getR (k := 22) (by decide +kernel) KC_11 (by decide) w_887 (fun _ => rfl) f1 f8 ?_
        refine tt_aload_n (k0 := 0) (by decide +kernel) rfl ?_
        refine tt_iload_n (k0 := 1) (by decide +kernel) rfl ?_
        refine tt_iload_n (k0 := 2) (by decide +kernel) rfl ?_
        refine tt_callV (As := [.int x1, .int x2]) (rest := [.ref b7]) (ci := 11) (r0 := (R_11, F_11, 55)) (by decide +kernel) LK_M_at w_1104 w_1106 (in_p (n := 55) 37 rfl) (by decide) (by decide) rfl rfl (Nat.le_of_ble_eq_true rfl) rfl rfl f1 (ct_mono h (fun r Sb h => ?_))
        obtain ⟨eb, h⟩ := h
        obtain ⟨r13, rfl, h⟩ := h
        rw [eb]
        show T G J_M_flip 61 [(0, .ref a0), (1, .int x1), (2, .int x2), (3, .int x3), (4, .int x4)] [.int r13, .ref b7] S12 _
        refine tt_iload_n (k0 := 3) (by decide +kernel) rfl ?_
        refine tt_iadd (by decide +kernel) ?_
        obtain ⟨g2, h⟩ := h
        refine tt_bald (by decide +kernel) f11 g2 ?_
        refine tt_sipush (n := 255) (v := 255) (by decide +kernel) (by decide) ?_
        refine tt_iand (by decide +kernel) ?_
        exact tt_iret (by decide +kernel) rfl ⟨hm, h⟩
      · have h := h.2 c
        refine tt_bipush (n := -2) (v := -2) (by decide +kernel) (by decide) ?_
        exact tt_iret (by decide +kernel) rfl ⟨hm, h⟩
set_option maxRecDepth 100000 in
theorem v_M_drop {G : pG} (a0 : Nat) (x1 : Int32) (x2 : Int32) (S : TS) (Q : Option Value → TS → Prop)
    (h : te S a0 = some (.inr 11) ∧ CP G J_M_is [.ref a0, .int x1, .int x2] S (fun r => ∃ r2 : Int32, r = some (.int r2) ∧ ((¬ r2 = 0 → C0 G J_M_take [.ref a0, .int x1, .int x2] S (fun r S3 => r = none ∧ ∃ b4 : Nat, tR S3 a0 24 = some b4 ∧ ∃ n6 : Nat, te S3 b4 = some (.inl (.int, n6)) ∧ vp_in x1 n6 ∧ Q (some (.int (tI S3 b4 x1.toNatClampNeg))) S3)) ∧ (r2 = 0 → Q (some (.int ((-2)))) S)))) :
    C0 G J_M_drop [.ref a0, .int x1, .int x2] S Q := by
  unfold C0
  refine ct_of (by decide +kernel) (Nat.le_of_ble_eq_true rfl) (lv := [(0, .ref a0), (1, .int x1), (2, .int x2)]) rfl ?_
  have hm : Sm0 S S := Sm0.rf S
  refine tt_aload_n (k0 := 0) (by decide +kernel) rfl ?_
  refine tt_iload_n (k0 := 1) (by decide +kernel) rfl ?_
  refine tt_iload_n (k0 := 2) (by decide +kernel) rfl ?_
  obtain ⟨f1, h⟩ := h
  refine tt_callV (As := [.int x1, .int x2]) (rest := []) (ci := 11) (r0 := (R_11, F_11, 55)) (by decide +kernel) LK_M_is w_1253 w_1255 (in_p (n := 55) 63 rfl) (by decide) (by decide) rfl rfl (Nat.le_of_ble_eq_true rfl) rfl rfl f1 (ct_mono h (fun r Sb h => ?_))
  obtain ⟨eb, h⟩ := h
  obtain ⟨r2, rfl, h⟩ := h
  rw [eb]
  show T G J_M_drop 6 [(0, .ref a0), (1, .int x1), (2, .int x2)] [.int r2] S _
  refine tt_if_ne (off := 6) 12 (by decide +kernel) (by decide) (fun c => ?_) (fun c => ?_)
  · have h := h.1 c
    refine tt_aload_n (k0 := 0) (by decide +kernel) rfl ?_
    refine tt_iload_n (k0 := 1) (by decide +kernel) rfl ?_
    refine tt_iload_n (k0 := 2) (by decide +kernel) rfl ?_
    refine tt_callV (As := [.int x1, .int x2]) (rest := []) (ci := 11) (r0 := (R_11, F_11, 55)) (by decide +kernel) LK_M_take w_1245 w_1247 (in_p (n := 55) 62 rfl) (by decide) (by decide) rfl rfl (Nat.le_of_ble_eq_true rfl) rfl rfl f1 (ct_mono h (fun r S3 h => ?_))
    obtain ⟨hm2, h⟩ := h
    obtain ⟨rfl, h⟩ := h
    show T G J_M_drop 18 [(0, .ref a0), (1, .int x1), (2, .int x2)] [] S3 _
    have hm := hm.tr hm2
    have f1 : te S3 a0 = some (.inr 11) := by rw [hm2.1]; exact f1
    refine tt_aload_n (k0 := 0) (by decide +kernel) rfl ?_
    obtain ⟨b4, f5, h⟩ := h
    refine tt_getR (k := 24) (by decide +kernel) KC_11 (by decide) w_889 (fun _ => rfl) f1 f5 ?_
    refine tt_iload_n (k0 := 1) (by decide +kernel) rfl ?_
    obtain ⟨n6, f7, h⟩ := h
    obtain ⟨g2, h⟩ := h
    refine tt_iald (by decide +kernel) f7 g2 ?_
    exact tt_iret (by decide +kernel) rfl ⟨hm, h⟩
  · have h := h.2 c
    refine tt_bipush (n := -2) (v := -2) (by decide +kernel) (by decide) ?_
    exact tt_iret (by decide +kernel) rfl ⟨hm, h⟩
set_option maxRecDepth 100000 in
theorem v_M_copy {G : pG} (a0 : Nat) (x1 : Int32) (x2 : Int32) (x3 : Int32) (S : TS) (Q : Option Value → TS → Prop)
    (h : te S a0 = some (.inr 11) ∧ CP G J_M_is [.ref a0, .int x1, .int x2] S (fun r => ∃ r2 : Int32, r = some (.int r2) ∧ ((¬ r2 = 0 → CP G J_M_side [.int x3] S (fun r => ∃ r3 : Int32, r = some (.int r3) ∧ ((¬ r3 = 0 → CP G J_M_full [.ref a0, .int x3] S (fun r => ∃ r4 : Int32, r = some (.int r4) ∧ ((r4 = 0 → ∃ b5 : Nat, tR S a0 22 = some b5 ∧ CP G J_M_at [.ref a0, .int x1, .int x2] S (fun r => ∃ r7 : Int32, r = some (.int r7) ∧ ∃ b8 : Nat, tR S a0 23 = some b8 ∧ ∃ n10 : Nat, te S b8 = some (.inl (.int, n10)) ∧ vp_in ((x1 * (12 : Int32)) + x2) n10 ∧ C0 G J_M_last [.ref a0, .int x3, .ref b5, .int r7, .int (tI S b8 ((x1 * (12 : Int32)) + x2).toNatClampNeg)] S (fun r S12 => ∃ r13 : Int32, r = some (.int r13) ∧ Q (some (.int r13)) S12))) ∧ (¬ (r4 = 0) → Q (some (.int ((-3)))) S)))) ∧ (r3 = 0 → Q (some (.int ((-1)))) S)))) ∧ (r2 = 0 → Q (some (.int ((-2)))) S)))) :
    C0 G J_M_copy [.ref a0, .int x1, .int x2, .int x3] S Q := by
  unfold C0
  refine ct_of (by decide +kernel) (Nat.le_of_ble_eq_true rfl) (lv := [(0, .ref a0), (1, .int x1), (2, .int x2), (3, .int x3)]) rfl ?_
  have hm : Sm0 S S := Sm0.rf S
  refine tt_aload_n (k0 := 0) (by decide +kernel) rfl ?_
  refine tt_iload_n (k0 := 1) (by decide +kernel) rfl ?_
  refine tt_iload_n (k0 := 2) (by decide +kernel) rfl ?_
  obtain ⟨f1, h⟩ := h
  refine tt_callV (As := [.int x1, .int x2]) (rest := []) (ci := 11) (r0 := (R_11, F_11, 55)) (by decide +kernel) LK_M_is w_1253 w_1255 (in_p (n := 55) 63 rfl) (by decide) (by decide) rfl rfl (Nat.le_of_ble_eq_true rfl) rfl rfl f1 (ct_mono h (fun r Sb h => ?_))
  obtain ⟨eb, h⟩ := h
  obtain ⟨r2, rfl, h⟩ := h
  rw [eb]
  show T G J_M_copy 6 [(0, .ref a0), (1, .int x1), (2, .int x2), (3, .int x3)] [.int r2] S _
  refine tt_if_ne (off := 6) 12 (by decide +kernel) (by decide) (fun c => ?_) (fun c => ?_)
  · have h := h.1 c
    refine tt_iload_n (k0 := 3) (by decide +kernel) rfl ?_
    refine tt_callS (As := [.int x3]) (rest := []) (by decide +kernel) LK_M_side w_1053 w_1054 (by decide) (by decide) rfl rfl (Nat.le_of_ble_eq_true rfl) (ct_mono h (fun r Sb h => ?_))
    obtain ⟨eb, h⟩ := h
    obtain ⟨r3, rfl, h⟩ := h
    rw [eb]
    show T G J_M_copy 16 [(0, .ref a0), (1, .int x1), (2, .int x2), (3, .int x3)] [.int r3] S _
    refine tt_if_ne (off := 5) 21 (by decide +kernel) (by decide) (fun c => ?_) (fun c => ?_)
    · have h := h.1 c
      refine tt_aload_n (k0 := 0) (by decide +kernel) rfl ?_
      refine tt_iload_n (k0 := 3) (by decide +kernel) rfl ?_
      refine tt_callV (As := [.int x3]) (rest := []) (ci := 11) (r0 := (R_11, F_11, 55)) (by decide +kernel) LK_M_full w_1088 w_1090 (in_p (n := 55) 33 rfl) (by decide) (by decide) rfl rfl (Nat.le_of_ble_eq_true rfl) rfl rfl f1 (ct_mono h (fun r Sb h => ?_))
      obtain ⟨eb, h⟩ := h
      obtain ⟨r4, rfl, h⟩ := h
      rw [eb]
      show T G J_M_copy 26 [(0, .ref a0), (1, .int x1), (2, .int x2), (3, .int x3)] [.int r4] S _
      refine tt_if_eq (off := 8) 34 (by decide +kernel) (by decide) (fun c => ?_) (fun c => ?_)
      · have h := h.1 c
        refine tt_aload_n (k0 := 0) (by decide +kernel) rfl ?_
        refine tt_iload_n (k0 := 3) (by decide +kernel) rfl ?_
        refine tt_aload_n (k0 := 0) (by decide +kernel) rfl ?_
        obtain ⟨b5, f6, h⟩ := h
        refine tt_getR (k := 22) (by decide +kernel) KC_11 (by decide) w_887 (fun _ => rfl) f1 f6 ?_
        refine tt_aload_n (k0 := 0) (by decide +kernel) rfl ?_
        refine tt_iload_n (k0 := 1) (by decide +kernel) rfl ?_
        refine tt_iload_n (k0 := 2) (by decide +kernel) rfl ?_
        refine tt_callV (As := [.int x1, .int x2]) (rest := [.ref b5, .int x3, .ref a0]) (ci := 11) (r0 := (R_11, F_11, 55)) (by decide +kernel) LK_M_at w_1104 w_1106 (in_p (n := 55) 37 rfl) (by decide) (by decide) rfl rfl (Nat.le_of_ble_eq_true rfl) rfl rfl f1 (ct_mono h (fun r Sb h => ?_))
        obtain ⟨eb, h⟩ := h
        obtain ⟨r7, rfl, h⟩ := h
        rw [eb]
        show T G J_M_copy 46 [(0, .ref a0), (1, .int x1), (2, .int x2), (3, .int x3)] [.int r7, .ref b5, .int x3, .ref a0] S _
        refine tt_aload_n (k0 := 0) (by decide +kernel) rfl ?_
        obtain ⟨b8, f9, h⟩ := h
        refine tt_getR (k := 23) (by decide +kernel) KC_11 (by decide) w_888 (fun _ => rfl) f1 f9 ?_
        refine tt_iload_n (k0 := 1) (by decide +kernel) rfl ?_
        refine tt_bipush (n := 12) (v := 12) (by decide +kernel) (by decide) ?_
        refine tt_imul (by decide +kernel) ?_
        refine tt_iload_n (k0 := 2) (by decide +kernel) rfl ?_
        refine tt_iadd (by decide +kernel) ?_
        obtain ⟨n10, f11, h⟩ := h
        obtain ⟨g2, h⟩ := h
        refine tt_iald (by decide +kernel) f11 g2 ?_
        refine tt_callV (As := [.int x3, .ref b5, .int r7, .int (tI S b8 ((x1 * (12 : Int32)) + x2).toNatClampNeg)]) (rest := []) (ci := 11) (r0 := (R_11, F_11, 55)) (by decide +kernel) LK_M_last w_1269 w_1271 (in_p (n := 55) 64 rfl) (by decide) (by decide) rfl rfl (Nat.le_of_ble_eq_true rfl) rfl rfl f1 (ct_mono h (fun r S12 h => ?_))
        obtain ⟨hm2, h⟩ := h
        obtain ⟨r13, rfl, h⟩ := h
        show T G J_M_copy 60 [(0, .ref a0), (1, .int x1), (2, .int x2), (3, .int x3)] [.int r13] S12 _
        have hm := hm.tr hm2
        have f1 : te S12 a0 = some (.inr 11) := by rw [hm2.1]; exact f1
        have f6 : tR S12 a0 22 = some b5 := by rw [hm2.R]; exact f6
        have f9 : tR S12 a0 23 = some b8 := by rw [hm2.R]; exact f9
        have f11 : te S12 b8 = some (.inl (.int, n10)) := by rw [hm2.1]; exact f11
        exact tt_iret (by decide +kernel) rfl ⟨hm, h⟩
      · have h := h.2 c
        refine tt_bipush (n := -3) (v := -3) (by decide +kernel) (by decide) ?_
        refine tt_goto (off := 29) (tgt := 60) (by decide +kernel) (by decide) ?_
        exact tt_iret (by decide +kernel) rfl ⟨hm, h⟩
    · have h := h.2 c
      refine tt_iconst (n := -1) (v := -1) (by decide +kernel) (by decide) ?_
      exact tt_iret (by decide +kernel) rfl ⟨hm, h⟩
  · have h := h.2 c
    refine tt_bipush (n := -2) (v := -2) (by decide +kernel) (by decide) ?_
    exact tt_iret (by decide +kernel) rfl ⟨hm, h⟩
set_option maxRecDepth 100000 in
theorem v_M_last {G : pG} (a0 : Nat) (x1 : Int32) (a2 : Nat) (x3 : Int32) (x4 : Int32) (S : TS) (Q : Option Value → TS → Prop)
    (h : te S a0 = some (.inr 11) ∧ ∃ b2 : Nat, tR S a0 24 = some b2 ∧ ∃ n4 : Nat, te S b2 = some (.inl (.int, n4)) ∧ vp_in x1 n4 ∧ CP G J_M_at [.ref a0, .int x1, .int (tI S b2 x1.toNatClampNeg)] S (fun r => ∃ r6 : Int32, r = some (.int r6) ∧ T0 G J_M_last 16 [(0, .ref a0), (1, .int x1), (2, .ref a2), (3, .int x3), (4, .int x4), (5, .int r6), (6, .int 0)] [] S Q)) :
    C0 G J_M_last [.ref a0, .int x1, .ref a2, .int x3, .int x4] S Q := by
  unfold C0
  refine ct_of (by decide +kernel) (Nat.le_of_ble_eq_true rfl) (lv := [(0, .ref a0), (1, .int x1), (2, .ref a2), (3, .int x3), (4, .int x4)]) rfl ?_
  have hm : Sm0 S S := Sm0.rf S
  refine tt_aload_n (k0 := 0) (by decide +kernel) rfl ?_
  refine tt_iload_n (k0 := 1) (by decide +kernel) rfl ?_
  refine tt_aload_n (k0 := 0) (by decide +kernel) rfl ?_
  obtain ⟨f1, h⟩ := h
  obtain ⟨b2, f3, h⟩ := h
  refine tt_getR (k := 24) (by decide +kernel) KC_11 (by decide) w_889 (fun _ => rfl) f1 f3 ?_
  refine tt_iload_n (k0 := 1) (by decide +kernel) rfl ?_
  obtain ⟨n4, f5, h⟩ := h
  obtain ⟨g2, h⟩ := h
  refine tt_iald (by decide +kernel) f5 g2 ?_
  refine tt_callV (As := [.int x1, .int (tI S b2 x1.toNatClampNeg)]) (rest := []) (ci := 11) (r0 := (R_11, F_11, 55)) (by decide +kernel) LK_M_at w_1104 w_1106 (in_p (n := 55) 37 rfl) (by decide) (by decide) rfl rfl (Nat.le_of_ble_eq_true rfl) rfl rfl f1 (ct_mono h (fun r Sb h => ?_))
  obtain ⟨eb, h⟩ := h
  obtain ⟨r6, rfl, h⟩ := h
  rw [eb]
  show T G J_M_last 11 [(0, .ref a0), (1, .int x1), (2, .ref a2), (3, .int x3), (4, .int x4)] [.int r6] S _
  refine tt_istore (k0 := 5) (lv' := [(0, .ref a0), (1, .int x1), (2, .ref a2), (3, .int x3), (4, .int x4), (5, .int r6)]) (by decide +kernel) (by decide) rfl ?_
  refine tt_iconst (n := 0) (v := 0) (by decide +kernel) (by decide) ?_
  refine tt_istore (k0 := 6) (lv' := [(0, .ref a0), (1, .int x1), (2, .ref a2), (3, .int x3), (4, .int x4), (5, .int r6), (6, .int 0)]) (by decide +kernel) (by decide) rfl ?_
  exact tt_mono h (fun r S' q => ⟨hm.tr q.1, q.2⟩)
set_option maxRecDepth 100000 in
theorem v_M_last_16 {G : pG} (a0 : Nat) (x1 : Int32) (a2 : Nat) (x3 : Int32) (x4 : Int32) (x5 : Int32) (x6 : Int32) (S : TS) (Q : Option Value → TS → Prop)
    (h : ((x4 ≤ x6 → te S a0 = some (.inr 11) ∧ ∃ b2 : Nat, tR S a0 23 = some b2 ∧ ∃ b4 : Nat, tR S a0 24 = some b4 ∧ ∃ n6 : Nat, te S b4 = some (.inl (.int, n6)) ∧ vp_in x1 n6 ∧ ∃ n8 : Nat, te S b2 = some (.inl (.int, n8)) ∧ vp_in ((x1 * (12 : Int32)) + (tI S b4 x1.toNatClampNeg)) n8 ∧ ∀ S10 : TS, S10 = sI S b2 (upd (tI S b2) ((x1 * (12 : Int32)) + (tI S b4 x1.toNatClampNeg)).toNatClampNeg x4) → vp_in x1 n6 ∧ vp_in x1 n6 ∧ ∀ S11 : TS, S11 = sI S10 b4 (upd (tI S10 b4) x1.toNatClampNeg ((tI S10 b4 x1.toNatClampNeg) + (1 : Int32))) → vp_in x1 n6 ∧ Q (some (.int (tI S11 b4 x1.toNatClampNeg))) S11) ∧ (¬ (x4 ≤ x6) → te S a0 = some (.inr 11) ∧ ∃ b13 : Nat, tR S a0 22 = some b13 ∧ ∃ n15 : Nat, te S a2 = some (.inl (.byte, n15)) ∧ vp_in (x3 + x6) n15 ∧ ∃ n17 : Nat, te S b13 = some (.inl (.byte, n17)) ∧ vp_in (x5 + x6) n17 ∧ ∀ S19 : TS, S19 = sI S b13 (upd (tI S b13) (x5 + x6).toNatClampNeg (tI S a2 (x3 + x6).toNatClampNeg : Int32).toInt8.toInt32) → ∀ y20 : Int32, y20 = x6 + 1 → T0 G J_M_last 16 [(0, .ref a0), (1, .int x1), (2, .ref a2), (3, .int x3), (4, .int x4), (5, .int x5), (6, .int y20)] [] S19 Q))) :
    T0 G J_M_last 16 [(0, .ref a0), (1, .int x1), (2, .ref a2), (3, .int x3), (4, .int x4), (5, .int x5), (6, .int x6)] [] S Q := by
  unfold T0
  have hm : Sm0 S S := Sm0.rf S
  refine tt_iload (k0 := 6) (by decide +kernel) rfl ?_
  refine tt_iload (k0 := 4) (by decide +kernel) rfl ?_
  refine tt_icmp_ge (off := 25) 45 (by decide +kernel) (by decide) (fun c => ?_) (fun c => ?_)
  · have h := h.1 c
    refine tt_aload_n (k0 := 0) (by decide +kernel) rfl ?_
    obtain ⟨f1, h⟩ := h
    obtain ⟨b2, f3, h⟩ := h
    refine tt_getR (k := 23) (by decide +kernel) KC_11 (by decide) w_888 (fun _ => rfl) f1 f3 ?_
    refine tt_iload_n (k0 := 1) (by decide +kernel) rfl ?_
    refine tt_bipush (n := 12) (v := 12) (by decide +kernel) (by decide) ?_
    refine tt_imul (by decide +kernel) ?_
    refine tt_aload_n (k0 := 0) (by decide +kernel) rfl ?_
    obtain ⟨b4, f5, h⟩ := h
    refine tt_getR (k := 24) (by decide +kernel) KC_11 (by decide) w_889 (fun _ => rfl) f1 f5 ?_
    refine tt_iload_n (k0 := 1) (by decide +kernel) rfl ?_
    obtain ⟨n6, f7, h⟩ := h
    obtain ⟨g2, h⟩ := h
    refine tt_iald (by decide +kernel) f7 g2 ?_
    refine tt_iadd (by decide +kernel) ?_
    refine tt_iload (k0 := 4) (by decide +kernel) rfl ?_
    obtain ⟨n8, f9, h⟩ := h
    obtain ⟨g2, h⟩ := h
    refine tt_iast (by decide +kernel) f9 g2 ?_
    generalize eS10 : sI S b2 (upd (tI S b2) ((x1 * (12 : Int32)) + (tI S b4 x1.toNatClampNeg)).toNatClampNeg x4) = S10
    have h := h S10 eS10.symm
    have hm : Sm0 S S10 := by rw [← eS10]; exact hm.I
    have f1 : te S10 a0 = some (.inr 11) := by rw [← eS10, te_sI]; exact f1
    have f3 : tR S10 a0 23 = some b2 := by rw [← eS10, tR_sI]; exact f3
    have f5 : tR S10 a0 24 = some b4 := by rw [← eS10, tR_sI]; exact f5
    have f7 : te S10 b4 = some (.inl (.int, n6)) := by rw [← eS10, te_sI]; exact f7
    have f9 : te S10 b2 = some (.inl (.int, n8)) := by rw [← eS10, te_sI]; exact f9
    refine tt_aload_n (k0 := 0) (by decide +kernel) rfl ?_
    refine tt_getR (k := 24) (by decide +kernel) KC_11 (by decide) w_889 (fun _ => rfl) f1 f5 ?_
    refine tt_iload_n (k0 := 1) (by decide +kernel) rfl ?_
    refine tt_dup2_11 (by decide +kernel) rfl rfl ?_
    obtain ⟨g2, h⟩ := h
    refine tt_iald (by decide +kernel) f7 g2 ?_
    refine tt_iconst (n := 1) (v := 1) (by decide +kernel) (by decide) ?_
    refine tt_iadd (by decide +kernel) ?_
    obtain ⟨g2, h⟩ := h
    refine tt_iast (by decide +kernel) f7 g2 ?_
    generalize eS11 : sI S10 b4 (upd (tI S10 b4) x1.toNatClampNeg ((tI S10 b4 x1.toNatClampNeg) + (1 : Int32))) = S11
    have h := h S11 eS11.symm
    have hm : Sm0 S S11 := by rw [← eS11]; exact hm.I
    have f1 : te S11 a0 = some (.inr 11) := by rw [← eS11, te_sI]; exact f1
    have f3 : tR S11 a0 23 = some b2 := by rw [← eS11, tR_sI]; exact f3
    have f5 : tR S11 a0 24 = some b4 := by rw [← eS11, tR_sI]; exact f5
    have f7 : te S11 b4 = some (.inl (.int, n6)) := by rw [← eS11, te_sI]; exact f7
    have f9 : te S11 b2 = some (.inl (.int, n8)) := by rw [← eS11, te_sI]; exact f9
    refine tt_aload_n (k0 := 0) (by decide +kernel) rfl ?_
    refine tt_getR (k := 24) (by decide +kernel) KC_11 (by decide) w_889 (fun _ => rfl) f1 f5 ?_
    refine tt_iload_n (k0 := 1) (by decide +kernel) rfl ?_
    obtain ⟨g2, h⟩ := h
    refine tt_iald (by decide +kernel) f7 g2 ?_
    exact tt_iret (by decide +kernel) rfl ⟨hm, h⟩
  · have h := h.2 c
    refine tt_aload_n (k0 := 0) (by decide +kernel) rfl ?_
    obtain ⟨f12, h⟩ := h
    obtain ⟨b13, f14, h⟩ := h
    refine tt_getR (k := 22) (by decide +kernel) KC_11 (by decide) w_887 (fun _ => rfl) f12 f14 ?_
    refine tt_iload (k0 := 5) (by decide +kernel) rfl ?_
    refine tt_iload (k0 := 6) (by decide +kernel) rfl ?_
    refine tt_iadd (by decide +kernel) ?_
    refine tt_aload_n (k0 := 2) (by decide +kernel) rfl ?_
    refine tt_iload_n (k0 := 3) (by decide +kernel) rfl ?_
    refine tt_iload (k0 := 6) (by decide +kernel) rfl ?_
    refine tt_iadd (by decide +kernel) ?_
    obtain ⟨n15, f16, h⟩ := h
    obtain ⟨g2, h⟩ := h
    refine tt_bald (by decide +kernel) f16 g2 ?_
    obtain ⟨n17, f18, h⟩ := h
    obtain ⟨g2, h⟩ := h
    refine tt_bast (by decide +kernel) f18 g2 ?_
    generalize eS19 : sI S b13 (upd (tI S b13) (x5 + x6).toNatClampNeg (tI S a2 (x3 + x6).toNatClampNeg : Int32).toInt8.toInt32) = S19
    have h := h S19 eS19.symm
    have hm : Sm0 S S19 := by rw [← eS19]; exact hm.I
    have f12 : te S19 a0 = some (.inr 11) := by rw [← eS19, te_sI]; exact f12
    have f14 : tR S19 a0 22 = some b13 := by rw [← eS19, tR_sI]; exact f14
    have f16 : te S19 a2 = some (.inl (.byte, n15)) := by rw [← eS19, te_sI]; exact f16
    have f18 : te S19 b13 = some (.inl (.byte, n17)) := by rw [← eS19, te_sI]; exact f18
    obtain ⟨y20, ey20⟩ : ∃ y : Int32, y = x6 + 1 := ⟨_, rfl⟩
    have h := h y20 ey20
    refine tt_iinc (i := 6) (n := 1) (v := y20) (lv' := [(0, .ref a0), (1, .int x1), (2, .ref a2), (3, .int x3), (4, .int x4), (5, .int x5), (6, .int y20)]) (by decide +kernel) (by decide) rfl ey20.symm rfl ?_
    refine tt_goto (off := -26) (tgt := 16) (by decide +kernel) (by decide) ?_
    exact tt_mono h (fun r S' q => ⟨hm.tr q.1, q.2⟩)
set_option maxRecDepth 100000 in
theorem v_M_hurry {G : pG} (a0 : Nat) (x1 : Int32) (x2 : Int32) (S : TS) (Q : Option Value → TS → Prop)
    (h : te S a0 = some (.inr 11) ∧ CP G J_M_is [.ref a0, .int x1, .int x2] S (fun r => ∃ r2 : Int32, r = some (.int r2) ∧ ((¬ r2 = 0 → ∃ b3 : Nat, tR S a0 23 = some b3 ∧ ∃ n5 : Nat, te S b3 = some (.inl (.int, n5)) ∧ vp_in ((x1 * (12 : Int32)) + x2) n5 ∧ ∀ y7 : Int32, y7 = tI S b3 ((x1 * (12 : Int32)) + x2).toNatClampNeg → T0 G J_M_hurry 27 [(0, .ref a0), (1, .int x1), (2, .int x2), (3, .int y7), (4, .int 0)] [] S Q) ∧ (r2 = 0 → Q (some (.int ((-2)))) S)))) :
    C0 G J_M_hurry [.ref a0, .int x1, .int x2] S Q := by
  unfold C0
  refine ct_of (by decide +kernel) (Nat.le_of_ble_eq_true rfl) (lv := [(0, .ref a0), (1, .int x1), (2, .int x2)]) rfl ?_
  have hm : Sm0 S S := Sm0.rf S
  refine tt_aload_n (k0 := 0) (by decide +kernel) rfl ?_
  refine tt_iload_n (k0 := 1) (by decide +kernel) rfl ?_
  refine tt_iload_n (k0 := 2) (by decide +kernel) rfl ?_
  obtain ⟨f1, h⟩ := h
  refine tt_callV (As := [.int x1, .int x2]) (rest := []) (ci := 11) (r0 := (R_11, F_11, 55)) (by decide +kernel) LK_M_is w_1253 w_1255 (in_p (n := 55) 63 rfl) (by decide) (by decide) rfl rfl (Nat.le_of_ble_eq_true rfl) rfl rfl f1 (ct_mono h (fun r Sb h => ?_))
  obtain ⟨eb, h⟩ := h
  obtain ⟨r2, rfl, h⟩ := h
  rw [eb]
  show T G J_M_hurry 6 [(0, .ref a0), (1, .int x1), (2, .int x2)] [.int r2] S _
  refine tt_if_ne (off := 6) 12 (by decide +kernel) (by decide) (fun c => ?_) (fun c => ?_)
  · have h := h.1 c
    refine tt_aload_n (k0 := 0) (by decide +kernel) rfl ?_
    obtain ⟨b3, f4, h⟩ := h
    refine tt_getR (k := 23) (by decide +kernel) KC_11 (by decide) w_888 (fun _ => rfl) f1 f4 ?_
    refine tt_iload_n (k0 := 1) (by decide +kernel) rfl ?_
    refine tt_bipush (n := 12) (v := 12) (by decide +kernel) (by decide) ?_
    refine tt_imul (by decide +kernel) ?_
    refine tt_iload_n (k0 := 2) (by decide +kernel) rfl ?_
    refine tt_iadd (by decide +kernel) ?_
    obtain ⟨n5, f6, h⟩ := h
    obtain ⟨g2, h⟩ := h
    refine tt_iald (by decide +kernel) f6 g2 ?_
    refine tt_topi (fun y7 ey7 => ?_)
    have h := h y7 ey7
    refine tt_istore_n (k0 := 3) (lv' := [(0, .ref a0), (1, .int x1), (2, .int x2), (3, .int y7)]) (by decide +kernel) (by decide) rfl ?_
    refine tt_iconst (n := 0) (v := 0) (by decide +kernel) (by decide) ?_
    refine tt_istore (k0 := 4) (lv' := [(0, .ref a0), (1, .int x1), (2, .int x2), (3, .int y7), (4, .int 0)]) (by decide +kernel) (by decide) rfl ?_
    exact tt_mono h (fun r S' q => ⟨hm.tr q.1, q.2⟩)
  · have h := h.2 c
    refine tt_bipush (n := -2) (v := -2) (by decide +kernel) (by decide) ?_
    exact tt_iret (by decide +kernel) rfl ⟨hm, h⟩
set_option maxRecDepth 100000 in
theorem v_M_hurry_27 {G : pG} (a0 : Nat) (x1 : Int32) (x2 : Int32) (x3 : Int32) (x4 : Int32) (S : TS) (Q : Option Value → TS → Prop)
    (h : ((x3 ≤ x4 → T0 G J_M_hurry 63 [(0, .ref a0), (1, .int x1), (2, .int x2), (3, .int x3), (4, .int x2)] [] S Q) ∧ (¬ (x3 ≤ x4) → te S a0 = some (.inr 11) ∧ ∃ b2 : Nat, tR S a0 54 = some b2 ∧ ∃ b4 : Nat, tR S a0 22 = some b4 ∧ CP G J_M_at [.ref a0, .int x1, .int x2] S (fun r => ∃ r6 : Int32, r = some (.int r6) ∧ ∃ n7 : Nat, te S b4 = some (.inl (.byte, n7)) ∧ vp_in (r6 + x4) n7 ∧ ∃ n9 : Nat, te S b2 = some (.inl (.byte, n9)) ∧ vp_in x4 n9 ∧ ∀ S11 : TS, S11 = sI S b2 (upd (tI S b2) x4.toNatClampNeg (tI S b4 (r6 + x4).toNatClampNeg : Int32).toInt8.toInt32) → ∀ y12 : Int32, y12 = x4 + 1 → T0 G J_M_hurry 27 [(0, .ref a0), (1, .int x1), (2, .int x2), (3, .int x3), (4, .int y12)] [] S11 Q)))) :
    T0 G J_M_hurry 27 [(0, .ref a0), (1, .int x1), (2, .int x2), (3, .int x3), (4, .int x4)] [] S Q := by
  unfold T0
  have hm : Sm0 S S := Sm0.rf S
  refine tt_iload (k0 := 4) (by decide +kernel) rfl ?_
  refine tt_iload_n (k0 := 3) (by decide +kernel) rfl ?_
  refine tt_icmp_ge (off := 30) 60 (by decide +kernel) (by decide) (fun c => ?_) (fun c => ?_)
  · have h := h.1 c
    refine tt_iload_n (k0 := 2) (by decide +kernel) rfl ?_
    refine tt_istore (k0 := 4) (lv' := [(0, .ref a0), (1, .int x1), (2, .int x2), (3, .int x3), (4, .int x2)]) (by decide +kernel) (by decide) rfl ?_
    exact tt_mono h (fun r S' q => ⟨hm.tr q.1, q.2⟩)
  · have h := h.2 c
    refine tt_aload_n (k0 := 0) (by decide +kernel) rfl ?_
    obtain ⟨f1, h⟩ := h
    obtain ⟨b2, f3, h⟩ := h
    refine tt_getR (k := 54) (by decide +kernel) KC_11 (by decide) w_919 (fun _ => rfl) f1 f3 ?_
    refine tt_iload (k0 := 4) (by decide +kernel) rfl ?_
    refine tt_aload_n (k0 := 0) (by decide +kernel) rfl ?_
    obtain ⟨b4, f5, h⟩ := h
    refine tt_getR (k := 22) (by decide +kernel) KC_11 (by decide) w_887 (fun _ => rfl) f1 f5 ?_
    refine tt_aload_n (k0 := 0) (by decide +kernel) rfl ?_
    refine tt_iload_n (k0 := 1) (by decide +kernel) rfl ?_
    refine tt_iload_n (k0 := 2) (by decide +kernel) rfl ?_
    refine tt_callV (As := [.int x1, .int x2]) (rest := [.ref b4, .int x4, .ref b2]) (ci := 11) (r0 := (R_11, F_11, 55)) (by decide +kernel) LK_M_at w_1104 w_1106 (in_p (n := 55) 37 rfl) (by decide) (by decide) rfl rfl (Nat.le_of_ble_eq_true rfl) rfl rfl f1 (ct_mono h (fun r Sb h => ?_))
    obtain ⟨eb, h⟩ := h
    obtain ⟨r6, rfl, h⟩ := h
    rw [eb]
    show T G J_M_hurry 49 [(0, .ref a0), (1, .int x1), (2, .int x2), (3, .int x3), (4, .int x4)] [.int r6, .ref b4, .int x4, .ref b2] S _
    refine tt_iload (k0 := 4) (by decide +kernel) rfl ?_
    refine tt_iadd (by decide +kernel) ?_
    obtain ⟨n7, f8, h⟩ := h
    obtain ⟨g2, h⟩ := h
    refine tt_bald (by decide +kernel) f8 g2 ?_
    obtain ⟨n9, f10, h⟩ := h
    obtain ⟨g2, h⟩ := h
    refine tt_bast (by decide +kernel) f10 g2 ?_
    generalize eS11 : sI S b2 (upd (tI S b2) x4.toNatClampNeg (tI S b4 (r6 + x4).toNatClampNeg : Int32).toInt8.toInt32) = S11
    have h := h S11 eS11.symm
    have hm : Sm0 S S11 := by rw [← eS11]; exact hm.I
    have f1 : te S11 a0 = some (.inr 11) := by rw [← eS11, te_sI]; exact f1
    have f3 : tR S11 a0 54 = some b2 := by rw [← eS11, tR_sI]; exact f3
    have f5 : tR S11 a0 22 = some b4 := by rw [← eS11, tR_sI]; exact f5
    have f8 : te S11 b4 = some (.inl (.byte, n7)) := by rw [← eS11, te_sI]; exact f8
    have f10 : te S11 b2 = some (.inl (.byte, n9)) := by rw [← eS11, te_sI]; exact f10
    obtain ⟨y12, ey12⟩ : ∃ y : Int32, y = x4 + 1 := ⟨_, rfl⟩
    have h := h y12 ey12
    refine tt_iinc (i := 4) (n := 1) (v := y12) (lv' := [(0, .ref a0), (1, .int x1), (2, .int x2), (3, .int x3), (4, .int y12)]) (by decide +kernel) (by decide) rfl ey12.symm rfl ?_
    refine tt_goto (off := -30) (tgt := 27) (by decide +kernel) (by decide) ?_
    exact tt_mono h (fun r S' q => ⟨hm.tr q.1, q.2⟩)
set_option maxRecDepth 100000 in
theorem v_M_hurry_63 {G : pG} (a0 : Nat) (x1 : Int32) (x2 : Int32) (x3 : Int32) (x4 : Int32) (S : TS) (Q : Option Value → TS → Prop)
    (h : ((x4 ≤ 0 → te S a0 = some (.inr 11) ∧ ∃ b2 : Nat, tR S a0 23 = some b2 ∧ ∃ n4 : Nat, te S b2 = some (.inl (.int, n4)) ∧ vp_in (x1 * (12 : Int32)) n4 ∧ ∀ S6 : TS, S6 = sI S b2 (upd (tI S b2) (x1 * (12 : Int32)).toNatClampNeg x3) → T0 G J_M_hurry 162 [(0, .ref a0), (1, .int x1), (2, .int x2), (3, .int x3), (4, .int 0)] [] S6 Q) ∧ (¬ (x4 ≤ 0) → te S a0 = some (.inr 11) ∧ ∃ b8 : Nat, tR S a0 23 = some b8 ∧ ∃ n10 : Nat, te S b8 = some (.inl (.int, n10)) ∧ vp_in (((x1 * (12 : Int32)) + x4) - (1 : Int32)) n10 ∧ vp_in ((x1 * (12 : Int32)) + x4) n10 ∧ ∀ S12 : TS, S12 = sI S b8 (upd (tI S b8) ((x1 * (12 : Int32)) + x4).toNatClampNeg (tI S b8 (((x1 * (12 : Int32)) + x4) - (1 : Int32)).toNatClampNeg)) → T0 G J_M_hurry 97 [(0, .ref a0), (1, .int x1), (2, .int x2), (3, .int x3), (4, .int x4), (5, .int 0)] [] S12 Q))) :
    T0 G J_M_hurry 63 [(0, .ref a0), (1, .int x1), (2, .int x2), (3, .int x3), (4, .int x4)] [] S Q := by
  unfold T0
  have hm : Sm0 S S := Sm0.rf S
  refine tt_iload (k0 := 4) (by decide +kernel) rfl ?_
  refine tt_if_le (off := 84) 149 (by decide +kernel) (by decide) (fun c => ?_) (fun c => ?_)
  · have h := h.1 c
    refine tt_aload_n (k0 := 0) (by decide +kernel) rfl ?_
    obtain ⟨f1, h⟩ := h
    obtain ⟨b2, f3, h⟩ := h
    refine tt_getR (k := 23) (by decide +kernel) KC_11 (by decide) w_888 (fun _ => rfl) f1 f3 ?_
    refine tt_iload_n (k0 := 1) (by decide +kernel) rfl ?_
    refine tt_bipush (n := 12) (v := 12) (by decide +kernel) (by decide) ?_
    refine tt_imul (by decide +kernel) ?_
    refine tt_iload_n (k0 := 3) (by decide +kernel) rfl ?_
    obtain ⟨n4, f5, h⟩ := h
    obtain ⟨g2, h⟩ := h
    refine tt_iast (by decide +kernel) f5 g2 ?_
    generalize eS6 : sI S b2 (upd (tI S b2) (x1 * (12 : Int32)).toNatClampNeg x3) = S6
    have h := h S6 eS6.symm
    have hm : Sm0 S S6 := by rw [← eS6]; exact hm.I
    have f1 : te S6 a0 = some (.inr 11) := by rw [← eS6, te_sI]; exact f1
    have f3 : tR S6 a0 23 = some b2 := by rw [← eS6, tR_sI]; exact f3
    have f5 : te S6 b2 = some (.inl (.int, n4)) := by rw [← eS6, te_sI]; exact f5
    refine tt_iconst (n := 0) (v := 0) (by decide +kernel) (by decide) ?_
    refine tt_istore (k0 := 4) (lv' := [(0, .ref a0), (1, .int x1), (2, .int x2), (3, .int x3), (4, .int 0)]) (by decide +kernel) (by decide) rfl ?_
    exact tt_mono h (fun r S' q => ⟨hm.tr q.1, q.2⟩)
  · have h := h.2 c
    refine tt_aload_n (k0 := 0) (by decide +kernel) rfl ?_
    obtain ⟨f7, h⟩ := h
    obtain ⟨b8, f9, h⟩ := h
    refine tt_getR (k := 23) (by decide +kernel) KC_11 (by decide) w_888 (fun _ => rfl) f7 f9 ?_
    refine tt_iload_n (k0 := 1) (by decide +kernel) rfl ?_
    refine tt_bipush (n := 12) (v := 12) (by decide +kernel) (by decide) ?_
    refine tt_imul (by decide +kernel) ?_
    refine tt_iload (k0 := 4) (by decide +kernel) rfl ?_
    refine tt_iadd (by decide +kernel) ?_
    refine tt_aload_n (k0 := 0) (by decide +kernel) rfl ?_
    refine tt_getR (k := 23) (by decide +kernel) KC_11 (by decide) w_888 (fun _ => rfl) f7 f9 ?_
    refine tt_iload_n (k0 := 1) (by decide +kernel) rfl ?_
    refine tt_bipush (n := 12) (v := 12) (by decide +kernel) (by decide) ?_
    refine tt_imul (by decide +kernel) ?_
    refine tt_iload (k0 := 4) (by decide +kernel) rfl ?_
    refine tt_iadd (by decide +kernel) ?_
    refine tt_iconst (n := 1) (v := 1) (by decide +kernel) (by decide) ?_
    refine tt_isub (by decide +kernel) ?_
    obtain ⟨n10, f11, h⟩ := h
    obtain ⟨g2, h⟩ := h
    refine tt_iald (by decide +kernel) f11 g2 ?_
    obtain ⟨g2, h⟩ := h
    refine tt_iast (by decide +kernel) f11 g2 ?_
    generalize eS12 : sI S b8 (upd (tI S b8) ((x1 * (12 : Int32)) + x4).toNatClampNeg (tI S b8 (((x1 * (12 : Int32)) + x4) - (1 : Int32)).toNatClampNeg)) = S12
    have h := h S12 eS12.symm
    have hm : Sm0 S S12 := by rw [← eS12]; exact hm.I
    have f7 : te S12 a0 = some (.inr 11) := by rw [← eS12, te_sI]; exact f7
    have f9 : tR S12 a0 23 = some b8 := by rw [← eS12, tR_sI]; exact f9
    have f11 : te S12 b8 = some (.inl (.int, n10)) := by rw [← eS12, te_sI]; exact f11
    refine tt_iconst (n := 0) (v := 0) (by decide +kernel) (by decide) ?_
    refine tt_istore (k0 := 5) (lv' := [(0, .ref a0), (1, .int x1), (2, .int x2), (3, .int x3), (4, .int x4), (5, .int 0)]) (by decide +kernel) (by decide) rfl ?_
    exact tt_mono h (fun r S' q => ⟨hm.tr q.1, q.2⟩)
set_option maxRecDepth 100000 in
theorem v_M_hurry_162 {G : pG} (a0 : Nat) (x1 : Int32) (x2 : Int32) (x3 : Int32) (x4 : Int32) (S : TS) (Q : Option Value → TS → Prop)
    (h : ((x3 ≤ x4 → Q (some (.int 0)) S) ∧ (¬ (x3 ≤ x4) → te S a0 = some (.inr 11) ∧ ∃ b2 : Nat, tR S a0 22 = some b2 ∧ CP G J_M_at [.ref a0, .int x1, .int 0] S (fun r => ∃ r4 : Int32, r = some (.int r4) ∧ ∃ b5 : Nat, tR S a0 54 = some b5 ∧ ∃ n7 : Nat, te S b5 = some (.inl (.byte, n7)) ∧ vp_in x4 n7 ∧ ∃ n9 : Nat, te S b2 = some (.inl (.byte, n9)) ∧ vp_in (r4 + x4) n9 ∧ ∀ S11 : TS, S11 = sI S b2 (upd (tI S b2) (r4 + x4).toNatClampNeg (tI S b5 x4.toNatClampNeg : Int32).toInt8.toInt32) → ∀ y12 : Int32, y12 = x4 + 1 → T0 G J_M_hurry 162 [(0, .ref a0), (1, .int x1), (2, .int x2), (3, .int x3), (4, .int y12)] [] S11 Q)))) :
    T0 G J_M_hurry 162 [(0, .ref a0), (1, .int x1), (2, .int x2), (3, .int x3), (4, .int x4)] [] S Q := by
  unfold T0
  have hm : Sm0 S S := Sm0.rf S
  refine tt_iload (k0 := 4) (by decide +kernel) rfl ?_
  refine tt_iload_n (k0 := 3) (by decide +kernel) rfl ?_
  refine tt_icmp_ge (off := 30) 195 (by decide +kernel) (by decide) (fun c => ?_) (fun c => ?_)
  · have h := h.1 c
    refine tt_iconst (n := 0) (v := 0) (by decide +kernel) (by decide) ?_
    exact tt_iret (by decide +kernel) rfl ⟨hm, h⟩
  · have h := h.2 c
    refine tt_aload_n (k0 := 0) (by decide +kernel) rfl ?_
    obtain ⟨f1, h⟩ := h
    obtain ⟨b2, f3, h⟩ := h
    refine tt_getR (k := 22) (by decide +kernel) KC_11 (by decide) w_887 (fun _ => rfl) f1 f3 ?_
    refine tt_aload_n (k0 := 0) (by decide +kernel) rfl ?_
    refine tt_iload_n (k0 := 1) (by decide +kernel) rfl ?_
    refine tt_iconst (n := 0) (v := 0) (by decide +kernel) (by decide) ?_
    refine tt_callV (As := [.int x1, .int 0]) (rest := [.ref b2]) (ci := 11) (r0 := (R_11, F_11, 55)) (by decide +kernel) LK_M_at w_1104 w_1106 (in_p (n := 55) 37 rfl) (by decide) (by decide) rfl rfl (Nat.le_of_ble_eq_true rfl) rfl rfl f1 (ct_mono h (fun r Sb h => ?_))
    obtain ⟨eb, h⟩ := h
    obtain ⟨r4, rfl, h⟩ := h
    rw [eb]
    show T G J_M_hurry 178 [(0, .ref a0), (1, .int x1), (2, .int x2), (3, .int x3), (4, .int x4)] [.int r4, .ref b2] S _
    refine tt_iload (k0 := 4) (by decide +kernel) rfl ?_
    refine tt_iadd (by decide +kernel) ?_
    refine tt_aload_n (k0 := 0) (by decide +kernel) rfl ?_
    obtain ⟨b5, f6, h⟩ := h
    refine tt_getR (k := 54) (by decide +kernel) KC_11 (by decide) w_919 (fun _ => rfl) f1 f6 ?_
    refine tt_iload (k0 := 4) (by decide +kernel) rfl ?_
    obtain ⟨n7, f8, h⟩ := h
    obtain ⟨g2, h⟩ := h
    refine tt_bald (by decide +kernel) f8 g2 ?_
    obtain ⟨n9, f10, h⟩ := h
    obtain ⟨g2, h⟩ := h
    refine tt_bast (by decide +kernel) f10 g2 ?_
    generalize eS11 : sI S b2 (upd (tI S b2) (r4 + x4).toNatClampNeg (tI S b5 x4.toNatClampNeg : Int32).toInt8.toInt32) = S11
    have h := h S11 eS11.symm
    have hm : Sm0 S S11 := by rw [← eS11]; exact hm.I
    have f1 : te S11 a0 = some (.inr 11) := by rw [← eS11, te_sI]; exact f1
    have f3 : tR S11 a0 22 = some b2 := by rw [← eS11, tR_sI]; exact f3
    have f6 : tR S11 a0 54 = some b5 := by rw [← eS11, tR_sI]; exact f6
    have f8 : te S11 b5 = some (.inl (.byte, n7)) := by rw [← eS11, te_sI]; exact f8
    have f10 : te S11 b2 = some (.inl (.byte, n9)) := by rw [← eS11, te_sI]; exact f10
    obtain ⟨y12, ey12⟩ : ∃ y : Int32, y = x4 + 1 := ⟨_, rfl⟩
    have h := h y12 ey12
    refine tt_iinc (i := 4) (n := 1) (v := y12) (lv' := [(0, .ref a0), (1, .int x1), (2, .int x2), (3, .int x3), (4, .int y12)]) (by decide +kernel) (by decide) rfl ey12.symm rfl ?_
    refine tt_goto (off := -30) (tgt := 162) (by decide +kernel) (by decide) ?_
    exact tt_mono h (fun r S' q => ⟨hm.tr q.1, q.2⟩)
set_option maxRecDepth 100000 in
theorem v_M_hurry_97 {G : pG} (a0 : Nat) (x1 : Int32) (x2 : Int32) (x3 : Int32) (x4 : Int32) (x5 : Int32) (S : TS) (Q : Option Value → TS → Prop)
    (h : ((200 ≤ x5 → ∀ y1 : Int32, y1 = x4 + (-1) → T0 G J_M_hurry 63 [(0, .ref a0), (1, .int x1), (2, .int x2), (3, .int x3), (4, .int y1)] [] S Q) ∧ (¬ (200 ≤ x5) → te S a0 = some (.inr 11) ∧ ∃ b3 : Nat, tR S a0 22 = some b3 ∧ CP G J_M_at [.ref a0, .int x1, .int x4] S (fun r => ∃ r5 : Int32, r = some (.int r5) ∧ CP G J_M_at [.ref a0, .int x1, .int (x4 - (1 : Int32))] S (fun r => ∃ r6 : Int32, r = some (.int r6) ∧ ∃ n7 : Nat, te S b3 = some (.inl (.byte, n7)) ∧ vp_in (r6 + x5) n7 ∧ vp_in (r5 + x5) n7 ∧ ∀ S9 : TS, S9 = sI S b3 (upd (tI S b3) (r5 + x5).toNatClampNeg (tI S b3 (r6 + x5).toNatClampNeg : Int32).toInt8.toInt32) → ∀ y10 : Int32, y10 = x5 + 1 → T0 G J_M_hurry 97 [(0, .ref a0), (1, .int x1), (2, .int x2), (3, .int x3), (4, .int x4), (5, .int y10)] [] S9 Q))))) :
    T0 G J_M_hurry 97 [(0, .ref a0), (1, .int x1), (2, .int x2), (3, .int x3), (4, .int x4), (5, .int x5)] [] S Q := by
  unfold T0
  have hm : Sm0 S S := Sm0.rf S
  refine tt_iload (k0 := 5) (by decide +kernel) rfl ?_
  refine tt_sipush (n := 200) (v := 200) (by decide +kernel) (by decide) ?_
  refine tt_icmp_ge (off := 41) 143 (by decide +kernel) (by decide) (fun c => ?_) (fun c => ?_)
  · have h := h.1 c
    obtain ⟨y1, ey1⟩ : ∃ y : Int32, y = x4 + (-1) := ⟨_, rfl⟩
    have h := h y1 ey1
    refine tt_iinc (i := 4) (n := -1) (v := y1) (lv' := [(0, .ref a0), (1, .int x1), (2, .int x2), (3, .int x3), (4, .int y1), (5, .int x5)]) (by decide +kernel) (by decide) rfl (by rw [ey1]; exact congrArg (fun z => x4 + z) (by decide : Int32.ofInt (-1) = (-1))) rfl ?_
    refine tt_goto (off := -83) (tgt := 63) (by decide +kernel) (by decide) ?_
    refine tt_lv [(0, .ref a0), (1, .int x1), (2, .int x2), (3, .int x3), (4, .int y1)] (by simp) ?_
    exact tt_mono h (fun r S' q => ⟨hm.tr q.1, q.2⟩)
  · have h := h.2 c
    refine tt_aload_n (k0 := 0) (by decide +kernel) rfl ?_
    obtain ⟨f2, h⟩ := h
    obtain ⟨b3, f4, h⟩ := h
    refine tt_getR (k := 22) (by decide +kernel) KC_11 (by decide) w_887 (fun _ => rfl) f2 f4 ?_
    refine tt_aload_n (k0 := 0) (by decide +kernel) rfl ?_
    refine tt_iload_n (k0 := 1) (by decide +kernel) rfl ?_
    refine tt_iload (k0 := 4) (by decide +kernel) rfl ?_
    refine tt_callV (As := [.int x1, .int x4]) (rest := [.ref b3]) (ci := 11) (r0 := (R_11, F_11, 55)) (by decide +kernel) LK_M_at w_1104 w_1106 (in_p (n := 55) 37 rfl) (by decide) (by decide) rfl rfl (Nat.le_of_ble_eq_true rfl) rfl rfl f2 (ct_mono h (fun r Sb h => ?_))
    obtain ⟨eb, h⟩ := h
    obtain ⟨r5, rfl, h⟩ := h
    rw [eb]
    show T G J_M_hurry 116 [(0, .ref a0), (1, .int x1), (2, .int x2), (3, .int x3), (4, .int x4), (5, .int x5)] [.int r5, .ref b3] S _
    refine tt_iload (k0 := 5) (by decide +kernel) rfl ?_
    refine tt_iadd (by decide +kernel) ?_
    refine tt_aload_n (k0 := 0) (by decide +kernel) rfl ?_
    refine tt_getR (k := 22) (by decide +kernel) KC_11 (by decide) w_887 (fun _ => rfl) f2 f4 ?_
    refine tt_aload_n (k0 := 0) (by decide +kernel) rfl ?_
    refine tt_iload_n (k0 := 1) (by decide +kernel) rfl ?_
    refine tt_iload (k0 := 4) (by decide +kernel) rfl ?_
    refine tt_iconst (n := 1) (v := 1) (by decide +kernel) (by decide) ?_
    refine tt_isub (by decide +kernel) ?_
    refine tt_callV (As := [.int x1, .int (x4 - (1 : Int32))]) (rest := [.ref b3, .int (r5 + x5), .ref b3]) (ci := 11) (r0 := (R_11, F_11, 55)) (by decide +kernel) LK_M_at w_1104 w_1106 (in_p (n := 55) 37 rfl) (by decide) (by decide) rfl rfl (Nat.le_of_ble_eq_true rfl) rfl rfl f2 (ct_mono h (fun r Sb h => ?_))
    obtain ⟨eb, h⟩ := h
    obtain ⟨r6, rfl, h⟩ := h
    rw [eb]
    show T G J_M_hurry 132 [(0, .ref a0), (1, .int x1), (2, .int x2), (3, .int x3), (4, .int x4), (5, .int x5)] [.int r6, .ref b3, .int (r5 + x5), .ref b3] S _
    refine tt_iload (k0 := 5) (by decide +kernel) rfl ?_
    refine tt_iadd (by decide +kernel) ?_
    obtain ⟨n7, f8, h⟩ := h
    obtain ⟨g2, h⟩ := h
    refine tt_bald (by decide +kernel) f8 g2 ?_
    obtain ⟨g2, h⟩ := h
    refine tt_bast (by decide +kernel) f8 g2 ?_
    generalize eS9 : sI S b3 (upd (tI S b3) (r5 + x5).toNatClampNeg (tI S b3 (r6 + x5).toNatClampNeg : Int32).toInt8.toInt32) = S9
    have h := h S9 eS9.symm
    have hm : Sm0 S S9 := by rw [← eS9]; exact hm.I
    have f2 : te S9 a0 = some (.inr 11) := by rw [← eS9, te_sI]; exact f2
    have f4 : tR S9 a0 22 = some b3 := by rw [← eS9, tR_sI]; exact f4
    have f8 : te S9 b3 = some (.inl (.byte, n7)) := by rw [← eS9, te_sI]; exact f8
    obtain ⟨y10, ey10⟩ : ∃ y : Int32, y = x5 + 1 := ⟨_, rfl⟩
    have h := h y10 ey10
    refine tt_iinc (i := 5) (n := 1) (v := y10) (lv' := [(0, .ref a0), (1, .int x1), (2, .int x2), (3, .int x3), (4, .int x4), (5, .int y10)]) (by decide +kernel) (by decide) rfl ey10.symm rfl ?_
    refine tt_goto (off := -43) (tgt := 97) (by decide +kernel) (by decide) ?_
    exact tt_mono h (fun r S' q => ⟨hm.tr q.1, q.2⟩)
set_option maxRecDepth 100000 in
theorem v_M_forge {G : pG} (a0 : Nat) (x1 : Int32) (S : TS) (Q : Option Value → TS → Prop)
    (h : te S a0 = some (.inr 11) ∧ ∀ y2 : Int32, y2 = tI S a0 1 → ∀ S3 : TS, S3 = sI S a0 (upd (tI S a0) 1 0) → CP G J_M_side [.int x1] S3 (fun r => ∃ r4 : Int32, r = some (.int r4) ∧ ((r4 = 0 → Q (some (.int ((-1)))) S3) ∧ (¬ (r4 = 0) → ((3 ≤ y2 → CP G J_M_full [.ref a0, .int x1] S3 (fun r => ∃ r5 : Int32, r = some (.int r5) ∧ ((r5 = 0 → ∃ b6 : Nat, tR S3 a0 0 = some b6 ∧ C0 G J_M_last [.ref a0, .int x1, .ref b6, .int 0, .int y2] S3 (fun r S8 => ∃ r9 : Int32, r = some (.int r9) ∧ Q (some (.int y2)) S8)) ∧ (¬ (r5 = 0) → Q (some (.int ((-3)))) S3)))) ∧ (¬ (3 ≤ y2) → Q (some (.int ((-1)))) S3)))))) :
    C0 G J_M_forge [.ref a0, .int x1] S Q := by
  unfold C0
  refine ct_of (by decide +kernel) (Nat.le_of_ble_eq_true rfl) (lv := [(0, .ref a0), (1, .int x1)]) rfl ?_
  have hm : Sm0 S S := Sm0.rf S
  refine tt_aload_n (k0 := 0) (by decide +kernel) rfl ?_
  obtain ⟨f1, h⟩ := h
  refine tt_getI (k := 1) (by decide +kernel) KC_11 (by decide) w_866 (fun _ => rfl) f1 ?_
  refine tt_topi (fun y2 ey2 => ?_)
  have h := h y2 ey2
  refine tt_istore_n (k0 := 2) (lv' := [(0, .ref a0), (1, .int x1), (2, .int y2)]) (by decide +kernel) (by decide) rfl ?_
  refine tt_aload_n (k0 := 0) (by decide +kernel) rfl ?_
  refine tt_iconst (n := 0) (v := 0) (by decide +kernel) (by decide) ?_
  refine tt_putI (k := 1) (by decide +kernel) KC_11 (by decide) w_866 rfl rfl f1 ?_
  generalize eS3 : sI S a0 (upd (tI S a0) 1 0) = S3
  have h := h S3 eS3.symm
  have hm : Sm0 S S3 := by rw [← eS3]; exact hm.I
  have f1 : te S3 a0 = some (.inr 11) := by rw [← eS3, te_sI]; exact f1
  refine tt_iload_n (k0 := 1) (by decide +kernel) rfl ?_
  refine tt_callS (As := [.int x1]) (rest := []) (by decide +kernel) LK_M_side w_1053 w_1054 (by decide) (by decide) rfl rfl (Nat.le_of_ble_eq_true rfl) (ct_mono h (fun r Sb h => ?_))
  obtain ⟨eb, h⟩ := h
  obtain ⟨r4, rfl, h⟩ := h
  rw [eb]
  show T G J_M_forge 14 [(0, .ref a0), (1, .int x1), (2, .int y2)] [.int r4] S3 _
  refine tt_if_eq (off := 8) 22 (by decide +kernel) (by decide) (fun c => ?_) (fun c => ?_)
  · have h := h.1 c
    refine tt_iconst (n := -1) (v := -1) (by decide +kernel) (by decide) ?_
    exact tt_iret (by decide +kernel) rfl ⟨hm, h⟩
  · have h := h.2 c
    refine tt_iload_n (k0 := 2) (by decide +kernel) rfl ?_
    refine tt_iconst (n := 3) (v := 3) (by decide +kernel) (by decide) ?_
    refine tt_icmp_ge (off := 5) 24 (by decide +kernel) (by decide) (fun c => ?_) (fun c => ?_)
    · have h := h.1 c
      refine tt_aload_n (k0 := 0) (by decide +kernel) rfl ?_
      refine tt_iload_n (k0 := 1) (by decide +kernel) rfl ?_
      refine tt_callV (As := [.int x1]) (rest := []) (ci := 11) (r0 := (R_11, F_11, 55)) (by decide +kernel) LK_M_full w_1088 w_1090 (in_p (n := 55) 33 rfl) (by decide) (by decide) rfl rfl (Nat.le_of_ble_eq_true rfl) rfl rfl f1 (ct_mono h (fun r Sb h => ?_))
      obtain ⟨eb, h⟩ := h
      obtain ⟨r5, rfl, h⟩ := h
      rw [eb]
      show T G J_M_forge 29 [(0, .ref a0), (1, .int x1), (2, .int y2)] [.int r5] S3 _
      refine tt_if_eq (off := 6) 35 (by decide +kernel) (by decide) (fun c => ?_) (fun c => ?_)
      · have h := h.1 c
        refine tt_aload_n (k0 := 0) (by decide +kernel) rfl ?_
        refine tt_iload_n (k0 := 1) (by decide +kernel) rfl ?_
        refine tt_aload_n (k0 := 0) (by decide +kernel) rfl ?_
        obtain ⟨b6, f7, h⟩ := h
        refine tt_getR (k := 0) (by decide +kernel) KC_11 (by decide) w_865 (fun _ => rfl) f1 f7 ?_
        refine tt_iconst (n := 0) (v := 0) (by decide +kernel) (by decide) ?_
        refine tt_iload_n (k0 := 2) (by decide +kernel) rfl ?_
        refine tt_callV (As := [.int x1, .ref b6, .int 0, .int y2]) (rest := []) (ci := 11) (r0 := (R_11, F_11, 55)) (by decide +kernel) LK_M_last w_1269 w_1271 (in_p (n := 55) 64 rfl) (by decide) (by decide) rfl rfl (Nat.le_of_ble_eq_true rfl) rfl rfl f1 (ct_mono h (fun r S8 h => ?_))
        obtain ⟨hm2, h⟩ := h
        obtain ⟨r9, rfl, h⟩ := h
        show T G J_M_forge 46 [(0, .ref a0), (1, .int x1), (2, .int y2)] [.int r9] S8 _
        have hm := hm.tr hm2
        have f1 : te S8 a0 = some (.inr 11) := by rw [hm2.1]; exact f1
        have f7 : tR S8 a0 0 = some b6 := by rw [hm2.R]; exact f7
        refine tt_pop (by decide +kernel) rfl ?_
        refine tt_iload_n (k0 := 2) (by decide +kernel) rfl ?_
        exact tt_iret (by decide +kernel) rfl ⟨hm, h⟩
      · have h := h.2 c
        refine tt_bipush (n := -3) (v := -3) (by decide +kernel) (by decide) ?_
        exact tt_iret (by decide +kernel) rfl ⟨hm, h⟩
    · have h := h.2 c
      refine tt_iconst (n := -1) (v := -1) (by decide +kernel) (by decide) ?_
      exact tt_iret (by decide +kernel) rfl ⟨hm, h⟩
set_option maxRecDepth 100000 in
theorem v_M_answer {G : pG} (a0 : Nat) (S : TS) (Q : Option Value → TS → Prop)
    (h : te S a0 = some (.inr 11) ∧ ((¬ tI S a0 33 = 0 → ∀ S2 : TS, S2 = sI S a0 (upd (tI S a0) 3 (tI S a0 33)) → T0 G J_M_answer 20 [(0, .ref a0), (1, .int 0)] [] S2 Q) ∧ (tI S a0 33 = 0 → Q (some (.int ((-2)))) S))) :
    C0 G J_M_answer [.ref a0] S Q := by
  unfold C0
  refine ct_of (by decide +kernel) (Nat.le_of_ble_eq_true rfl) (lv := [(0, .ref a0)]) rfl ?_
  have hm : Sm0 S S := Sm0.rf S
  refine tt_aload_n (k0 := 0) (by decide +kernel) rfl ?_
  obtain ⟨f1, h⟩ := h
  refine tt_getI (k := 33) (by decide +kernel) KC_11 (by decide) w_898 (fun _ => rfl) f1 ?_
  refine tt_if_ne (off := 6) 10 (by decide +kernel) (by decide) (fun c => ?_) (fun c => ?_)
  · have h := h.1 c
    refine tt_aload_n (k0 := 0) (by decide +kernel) rfl ?_
    refine tt_aload_n (k0 := 0) (by decide +kernel) rfl ?_
    refine tt_getI (k := 33) (by decide +kernel) KC_11 (by decide) w_898 (fun _ => rfl) f1 ?_
    refine tt_putI (k := 3) (by decide +kernel) KC_11 (by decide) w_868 rfl rfl f1 ?_
    generalize eS2 : sI S a0 (upd (tI S a0) 3 (tI S a0 33)) = S2
    have h := h S2 eS2.symm
    have hm : Sm0 S S2 := by rw [← eS2]; exact hm.I
    have f1 : te S2 a0 = some (.inr 11) := by rw [← eS2, te_sI]; exact f1
    refine tt_iconst (n := 0) (v := 0) (by decide +kernel) (by decide) ?_
    refine tt_istore_n (k0 := 1) (lv' := [(0, .ref a0), (1, .int 0)]) (by decide +kernel) (by decide) rfl ?_
    exact tt_mono h (fun r S' q => ⟨hm.tr q.1, q.2⟩)
  · have h := h.2 c
    refine tt_bipush (n := -2) (v := -2) (by decide +kernel) (by decide) ?_
    exact tt_iret (by decide +kernel) rfl ⟨hm, h⟩
set_option maxRecDepth 100000 in
theorem v_M_answer_20 {G : pG} (a0 : Nat) (x1 : Int32) (S : TS) (Q : Option Value → TS → Prop)
    (h : te S a0 = some (.inr 11) ∧ ((tI S a0 3 ≤ x1 → Q (some (.int (tI S a0 3))) S) ∧ (¬ (tI S a0 3 ≤ x1) → ∃ b2 : Nat, tR S a0 2 = some b2 ∧ ∃ b4 : Nat, tR S a0 32 = some b4 ∧ ∃ n6 : Nat, te S b4 = some (.inl (.byte, n6)) ∧ vp_in x1 n6 ∧ ∃ n8 : Nat, te S b2 = some (.inl (.byte, n8)) ∧ vp_in x1 n8 ∧ ∀ S10 : TS, S10 = sI S b2 (upd (tI S b2) x1.toNatClampNeg (tI S b4 x1.toNatClampNeg : Int32).toInt8.toInt32) → ∀ y11 : Int32, y11 = x1 + 1 → T0 G J_M_answer 20 [(0, .ref a0), (1, .int y11)] [] S10 Q))) :
    T0 G J_M_answer 20 [(0, .ref a0), (1, .int x1)] [] S Q := by
  unfold T0
  have hm : Sm0 S S := Sm0.rf S
  refine tt_iload_n (k0 := 1) (by decide +kernel) rfl ?_
  refine tt_aload_n (k0 := 0) (by decide +kernel) rfl ?_
  obtain ⟨f1, h⟩ := h
  refine tt_getI (k := 3) (by decide +kernel) KC_11 (by decide) w_868 (fun _ => rfl) f1 ?_
  refine tt_icmp_ge (off := 21) 46 (by decide +kernel) (by decide) (fun c => ?_) (fun c => ?_)
  · have h := h.1 c
    refine tt_aload_n (k0 := 0) (by decide +kernel) rfl ?_
    refine tt_getI (k := 3) (by decide +kernel) KC_11 (by decide) w_868 (fun _ => rfl) f1 ?_
    exact tt_iret (by decide +kernel) rfl ⟨hm, h⟩
  · have h := h.2 c
    refine tt_aload_n (k0 := 0) (by decide +kernel) rfl ?_
    obtain ⟨b2, f3, h⟩ := h
    refine tt_getR (k := 2) (by decide +kernel) KC_11 (by decide) w_867 (fun _ => rfl) f1 f3 ?_
    refine tt_iload_n (k0 := 1) (by decide +kernel) rfl ?_
    refine tt_aload_n (k0 := 0) (by decide +kernel) rfl ?_
    obtain ⟨b4, f5, h⟩ := h
    refine tt_getR (k := 32) (by decide +kernel) KC_11 (by decide) w_897 (fun _ => rfl) f1 f5 ?_
    refine tt_iload_n (k0 := 1) (by decide +kernel) rfl ?_
    obtain ⟨n6, f7, h⟩ := h
    obtain ⟨g2, h⟩ := h
    refine tt_bald (by decide +kernel) f7 g2 ?_
    obtain ⟨n8, f9, h⟩ := h
    obtain ⟨g2, h⟩ := h
    refine tt_bast (by decide +kernel) f9 g2 ?_
    generalize eS10 : sI S b2 (upd (tI S b2) x1.toNatClampNeg (tI S b4 x1.toNatClampNeg : Int32).toInt8.toInt32) = S10
    have h := h S10 eS10.symm
    have hm : Sm0 S S10 := by rw [← eS10]; exact hm.I
    have f1 : te S10 a0 = some (.inr 11) := by rw [← eS10, te_sI]; exact f1
    have f3 : tR S10 a0 2 = some b2 := by rw [← eS10, tR_sI]; exact f3
    have f5 : tR S10 a0 32 = some b4 := by rw [← eS10, tR_sI]; exact f5
    have f7 : te S10 b4 = some (.inl (.byte, n6)) := by rw [← eS10, te_sI]; exact f7
    have f9 : te S10 b2 = some (.inl (.byte, n8)) := by rw [← eS10, te_sI]; exact f9
    obtain ⟨y11, ey11⟩ : ∃ y : Int32, y = x1 + 1 := ⟨_, rfl⟩
    have h := h y11 ey11
    refine tt_iinc (i := 1) (n := 1) (v := y11) (lv' := [(0, .ref a0), (1, .int y11)]) (by decide +kernel) (by decide) rfl ey11.symm rfl ?_
    refine tt_goto (off := -23) (tgt := 20) (by decide +kernel) (by decide) ?_
    exact tt_mono h (fun r S' q => ⟨hm.tr q.1, q.2⟩)
set_option maxRecDepth 100000 in
theorem v_M_stored {G : pG} (a0 : Nat) (S : TS) (Q : Option Value → TS → Prop)
    (h : te S a0 = some (.inr 11) ∧ ∃ b2 : Nat, tR S a0 25 = some b2 ∧ CP G J_M_place [.ref a0, .ref b2, .int 0, .int (tI S a0 26)] S (fun r => ∃ r4 : Int32, r = some (.int r4) ∧ ((0 ≤ r4 → ∃ b5 : Nat, tR S a0 30 = some b5 ∧ ∃ n7 : Nat, te S b5 = some (.inl (.int, n7)) ∧ vp_in r4 n7 ∧ ∀ S9 : TS, S9 = sI S a0 (upd (tI S a0) 3 (tI S b5 r4.toNatClampNeg)) → T0 G J_M_stored 33 [(0, .ref a0), (1, .int r4), (2, .int 0)] [] S9 Q) ∧ (¬ (0 ≤ r4) → Q (some (.int ((-2)))) S)))) :
    C0 G J_M_stored [.ref a0] S Q := by
  unfold C0
  refine ct_of (by decide +kernel) (Nat.le_of_ble_eq_true rfl) (lv := [(0, .ref a0)]) rfl ?_
  have hm : Sm0 S S := Sm0.rf S
  refine tt_aload_n (k0 := 0) (by decide +kernel) rfl ?_
  refine tt_aload_n (k0 := 0) (by decide +kernel) rfl ?_
  obtain ⟨f1, h⟩ := h
  obtain ⟨b2, f3, h⟩ := h
  refine tt_getR (k := 25) (by decide +kernel) KC_11 (by decide) w_890 (fun _ => rfl) f1 f3 ?_
  refine tt_iconst (n := 0) (v := 0) (by decide +kernel) (by decide) ?_
  refine tt_aload_n (k0 := 0) (by decide +kernel) rfl ?_
  refine tt_getI (k := 26) (by decide +kernel) KC_11 (by decide) w_891 (fun _ => rfl) f1 ?_
  refine tt_callV (As := [.ref b2, .int 0, .int (tI S a0 26)]) (rest := []) (ci := 11) (r0 := (R_11, F_11, 55)) (by decide +kernel) LK_M_place w_1237 w_1239 (in_p (n := 55) 60 rfl) (by decide) (by decide) rfl rfl (Nat.le_of_ble_eq_true rfl) rfl rfl f1 (ct_mono h (fun r Sb h => ?_))
  obtain ⟨eb, h⟩ := h
  obtain ⟨r4, rfl, h⟩ := h
  rw [eb]
  show T G J_M_stored 13 [(0, .ref a0)] [.int r4] S _
  refine tt_istore_n (k0 := 1) (lv' := [(0, .ref a0), (1, .int r4)]) (by decide +kernel) (by decide) rfl ?_
  refine tt_iload_n (k0 := 1) (by decide +kernel) rfl ?_
  refine tt_if_ge (off := 6) 21 (by decide +kernel) (by decide) (fun c => ?_) (fun c => ?_)
  · have h := h.1 c
    refine tt_aload_n (k0 := 0) (by decide +kernel) rfl ?_
    refine tt_aload_n (k0 := 0) (by decide +kernel) rfl ?_
    obtain ⟨b5, f6, h⟩ := h
    refine tt_getR (k := 30) (by decide +kernel) KC_11 (by decide) w_895 (fun _ => rfl) f1 f6 ?_
    refine tt_iload_n (k0 := 1) (by decide +kernel) rfl ?_
    obtain ⟨n7, f8, h⟩ := h
    obtain ⟨g2, h⟩ := h
    refine tt_iald (by decide +kernel) f8 g2 ?_
    refine tt_putI (k := 3) (by decide +kernel) KC_11 (by decide) w_868 rfl rfl f1 ?_
    generalize eS9 : sI S a0 (upd (tI S a0) 3 (tI S b5 r4.toNatClampNeg)) = S9
    have h := h S9 eS9.symm
    have hm : Sm0 S S9 := by rw [← eS9]; exact hm.I
    have f1 : te S9 a0 = some (.inr 11) := by rw [← eS9, te_sI]; exact f1
    have f3 : tR S9 a0 25 = some b2 := by rw [← eS9, tR_sI]; exact f3
    have f6 : tR S9 a0 30 = some b5 := by rw [← eS9, tR_sI]; exact f6
    have f8 : te S9 b5 = some (.inl (.int, n7)) := by rw [← eS9, te_sI]; exact f8
    refine tt_iconst (n := 0) (v := 0) (by decide +kernel) (by decide) ?_
    refine tt_istore_n (k0 := 2) (lv' := [(0, .ref a0), (1, .int r4), (2, .int 0)]) (by decide +kernel) (by decide) rfl ?_
    exact tt_mono h (fun r S' q => ⟨hm.tr q.1, q.2⟩)
  · have h := h.2 c
    refine tt_bipush (n := -2) (v := -2) (by decide +kernel) (by decide) ?_
    exact tt_iret (by decide +kernel) rfl ⟨hm, h⟩
set_option maxRecDepth 100000 in
theorem v_M_stored_33 {G : pG} (a0 : Nat) (x1 : Int32) (x2 : Int32) (S : TS) (Q : Option Value → TS → Prop)
    (h : te S a0 = some (.inr 11) ∧ ((tI S a0 3 ≤ x2 → Q (some (.int (tI S a0 3))) S) ∧ (¬ (tI S a0 3 ≤ x2) → ∃ b2 : Nat, tR S a0 2 = some b2 ∧ ∃ b4 : Nat, tR S a0 29 = some b4 ∧ ∃ n6 : Nat, te S b4 = some (.inl (.byte, n6)) ∧ vp_in (((64 : Int32) * x1) + x2) n6 ∧ ∃ n8 : Nat, te S b2 = some (.inl (.byte, n8)) ∧ vp_in x2 n8 ∧ ∀ S10 : TS, S10 = sI S b2 (upd (tI S b2) x2.toNatClampNeg (tI S b4 (((64 : Int32) * x1) + x2).toNatClampNeg : Int32).toInt8.toInt32) → ∀ y11 : Int32, y11 = x2 + 1 → T0 G J_M_stored 33 [(0, .ref a0), (1, .int x1), (2, .int y11)] [] S10 Q))) :
    T0 G J_M_stored 33 [(0, .ref a0), (1, .int x1), (2, .int x2)] [] S Q := by
  unfold T0
  have hm : Sm0 S S := Sm0.rf S
  refine tt_iload_n (k0 := 2) (by decide +kernel) rfl ?_
  refine tt_aload_n (k0 := 0) (by decide +kernel) rfl ?_
  obtain ⟨f1, h⟩ := h
  refine tt_getI (k := 3) (by decide +kernel) KC_11 (by decide) w_868 (fun _ => rfl) f1 ?_
  refine tt_icmp_ge (off := 26) 64 (by decide +kernel) (by decide) (fun c => ?_) (fun c => ?_)
  · have h := h.1 c
    refine tt_aload_n (k0 := 0) (by decide +kernel) rfl ?_
    refine tt_getI (k := 3) (by decide +kernel) KC_11 (by decide) w_868 (fun _ => rfl) f1 ?_
    exact tt_iret (by decide +kernel) rfl ⟨hm, h⟩
  · have h := h.2 c
    refine tt_aload_n (k0 := 0) (by decide +kernel) rfl ?_
    obtain ⟨b2, f3, h⟩ := h
    refine tt_getR (k := 2) (by decide +kernel) KC_11 (by decide) w_867 (fun _ => rfl) f1 f3 ?_
    refine tt_iload_n (k0 := 2) (by decide +kernel) rfl ?_
    refine tt_aload_n (k0 := 0) (by decide +kernel) rfl ?_
    obtain ⟨b4, f5, h⟩ := h
    refine tt_getR (k := 29) (by decide +kernel) KC_11 (by decide) w_894 (fun _ => rfl) f1 f5 ?_
    refine tt_bipush (n := 64) (v := 64) (by decide +kernel) (by decide) ?_
    refine tt_iload_n (k0 := 1) (by decide +kernel) rfl ?_
    refine tt_imul (by decide +kernel) ?_
    refine tt_iload_n (k0 := 2) (by decide +kernel) rfl ?_
    refine tt_iadd (by decide +kernel) ?_
    obtain ⟨n6, f7, h⟩ := h
    obtain ⟨g2, h⟩ := h
    refine tt_bald (by decide +kernel) f7 g2 ?_
    obtain ⟨n8, f9, h⟩ := h
    obtain ⟨g2, h⟩ := h
    refine tt_bast (by decide +kernel) f9 g2 ?_
    generalize eS10 : sI S b2 (upd (tI S b2) x2.toNatClampNeg (tI S b4 (((64 : Int32) * x1) + x2).toNatClampNeg : Int32).toInt8.toInt32) = S10
    have h := h S10 eS10.symm
    have hm : Sm0 S S10 := by rw [← eS10]; exact hm.I
    have f1 : te S10 a0 = some (.inr 11) := by rw [← eS10, te_sI]; exact f1
    have f3 : tR S10 a0 2 = some b2 := by rw [← eS10, tR_sI]; exact f3
    have f5 : tR S10 a0 29 = some b4 := by rw [← eS10, tR_sI]; exact f5
    have f7 : te S10 b4 = some (.inl (.byte, n6)) := by rw [← eS10, te_sI]; exact f7
    have f9 : te S10 b2 = some (.inl (.byte, n8)) := by rw [← eS10, te_sI]; exact f9
    obtain ⟨y11, ey11⟩ : ∃ y : Int32, y = x2 + 1 := ⟨_, rfl⟩
    have h := h y11 ey11
    refine tt_iinc (i := 2) (n := 1) (v := y11) (lv' := [(0, .ref a0), (1, .int x1), (2, .int y11)]) (by decide +kernel) (by decide) rfl ey11.symm rfl ?_
    refine tt_goto (off := -28) (tgt := 33) (by decide +kernel) (by decide) ?_
    exact tt_mono h (fun r S' q => ⟨hm.tr q.1, q.2⟩)
set_option maxRecDepth 100000 in
theorem v_M_look {G : pG} (a0 : Nat) (x1 : Int32) (x2 : Int32) (S : TS) (Q : Option Value → Prop)
    (h : CP G J_M_side [.int x1] S (fun r => ∃ r1 : Int32, r = some (.int r1) ∧ ((r1 = 0 → Q (some (.int ((-1))))) ∧ (¬ (r1 = 0) → ((x2 < 0 → Q (some (.int ((-1))))) ∧ (¬ (x2 < 0) → ((x2 ≤ 6 → ((¬ x2 = 0 → ((¬ x2 = 6 → ((¬ x2 = 5 → te S a0 = some (.inr 11) ∧ ∃ b3 : Nat, tR S a0 15 = some b3 ∧ ∃ n5 : Nat, te S b3 = some (.inl (.int, n5)) ∧ vp_in x1 n5 ∧ ((tI S b3 x1.toNatClampNeg = 2 → ((3 ≤ x2 → ∃ b7 : Nat, tR S a0 21 = some b7 ∧ ∃ n9 : Nat, te S b7 = some (.inl (.int, n9)) ∧ vp_in ((((2 : Int32) * x1) + x2) - (3 : Int32)) n9 ∧ Q (some (.int (tI S b7 ((((2 : Int32) * x1) + x2) - (3 : Int32)).toNatClampNeg)))) ∧ (¬ (3 ≤ x2) → ∃ b11 : Nat, tR S a0 20 = some b11 ∧ ∃ n13 : Nat, te S b11 = some (.inl (.int, n13)) ∧ vp_in ((((2 : Int32) * x1) + x2) - (1 : Int32)) n13 ∧ Q (some (.int (tI S b11 ((((2 : Int32) * x1) + x2) - (1 : Int32)).toNatClampNeg)))))) ∧ (¬ (tI S b3 x1.toNatClampNeg = 2) → Q (some (.int 0))))) ∧ (x2 = 5 → TP G J_M_look 53 [(0, .ref a0), (1, .int x1), (2, .int x2), (3, .int 0), (4, .int 0)] [] S Q))) ∧ (x2 = 6 → te S a0 = some (.inr 11) ∧ ∃ b16 : Nat, tR S a0 16 = some b16 ∧ ∃ n18 : Nat, te S b16 = some (.inl (.int, n18)) ∧ vp_in x1 n18 ∧ Q (some (.int (tI S b16 x1.toNatClampNeg)))))) ∧ (x2 = 0 → te S a0 = some (.inr 11) ∧ ∃ b21 : Nat, tR S a0 15 = some b21 ∧ ∃ n23 : Nat, te S b21 = some (.inl (.int, n23)) ∧ vp_in x1 n23 ∧ Q (some (.int (tI S b21 x1.toNatClampNeg)))))) ∧ (¬ (x2 ≤ 6) → Q (some (.int ((-1)))))))))))) :
    CP G J_M_look [.ref a0, .int x1, .int x2] S Q := by
  unfold CP
  refine ct_of (by decide +kernel) (Nat.le_of_ble_eq_true rfl) (lv := [(0, .ref a0), (1, .int x1), (2, .int x2)]) rfl ?_
  refine tt_iload_n (k0 := 1) (by decide +kernel) rfl ?_
  refine tt_callS (As := [.int x1]) (rest := []) (by decide +kernel) LK_M_side w_1053 w_1054 (by decide) (by decide) rfl rfl (Nat.le_of_ble_eq_true rfl) (ct_mono h (fun r Sb h => ?_))
  obtain ⟨eb, h⟩ := h
  obtain ⟨r1, rfl, h⟩ := h
  rw [eb]
  show T G J_M_look 4 [(0, .ref a0), (1, .int x1), (2, .int x2)] [.int r1] S _
  refine tt_if_eq (off := 13) 17 (by decide +kernel) (by decide) (fun c => ?_) (fun c => ?_)
  · have h := h.1 c
    refine tt_iconst (n := -1) (v := -1) (by decide +kernel) (by decide) ?_
    exact tt_iret (by decide +kernel) rfl ⟨rfl, h⟩
  · have h := h.2 c
    refine tt_iload_n (k0 := 2) (by decide +kernel) rfl ?_
    refine tt_if_lt (off := 9) 17 (by decide +kernel) (by decide) (fun c => ?_) (fun c => ?_)
    · have h := h.1 c
      refine tt_iconst (n := -1) (v := -1) (by decide +kernel) (by decide) ?_
      exact tt_iret (by decide +kernel) rfl ⟨rfl, h⟩
    · have h := h.2 c
      refine tt_iload_n (k0 := 2) (by decide +kernel) rfl ?_
      refine tt_bipush (n := 6) (v := 6) (by decide +kernel) (by decide) ?_
      refine tt_icmp_le (off := 5) 19 (by decide +kernel) (by decide) (fun c => ?_) (fun c => ?_)
      · have h := h.1 c
        refine tt_iload_n (k0 := 2) (by decide +kernel) rfl ?_
        refine tt_if_ne (off := 10) 30 (by decide +kernel) (by decide) (fun c => ?_) (fun c => ?_)
        · have h := h.1 c
          refine tt_iload_n (k0 := 2) (by decide +kernel) rfl ?_
          refine tt_bipush (n := 6) (v := 6) (by decide +kernel) (by decide) ?_
          refine tt_icmp_ne (off := 10) 43 (by decide +kernel) (by decide) (fun c => ?_) (fun c => ?_)
          · have h := h.1 c
            refine tt_iload_n (k0 := 2) (by decide +kernel) rfl ?_
            refine tt_iconst (n := 5) (v := 5) (by decide +kernel) (by decide) ?_
            refine tt_icmp_ne (off := 46) 91 (by decide +kernel) (by decide) (fun c => ?_) (fun c => ?_)
            · have h := h.1 c
              refine tt_aload_n (k0 := 0) (by decide +kernel) rfl ?_
              obtain ⟨f2, h⟩ := h
              obtain ⟨b3, f4, h⟩ := h
              refine tt_getR (k := 15) (by decide +kernel) KC_11 (by decide) w_880 (fun _ => rfl) f2 f4 ?_
              refine tt_iload_n (k0 := 1) (by decide +kernel) rfl ?_
              obtain ⟨n5, f6, h⟩ := h
              obtain ⟨g2, h⟩ := h
              refine tt_iald (by decide +kernel) f6 g2 ?_
              refine tt_iconst (n := 2) (v := 2) (by decide +kernel) (by decide) ?_
              refine tt_icmp_eq (off := 5) 103 (by decide +kernel) (by decide) (fun c => ?_) (fun c => ?_)
              · have h := h.1 c
                refine tt_iload_n (k0 := 2) (by decide +kernel) rfl ?_
                refine tt_iconst (n := 3) (v := 3) (by decide +kernel) (by decide) ?_
                refine tt_icmp_ge (off := 18) 123 (by decide +kernel) (by decide) (fun c => ?_) (fun c => ?_)
                · have h := h.1 c
                  refine tt_aload_n (k0 := 0) (by decide +kernel) rfl ?_
                  obtain ⟨b7, f8, h⟩ := h
                  refine tt_getR (k := 21) (by decide +kernel) KC_11 (by decide) w_886 (fun _ => rfl) f2 f8 ?_
                  refine tt_iconst (n := 2) (v := 2) (by decide +kernel) (by decide) ?_
                  refine tt_iload_n (k0 := 1) (by decide +kernel) rfl ?_
                  refine tt_imul (by decide +kernel) ?_
                  refine tt_iload_n (k0 := 2) (by decide +kernel) rfl ?_
                  refine tt_iadd (by decide +kernel) ?_
                  refine tt_iconst (n := 3) (v := 3) (by decide +kernel) (by decide) ?_
                  refine tt_isub (by decide +kernel) ?_
                  obtain ⟨n9, f10, h⟩ := h
                  obtain ⟨g2, h⟩ := h
                  refine tt_iald (by decide +kernel) f10 g2 ?_
                  exact tt_iret (by decide +kernel) rfl ⟨rfl, h⟩
                · have h := h.2 c
                  refine tt_aload_n (k0 := 0) (by decide +kernel) rfl ?_
                  obtain ⟨b11, f12, h⟩ := h
                  refine tt_getR (k := 20) (by decide +kernel) KC_11 (by decide) w_885 (fun _ => rfl) f2 f12 ?_
                  refine tt_iconst (n := 2) (v := 2) (by decide +kernel) (by decide) ?_
                  refine tt_iload_n (k0 := 1) (by decide +kernel) rfl ?_
                  refine tt_imul (by decide +kernel) ?_
                  refine tt_iload_n (k0 := 2) (by decide +kernel) rfl ?_
                  refine tt_iadd (by decide +kernel) ?_
                  refine tt_iconst (n := 1) (v := 1) (by decide +kernel) (by decide) ?_
                  refine tt_isub (by decide +kernel) ?_
                  obtain ⟨n13, f14, h⟩ := h
                  obtain ⟨g2, h⟩ := h
                  refine tt_iald (by decide +kernel) f14 g2 ?_
                  refine tt_goto (off := 15) (tgt := 135) (by decide +kernel) (by decide) ?_
                  exact tt_iret (by decide +kernel) rfl ⟨rfl, h⟩
              · have h := h.2 c
                refine tt_iconst (n := 0) (v := 0) (by decide +kernel) (by decide) ?_
                exact tt_iret (by decide +kernel) rfl ⟨rfl, h⟩
            · have h := h.2 c
              refine tt_iconst (n := 0) (v := 0) (by decide +kernel) (by decide) ?_
              refine tt_istore_n (k0 := 3) (lv' := [(0, .ref a0), (1, .int x1), (2, .int x2), (3, .int 0)]) (by decide +kernel) (by decide) rfl ?_
              refine tt_iconst (n := 0) (v := 0) (by decide +kernel) (by decide) ?_
              refine tt_istore (k0 := 4) (lv' := [(0, .ref a0), (1, .int x1), (2, .int x2), (3, .int 0), (4, .int 0)]) (by decide +kernel) (by decide) rfl ?_
              exact h
          · have h := h.2 c
            refine tt_aload_n (k0 := 0) (by decide +kernel) rfl ?_
            obtain ⟨f15, h⟩ := h
            obtain ⟨b16, f17, h⟩ := h
            refine tt_getR (k := 16) (by decide +kernel) KC_11 (by decide) w_881 (fun _ => rfl) f15 f17 ?_
            refine tt_iload_n (k0 := 1) (by decide +kernel) rfl ?_
            obtain ⟨n18, f19, h⟩ := h
            obtain ⟨g2, h⟩ := h
            refine tt_iald (by decide +kernel) f19 g2 ?_
            exact tt_iret (by decide +kernel) rfl ⟨rfl, h⟩
        · have h := h.2 c
          refine tt_aload_n (k0 := 0) (by decide +kernel) rfl ?_
          obtain ⟨f20, h⟩ := h
          obtain ⟨b21, f22, h⟩ := h
          refine tt_getR (k := 15) (by decide +kernel) KC_11 (by decide) w_880 (fun _ => rfl) f20 f22 ?_
          refine tt_iload_n (k0 := 1) (by decide +kernel) rfl ?_
          obtain ⟨n23, f24, h⟩ := h
          obtain ⟨g2, h⟩ := h
          refine tt_iald (by decide +kernel) f24 g2 ?_
          exact tt_iret (by decide +kernel) rfl ⟨rfl, h⟩
      · have h := h.2 c
        refine tt_iconst (n := -1) (v := -1) (by decide +kernel) (by decide) ?_
        exact tt_iret (by decide +kernel) rfl ⟨rfl, h⟩
set_option maxRecDepth 100000 in
theorem v_M_look_53 {G : pG} (a0 : Nat) (x1 : Int32) (x2 : Int32) (x3 : Int32) (x4 : Int32) (S : TS) (Q : Option Value → Prop)
    (h : ((8 ≤ x4 → Q (some (.int x3))) ∧ (¬ (8 ≤ x4) → te S a0 = some (.inr 11) ∧ ∃ b2 : Nat, tR S a0 13 = some b2 ∧ ∃ n4 : Nat, te S b2 = some (.inl (.boolean, n4)) ∧ vp_in (((8 : Int32) * x1) + x4) n4 ∧ ((tI S b2 (((8 : Int32) * x1) + x4).toNatClampNeg = 0 → ∀ y6 : Int32, y6 = x3 + (0 : Int32) → ∀ y7 : Int32, y7 = x4 + 1 → TP G J_M_look 53 [(0, .ref a0), (1, .int x1), (2, .int x2), (3, .int y6), (4, .int y7)] [] S Q) ∧ (¬ (tI S b2 (((8 : Int32) * x1) + x4).toNatClampNeg = 0) → ∀ y8 : Int32, y8 = x3 + (1 : Int32) → ∀ y9 : Int32, y9 = x4 + 1 → TP G J_M_look 53 [(0, .ref a0), (1, .int x1), (2, .int x2), (3, .int y8), (4, .int y9)] [] S Q))))) :
    TP G J_M_look 53 [(0, .ref a0), (1, .int x1), (2, .int x2), (3, .int x3), (4, .int x4)] [] S Q := by
  unfold TP
  refine tt_iload (k0 := 4) (by decide +kernel) rfl ?_
  refine tt_bipush (n := 8) (v := 8) (by decide +kernel) (by decide) ?_
  refine tt_icmp_ge (off := 32) 89 (by decide +kernel) (by decide) (fun c => ?_) (fun c => ?_)
  · have h := h.1 c
    refine tt_iload_n (k0 := 3) (by decide +kernel) rfl ?_
    exact tt_iret (by decide +kernel) rfl ⟨rfl, h⟩
  · have h := h.2 c
    refine tt_iload_n (k0 := 3) (by decide +kernel) rfl ?_
    refine tt_aload_n (k0 := 0) (by decide +kernel) rfl ?_
    obtain ⟨f1, h⟩ := h
    obtain ⟨b2, f3, h⟩ := h
    refine tt_getR (k := 13) (by decide +kernel) KC_11 (by decide) w_878 (fun _ => rfl) f1 f3 ?_
    refine tt_bipush (n := 8) (v := 8) (by decide +kernel) (by decide) ?_
    refine tt_iload_n (k0 := 1) (by decide +kernel) rfl ?_
    refine tt_imul (by decide +kernel) ?_
    refine tt_iload (k0 := 4) (by decide +kernel) rfl ?_
    refine tt_iadd (by decide +kernel) ?_
    obtain ⟨n4, f5, h⟩ := h
    obtain ⟨g2, h⟩ := h
    refine tt_zald (by decide +kernel) f5 g2 ?_
    refine tt_if_eq (off := 7) 80 (by decide +kernel) (by decide) (fun c => ?_) (fun c => ?_)
    · have h := h.1 c
      refine tt_iconst (n := 0) (v := 0) (by decide +kernel) (by decide) ?_
      refine tt_iadd (by decide +kernel) ?_
      refine tt_topi (fun y6 ey6 => ?_)
      have h := h y6 ey6
      refine tt_istore_n (k0 := 3) (lv' := [(0, .ref a0), (1, .int x1), (2, .int x2), (3, .int y6), (4, .int x4)]) (by decide +kernel) (by decide) rfl ?_
      obtain ⟨y7, ey7⟩ : ∃ y : Int32, y = x4 + 1 := ⟨_, rfl⟩
      have h := h y7 ey7
      refine tt_iinc (i := 4) (n := 1) (v := y7) (lv' := [(0, .ref a0), (1, .int x1), (2, .int x2), (3, .int y6), (4, .int y7)]) (by decide +kernel) (by decide) rfl ey7.symm rfl ?_
      refine tt_goto (off := -33) (tgt := 53) (by decide +kernel) (by decide) ?_
      exact h
    · have h := h.2 c
      refine tt_iconst (n := 1) (v := 1) (by decide +kernel) (by decide) ?_
      refine tt_goto (off := 4) (tgt := 81) (by decide +kernel) (by decide) ?_
      refine tt_iadd (by decide +kernel) ?_
      refine tt_topi (fun y8 ey8 => ?_)
      have h := h y8 ey8
      refine tt_istore_n (k0 := 3) (lv' := [(0, .ref a0), (1, .int x1), (2, .int x2), (3, .int y8), (4, .int x4)]) (by decide +kernel) (by decide) rfl ?_
      obtain ⟨y9, ey9⟩ : ∃ y : Int32, y = x4 + 1 := ⟨_, rfl⟩
      have h := h y9 ey9
      refine tt_iinc (i := 4) (n := 1) (v := y9) (lv' := [(0, .ref a0), (1, .int x1), (2, .int x2), (3, .int y8), (4, .int y9)]) (by decide +kernel) (by decide) rfl ey9.symm rfl ?_
      refine tt_goto (off := -33) (tgt := 53) (by decide +kernel) (by decide) ?_
      exact h
set_option maxRecDepth 100000 in
theorem v_M_count {G : pG} (a0 : Nat) (x1 : Int32) (S : TS) (Q : Option Value → Prop)
    (h : ((x1 = 0 → te S a0 = some (.inr 11) ∧ Q (some (.int (tI S a0 31)))) ∧ (x1 = 1 → te S a0 = some (.inr 11) ∧ Q (some (.int (tI S a0 34)))) ∧ (x1 = 2 → te S a0 = some (.inr 11) ∧ Q (some (.int (tI S a0 35)))) ∧ (x1 = 3 → te S a0 = some (.inr 11) ∧ ∃ b5 : Nat, tR S a0 24 = some b5 ∧ ∃ n7 : Nat, te S b5 = some (.inl (.int, n7)) ∧ vp_in (x1 - (3 : Int32)) n7 ∧ Q (some (.int (tI S b5 (x1 - (3 : Int32)).toNatClampNeg)))) ∧ (x1 = 4 → te S a0 = some (.inr 11) ∧ ∃ b10 : Nat, tR S a0 24 = some b10 ∧ ∃ n12 : Nat, te S b10 = some (.inl (.int, n12)) ∧ vp_in (x1 - (3 : Int32)) n12 ∧ Q (some (.int (tI S b10 (x1 - (3 : Int32)).toNatClampNeg)))) ∧ (¬ x1 = 0 → ¬ x1 = 1 → ¬ x1 = 2 → ¬ x1 = 3 → ¬ x1 = 4 → Q (some (.int ((-1))))))) :
    CP G J_M_count [.ref a0, .int x1] S Q := by
  unfold CP
  refine ct_of (by decide +kernel) (Nat.le_of_ble_eq_true rfl) (lv := [(0, .ref a0), (1, .int x1)]) rfl ?_
  refine tt_iload_n (k0 := 1) (by decide +kernel) rfl ?_
  by_cases n0 : x1 = 0
  · have h := h.1 n0
    refine tt_tableIn 36 (by decide +kernel : decode (jc J_M_count) 1 = .ok (.tableswitch (59) (0) (4) #[35, 40, 45, 50, 50], 35)) (by rw [n0]; decide) (by rw [n0]; decide) (off := 35) (by rw [n0]; decide +kernel) (by decide) ?_
    refine tt_aload_n (k0 := 0) (by decide +kernel) rfl ?_
    obtain ⟨f1, h⟩ := h
    refine tt_getI (k := 31) (by decide +kernel) KC_11 (by decide) w_896 (fun _ => rfl) f1 ?_
    exact tt_iret (by decide +kernel) rfl ⟨rfl, h⟩
  · by_cases n1 : x1 = 1
    · have h := h.2.1 n1
      refine tt_tableIn 41 (by decide +kernel : decode (jc J_M_count) 1 = .ok (.tableswitch (59) (0) (4) #[35, 40, 45, 50, 50], 35)) (by rw [n1]; decide) (by rw [n1]; decide) (off := 40) (by rw [n1]; decide +kernel) (by decide) ?_
      refine tt_aload_n (k0 := 0) (by decide +kernel) rfl ?_
      obtain ⟨f2, h⟩ := h
      refine tt_getI (k := 34) (by decide +kernel) KC_11 (by decide) w_899 (fun _ => rfl) f2 ?_
      exact tt_iret (by decide +kernel) rfl ⟨rfl, h⟩
    · by_cases n2 : x1 = 2
      · have h := h.2.2.1 n2
        refine tt_tableIn 46 (by decide +kernel : decode (jc J_M_count) 1 = .ok (.tableswitch (59) (0) (4) #[35, 40, 45, 50, 50], 35)) (by rw [n2]; decide) (by rw [n2]; decide) (off := 45) (by rw [n2]; decide +kernel) (by decide) ?_
        refine tt_aload_n (k0 := 0) (by decide +kernel) rfl ?_
        obtain ⟨f3, h⟩ := h
        refine tt_getI (k := 35) (by decide +kernel) KC_11 (by decide) w_900 (fun _ => rfl) f3 ?_
        exact tt_iret (by decide +kernel) rfl ⟨rfl, h⟩
      · by_cases n3 : x1 = 3
        · have h := h.2.2.2.1 n3
          refine tt_tableIn 51 (by decide +kernel : decode (jc J_M_count) 1 = .ok (.tableswitch (59) (0) (4) #[35, 40, 45, 50, 50], 35)) (by rw [n3]; decide) (by rw [n3]; decide) (off := 50) (by rw [n3]; decide +kernel) (by decide) ?_
          refine tt_aload_n (k0 := 0) (by decide +kernel) rfl ?_
          obtain ⟨f4, h⟩ := h
          obtain ⟨b5, f6, h⟩ := h
          refine tt_getR (k := 24) (by decide +kernel) KC_11 (by decide) w_889 (fun _ => rfl) f4 f6 ?_
          refine tt_iload_n (k0 := 1) (by decide +kernel) rfl ?_
          refine tt_iconst (n := 3) (v := 3) (by decide +kernel) (by decide) ?_
          refine tt_isub (by decide +kernel) ?_
          obtain ⟨n7, f8, h⟩ := h
          obtain ⟨g2, h⟩ := h
          refine tt_iald (by decide +kernel) f8 g2 ?_
          exact tt_iret (by decide +kernel) rfl ⟨rfl, h⟩
        · by_cases n4 : x1 = 4
          · have h := h.2.2.2.2.1 n4
            refine tt_tableIn 51 (by decide +kernel : decode (jc J_M_count) 1 = .ok (.tableswitch (59) (0) (4) #[35, 40, 45, 50, 50], 35)) (by rw [n4]; decide) (by rw [n4]; decide) (off := 50) (by rw [n4]; decide +kernel) (by decide) ?_
            refine tt_aload_n (k0 := 0) (by decide +kernel) rfl ?_
            obtain ⟨f9, h⟩ := h
            obtain ⟨b10, f11, h⟩ := h
            refine tt_getR (k := 24) (by decide +kernel) KC_11 (by decide) w_889 (fun _ => rfl) f9 f11 ?_
            refine tt_iload_n (k0 := 1) (by decide +kernel) rfl ?_
            refine tt_iconst (n := 3) (v := 3) (by decide +kernel) (by decide) ?_
            refine tt_isub (by decide +kernel) ?_
            obtain ⟨n12, f13, h⟩ := h
            obtain ⟨g2, h⟩ := h
            refine tt_iald (by decide +kernel) f13 g2 ?_
            exact tt_iret (by decide +kernel) rfl ⟨rfl, h⟩
          · have h := h.2.2.2.2.2 n0 n1 n2 n3 n4
            refine tt_tableOut 60 (by decide +kernel : decode (jc J_M_count) 1 = .ok (.tableswitch (59) (0) (4) #[35, 40, 45, 50, 50], 35)) (by have m0 := lv_neT n0 (a := 0) rfl; have m1 := lv_neT n1 (a := 1) rfl; have m2 := lv_neT n2 (a := 2) rfl; have m3 := lv_neT n3 (a := 3) rfl; have m4 := lv_neT n4 (a := 4) rfl; omega) (by decide) ?_
            refine tt_iconst (n := -1) (v := -1) (by decide +kernel) (by decide) ?_
            exact tt_iret (by decide +kernel) rfl ⟨rfl, h⟩
