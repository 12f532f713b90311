set_option maxRecDepth 100000 in
theorem v_Sealer_init {G : pG} (a0 : Nat) (S : TS) (Q : Option Value → TS → Prop)
    (h : ∀ S1 : TS, S1 = sN S (.inr 8) 2 → CT G J_Stream_init [.ref (tz S)] S1 (fun r S2 => r = none ∧ te S2 a0 = some (.inr 5) ∧ ∀ S4 : TS, S4 = sR S2 a0 (va_up (tR S2 a0) 0 (some (tz S))) → ∀ S5 : TS, S5 = sN S4 (.inr 3) 5 → CT G J_Poly_init [.ref (tz S4)] S5 (fun r S6 => r = none ∧ te S6 a0 = some (.inr 5) ∧ ∀ S8 : TS, S8 = sR S6 a0 (va_up (tR S6 a0) 1 (some (tz S4))) → ∀ S9 : TS, S9 = sN S8 (.inr 0) 2 → CT G J_Bytes_init [.ref (tz S8), .int 16] S9 (fun r S10 => r = none ∧ te S10 a0 = some (.inr 5) ∧ ∀ S12 : TS, S12 = sR S10 a0 (va_up (tR S10 a0) 2 (some (tz S8))) → Q none S12)))) :
    CT G J_Sealer_init [.ref a0] S Q := by
  refine ct_of (by decide +kernel) (Nat.le_of_ble_eq_true rfl) (lv := [(0, .ref a0)]) rfl ?_
  refine tt_aload_n (k0 := 0) (by decide +kernel) rfl ?_
  refine tt_objInit (by decide +kernel) w_42 w_21 w_22 (by decide) (Nat.le_of_ble_eq_true rfl) ?_
  refine tt_aload_n (k0 := 0) (by decide +kernel) rfl ?_
  refine tt_new (by decide +kernel) KC_8 w_43 w_44 w_4 OK_8 ?_
  generalize eS1 : sN S (.inr 8) 2 = S1
  have h := h S1 eS1.symm
  refine tt_dup (by decide +kernel) rfl ?_
  refine tt_callIN (idx := 11) (host := "SealedWire") (As := []) (rest := [.ref (tz S), .ref a0]) (by decide +kernel) LK_Stream_init rfl (by simp [pNest]) w_46 rfl (by decide) (by decide) rfl rfl (Nat.le_of_ble_eq_true rfl) (ct_mono h (fun r S2 h => ?_))
  obtain ⟨rfl, h⟩ := h
  show T G J_Sealer_init 12 [(0, .ref a0)] [.ref (tz S), .ref a0] S2 _
  obtain ⟨f3, h⟩ := h
  refine tt_putFR (k := 0) (by decide +kernel) KC_5 (by decide) w_83 rfl rfl rfl (Or.inl ⟨_, rfl⟩) f3 ?_
  generalize eS4 : sR S2 a0 (va_up (tR S2 a0) 0 (some (tz S))) = S4
  have h := h S4 eS4.symm
  refine tt_aload_n (k0 := 0) (by decide +kernel) rfl ?_
  refine tt_new (by decide +kernel) KC_3 w_56 w_57 w_5 OK_3 ?_
  generalize eS5 : sN S4 (.inr 3) 5 = S5
  have h := h S5 eS5.symm
  refine tt_dup (by decide +kernel) rfl ?_
  refine tt_callIN (idx := 20) (host := "SealedWire") (As := []) (rest := [.ref (tz S4), .ref a0]) (by decide +kernel) LK_Poly_init rfl (by simp [pNest]) w_59 rfl (by decide) (by decide) rfl rfl (Nat.le_of_ble_eq_true rfl) (ct_mono h (fun r S6 h => ?_))
  obtain ⟨rfl, h⟩ := h
  show T G J_Sealer_init 23 [(0, .ref a0)] [.ref (tz S4), .ref a0] S6 _
  obtain ⟨f7, h⟩ := h
  refine tt_putFR (k := 1) (by decide +kernel) KC_5 (by decide) w_84 rfl rfl rfl (Or.inl ⟨_, rfl⟩) f7 ?_
  generalize eS8 : sR S6 a0 (va_up (tR S6 a0) 1 (some (tz S4))) = S8
  have h := h S8 eS8.symm
  refine tt_aload_n (k0 := 0) (by decide +kernel) rfl ?_
  refine tt_new (by decide +kernel) KC_0 w_81 w_24 w_2 OK_0 ?_
  generalize eS9 : sN S8 (.inr 0) 2 = S9
  have h := h S9 eS9.symm
  refine tt_dup (by decide +kernel) rfl ?_
  refine tt_bipush (n := 16) (v := 16) (by decide +kernel) (by decide) ?_
  refine tt_callI (As := [.int 16]) (rest := [.ref (tz S8), .ref a0]) (by decide +kernel) LK_Bytes_init rfl w_82 w_26 rfl (by decide) (by decide) rfl rfl (Nat.le_of_ble_eq_true rfl) (ct_mono h (fun r S10 h => ?_))
  obtain ⟨rfl, h⟩ := h
  show T G J_Sealer_init 36 [(0, .ref a0)] [.ref (tz S8), .ref a0] S10 _
  obtain ⟨f11, h⟩ := h
  refine tt_putFR (k := 2) (by decide +kernel) KC_5 (by decide) w_85 rfl rfl rfl (Or.inl ⟨_, rfl⟩) f11 ?_
  generalize eS12 : sR S10 a0 (va_up (tR S10 a0) 2 (some (tz S8))) = S12
  have h := h S12 eS12.symm
  exact tt_vret (by decide +kernel) rfl h
set_option maxRecDepth 100000 in
theorem v_Wire_init {G : pG} (a0 : Nat) (S : TS) (Q : Option Value → TS → Prop)
    (h : ∀ S1 : TS, S1 = sN S (.inl (.object "SealedWire$Bytes", 13)) 13 → te S1 a0 = some (.inr 9) ∧ ∀ S3 : TS, S3 = sR S1 a0 (va_up (tR S1 a0) 0 (some (tz S))) → T G J_Wire_init 15 [(0, .ref a0), (1, .int 0)] [] S3 Q) :
    CT G J_Wire_init [.ref a0] S Q := by
  refine ct_of (by decide +kernel) (Nat.le_of_ble_eq_true rfl) (lv := [(0, .ref a0)]) rfl ?_
  refine tt_aload_n (k0 := 0) (by decide +kernel) rfl ?_
  refine tt_objInit (by decide +kernel) w_98 w_21 w_22 (by decide) (Nat.le_of_ble_eq_true rfl) ?_
  refine tt_aload_n (k0 := 0) (by decide +kernel) rfl ?_
  refine tt_bipush (n := 13) (v := 13) (by decide +kernel) (by decide) ?_
  refine tt_anew (n := 13) (C := "SealedWire$Bytes") (by decide +kernel) w_99 (by simp [pOver]) (by decide) (by decide) (by decide) ?_
  generalize eS1 : sN S (.inl (.object "SealedWire$Bytes", 13)) 13 = S1
  have h := h S1 eS1.symm
  obtain ⟨f2, h⟩ := h
  refine tt_putFR (k := 0) (by decide +kernel) KC_9 (by decide) w_102 rfl rfl rfl (Or.inr ⟨_, rfl⟩) f2 ?_
  generalize eS3 : sR S1 a0 (va_up (tR S1 a0) 0 (some (tz S))) = S3
  have h := h S3 eS3.symm
  refine tt_iconst (n := 0) (v := 0) (by decide +kernel) (by decide) ?_
  refine tt_istore_n (k0 := 1) (lv' := [(0, .ref a0), (1, .int 0)]) (by decide +kernel) (by decide) rfl ?_
  exact h
set_option maxRecDepth 100000 in
theorem v_Wire_init_15 {G : pG} (a0 : Nat) (x1 : Int32) (S : TS) (Q : Option Value → TS → Prop)
    (h : ((12 < x1 → Q none S) ∧ (¬ (12 < x1) → te S a0 = some (.inr 9) ∧ ∃ b2 : Nat, tR S a0 0 = some b2 ∧ ∀ S4 : TS, S4 = sN S (.inr 0) 2 → CT G J_Bytes_init [.ref (tz S), .int 200] S4 (fun r S5 => r = none ∧ ∃ n6 : Nat, te S5 b2 = some (.inl (.object "SealedWire$Bytes", n6)) ∧ te S5 (tz S) = some (.inr 0) ∧ vp_in x1 n6 ∧ ∀ S9 : TS, S9 = sR S5 b2 (va_up (tR S5 b2) x1.toNatClampNeg (some (tz S))) → ∀ y10 : Int32, y10 = x1 + 1 → T G J_Wire_init 15 [(0, .ref a0), (1, .int y10)] [] S9 Q)))) :
    T G J_Wire_init 15 [(0, .ref a0), (1, .int x1)] [] S Q := by
  refine tt_iload_n (k0 := 1) (by decide +kernel) rfl ?_
  refine tt_bipush (n := 12) (v := 12) (by decide +kernel) (by decide) ?_
  refine tt_icmp_gt (off := 25) 43 (by decide +kernel) (by decide) (fun c => ?_) (fun c => ?_)
  · have h := h.1 c
    exact tt_vret (by decide +kernel) rfl h
  · have h := h.2 c
    refine tt_aload_n (k0 := 0) (by decide +kernel) rfl ?_
    obtain ⟨f1, h⟩ := h
    obtain ⟨b2, f3, h⟩ := h
    refine tt_getR (k := 0) (by decide +kernel) KC_9 (by decide) w_102 (fun _ => rfl) f1 f3 ?_
    refine tt_iload_n (k0 := 1) (by decide +kernel) rfl ?_
    refine tt_new (by decide +kernel) KC_0 w_99 w_24 w_2 OK_0 ?_
    generalize eS4 : sN S (.inr 0) 2 = S4
    have h := h S4 eS4.symm
    refine tt_dup (by decide +kernel) rfl ?_
    refine tt_sipush (n := 200) (v := 200) (by decide +kernel) (by decide) ?_
    refine tt_callI (As := [.int 200]) (rest := [.ref (tz S), .int x1, .ref b2]) (by decide +kernel) LK_Bytes_init rfl w_101 w_26 rfl (by decide) (by decide) rfl rfl (Nat.le_of_ble_eq_true rfl) (ct_mono h (fun r S5 h => ?_))
    obtain ⟨rfl, h⟩ := h
    show T G J_Wire_init 36 [(0, .ref a0), (1, .int x1)] [.ref (tz S), .int x1, .ref b2] S5 _
    obtain ⟨n6, f7, h⟩ := h
    obtain ⟨f8, h⟩ := h
    obtain ⟨g3, h⟩ := h
    refine tt_aast (r := (R_0, F_0, 2)) (ci := 0) (by decide +kernel) f7 rfl f8 g3 ?_
    generalize eS9 : sR S5 b2 (va_up (tR S5 b2) x1.toNatClampNeg (some (tz S))) = S9
    have h := h S9 eS9.symm
    obtain ⟨y10, ey10⟩ : ∃ y : Int32, y = x1 + 1 := ⟨_, rfl⟩
    have h := h y10 ey10
    refine tt_iinc (i := 1) (n := 1) (v := y10) (lv' := [(0, .ref a0), (1, .int y10)]) (by decide +kernel) (by decide) rfl ey10.symm rfl ?_
    refine tt_goto (off := -25) (tgt := 15) (by decide +kernel) (by decide) ?_
    exact h
set_option maxRecDepth 100000 in
theorem v_Store_init {G : pG} (a0 : Nat) (S : TS) (Q : Option Value → TS → Prop)
    (h : ∀ S1 : TS, S1 = sN S (.inl (.object "SealedWire$Bytes", 20)) 20 → te S1 a0 = some (.inr 7) ∧ ∀ S3 : TS, S3 = sR S1 a0 (va_up (tR S1 a0) 0 (some (tz S))) → ∀ S4 : TS, S4 = sN S3 (.inl (.object "SealedWire$Bytes", 20)) 20 → te S4 a0 = some (.inr 7) ∧ ∀ S6 : TS, S6 = sR S4 a0 (va_up (tR S4 a0) 1 (some (tz S3))) → T G J_Store_init 24 [(0, .ref a0), (1, .int 0)] [] S6 Q) :
    CT G J_Store_init [.ref a0] S Q := by
  refine ct_of (by decide +kernel) (Nat.le_of_ble_eq_true rfl) (lv := [(0, .ref a0)]) rfl ?_
  refine tt_aload_n (k0 := 0) (by decide +kernel) rfl ?_
  refine tt_objInit (by decide +kernel) w_114 w_21 w_22 (by decide) (Nat.le_of_ble_eq_true rfl) ?_
  refine tt_aload_n (k0 := 0) (by decide +kernel) rfl ?_
  refine tt_bipush (n := 20) (v := 20) (by decide +kernel) (by decide) ?_
  refine tt_anew (n := 20) (C := "SealedWire$Bytes") (by decide +kernel) w_115 (by simp [pOver]) (by decide) (by decide) (by decide) ?_
  generalize eS1 : sN S (.inl (.object "SealedWire$Bytes", 20)) 20 = S1
  have h := h S1 eS1.symm
  obtain ⟨f2, h⟩ := h
  refine tt_putFR (k := 0) (by decide +kernel) KC_7 (by decide) w_117 rfl rfl rfl (Or.inr ⟨_, rfl⟩) f2 ?_
  generalize eS3 : sR S1 a0 (va_up (tR S1 a0) 0 (some (tz S))) = S3
  have h := h S3 eS3.symm
  refine tt_aload_n (k0 := 0) (by decide +kernel) rfl ?_
  refine tt_bipush (n := 20) (v := 20) (by decide +kernel) (by decide) ?_
  refine tt_anew (n := 20) (C := "SealedWire$Bytes") (by decide +kernel) w_115 (by simp [pOver]) (by decide) (by decide) (by decide) ?_
  generalize eS4 : sN S3 (.inl (.object "SealedWire$Bytes", 20)) 20 = S4
  have h := h S4 eS4.symm
  obtain ⟨f5, h⟩ := h
  refine tt_putFR (k := 1) (by decide +kernel) KC_7 (by decide) w_118 rfl rfl rfl (Or.inr ⟨_, rfl⟩) f5 ?_
  generalize eS6 : sR S4 a0 (va_up (tR S4 a0) 1 (some (tz S3))) = S6
  have h := h S6 eS6.symm
  refine tt_iconst (n := 0) (v := 0) (by decide +kernel) (by decide) ?_
  refine tt_istore_n (k0 := 1) (lv' := [(0, .ref a0), (1, .int 0)]) (by decide +kernel) (by decide) rfl ?_
  exact h
set_option maxRecDepth 100000 in
theorem v_Store_init_24 {G : pG} (a0 : Nat) (x1 : Int32) (S : TS) (Q : Option Value → TS → Prop)
    (h : ((20 ≤ x1 → Q none S) ∧ (¬ (20 ≤ x1) → te S a0 = some (.inr 7) ∧ ∃ b2 : Nat, tR S a0 0 = some b2 ∧ ∀ S4 : TS, S4 = sN S (.inr 0) 2 → CT G J_Bytes_init [.ref (tz S), .int 16] S4 (fun r S5 => r = none ∧ ∃ n6 : Nat, te S5 b2 = some (.inl (.object "SealedWire$Bytes", n6)) ∧ te S5 (tz S) = some (.inr 0) ∧ vp_in x1 n6 ∧ ∀ S9 : TS, S9 = sR S5 b2 (va_up (tR S5 b2) x1.toNatClampNeg (some (tz S))) → te S9 a0 = some (.inr 7) ∧ ∃ b11 : Nat, tR S9 a0 1 = some b11 ∧ ∀ S13 : TS, S13 = sN S9 (.inr 0) 2 → CT G J_Bytes_init [.ref (tz S9), .int 64] S13 (fun r S14 => r = none ∧ ∃ n15 : Nat, te S14 b11 = some (.inl (.object "SealedWire$Bytes", n15)) ∧ te S14 (tz S9) = some (.inr 0) ∧ vp_in x1 n15 ∧ ∀ S18 : TS, S18 = sR S14 b11 (va_up (tR S14 b11) x1.toNatClampNeg (some (tz S9))) → ∀ y19 : Int32, y19 = x1 + 1 → T G J_Store_init 24 [(0, .ref a0), (1, .int y19)] [] S18 Q))))) :
    T G J_Store_init 24 [(0, .ref a0), (1, .int x1)] [] S Q := by
  refine tt_iload_n (k0 := 1) (by decide +kernel) rfl ?_
  refine tt_bipush (n := 20) (v := 20) (by decide +kernel) (by decide) ?_
  refine tt_icmp_ge (off := 39) 66 (by decide +kernel) (by decide) (fun c => ?_) (fun c => ?_)
  · have h := h.1 c
    exact tt_vret (by decide +kernel) rfl h
  · have h := h.2 c
    refine tt_aload_n (k0 := 0) (by decide +kernel) rfl ?_
    obtain ⟨f1, h⟩ := h
    obtain ⟨b2, f3, h⟩ := h
    refine tt_getR (k := 0) (by decide +kernel) KC_7 (by decide) w_117 (fun _ => rfl) f1 f3 ?_
    refine tt_iload_n (k0 := 1) (by decide +kernel) rfl ?_
    refine tt_new (by decide +kernel) KC_0 w_115 w_24 w_2 OK_0 ?_
    generalize eS4 : sN S (.inr 0) 2 = S4
    have h := h S4 eS4.symm
    refine tt_dup (by decide +kernel) rfl ?_
    refine tt_bipush (n := 16) (v := 16) (by decide +kernel) (by decide) ?_
    refine tt_callI (As := [.int 16]) (rest := [.ref (tz S), .int x1, .ref b2]) (by decide +kernel) LK_Bytes_init rfl w_116 w_26 rfl (by decide) (by decide) rfl rfl (Nat.le_of_ble_eq_true rfl) (ct_mono h (fun r S5 h => ?_))
    obtain ⟨rfl, h⟩ := h
    show T G J_Store_init 44 [(0, .ref a0), (1, .int x1)] [.ref (tz S), .int x1, .ref b2] S5 _
    obtain ⟨n6, f7, h⟩ := h
    obtain ⟨f8, h⟩ := h
    obtain ⟨g3, h⟩ := h
    refine tt_aast (r := (R_0, F_0, 2)) (ci := 0) (by decide +kernel) f7 rfl f8 g3 ?_
    generalize eS9 : sR S5 b2 (va_up (tR S5 b2) x1.toNatClampNeg (some (tz S))) = S9
    have h := h S9 eS9.symm
    refine tt_aload_n (k0 := 0) (by decide +kernel) rfl ?_
    obtain ⟨f10, h⟩ := h
    obtain ⟨b11, f12, h⟩ := h
    refine tt_getR (k := 1) (by decide +kernel) KC_7 (by decide) w_118 (fun _ => rfl) f10 f12 ?_
    refine tt_iload_n (k0 := 1) (by decide +kernel) rfl ?_
    refine tt_new (by decide +kernel) KC_0 w_115 w_24 w_2 OK_0 ?_
    generalize eS13 : sN S9 (.inr 0) 2 = S13
    have h := h S13 eS13.symm
    refine tt_dup (by decide +kernel) rfl ?_
    refine tt_bipush (n := 64) (v := 64) (by decide +kernel) (by decide) ?_
    refine tt_callI (As := [.int 64]) (rest := [.ref (tz S9), .int x1, .ref b11]) (by decide +kernel) LK_Bytes_init rfl w_116 w_26 rfl (by decide) (by decide) rfl rfl (Nat.le_of_ble_eq_true rfl) (ct_mono h (fun r S14 h => ?_))
    obtain ⟨rfl, h⟩ := h
    show T G J_Store_init 59 [(0, .ref a0), (1, .int x1)] [.ref (tz S9), .int x1, .ref b11] S14 _
    obtain ⟨n15, f16, h⟩ := h
    obtain ⟨f17, h⟩ := h
    obtain ⟨g3, h⟩ := h
    refine tt_aast (r := (R_0, F_0, 2)) (ci := 0) (by decide +kernel) f16 rfl f17 g3 ?_
    generalize eS18 : sR S14 b11 (va_up (tR S14 b11) x1.toNatClampNeg (some (tz S9))) = S18
    have h := h S18 eS18.symm
    obtain ⟨y19, ey19⟩ : ∃ y : Int32, y = x1 + 1 := ⟨_, rfl⟩
    have h := h y19 ey19
    refine tt_iinc (i := 1) (n := 1) (v := y19) (lv' := [(0, .ref a0), (1, .int y19)]) (by decide +kernel) (by decide) rfl ey19.symm rfl ?_
    refine tt_goto (off := -39) (tgt := 24) (by decide +kernel) (by decide) ?_
    exact h
set_option maxRecDepth 100000 in
theorem v_Request_init {G : pG} (a0 : Nat) (S : TS) (Q : Option Value → TS → Prop)
    (h : ∀ S1 : TS, S1 = sN S (.inr 0) 2 → CT G J_Bytes_init [.ref (tz S), .int 16] S1 (fun r S2 => r = none ∧ te S2 a0 = some (.inr 4) ∧ ∀ S4 : TS, S4 = sR S2 a0 (va_up (tR S2 a0) 0 (some (tz S))) → ∀ S5 : TS, S5 = sN S4 (.inr 0) 2 → CT G J_Bytes_init [.ref (tz S4), .int 64] S5 (fun r S6 => r = none ∧ te S6 a0 = some (.inr 4) ∧ ∀ S8 : TS, S8 = sR S6 a0 (va_up (tR S6 a0) 1 (some (tz S4))) → Q none S8))) :
    CT G J_Request_init [.ref a0] S Q := by
  refine ct_of (by decide +kernel) (Nat.le_of_ble_eq_true rfl) (lv := [(0, .ref a0)]) rfl ?_
  refine tt_aload_n (k0 := 0) (by decide +kernel) rfl ?_
  refine tt_objInit (by decide +kernel) w_132 w_21 w_22 (by decide) (Nat.le_of_ble_eq_true rfl) ?_
  refine tt_aload_n (k0 := 0) (by decide +kernel) rfl ?_
  refine tt_new (by decide +kernel) KC_0 w_133 w_24 w_2 OK_0 ?_
  generalize eS1 : sN S (.inr 0) 2 = S1
  have h := h S1 eS1.symm
  refine tt_dup (by decide +kernel) rfl ?_
  refine tt_bipush (n := 16) (v := 16) (by decide +kernel) (by decide) ?_
  refine tt_callI (As := [.int 16]) (rest := [.ref (tz S), .ref a0]) (by decide +kernel) LK_Bytes_init rfl w_134 w_26 rfl (by decide) (by decide) rfl rfl (Nat.le_of_ble_eq_true rfl) (ct_mono h (fun r S2 h => ?_))
  obtain ⟨rfl, h⟩ := h
  show T G J_Request_init 14 [(0, .ref a0)] [.ref (tz S), .ref a0] S2 _
  obtain ⟨f3, h⟩ := h
  refine tt_putFR (k := 0) (by decide +kernel) KC_4 (by decide) w_135 rfl rfl rfl (Or.inl ⟨_, rfl⟩) f3 ?_
  generalize eS4 : sR S2 a0 (va_up (tR S2 a0) 0 (some (tz S))) = S4
  have h := h S4 eS4.symm
  refine tt_aload_n (k0 := 0) (by decide +kernel) rfl ?_
  refine tt_new (by decide +kernel) KC_0 w_133 w_24 w_2 OK_0 ?_
  generalize eS5 : sN S4 (.inr 0) 2 = S5
  have h := h S5 eS5.symm
  refine tt_dup (by decide +kernel) rfl ?_
  refine tt_bipush (n := 64) (v := 64) (by decide +kernel) (by decide) ?_
  refine tt_callI (As := [.int 64]) (rest := [.ref (tz S4), .ref a0]) (by decide +kernel) LK_Bytes_init rfl w_134 w_26 rfl (by decide) (by decide) rfl rfl (Nat.le_of_ble_eq_true rfl) (ct_mono h (fun r S6 h => ?_))
  obtain ⟨rfl, h⟩ := h
  show T G J_Request_init 27 [(0, .ref a0)] [.ref (tz S4), .ref a0] S6 _
  obtain ⟨f7, h⟩ := h
  refine tt_putFR (k := 1) (by decide +kernel) KC_4 (by decide) w_136 rfl rfl rfl (Or.inl ⟨_, rfl⟩) f7 ?_
  generalize eS8 : sR S6 a0 (va_up (tR S6 a0) 1 (some (tz S4))) = S8
  have h := h S8 eS8.symm
  exact tt_vret (by decide +kernel) rfl h
set_option maxRecDepth 100000 in
theorem v_Side_init {G : pG} (a0 : Nat) (x1 : Int32) (x2 : Int32) (S : TS) (Q : Option Value → TS → Prop)
    (h : ∀ S1 : TS, S1 = sN S (.inr 2) 4 → CT G J_Hash_init [.ref (tz S)] S1 (fun r S2 => r = none ∧ te S2 a0 = some (.inr 6) ∧ ∀ S4 : TS, S4 = sR S2 a0 (va_up (tR S2 a0) 2 (some (tz S))) → ∀ S5 : TS, S5 = sN S4 (.inl (.object "SealedWire$Bytes", 8)) 8 → te S5 a0 = some (.inr 6) ∧ ∀ S7 : TS, S7 = sR S5 a0 (va_up (tR S5 a0) 3 (some (tz S4))) → ∀ S8 : TS, S8 = sN S7 (.inr 1) 5 → CT G J_Direction_init [.ref (tz S7), .int 0] S8 (fun r S9 => r = none ∧ te S9 a0 = some (.inr 6) ∧ ∀ S11 : TS, S11 = sR S9 a0 (va_up (tR S9 a0) 4 (some (tz S7))) → ∀ S12 : TS, S12 = sN S11 (.inr 1) 5 → CT G J_Direction_init [.ref (tz S11), .int 1] S12 (fun r S13 => r = none ∧ te S13 a0 = some (.inr 6) ∧ ∀ S15 : TS, S15 = sR S13 a0 (va_up (tR S13 a0) 5 (some (tz S11))) → ∀ S16 : TS, S16 = sN S15 (.inr 0) 2 → CT G J_Bytes_init [.ref (tz S15), .int 33] S16 (fun r S17 => r = none ∧ te S17 a0 = some (.inr 6) ∧ ∀ S19 : TS, S19 = sR S17 a0 (va_up (tR S17 a0) 6 (some (tz S15))) → ∀ S20 : TS, S20 = sN S19 (.inr 0) 2 → CT G J_Bytes_init [.ref (tz S19), .int 32] S20 (fun r S21 => r = none ∧ te S21 a0 = some (.inr 6) ∧ ∀ S23 : TS, S23 = sR S21 a0 (va_up (tR S21 a0) 7 (some (tz S19))) → ∀ S24 : TS, S24 = sN S23 (.inr 0) 2 → CT G J_Bytes_init [.ref (tz S23), .int 32] S24 (fun r S25 => r = none ∧ te S25 a0 = some (.inr 6) ∧ ∀ S27 : TS, S27 = sR S25 a0 (va_up (tR S25 a0) 8 (some (tz S23))) → ∀ S28 : TS, S28 = sN S27 (.inr 0) 2 → CT G J_Bytes_init [.ref (tz S27), .int 32] S28 (fun r S29 => r = none ∧ te S29 a0 = some (.inr 6) ∧ ∀ S31 : TS, S31 = sR S29 a0 (va_up (tR S29 a0) 9 (some (tz S27))) → ∀ S32 : TS, S32 = sN S31 (.inr 0) 2 → CT G J_Bytes_init [.ref (tz S31), .int 33] S32 (fun r S33 => r = none ∧ te S33 a0 = some (.inr 6) ∧ ∀ S35 : TS, S35 = sR S33 a0 (va_up (tR S33 a0) 10 (some (tz S31))) → te S35 a0 = some (.inr 6) ∧ ∀ S37 : TS, S37 = sI S35 a0 (upd (tI S35 a0) 11 0) → te S37 a0 = some (.inr 6) ∧ ∀ S39 : TS, S39 = sI S37 a0 (upd (tI S37 a0) 0 x1) → te S39 a0 = some (.inr 6) ∧ ∀ S41 : TS, S41 = sI S39 a0 (upd (tI S39 a0) 1 x2) → T G J_Side_init 130 [(0, .ref a0), (1, .int x1), (2, .int x2), (3, .int 0)] [] S41 Q))))))))) :
    CT G J_Side_init [.ref a0, .int x1, .int x2] S Q := by
  refine ct_of (by decide +kernel) (Nat.le_of_ble_eq_true rfl) (lv := [(0, .ref a0), (1, .int x1), (2, .int x2)]) rfl ?_
  refine tt_aload_n (k0 := 0) (by decide +kernel) rfl ?_
  refine tt_objInit (by decide +kernel) w_150 w_21 w_22 (by decide) (Nat.le_of_ble_eq_true rfl) ?_
  refine tt_aload_n (k0 := 0) (by decide +kernel) rfl ?_
  refine tt_new (by decide +kernel) KC_2 w_151 w_152 w_10 OK_2 ?_
  generalize eS1 : sN S (.inr 2) 4 = S1
  have h := h S1 eS1.symm
  refine tt_dup (by decide +kernel) rfl ?_
  refine tt_callIN (idx := 11) (host := "SealedWire") (As := []) (rest := [.ref (tz S), .ref a0]) (by decide +kernel) LK_Hash_init rfl (by simp [pNest]) w_154 rfl (by decide) (by decide) rfl rfl (Nat.le_of_ble_eq_true rfl) (ct_mono h (fun r S2 h => ?_))
  obtain ⟨rfl, h⟩ := h
  show T G J_Side_init 12 [(0, .ref a0), (1, .int x1), (2, .int x2)] [.ref (tz S), .ref a0] S2 _
  obtain ⟨f3, h⟩ := h
  refine tt_putFR (k := 2) (by decide +kernel) KC_6 (by decide) w_200 rfl rfl rfl (Or.inl ⟨_, rfl⟩) f3 ?_
  generalize eS4 : sR S2 a0 (va_up (tR S2 a0) 2 (some (tz S))) = S4
  have h := h S4 eS4.symm
  refine tt_aload_n (k0 := 0) (by decide +kernel) rfl ?_
  refine tt_bipush (n := 8) (v := 8) (by decide +kernel) (by decide) ?_
  refine tt_anew (n := 8) (C := "SealedWire$Bytes") (by decide +kernel) w_172 (by simp [pOver]) (by decide) (by decide) (by decide) ?_
  generalize eS5 : sN S4 (.inl (.object "SealedWire$Bytes", 8)) 8 = S5
  have h := h S5 eS5.symm
  obtain ⟨f6, h⟩ := h
  refine tt_putFR (k := 3) (by decide +kernel) KC_6 (by decide) w_201 rfl rfl rfl (Or.inr ⟨_, rfl⟩) f6 ?_
  generalize eS7 : sR S5 a0 (va_up (tR S5 a0) 3 (some (tz S4))) = S7
  have h := h S7 eS7.symm
  refine tt_aload_n (k0 := 0) (by decide +kernel) rfl ?_
  refine tt_new (by decide +kernel) KC_1 w_173 w_174 w_11 OK_1 ?_
  generalize eS8 : sN S7 (.inr 1) 5 = S8
  have h := h S8 eS8.symm
  refine tt_dup (by decide +kernel) rfl ?_
  refine tt_iconst (n := 0) (v := 0) (by decide +kernel) (by decide) ?_
  refine tt_callI (As := [.int 0]) (rest := [.ref (tz S7), .ref a0]) (by decide +kernel) LK_Direction_init rfl w_175 w_176 rfl (by decide) (by decide) rfl rfl (Nat.le_of_ble_eq_true rfl) (ct_mono h (fun r S9 h => ?_))
  obtain ⟨rfl, h⟩ := h
  show T G J_Side_init 33 [(0, .ref a0), (1, .int x1), (2, .int x2)] [.ref (tz S7), .ref a0] S9 _
  obtain ⟨f10, h⟩ := h
  refine tt_putFR (k := 4) (by decide +kernel) KC_6 (by decide) w_202 rfl rfl rfl (Or.inl ⟨_, rfl⟩) f10 ?_
  generalize eS11 : sR S9 a0 (va_up (tR S9 a0) 4 (some (tz S7))) = S11
  have h := h S11 eS11.symm
  refine tt_aload_n (k0 := 0) (by decide +kernel) rfl ?_
  refine tt_new (by decide +kernel) KC_1 w_173 w_174 w_11 OK_1 ?_
  generalize eS12 : sN S11 (.inr 1) 5 = S12
  have h := h S12 eS12.symm
  refine tt_dup (by decide +kernel) rfl ?_
  refine tt_iconst (n := 1) (v := 1) (by decide +kernel) (by decide) ?_
  refine tt_callI (As := [.int 1]) (rest := [.ref (tz S11), .ref a0]) (by decide +kernel) LK_Direction_init rfl w_175 w_176 rfl (by decide) (by decide) rfl rfl (Nat.le_of_ble_eq_true rfl) (ct_mono h (fun r S13 h => ?_))
  obtain ⟨rfl, h⟩ := h
  show T G J_Side_init 45 [(0, .ref a0), (1, .int x1), (2, .int x2)] [.ref (tz S11), .ref a0] S13 _
  obtain ⟨f14, h⟩ := h
  refine tt_putFR (k := 5) (by decide +kernel) KC_6 (by decide) w_203 rfl rfl rfl (Or.inl ⟨_, rfl⟩) f14 ?_
  generalize eS15 : sR S13 a0 (va_up (tR S13 a0) 5 (some (tz S11))) = S15
  have h := h S15 eS15.symm
  refine tt_aload_n (k0 := 0) (by decide +kernel) rfl ?_
  refine tt_new (by decide +kernel) KC_0 w_172 w_24 w_2 OK_0 ?_
  generalize eS16 : sN S15 (.inr 0) 2 = S16
  have h := h S16 eS16.symm
  refine tt_dup (by decide +kernel) rfl ?_
  refine tt_bipush (n := 33) (v := 33) (by decide +kernel) (by decide) ?_
  refine tt_callI (As := [.int 33]) (rest := [.ref (tz S15), .ref a0]) (by decide +kernel) LK_Bytes_init rfl w_197 w_26 rfl (by decide) (by decide) rfl rfl (Nat.le_of_ble_eq_true rfl) (ct_mono h (fun r S17 h => ?_))
  obtain ⟨rfl, h⟩ := h
  show T G J_Side_init 58 [(0, .ref a0), (1, .int x1), (2, .int x2)] [.ref (tz S15), .ref a0] S17 _
  obtain ⟨f18, h⟩ := h
  refine tt_putFR (k := 6) (by decide +kernel) KC_6 (by decide) w_204 rfl rfl rfl (Or.inl ⟨_, rfl⟩) f18 ?_
  generalize eS19 : sR S17 a0 (va_up (tR S17 a0) 6 (some (tz S15))) = S19
  have h := h S19 eS19.symm
  refine tt_aload_n (k0 := 0) (by decide +kernel) rfl ?_
  refine tt_new (by decide +kernel) KC_0 w_172 w_24 w_2 OK_0 ?_
  generalize eS20 : sN S19 (.inr 0) 2 = S20
  have h := h S20 eS20.symm
  refine tt_dup (by decide +kernel) rfl ?_
  refine tt_bipush (n := 32) (v := 32) (by decide +kernel) (by decide) ?_
  refine tt_callI (As := [.int 32]) (rest := [.ref (tz S19), .ref a0]) (by decide +kernel) LK_Bytes_init rfl w_197 w_26 rfl (by decide) (by decide) rfl rfl (Nat.le_of_ble_eq_true rfl) (ct_mono h (fun r S21 h => ?_))
  obtain ⟨rfl, h⟩ := h
  show T G J_Side_init 71 [(0, .ref a0), (1, .int x1), (2, .int x2)] [.ref (tz S19), .ref a0] S21 _
  obtain ⟨f22, h⟩ := h
  refine tt_putFR (k := 7) (by decide +kernel) KC_6 (by decide) w_205 rfl rfl rfl (Or.inl ⟨_, rfl⟩) f22 ?_
  generalize eS23 : sR S21 a0 (va_up (tR S21 a0) 7 (some (tz S19))) = S23
  have h := h S23 eS23.symm
  refine tt_aload_n (k0 := 0) (by decide +kernel) rfl ?_
  refine tt_new (by decide +kernel) KC_0 w_172 w_24 w_2 OK_0 ?_
  generalize eS24 : sN S23 (.inr 0) 2 = S24
  have h := h S24 eS24.symm
  refine tt_dup (by decide +kernel) rfl ?_
  refine tt_bipush (n := 32) (v := 32) (by decide +kernel) (by decide) ?_
  refine tt_callI (As := [.int 32]) (rest := [.ref (tz S23), .ref a0]) (by decide +kernel) LK_Bytes_init rfl w_197 w_26 rfl (by decide) (by decide) rfl rfl (Nat.le_of_ble_eq_true rfl) (ct_mono h (fun r S25 h => ?_))
  obtain ⟨rfl, h⟩ := h
  show T G J_Side_init 84 [(0, .ref a0), (1, .int x1), (2, .int x2)] [.ref (tz S23), .ref a0] S25 _
  obtain ⟨f26, h⟩ := h
  refine tt_putFR (k := 8) (by decide +kernel) KC_6 (by decide) w_206 rfl rfl rfl (Or.inl ⟨_, rfl⟩) f26 ?_
  generalize eS27 : sR S25 a0 (va_up (tR S25 a0) 8 (some (tz S23))) = S27
  have h := h S27 eS27.symm
  refine tt_aload_n (k0 := 0) (by decide +kernel) rfl ?_
  refine tt_new (by decide +kernel) KC_0 w_172 w_24 w_2 OK_0 ?_
  generalize eS28 : sN S27 (.inr 0) 2 = S28
  have h := h S28 eS28.symm
  refine tt_dup (by decide +kernel) rfl ?_
  refine tt_bipush (n := 32) (v := 32) (by decide +kernel) (by decide) ?_
  refine tt_callI (As := [.int 32]) (rest := [.ref (tz S27), .ref a0]) (by decide +kernel) LK_Bytes_init rfl w_197 w_26 rfl (by decide) (by decide) rfl rfl (Nat.le_of_ble_eq_true rfl) (ct_mono h (fun r S29 h => ?_))
  obtain ⟨rfl, h⟩ := h
  show T G J_Side_init 97 [(0, .ref a0), (1, .int x1), (2, .int x2)] [.ref (tz S27), .ref a0] S29 _
  obtain ⟨f30, h⟩ := h
  refine tt_putFR (k := 9) (by decide +kernel) KC_6 (by decide) w_207 rfl rfl rfl (Or.inl ⟨_, rfl⟩) f30 ?_
  generalize eS31 : sR S29 a0 (va_up (tR S29 a0) 9 (some (tz S27))) = S31
  have h := h S31 eS31.symm
  refine tt_aload_n (k0 := 0) (by decide +kernel) rfl ?_
  refine tt_new (by decide +kernel) KC_0 w_172 w_24 w_2 OK_0 ?_
  generalize eS32 : sN S31 (.inr 0) 2 = S32
  have h := h S32 eS32.symm
  refine tt_dup (by decide +kernel) rfl ?_
  refine tt_bipush (n := 33) (v := 33) (by decide +kernel) (by decide) ?_
  refine tt_callI (As := [.int 33]) (rest := [.ref (tz S31), .ref a0]) (by decide +kernel) LK_Bytes_init rfl w_197 w_26 rfl (by decide) (by decide) rfl rfl (Nat.le_of_ble_eq_true rfl) (ct_mono h (fun r S33 h => ?_))
  obtain ⟨rfl, h⟩ := h
  show T G J_Side_init 110 [(0, .ref a0), (1, .int x1), (2, .int x2)] [.ref (tz S31), .ref a0] S33 _
  obtain ⟨f34, h⟩ := h
  refine tt_putFR (k := 10) (by decide +kernel) KC_6 (by decide) w_208 rfl rfl rfl (Or.inl ⟨_, rfl⟩) f34 ?_
  generalize eS35 : sR S33 a0 (va_up (tR S33 a0) 10 (some (tz S31))) = S35
  have h := h S35 eS35.symm
  refine tt_aload_n (k0 := 0) (by decide +kernel) rfl ?_
  refine tt_iconst (n := 0) (v := 0) (by decide +kernel) (by decide) ?_
  obtain ⟨f36, h⟩ := h
  refine tt_putI (k := 11) (by decide +kernel) KC_6 (by decide) w_209 rfl rfl f36 ?_
  generalize eS37 : sI S35 a0 (upd (tI S35 a0) 11 0) = S37
  have h := h S37 eS37.symm
  refine tt_aload_n (k0 := 0) (by decide +kernel) rfl ?_
  refine tt_iload_n (k0 := 1) (by decide +kernel) rfl ?_
  obtain ⟨f38, h⟩ := h
  refine tt_putFI (k := 0) (by decide +kernel) KC_6 (by decide) w_198 rfl rfl rfl rfl f38 ?_
  generalize eS39 : sI S37 a0 (upd (tI S37 a0) 0 x1) = S39
  have h := h S39 eS39.symm
  refine tt_aload_n (k0 := 0) (by decide +kernel) rfl ?_
  refine tt_iload_n (k0 := 2) (by decide +kernel) rfl ?_
  obtain ⟨f40, h⟩ := h
  refine tt_putFI (k := 1) (by decide +kernel) KC_6 (by decide) w_199 rfl rfl rfl rfl f40 ?_
  generalize eS41 : sI S39 a0 (upd (tI S39 a0) 1 x2) = S41
  have h := h S41 eS41.symm
  refine tt_iconst (n := 0) (v := 0) (by decide +kernel) (by decide) ?_
  refine tt_istore_n (k0 := 3) (lv' := [(0, .ref a0), (1, .int x1), (2, .int x2), (3, .int 0)]) (by decide +kernel) (by decide) rfl ?_
  exact h
set_option maxRecDepth 100000 in
theorem v_Side_init_130 {G : pG} (a0 : Nat) (x1 : Int32) (x2 : Int32) (x3 : Int32) (S : TS) (Q : Option Value → TS → Prop)
    (h : ((8 ≤ x3 → Q none S) ∧ (¬ (8 ≤ x3) → te S a0 = some (.inr 6) ∧ ∃ b2 : Nat, tR S a0 3 = some b2 ∧ ∀ S4 : TS, S4 = sN S (.inr 0) 2 → CT G J_Bytes_init [.ref (tz S), .int 32] S4 (fun r S5 => r = none ∧ ∃ n6 : Nat, te S5 b2 = some (.inl (.object "SealedWire$Bytes", n6)) ∧ te S5 (tz S) = some (.inr 0) ∧ vp_in x3 n6 ∧ ∀ S9 : TS, S9 = sR S5 b2 (va_up (tR S5 b2) x3.toNatClampNeg (some (tz S))) → ∀ y10 : Int32, y10 = x3 + 1 → T G J_Side_init 130 [(0, .ref a0), (1, .int x1), (2, .int x2), (3, .int y10)] [] S9 Q)))) :
    T G J_Side_init 130 [(0, .ref a0), (1, .int x1), (2, .int x2), (3, .int x3)] [] S Q := by
  refine tt_iload_n (k0 := 3) (by decide +kernel) rfl ?_
  refine tt_bipush (n := 8) (v := 8) (by decide +kernel) (by decide) ?_
  refine tt_icmp_ge (off := 24) 157 (by decide +kernel) (by decide) (fun c => ?_) (fun c => ?_)
  · have h := h.1 c
    exact tt_vret (by decide +kernel) rfl h
  · have h := h.2 c
    refine tt_aload_n (k0 := 0) (by decide +kernel) rfl ?_
    obtain ⟨f1, h⟩ := h
    obtain ⟨b2, f3, h⟩ := h
    refine tt_getR (k := 3) (by decide +kernel) KC_6 (by decide) w_201 (fun _ => rfl) f1 f3 ?_
    refine tt_iload_n (k0 := 3) (by decide +kernel) rfl ?_
    refine tt_new (by decide +kernel) KC_0 w_172 w_24 w_2 OK_0 ?_
    generalize eS4 : sN S (.inr 0) 2 = S4
    have h := h S4 eS4.symm
    refine tt_dup (by decide +kernel) rfl ?_
    refine tt_bipush (n := 32) (v := 32) (by decide +kernel) (by decide) ?_
    refine tt_callI (As := [.int 32]) (rest := [.ref (tz S), .int x3, .ref b2]) (by decide +kernel) LK_Bytes_init rfl w_197 w_26 rfl (by decide) (by decide) rfl rfl (Nat.le_of_ble_eq_true rfl) (ct_mono h (fun r S5 h => ?_))
    obtain ⟨rfl, h⟩ := h
    show T G J_Side_init 150 [(0, .ref a0), (1, .int x1), (2, .int x2), (3, .int x3)] [.ref (tz S), .int x3, .ref b2] S5 _
    obtain ⟨n6, f7, h⟩ := h
    obtain ⟨f8, h⟩ := h
    obtain ⟨g3, h⟩ := h
    refine tt_aast (r := (R_0, F_0, 2)) (ci := 0) (by decide +kernel) f7 rfl f8 g3 ?_
    generalize eS9 : sR S5 b2 (va_up (tR S5 b2) x3.toNatClampNeg (some (tz S))) = S9
    have h := h S9 eS9.symm
    obtain ⟨y10, ey10⟩ : ∃ y : Int32, y = x3 + 1 := ⟨_, rfl⟩
    have h := h y10 ey10
    refine tt_iinc (i := 3) (n := 1) (v := y10) (lv' := [(0, .ref a0), (1, .int x1), (2, .int x2), (3, .int y10)]) (by decide +kernel) (by decide) rfl ey10.symm rfl ?_
    refine tt_goto (off := -24) (tgt := 130) (by decide +kernel) (by decide) ?_
    exact h
set_option maxRecDepth 100000 in
theorem v_Direction_init {G : pG} (a0 : Nat) (x1 : Int32) (S : TS) (Q : Option Value → TS → Prop)
    (h : ∀ S1 : TS, S1 = sN S (.inr 0) 2 → CT G J_Bytes_init [.ref (tz S), .int 32] S1 (fun r S2 => r = none ∧ te S2 a0 = some (.inr 1) ∧ ∀ S4 : TS, S4 = sR S2 a0 (va_up (tR S2 a0) 1 (some (tz S))) → ∀ S5 : TS, S5 = sN S4 (.inr 0) 2 → CT G J_Bytes_init [.ref (tz S4), .int 3] S5 (fun r S6 => r = none ∧ te S6 a0 = some (.inr 1) ∧ ∀ S8 : TS, S8 = sR S6 a0 (va_up (tR S6 a0) 2 (some (tz S4))) → te S8 a0 = some (.inr 1) ∧ ∀ S10 : TS, S10 = sI S8 a0 (upd (tI S8 a0) 0 x1) → Q none S10))) :
    CT G J_Direction_init [.ref a0, .int x1] S Q := by
  refine ct_of (by decide +kernel) (Nat.le_of_ble_eq_true rfl) (lv := [(0, .ref a0), (1, .int x1)]) rfl ?_
  refine tt_aload_n (k0 := 0) (by decide +kernel) rfl ?_
  refine tt_objInit (by decide +kernel) w_178 w_21 w_22 (by decide) (Nat.le_of_ble_eq_true rfl) ?_
  refine tt_aload_n (k0 := 0) (by decide +kernel) rfl ?_
  refine tt_new (by decide +kernel) KC_0 w_179 w_24 w_2 OK_0 ?_
  generalize eS1 : sN S (.inr 0) 2 = S1
  have h := h S1 eS1.symm
  refine tt_dup (by decide +kernel) rfl ?_
  refine tt_bipush (n := 32) (v := 32) (by decide +kernel) (by decide) ?_
  refine tt_callI (As := [.int 32]) (rest := [.ref (tz S), .ref a0]) (by decide +kernel) LK_Bytes_init rfl w_180 w_26 rfl (by decide) (by decide) rfl rfl (Nat.le_of_ble_eq_true rfl) (ct_mono h (fun r S2 h => ?_))
  obtain ⟨rfl, h⟩ := h
  show T G J_Direction_init 14 [(0, .ref a0), (1, .int x1)] [.ref (tz S), .ref a0] S2 _
  obtain ⟨f3, h⟩ := h
  refine tt_putFR (k := 1) (by decide +kernel) KC_1 (by decide) w_182 rfl rfl rfl (Or.inl ⟨_, rfl⟩) f3 ?_
  generalize eS4 : sR S2 a0 (va_up (tR S2 a0) 1 (some (tz S))) = S4
  have h := h S4 eS4.symm
  refine tt_aload_n (k0 := 0) (by decide +kernel) rfl ?_
  refine tt_new (by decide +kernel) KC_0 w_179 w_24 w_2 OK_0 ?_
  generalize eS5 : sN S4 (.inr 0) 2 = S5
  have h := h S5 eS5.symm
  refine tt_dup (by decide +kernel) rfl ?_
  refine tt_iconst (n := 3) (v := 3) (by decide +kernel) (by decide) ?_
  refine tt_callI (As := [.int 3]) (rest := [.ref (tz S4), .ref a0]) (by decide +kernel) LK_Bytes_init rfl w_180 w_26 rfl (by decide) (by decide) rfl rfl (Nat.le_of_ble_eq_true rfl) (ct_mono h (fun r S6 h => ?_))
  obtain ⟨rfl, h⟩ := h
  show T G J_Direction_init 26 [(0, .ref a0), (1, .int x1)] [.ref (tz S4), .ref a0] S6 _
  obtain ⟨f7, h⟩ := h
  refine tt_putFR (k := 2) (by decide +kernel) KC_1 (by decide) w_183 rfl rfl rfl (Or.inl ⟨_, rfl⟩) f7 ?_
  generalize eS8 : sR S6 a0 (va_up (tR S6 a0) 2 (some (tz S4))) = S8
  have h := h S8 eS8.symm
  refine tt_aload_n (k0 := 0) (by decide +kernel) rfl ?_
  refine tt_iload_n (k0 := 1) (by decide +kernel) rfl ?_
  obtain ⟨f9, h⟩ := h
  refine tt_putFI (k := 0) (by decide +kernel) KC_1 (by decide) w_181 rfl rfl rfl rfl f9 ?_
  generalize eS10 : sI S8 a0 (upd (tI S8 a0) 0 x1) = S10
  have h := h S10 eS10.symm
  exact tt_vret (by decide +kernel) rfl h
set_option maxRecDepth 100000 in
theorem v_Side_isKeyNumber {G : pG} (x0 : Int32) (S : TS) (Q : Option Value → Prop)
    (h : ((x0 < 0 → Q (some (.int 0))) ∧ (¬ (x0 < 0) → ((8 ≤ x0 → Q (some (.int 0))) ∧ (¬ (8 ≤ x0) → Q (some (.int 1))))))) :
    CP G J_Side_isKeyNumber [.int x0] S Q := by
  unfold CP
  refine ct_of (by decide +kernel) (Nat.le_of_ble_eq_true rfl) (lv := [(0, .int x0)]) rfl ?_
  refine tt_iload_n (k0 := 0) (by decide +kernel) rfl ?_
  refine tt_if_lt (off := 13) 14 (by decide +kernel) (by decide) (fun c => ?_) (fun c => ?_)
  · have h := h.1 c
    refine tt_iconst (n := 0) (v := 0) (by decide +kernel) (by decide) ?_
    exact tt_zret (by decide +kernel) rfl rfl ⟨rfl, h⟩
  · have h := h.2 c
    refine tt_iload_n (k0 := 0) (by decide +kernel) rfl ?_
    refine tt_bipush (n := 8) (v := 8) (by decide +kernel) (by decide) ?_
    refine tt_icmp_ge (off := 7) 14 (by decide +kernel) (by decide) (fun c => ?_) (fun c => ?_)
    · have h := h.1 c
      refine tt_iconst (n := 0) (v := 0) (by decide +kernel) (by decide) ?_
      exact tt_zret (by decide +kernel) rfl rfl ⟨rfl, h⟩
    · have h := h.2 c
      refine tt_iconst (n := 1) (v := 1) (by decide +kernel) (by decide) ?_
      refine tt_goto (off := 4) (tgt := 15) (by decide +kernel) (by decide) ?_
      exact tt_zret (by decide +kernel) rfl rfl ⟨rfl, h⟩
set_option maxRecDepth 100000 in
theorem v_Side_setKey {G : pG} (a0 : Nat) (x1 : Int32) (a2 : Nat) (S : TS) (Q : Option Value → TS → Prop)
    (h : CP G J_Side_isKeyNumber [.int x1] S (fun r => ∃ r1 : Int32, r = some (.int r1) ∧ ((r1 = 0 → Q none S) ∧ (¬ (r1 = 0) → te S a0 = some (.inr 6) ∧ ∃ b3 : Nat, tR S a0 2 = some b3 ∧ ∃ b5 : Nat, tR S a0 3 = some b5 ∧ ∃ n7 : Nat, te S b5 = some (.inl (.object "SealedWire$Bytes", n7)) ∧ vp_in x1 n7 ∧ ∃ b9 : Nat, tR S b5 x1.toNatClampNeg = some b9 ∧ te S b3 = some (.inr 2) ∧ C0 G J_Hash_digest [.ref b3, .ref a2, .ref b9] S (fun r S11 => r = none ∧ Q none S11))))) :
    C0 G J_Side_setKey [.ref a0, .int x1, .ref a2] S Q := by
  unfold C0
  refine ct_of (by decide +kernel) (Nat.le_of_ble_eq_true rfl) (lv := [(0, .ref a0), (1, .int x1), (2, .ref a2)]) rfl ?_
  have hm : Sm0 S S := Sm0.rf S
  refine tt_iload_n (k0 := 1) (by decide +kernel) rfl ?_
  refine tt_callS (As := [.int x1]) (rest := []) (by decide +kernel) LK_Side_isKeyNumber w_348 w_338 (by decide) (by decide) rfl rfl (Nat.le_of_ble_eq_true rfl) (ct_mono h (fun r Sb h => ?_))
  obtain ⟨eb, h⟩ := h
  obtain ⟨r1, rfl, h⟩ := h
  rw [eb]
  show T G J_Side_setKey 4 [(0, .ref a0), (1, .int x1), (2, .ref a2)] [.int r1] S _
  refine tt_if_eq (off := 17) 21 (by decide +kernel) (by decide) (fun c => ?_) (fun c => ?_)
  · have h := h.1 c
    exact tt_vret (by decide +kernel) rfl ⟨hm, h⟩
  · have h := h.2 c
    refine tt_aload_n (k0 := 0) (by decide +kernel) rfl ?_
    obtain ⟨f2, h⟩ := h
    obtain ⟨b3, f4, h⟩ := h
    refine tt_getR (k := 2) (by decide +kernel) KC_6 (by decide) w_200 (fun _ => rfl) f2 f4 ?_
    refine tt_aload_n (k0 := 2) (by decide +kernel) rfl ?_
    refine tt_aload_n (k0 := 0) (by decide +kernel) rfl ?_
    obtain ⟨b5, f6, h⟩ := h
    refine tt_getR (k := 3) (by decide +kernel) KC_6 (by decide) w_201 (fun _ => rfl) f2 f6 ?_
    refine tt_iload_n (k0 := 1) (by decide +kernel) rfl ?_
    obtain ⟨n7, f8, h⟩ := h
    obtain ⟨g2, b9, g3, h⟩ := h
    refine tt_aald (by decide +kernel) f8 g2 g3 ?_
    obtain ⟨f10, h⟩ := h
    refine tt_callV (As := [.ref a2, .ref b9]) (rest := []) (ci := 2) (r0 := (R_2, F_2, 4)) (by decide +kernel) LK_Hash_digest w_349 w_350 w_351 (by decide) (by decide) rfl rfl (Nat.le_of_ble_eq_true rfl) rfl rfl f10 (ct_mono h (fun r S11 h => ?_))
    obtain ⟨hm2, h⟩ := h
    obtain ⟨rfl, h⟩ := h
    show T G J_Side_setKey 21 [(0, .ref a0), (1, .int x1), (2, .ref a2)] [] S11 _
    have hm := hm.tr hm2
    have f2 : te S11 a0 = some (.inr 6) := by rw [hm2.1]; exact f2
    have f4 : tR S11 a0 2 = some b3 := by rw [hm2.R]; exact f4
    have f6 : tR S11 a0 3 = some b5 := by rw [hm2.R]; exact f6
    have f8 : te S11 b5 = some (.inl (.object "SealedWire$Bytes", n7)) := by rw [hm2.1]; exact f8
    have f10 : te S11 b3 = some (.inr 2) := by rw [hm2.1]; exact f10
    exact tt_vret (by decide +kernel) rfl ⟨hm, h⟩
set_option maxRecDepth 100000 in
theorem v_Side_hasKey {G : pG} (a0 : Nat) (x1 : Int32) (S : TS) (Q : Option Value → Prop)
    (h : CP G J_Side_isKeyNumber [.int x1] S (fun r => ∃ r1 : Int32, r = some (.int r1) ∧ ((r1 = 0 → Q (some (.int 0))) ∧ (¬ (r1 = 0) → te S a0 = some (.inr 6) ∧ ∃ b3 : Nat, tR S a0 3 = some b3 ∧ ∃ n5 : Nat, te S b3 = some (.inl (.object "SealedWire$Bytes", n5)) ∧ vp_in x1 n5 ∧ ∃ b7 : Nat, tR S b3 x1.toNatClampNeg = some b7 ∧ te S b7 = some (.inr 0) ∧ CP G J_Bytes_size [.ref b7] S (fun r => ∃ r9 : Int32, r = some (.int r9) ∧ ((r9 ≤ 0 → Q (some (.int 0))) ∧ (¬ (r9 ≤ 0) → Q (some (.int 1))))))))) :
    CP G J_Side_hasKey [.ref a0, .int x1] S Q := by
  unfold CP
  refine ct_of (by decide +kernel) (Nat.le_of_ble_eq_true rfl) (lv := [(0, .ref a0), (1, .int x1)]) rfl ?_
  refine tt_iload_n (k0 := 1) (by decide +kernel) rfl ?_
  refine tt_callS (As := [.int x1]) (rest := []) (by decide +kernel) LK_Side_isKeyNumber w_348 w_338 (by decide) (by decide) rfl rfl (Nat.le_of_ble_eq_true rfl) (ct_mono h (fun r Sb h => ?_))
  obtain ⟨eb, h⟩ := h
  obtain ⟨r1, rfl, h⟩ := h
  rw [eb]
  show T G J_Side_hasKey 4 [(0, .ref a0), (1, .int x1)] [.int r1] S _
  refine tt_if_eq (off := 19) 23 (by decide +kernel) (by decide) (fun c => ?_) (fun c => ?_)
  · have h := h.1 c
    refine tt_iconst (n := 0) (v := 0) (by decide +kernel) (by decide) ?_
    exact tt_zret (by decide +kernel) rfl rfl ⟨rfl, h⟩
  · have h := h.2 c
    refine tt_aload_n (k0 := 0) (by decide +kernel) rfl ?_
    obtain ⟨f2, h⟩ := h
    obtain ⟨b3, f4, h⟩ := h
    refine tt_getR (k := 3) (by decide +kernel) KC_6 (by decide) w_201 (fun _ => rfl) f2 f4 ?_
    refine tt_iload_n (k0 := 1) (by decide +kernel) rfl ?_
    obtain ⟨n5, f6, h⟩ := h
    obtain ⟨g2, b7, g3, h⟩ := h
    refine tt_aald (by decide +kernel) f6 g2 g3 ?_
    obtain ⟨f8, h⟩ := h
    refine tt_callV (As := []) (rest := []) (ci := 0) (r0 := (R_0, F_0, 2)) (by decide +kernel) LK_Bytes_size w_404 w_299 w_300 (by decide) (by decide) rfl rfl (Nat.le_of_ble_eq_true rfl) rfl rfl f8 (ct_mono h (fun r Sb h => ?_))
    obtain ⟨eb, h⟩ := h
    obtain ⟨r9, rfl, h⟩ := h
    rw [eb]
    show T G J_Side_hasKey 16 [(0, .ref a0), (1, .int x1)] [.int r9] S _
    refine tt_if_le (off := 7) 23 (by decide +kernel) (by decide) (fun c => ?_) (fun c => ?_)
    · have h := h.1 c
      refine tt_iconst (n := 0) (v := 0) (by decide +kernel) (by decide) ?_
      exact tt_zret (by decide +kernel) rfl rfl ⟨rfl, h⟩
    · have h := h.2 c
      refine tt_iconst (n := 1) (v := 1) (by decide +kernel) (by decide) ?_
      refine tt_goto (off := 4) (tgt := 24) (by decide +kernel) (by decide) ?_
      exact tt_zret (by decide +kernel) rfl rfl ⟨rfl, h⟩
set_option maxRecDepth 100000 in
theorem v_Side_loseKey {G : pG} (a0 : Nat) (x1 : Int32) (S : TS) (Q : Option Value → TS → Prop)
    (h : CP G J_Side_isKeyNumber [.int x1] S (fun r => ∃ r1 : Int32, r = some (.int r1) ∧ ((r1 = 0 → Q none S) ∧ (¬ (r1 = 0) → te S a0 = some (.inr 6) ∧ ∃ b3 : Nat, tR S a0 3 = some b3 ∧ ∃ n5 : Nat, te S b3 = some (.inl (.object "SealedWire$Bytes", n5)) ∧ vp_in x1 n5 ∧ ∃ b7 : Nat, tR S b3 x1.toNatClampNeg = some b7 ∧ te S b7 = some (.inr 0) ∧ C0 G J_Bytes_clear [.ref b7] S (fun r S9 => r = none ∧ Q none S9))))) :
    C0 G J_Side_loseKey [.ref a0, .int x1] S Q := by
  unfold C0
  refine ct_of (by decide +kernel) (Nat.le_of_ble_eq_true rfl) (lv := [(0, .ref a0), (1, .int x1)]) rfl ?_
  have hm : Sm0 S S := Sm0.rf S
  refine tt_iload_n (k0 := 1) (by decide +kernel) rfl ?_
  refine tt_callS (As := [.int x1]) (rest := []) (by decide +kernel) LK_Side_isKeyNumber w_348 w_338 (by decide) (by decide) rfl rfl (Nat.le_of_ble_eq_true rfl) (ct_mono h (fun r Sb h => ?_))
  obtain ⟨eb, h⟩ := h
  obtain ⟨r1, rfl, h⟩ := h
  rw [eb]
  show T G J_Side_loseKey 4 [(0, .ref a0), (1, .int x1)] [.int r1] S _
  refine tt_if_eq (off := 12) 16 (by decide +kernel) (by decide) (fun c => ?_) (fun c => ?_)
  · have h := h.1 c
    exact tt_vret (by decide +kernel) rfl ⟨hm, h⟩
  · have h := h.2 c
    refine tt_aload_n (k0 := 0) (by decide +kernel) rfl ?_
    obtain ⟨f2, h⟩ := h
    obtain ⟨b3, f4, h⟩ := h
    refine tt_getR (k := 3) (by decide +kernel) KC_6 (by decide) w_201 (fun _ => rfl) f2 f4 ?_
    refine tt_iload_n (k0 := 1) (by decide +kernel) rfl ?_
    obtain ⟨n5, f6, h⟩ := h
    obtain ⟨g2, b7, g3, h⟩ := h
    refine tt_aald (by decide +kernel) f6 g2 g3 ?_
    obtain ⟨f8, h⟩ := h
    refine tt_callV (As := []) (rest := []) (ci := 0) (r0 := (R_0, F_0, 2)) (by decide +kernel) LK_Bytes_clear w_409 w_392 w_393 (by decide) (by decide) rfl rfl (Nat.le_of_ble_eq_true rfl) rfl rfl f8 (ct_mono h (fun r S9 h => ?_))
    obtain ⟨hm2, h⟩ := h
    obtain ⟨rfl, h⟩ := h
    show T G J_Side_loseKey 16 [(0, .ref a0), (1, .int x1)] [] S9 _
    have hm := hm.tr hm2
    have f2 : te S9 a0 = some (.inr 6) := by rw [hm2.1]; exact f2
    have f4 : tR S9 a0 3 = some b3 := by rw [hm2.R]; exact f4
    have f6 : te S9 b3 = some (.inl (.object "SealedWire$Bytes", n5)) := by rw [hm2.1]; exact f6
    have f8 : te S9 b7 = some (.inr 0) := by rw [hm2.1]; exact f8
    exact tt_vret (by decide +kernel) rfl ⟨hm, h⟩
set_option maxRecDepth 100000 in
theorem v_Side_is {G : pG} (a0 : Nat) (x1 : Int32) (S : TS) (Q : Option Value → Prop)
    (h : te S a0 = some (.inr 6) ∧ ((¬ tI S a0 11 = x1 → Q (some (.int 0))) ∧ (tI S a0 11 = x1 → Q (some (.int 1))))) :
    CP G J_Side_is [.ref a0, .int x1] S Q := by
  unfold CP
  refine ct_of (by decide +kernel) (Nat.le_of_ble_eq_true rfl) (lv := [(0, .ref a0), (1, .int x1)]) rfl ?_
  refine tt_aload_n (k0 := 0) (by decide +kernel) rfl ?_
  obtain ⟨f1, h⟩ := h
  refine tt_getI (k := 11) (by decide +kernel) KC_6 (by decide) w_209 (fun _ => rfl) f1 ?_
  refine tt_iload_n (k0 := 1) (by decide +kernel) rfl ?_
  refine tt_icmp_ne (off := 7) 12 (by decide +kernel) (by decide) (fun c => ?_) (fun c => ?_)
  · have h := h.1 c
    refine tt_iconst (n := 0) (v := 0) (by decide +kernel) (by decide) ?_
    exact tt_zret (by decide +kernel) rfl rfl ⟨rfl, h⟩
  · have h := h.2 c
    refine tt_iconst (n := 1) (v := 1) (by decide +kernel) (by decide) ?_
    refine tt_goto (off := 4) (tgt := 13) (by decide +kernel) (by decide) ?_
    exact tt_zret (by decide +kernel) rfl rfl ⟨rfl, h⟩
set_option maxRecDepth 100000 in
theorem v_Wire_isFull {G : pG} (a0 : Nat) (S : TS) (Q : Option Value → Prop)
    (h : te S a0 = some (.inr 9) ∧ ((tI S a0 1 < 12 → Q (some (.int 0))) ∧ (¬ (tI S a0 1 < 12) → Q (some (.int 1))))) :
    CP G J_Wire_isFull [.ref a0] S Q := by
  unfold CP
  refine ct_of (by decide +kernel) (Nat.le_of_ble_eq_true rfl) (lv := [(0, .ref a0)]) rfl ?_
  refine tt_aload_n (k0 := 0) (by decide +kernel) rfl ?_
  obtain ⟨f1, h⟩ := h
  refine tt_getI (k := 1) (by decide +kernel) KC_9 (by decide) w_103 (fun _ => rfl) f1 ?_
  refine tt_bipush (n := 12) (v := 12) (by decide +kernel) (by decide) ?_
  refine tt_icmp_lt (off := 7) 13 (by decide +kernel) (by decide) (fun c => ?_) (fun c => ?_)
  · have h := h.1 c
    refine tt_iconst (n := 0) (v := 0) (by decide +kernel) (by decide) ?_
    exact tt_zret (by decide +kernel) rfl rfl ⟨rfl, h⟩
  · have h := h.2 c
    refine tt_iconst (n := 1) (v := 1) (by decide +kernel) (by decide) ?_
    refine tt_goto (off := 4) (tgt := 14) (by decide +kernel) (by decide) ?_
    exact tt_zret (by decide +kernel) rfl rfl ⟨rfl, h⟩
set_option maxRecDepth 100000 in
theorem v_Side_makeRandom {G : pG} (a0 : Nat) (a1 : Nat) (S : TS) (Q : Option Value → TS → Prop)
    (h : te S a0 = some (.inr 6) ∧ ∃ b2 : Nat, tR S a0 10 = some b2 ∧ te S b2 = some (.inr 0) ∧ C0 G J_Bytes_clear [.ref b2] S (fun r S5 => r = none ∧ C0 G J_Bytes_put [.ref b2, .int 82] S5 (fun r S6 => r = none ∧ C0 G J_Bytes_put [.ref b2, .int (tI S6 a0 0)] S6 (fun r S7 => r = none ∧ C0 G J_Bytes_putNumber [.ref b2, .int (tI S7 a0 1)] S7 (fun r S8 => r = none ∧ C0 G J_Bytes_putNumber [.ref b2, .int (tI S8 a0 12)] S8 (fun r S9 => r = none ∧ ∃ b10 : Nat, tR S9 a0 2 = some b10 ∧ te S9 b10 = some (.inr 2) ∧ C0 G J_Hash_digest [.ref b10, .ref b2, .ref a1] S9 (fun r S13 => r = none ∧ ∀ S14 : TS, S14 = sI S13 a0 (upd (tI S13 a0) 12 ((tI S13 a0 12) + (1 : Int32))) → Q none S14))))))) :
    C0 G J_Side_makeRandom [.ref a0, .ref a1] S Q := by
  unfold C0
  refine ct_of (by decide +kernel) (Nat.le_of_ble_eq_true rfl) (lv := [(0, .ref a0), (1, .ref a1)]) rfl ?_
  have hm : Sm0 S S := Sm0.rf S
  refine tt_aload_n (k0 := 0) (by decide +kernel) rfl ?_
  obtain ⟨f1, h⟩ := h
  obtain ⟨b2, f3, h⟩ := h
  refine tt_getR (k := 10) (by decide +kernel) KC_6 (by decide) w_208 (fun _ => rfl) f1 f3 ?_
  obtain ⟨f4, h⟩ := h
  refine tt_callV (As := []) (rest := []) (ci := 0) (r0 := (R_0, F_0, 2)) (by decide +kernel) LK_Bytes_clear w_409 w_392 w_393 (by decide) (by decide) rfl rfl (Nat.le_of_ble_eq_true rfl) rfl rfl f4 (ct_mono h (fun r S5 h => ?_))
  obtain ⟨hm2, h⟩ := h
  obtain ⟨rfl, h⟩ := h
  show T G J_Side_makeRandom 7 [(0, .ref a0), (1, .ref a1)] [] S5 _
  have hm := hm.tr hm2
  have f1 : te S5 a0 = some (.inr 6) := by rw [hm2.1]; exact f1
  have f3 : tR S5 a0 10 = some b2 := by rw [hm2.R]; exact f3
  have f4 : te S5 b2 = some (.inr 0) := by rw [hm2.1]; exact f4
  refine tt_aload_n (k0 := 0) (by decide +kernel) rfl ?_
  refine tt_getR (k := 10) (by decide +kernel) KC_6 (by decide) w_208 (fun _ => rfl) f1 f3 ?_
  refine tt_bipush (n := 82) (v := 82) (by decide +kernel) (by decide) ?_
  refine tt_callV (As := [.int 82]) (rest := []) (ci := 0) (r0 := (R_0, F_0, 2)) (by decide +kernel) LK_Bytes_put w_426 w_239 w_240 (by decide) (by decide) rfl rfl (Nat.le_of_ble_eq_true rfl) rfl rfl f4 (ct_mono h (fun r S6 h => ?_))
  obtain ⟨hm2, h⟩ := h
  obtain ⟨rfl, h⟩ := h
  show T G J_Side_makeRandom 16 [(0, .ref a0), (1, .ref a1)] [] S6 _
  have hm := hm.tr hm2
  have f1 : te S6 a0 = some (.inr 6) := by rw [hm2.1]; exact f1
  have f3 : tR S6 a0 10 = some b2 := by rw [hm2.R]; exact f3
  have f4 : te S6 b2 = some (.inr 0) := by rw [hm2.1]; exact f4
  refine tt_aload_n (k0 := 0) (by decide +kernel) rfl ?_
  refine tt_getR (k := 10) (by decide +kernel) KC_6 (by decide) w_208 (fun _ => rfl) f1 f3 ?_
  refine tt_aload_n (k0 := 0) (by decide +kernel) rfl ?_
  refine tt_getI (k := 0) (by decide +kernel) KC_6 (by decide) w_198 (fun _ => rfl) f1 ?_
  refine tt_callV (As := [.int (tI S6 a0 0)]) (rest := []) (ci := 0) (r0 := (R_0, F_0, 2)) (by decide +kernel) LK_Bytes_put w_426 w_239 w_240 (by decide) (by decide) rfl rfl (Nat.le_of_ble_eq_true rfl) rfl rfl f4 (ct_mono h (fun r S7 h => ?_))
  obtain ⟨hm2, h⟩ := h
  obtain ⟨rfl, h⟩ := h
  show T G J_Side_makeRandom 27 [(0, .ref a0), (1, .ref a1)] [] S7 _
  have hm := hm.tr hm2
  have f1 : te S7 a0 = some (.inr 6) := by rw [hm2.1]; exact f1
  have f3 : tR S7 a0 10 = some b2 := by rw [hm2.R]; exact f3
  have f4 : te S7 b2 = some (.inr 0) := by rw [hm2.1]; exact f4
  refine tt_aload_n (k0 := 0) (by decide +kernel) rfl ?_
  refine tt_getR (k := 10) (by decide +kernel) KC_6 (by decide) w_208 (fun _ => rfl) f1 f3 ?_
  refine tt_aload_n (k0 := 0) (by decide +kernel) rfl ?_
  refine tt_getI (k := 1) (by decide +kernel) KC_6 (by decide) w_199 (fun _ => rfl) f1 ?_
  refine tt_callV (As := [.int (tI S7 a0 1)]) (rest := []) (ci := 0) (r0 := (R_0, F_0, 2)) (by decide +kernel) LK_Bytes_putNumber w_427 w_303 w_304 (by decide) (by decide) rfl rfl (Nat.le_of_ble_eq_true rfl) rfl rfl f4 (ct_mono h (fun r S8 h => ?_))
  obtain ⟨hm2, h⟩ := h
  obtain ⟨rfl, h⟩ := h
  show T G J_Side_makeRandom 38 [(0, .ref a0), (1, .ref a1)] [] S8 _
  have hm := hm.tr hm2
  have f1 : te S8 a0 = some (.inr 6) := by rw [hm2.1]; exact f1
  have f3 : tR S8 a0 10 = some b2 := by rw [hm2.R]; exact f3
  have f4 : te S8 b2 = some (.inr 0) := by rw [hm2.1]; exact f4
  refine tt_aload_n (k0 := 0) (by decide +kernel) rfl ?_
  refine tt_getR (k := 10) (by decide +kernel) KC_6 (by decide) w_208 (fun _ => rfl) f1 f3 ?_
  refine tt_aload_n (k0 := 0) (by decide +kernel) rfl ?_
  refine tt_getI (k := 12) (by decide +kernel) KC_6 (by decide) w_210 (fun _ => rfl) f1 ?_
  refine tt_callV (As := [.int (tI S8 a0 12)]) (rest := []) (ci := 0) (r0 := (R_0, F_0, 2)) (by decide +kernel) LK_Bytes_putNumber w_427 w_303 w_304 (by decide) (by decide) rfl rfl (Nat.le_of_ble_eq_true rfl) rfl rfl f4 (ct_mono h (fun r S9 h => ?_))
  obtain ⟨hm2, h⟩ := h
  obtain ⟨rfl, h⟩ := h
  show T G J_Side_makeRandom 49 [(0, .ref a0), (1, .ref a1)] [] S9 _
  have hm := hm.tr hm2
  have f1 : te S9 a0 = some (.inr 6) := by rw [hm2.1]; exact f1
  have f3 : tR S9 a0 10 = some b2 := by rw [hm2.R]; exact f3
  have f4 : te S9 b2 = some (.inr 0) := by rw [hm2.1]; exact f4
  refine tt_aload_n (k0 := 0) (by decide +kernel) rfl ?_
  obtain ⟨b10, f11, h⟩ := h
  refine tt_getR (k := 2) (by decide +kernel) KC_6 (by decide) w_200 (fun _ => rfl) f1 f11 ?_
  refine tt_aload_n (k0 := 0) (by decide +kernel) rfl ?_
  refine tt_getR (k := 10) (by decide +kernel) KC_6 (by decide) w_208 (fun _ => rfl) f1 f3 ?_
  refine tt_aload_n (k0 := 1) (by decide +kernel) rfl ?_
  obtain ⟨f12, h⟩ := h
  refine tt_callV (As := [.ref b2, .ref a1]) (rest := []) (ci := 2) (r0 := (R_2, F_2, 4)) (by decide +kernel) LK_Hash_digest w_349 w_350 w_351 (by decide) (by decide) rfl rfl (Nat.le_of_ble_eq_true rfl) rfl rfl f12 (ct_mono h (fun r S13 h => ?_))
  obtain ⟨hm2, h⟩ := h
  obtain ⟨rfl, h⟩ := h
  show T G J_Side_makeRandom 61 [(0, .ref a0), (1, .ref a1)] [] S13 _
  have hm := hm.tr hm2
  have f1 : te S13 a0 = some (.inr 6) := by rw [hm2.1]; exact f1
  have f3 : tR S13 a0 10 = some b2 := by rw [hm2.R]; exact f3
  have f4 : te S13 b2 = some (.inr 0) := by rw [hm2.1]; exact f4
  have f11 : tR S13 a0 2 = some b10 := by rw [hm2.R]; exact f11
  have f12 : te S13 b10 = some (.inr 2) := by rw [hm2.1]; exact f12
  refine tt_aload_n (k0 := 0) (by decide +kernel) rfl ?_
  refine tt_dup (by decide +kernel) rfl ?_
  refine tt_getI (k := 12) (by decide +kernel) KC_6 (by decide) w_210 (fun _ => rfl) f1 ?_
  refine tt_iconst (n := 1) (v := 1) (by decide +kernel) (by decide) ?_
  refine tt_iadd (by decide +kernel) ?_
  refine tt_putI (k := 12) (by decide +kernel) KC_6 (by decide) w_210 rfl rfl f1 ?_
  generalize eS14 : sI S13 a0 (upd (tI S13 a0) 12 ((tI S13 a0 12) + (1 : Int32))) = S14
  have h := h S14 eS14.symm
  have hm : Sm0 S S14 := by rw [← eS14]; exact hm.I
  have f1 : te S14 a0 = some (.inr 6) := by rw [← eS14, te_sI]; exact f1
  have f3 : tR S14 a0 10 = some b2 := by rw [← eS14, tR_sI]; exact f3
  have f4 : te S14 b2 = some (.inr 0) := by rw [← eS14, te_sI]; exact f4
  have f11 : tR S14 a0 2 = some b10 := by rw [← eS14, tR_sI]; exact f11
  have f12 : te S14 b10 = some (.inr 2) := by rw [← eS14, te_sI]; exact f12
  exact tt_vret (by decide +kernel) rfl ⟨hm, h⟩
set_option maxRecDepth 100000 in
theorem v_Side_keepGreeting {G : pG} (a0 : Nat) (a1 : Nat) (x2 : Int32) (S : TS) (Q : Option Value → TS → Prop)
    (h : te S a0 = some (.inr 6) ∧ ∃ b2 : Nat, tR S a0 6 = some b2 ∧ te S b2 = some (.inr 0) ∧ C0 G J_Bytes_become [.ref b2, .ref a1] S (fun r S5 => r = none ∧ C0 G J_Bytes_put [.ref b2, .int x2] S5 (fun r S6 => r = none ∧ Q none S6))) :
    C0 G J_Side_keepGreeting [.ref a0, .ref a1, .int x2] S Q := by
  unfold C0
  refine ct_of (by decide +kernel) (Nat.le_of_ble_eq_true rfl) (lv := [(0, .ref a0), (1, .ref a1), (2, .int x2)]) rfl ?_
  have hm : Sm0 S S := Sm0.rf S
  refine tt_aload_n (k0 := 0) (by decide +kernel) rfl ?_
  obtain ⟨f1, h⟩ := h
  obtain ⟨b2, f3, h⟩ := h
  refine tt_getR (k := 6) (by decide +kernel) KC_6 (by decide) w_204 (fun _ => rfl) f1 f3 ?_
  refine tt_aload_n (k0 := 1) (by decide +kernel) rfl ?_
  obtain ⟨f4, h⟩ := h
  refine tt_callV (As := [.ref a1]) (rest := []) (ci := 0) (r0 := (R_0, F_0, 2)) (by decide +kernel) LK_Bytes_become w_432 w_354 w_355 (by decide) (by decide) rfl rfl (Nat.le_of_ble_eq_true rfl) rfl rfl f4 (ct_mono h (fun r S5 h => ?_))
  obtain ⟨hm2, h⟩ := h
  obtain ⟨rfl, h⟩ := h
  show T G J_Side_keepGreeting 8 [(0, .ref a0), (1, .ref a1), (2, .int x2)] [] S5 _
  have hm := hm.tr hm2
  have f1 : te S5 a0 = some (.inr 6) := by rw [hm2.1]; exact f1
  have f3 : tR S5 a0 6 = some b2 := by rw [hm2.R]; exact f3
  have f4 : te S5 b2 = some (.inr 0) := by rw [hm2.1]; exact f4
  refine tt_aload_n (k0 := 0) (by decide +kernel) rfl ?_
  refine tt_getR (k := 6) (by decide +kernel) KC_6 (by decide) w_204 (fun _ => rfl) f1 f3 ?_
  refine tt_iload_n (k0 := 2) (by decide +kernel) rfl ?_
  refine tt_callV (As := [.int x2]) (rest := []) (ci := 0) (r0 := (R_0, F_0, 2)) (by decide +kernel) LK_Bytes_put w_426 w_239 w_240 (by decide) (by decide) rfl rfl (Nat.le_of_ble_eq_true rfl) rfl rfl f4 (ct_mono h (fun r S6 h => ?_))
  obtain ⟨hm2, h⟩ := h
  obtain ⟨rfl, h⟩ := h
  show T G J_Side_keepGreeting 16 [(0, .ref a0), (1, .ref a1), (2, .int x2)] [] S6 _
  have hm := hm.tr hm2
  have f1 : te S6 a0 = some (.inr 6) := by rw [hm2.1]; exact f1
  have f3 : tR S6 a0 6 = some b2 := by rw [hm2.R]; exact f3
  have f4 : te S6 b2 = some (.inr 0) := by rw [hm2.1]; exact f4
  exact tt_vret (by decide +kernel) rfl ⟨hm, h⟩
set_option maxRecDepth 100000 in
theorem v_Wire_draft {G : pG} (a0 : Nat) (S : TS) (Q : Option Value → TS → Prop)
    (h : te S a0 = some (.inr 9) ∧ ∃ b2 : Nat, tR S a0 0 = some b2 ∧ ∃ n4 : Nat, te S b2 = some (.inl (.object "SealedWire$Bytes", n4)) ∧ vp_in (tI S a0 1) n4 ∧ ∃ b6 : Nat, tR S b2 (tI S a0 1).toNatClampNeg = some b6 ∧ te S b6 = some (.inr 0) ∧ C0 G J_Bytes_clear [.ref b6] S (fun r S8 => r = none ∧ vp_in (tI S8 a0 1) n4 ∧ ∃ b9 : Nat, tR S8 b2 (tI S8 a0 1).toNatClampNeg = some b9 ∧ Q (some (.ref b9)) S8)) :
    C0 G J_Wire_draft [.ref a0] S Q := by
  unfold C0
  refine ct_of (by decide +kernel) (Nat.le_of_ble_eq_true rfl) (lv := [(0, .ref a0)]) rfl ?_
  have hm : Sm0 S S := Sm0.rf S
  refine tt_aload_n (k0 := 0) (by decide +kernel) rfl ?_
  obtain ⟨f1, h⟩ := h
  obtain ⟨b2, f3, h⟩ := h
  refine tt_getR (k := 0) (by decide +kernel) KC_9 (by decide) w_102 (fun _ => rfl) f1 f3 ?_
  refine tt_aload_n (k0 := 0) (by decide +kernel) rfl ?_
  refine tt_getI (k := 1) (by decide +kernel) KC_9 (by decide) w_103 (fun _ => rfl) f1 ?_
  obtain ⟨n4, f5, h⟩ := h
  obtain ⟨g2, b6, g3, h⟩ := h
  refine tt_aald (by decide +kernel) f5 g2 g3 ?_
  obtain ⟨f7, h⟩ := h
  refine tt_callV (As := []) (rest := []) (ci := 0) (r0 := (R_0, F_0, 2)) (by decide +kernel) LK_Bytes_clear w_437 w_392 w_393 (by decide) (by decide) rfl rfl (Nat.le_of_ble_eq_true rfl) rfl rfl f7 (ct_mono h (fun r S8 h => ?_))
  obtain ⟨hm2, h⟩ := h
  obtain ⟨rfl, h⟩ := h
  show T G J_Wire_draft 12 [(0, .ref a0)] [] S8 _
  have hm := hm.tr hm2
  have f1 : te S8 a0 = some (.inr 9) := by rw [hm2.1]; exact f1
  have f3 : tR S8 a0 0 = some b2 := by rw [hm2.R]; exact f3
  have f5 : te S8 b2 = some (.inl (.object "SealedWire$Bytes", n4)) := by rw [hm2.1]; exact f5
  have f7 : te S8 b6 = some (.inr 0) := by rw [hm2.1]; exact f7
  refine tt_aload_n (k0 := 0) (by decide +kernel) rfl ?_
  refine tt_getR (k := 0) (by decide +kernel) KC_9 (by decide) w_102 (fun _ => rfl) f1 f3 ?_
  refine tt_aload_n (k0 := 0) (by decide +kernel) rfl ?_
  refine tt_getI (k := 1) (by decide +kernel) KC_9 (by decide) w_103 (fun _ => rfl) f1 ?_
  obtain ⟨g2, b9, g3, h⟩ := h
  refine tt_aald (by decide +kernel) f5 g2 g3 ?_
  exact tt_aret (by decide +kernel) rfl ⟨hm, h⟩
set_option maxRecDepth 100000 in
theorem v_Side_greeting {G : pG} (a0 : Nat) (S : TS) (Q : Option Value → Prop)
    (h : te S a0 = some (.inr 6) ∧ ∃ b2 : Nat, tR S a0 6 = some b2 ∧ Q (some (.ref b2))) :
    CP G J_Side_greeting [.ref a0] S Q := by
  unfold CP
  refine ct_of (by decide +kernel) (Nat.le_of_ble_eq_true rfl) (lv := [(0, .ref a0)]) rfl ?_
  refine tt_aload_n (k0 := 0) (by decide +kernel) rfl ?_
  obtain ⟨f1, h⟩ := h
  obtain ⟨b2, f3, h⟩ := h
  refine tt_getR (k := 6) (by decide +kernel) KC_6 (by decide) w_204 (fun _ => rfl) f1 f3 ?_
  exact tt_aret (by decide +kernel) rfl ⟨rfl, h⟩
set_option maxRecDepth 100000 in
theorem v_Wire_send {G : pG} (a0 : Nat) (S : TS) (Q : Option Value → TS → Prop)
    (h : te S a0 = some (.inr 9) ∧ ((12 ≤ tI S a0 1 → Q none S) ∧ (¬ (12 ≤ tI S a0 1) → ∀ S2 : TS, S2 = sI S a0 (upd (tI S a0) 1 ((tI S a0 1) + (1 : Int32))) → Q none S2))) :
    C0 G J_Wire_send [.ref a0] S Q := by
  unfold C0
  refine ct_of (by decide +kernel) (Nat.le_of_ble_eq_true rfl) (lv := [(0, .ref a0)]) rfl ?_
  have hm : Sm0 S S := Sm0.rf S
  refine tt_aload_n (k0 := 0) (by decide +kernel) rfl ?_
  obtain ⟨f1, h⟩ := h
  refine tt_getI (k := 1) (by decide +kernel) KC_9 (by decide) w_103 (fun _ => rfl) f1 ?_
  refine tt_bipush (n := 12) (v := 12) (by decide +kernel) (by decide) ?_
  refine tt_icmp_ge (off := 13) 19 (by decide +kernel) (by decide) (fun c => ?_) (fun c => ?_)
  · have h := h.1 c
    exact tt_vret (by decide +kernel) rfl ⟨hm, h⟩
  · have h := h.2 c
    refine tt_aload_n (k0 := 0) (by decide +kernel) rfl ?_
    refine tt_dup (by decide +kernel) rfl ?_
    refine tt_getI (k := 1) (by decide +kernel) KC_9 (by decide) w_103 (fun _ => rfl) f1 ?_
    refine tt_iconst (n := 1) (v := 1) (by decide +kernel) (by decide) ?_
    refine tt_iadd (by decide +kernel) ?_
    refine tt_putI (k := 1) (by decide +kernel) KC_9 (by decide) w_103 rfl rfl f1 ?_
    generalize eS2 : sI S a0 (upd (tI S a0) 1 ((tI S a0 1) + (1 : Int32))) = S2
    have h := h S2 eS2.symm
    have hm : Sm0 S S2 := by rw [← eS2]; exact hm.I
    have f1 : te S2 a0 = some (.inr 9) := by rw [← eS2, te_sI]; exact f1
    exact tt_vret (by decide +kernel) rfl ⟨hm, h⟩
set_option maxRecDepth 100000 in
theorem v_Side_become {G : pG} (a0 : Nat) (x1 : Int32) (S : TS) (Q : Option Value → TS → Prop)
    (h : te S a0 = some (.inr 6) ∧ ∀ S2 : TS, S2 = sI S a0 (upd (tI S a0) 11 x1) → Q none S2) :
    C0 G J_Side_become [.ref a0, .int x1] S Q := by
  unfold C0
  refine ct_of (by decide +kernel) (Nat.le_of_ble_eq_true rfl) (lv := [(0, .ref a0), (1, .int x1)]) rfl ?_
  have hm : Sm0 S S := Sm0.rf S
  refine tt_aload_n (k0 := 0) (by decide +kernel) rfl ?_
  refine tt_iload_n (k0 := 1) (by decide +kernel) rfl ?_
  obtain ⟨f1, h⟩ := h
  refine tt_putI (k := 11) (by decide +kernel) KC_6 (by decide) w_209 rfl rfl f1 ?_
  generalize eS2 : sI S a0 (upd (tI S a0) 11 x1) = S2
  have h := h S2 eS2.symm
  have hm : Sm0 S S2 := by rw [← eS2]; exact hm.I
  have f1 : te S2 a0 = some (.inr 6) := by rw [← eS2, te_sI]; exact f1
  exact tt_vret (by decide +kernel) rfl ⟨hm, h⟩
set_option maxRecDepth 100000 in
theorem v_Request_isOp {G : pG} (x0 : Int32) (S : TS) (Q : Option Value → Prop)
    (h : ((x0 < 0 → Q (some (.int 0))) ∧ (¬ (x0 < 0) → ((4 < x0 → Q (some (.int 0))) ∧ (¬ (4 < x0) → Q (some (.int 1))))))) :
    CP G J_Request_isOp [.int x0] S Q := by
  unfold CP
  refine ct_of (by decide +kernel) (Nat.le_of_ble_eq_true rfl) (lv := [(0, .int x0)]) rfl ?_
  refine tt_iload_n (k0 := 0) (by decide +kernel) rfl ?_
  refine tt_if_lt (off := 12) 13 (by decide +kernel) (by decide) (fun c => ?_) (fun c => ?_)
  · have h := h.1 c
    refine tt_iconst (n := 0) (v := 0) (by decide +kernel) (by decide) ?_
    exact tt_zret (by decide +kernel) rfl rfl ⟨rfl, h⟩
  · have h := h.2 c
    refine tt_iload_n (k0 := 0) (by decide +kernel) rfl ?_
    refine tt_iconst (n := 4) (v := 4) (by decide +kernel) (by decide) ?_
    refine tt_icmp_gt (off := 7) 13 (by decide +kernel) (by decide) (fun c => ?_) (fun c => ?_)
    · have h := h.1 c
      refine tt_iconst (n := 0) (v := 0) (by decide +kernel) (by decide) ?_
      exact tt_zret (by decide +kernel) rfl rfl ⟨rfl, h⟩
    · have h := h.2 c
      refine tt_iconst (n := 1) (v := 1) (by decide +kernel) (by decide) ?_
      refine tt_goto (off := 4) (tgt := 14) (by decide +kernel) (by decide) ?_
      exact tt_zret (by decide +kernel) rfl rfl ⟨rfl, h⟩
set_option maxRecDepth 100000 in
theorem v_Request_mostBytes {G : pG} (x0 : Int32) (S : TS) (Q : Option Value → Prop)
    (h : ((x0 = 0 → Q (some (.int 0))) ∧ (¬ (x0 = 0) → ((¬ x0 = 2 → Q (some (.int 64))) ∧ (x0 = 2 → Q (some (.int 0))))))) :
    CP G J_Request_mostBytes [.int x0] S Q := by
  unfold CP
  refine ct_of (by decide +kernel) (Nat.le_of_ble_eq_true rfl) (lv := [(0, .int x0)]) rfl ?_
  refine tt_iload_n (k0 := 0) (by decide +kernel) rfl ?_
  refine tt_if_eq (off := 8) 9 (by decide +kernel) (by decide) (fun c => ?_) (fun c => ?_)
  · have h := h.1 c
    refine tt_iconst (n := 0) (v := 0) (by decide +kernel) (by decide) ?_
    refine tt_goto (off := 5) (tgt := 15) (by decide +kernel) (by decide) ?_
    exact tt_iret (by decide +kernel) rfl ⟨rfl, h⟩
  · have h := h.2 c
    refine tt_iload_n (k0 := 0) (by decide +kernel) rfl ?_
    refine tt_iconst (n := 2) (v := 2) (by decide +kernel) (by decide) ?_
    refine tt_icmp_ne (off := 7) 13 (by decide +kernel) (by decide) (fun c => ?_) (fun c => ?_)
    · have h := h.1 c
      refine tt_bipush (n := 64) (v := 64) (by decide +kernel) (by decide) ?_
      exact tt_iret (by decide +kernel) rfl ⟨rfl, h⟩
    · have h := h.2 c
      refine tt_iconst (n := 0) (v := 0) (by decide +kernel) (by decide) ?_
      refine tt_goto (off := 5) (tgt := 15) (by decide +kernel) (by decide) ?_
      exact tt_iret (by decide +kernel) rfl ⟨rfl, h⟩
set_option maxRecDepth 100000 in
theorem v_Side_direction {G : pG} (a0 : Nat) (x1 : Int32) (S : TS) (Q : Option Value → Prop)
    (h : ((¬ x1 = 0 → te S a0 = some (.inr 6) ∧ ∃ b2 : Nat, tR S a0 5 = some b2 ∧ Q (some (.ref b2))) ∧ (x1 = 0 → te S a0 = some (.inr 6) ∧ ∃ b5 : Nat, tR S a0 4 = some b5 ∧ Q (some (.ref b5))))) :
    CP G J_Side_direction [.ref a0, .int x1] S Q := by
  unfold CP
  refine ct_of (by decide +kernel) (Nat.le_of_ble_eq_true rfl) (lv := [(0, .ref a0), (1, .int x1)]) rfl ?_
  refine tt_iload_n (k0 := 1) (by decide +kernel) rfl ?_
  refine tt_if_ne (off := 10) 11 (by decide +kernel) (by decide) (fun c => ?_) (fun c => ?_)
  · have h := h.1 c
    refine tt_aload_n (k0 := 0) (by decide +kernel) rfl ?_
    obtain ⟨f1, h⟩ := h
    obtain ⟨b2, f3, h⟩ := h
    refine tt_getR (k := 5) (by decide +kernel) KC_6 (by decide) w_203 (fun _ => rfl) f1 f3 ?_
    exact tt_aret (by decide +kernel) rfl ⟨rfl, h⟩
  · have h := h.2 c
    refine tt_aload_n (k0 := 0) (by decide +kernel) rfl ?_
    obtain ⟨f4, h⟩ := h
    obtain ⟨b5, f6, h⟩ := h
    refine tt_getR (k := 4) (by decide +kernel) KC_6 (by decide) w_202 (fun _ => rfl) f4 f6 ?_
    refine tt_goto (off := 7) (tgt := 15) (by decide +kernel) (by decide) ?_
    exact tt_aret (by decide +kernel) rfl ⟨rfl, h⟩
set_option maxRecDepth 100000 in
theorem v_Sealer_seal {G : pG} (a0 : Nat) (a1 : Nat) (a2 : Nat) (a3 : Nat) (S : TS) (Q : Option Value → TS → Prop)
    (h : te S a3 = some (.inr 9) ∧ C0 G J_Wire_draft [.ref a3] S (fun r S2 => ∃ b3 : Nat, r = some (.ref b3) ∧ te S2 a2 = some (.inr 0) ∧ CP G J_Bytes_size [.ref a2] S2 (fun r => ∃ r5 : Int32, r = some (.int r5) ∧ te S2 b3 = some (.inr 0) ∧ C0 G J_Bytes_putHead [.ref b3, .int 4, .int (r5 + (16 : Int32))] S2 (fun r S7 => r = none ∧ te S7 a0 = some (.inr 5) ∧ ∃ b9 : Nat, tR S7 a0 0 = some b9 ∧ te S7 a1 = some (.inr 1) ∧ CP G J_Direction_sealingKey [.ref a1] S7 (fun r => ∃ b12 : Nat, r = some (.ref b12) ∧ CP G J_Direction_number [.ref a1] S7 (fun r => ∃ r13 : Int32, r = some (.int r13) ∧ te S7 b9 = some (.inr 8) ∧ C0 G J_Stream_begin [.ref b9, .ref b12, .int r13] S7 (fun r S15 => r = none ∧ CP G J_Bytes_size [.ref a2] S15 (fun r => ∃ r16 : Int32, r = some (.int r16) ∧ C0 G J_Sealer_cover [.ref a0, .ref a2, .int 0, .int r16, .ref b3] S15 (fun r S17 => r = none ∧ C0 G J_Stream_make [.ref b9, .int 0] S17 (fun r S18 => r = none ∧ ∃ b19 : Nat, tR S18 a0 1 = some b19 ∧ CP G J_Bytes_size [.ref b3] S18 (fun r => ∃ r21 : Int32, r = some (.int r21) ∧ ∃ b22 : Nat, tR S18 a0 2 = some b22 ∧ te S18 b19 = some (.inr 3) ∧ C0 G J_Poly_makeTag [.ref b19, .ref b9, .ref b3, .int r21, .ref b22] S18 (fun r S25 => r = none ∧ C0 G J_Bytes_putAll [.ref b3, .ref b22] S25 (fun r S26 => r = none ∧ C0 G J_Wire_send [.ref a3] S26 (fun r S27 => r = none ∧ C0 G J_Direction_step [.ref a1] S27 (fun r S28 => r = none ∧ Q none S28))))))))))))))) :
    C0 G J_Sealer_seal [.ref a0, .ref a1, .ref a2, .ref a3] S Q := by
  unfold C0
  refine ct_of (by decide +kernel) (Nat.le_of_ble_eq_true rfl) (lv := [(0, .ref a0), (1, .ref a1), (2, .ref a2), (3, .ref a3)]) rfl ?_
  have hm : Sm0 S S := Sm0.rf S
  refine tt_aload_n (k0 := 3) (by decide +kernel) rfl ?_
  obtain ⟨f1, h⟩ := h
  refine tt_callV (As := []) (rest := []) (ci := 9) (r0 := (R_9, F_9, 2)) (by decide +kernel) LK_Wire_draft w_489 w_434 w_435 (by decide) (by decide) rfl rfl (Nat.le_of_ble_eq_true rfl) rfl rfl f1 (ct_mono h (fun r S2 h => ?_))
  obtain ⟨hm2, h⟩ := h
  obtain ⟨b3, rfl, h⟩ := h
  show T G J_Sealer_seal 4 [(0, .ref a0), (1, .ref a1), (2, .ref a2), (3, .ref a3)] [.ref b3] S2 _
  have hm := hm.tr hm2
  have f1 : te S2 a3 = some (.inr 9) := by rw [hm2.1]; exact f1
  refine tt_astore (k0 := 4) (lv' := [(0, .ref a0), (1, .ref a1), (2, .ref a2), (3, .ref a3), (4, .ref b3)]) (by decide +kernel) (by decide) rfl ?_
  refine tt_aload (k0 := 4) (by decide +kernel) rfl ?_
  refine tt_iconst (n := 4) (v := 4) (by decide +kernel) (by decide) ?_
  refine tt_aload_n (k0 := 2) (by decide +kernel) rfl ?_
  obtain ⟨f4, h⟩ := h
  refine tt_callV (As := []) (rest := [.int 4, .ref b3]) (ci := 0) (r0 := (R_0, F_0, 2)) (by decide +kernel) LK_Bytes_size w_490 w_299 w_300 (by decide) (by decide) rfl rfl (Nat.le_of_ble_eq_true rfl) rfl rfl f4 (ct_mono h (fun r Sb h => ?_))
  obtain ⟨eb, h⟩ := h
  obtain ⟨r5, rfl, h⟩ := h
  rw [eb]
  show T G J_Sealer_seal 13 [(0, .ref a0), (1, .ref a1), (2, .ref a2), (3, .ref a3), (4, .ref b3)] [.int r5, .int 4, .ref b3] S2 _
  refine tt_bipush (n := 16) (v := 16) (by decide +kernel) (by decide) ?_
  refine tt_iadd (by decide +kernel) ?_
  obtain ⟨f6, h⟩ := h
  refine tt_callV (As := [.int 4, .int (r5 + (16 : Int32))]) (rest := []) (ci := 0) (r0 := (R_0, F_0, 2)) (by decide +kernel) LK_Bytes_putHead w_491 w_439 w_440 (by decide) (by decide) rfl rfl (Nat.le_of_ble_eq_true rfl) rfl rfl f6 (ct_mono h (fun r S7 h => ?_))
  obtain ⟨hm2, h⟩ := h
  obtain ⟨rfl, h⟩ := h
  show T G J_Sealer_seal 19 [(0, .ref a0), (1, .ref a1), (2, .ref a2), (3, .ref a3), (4, .ref b3)] [] S7 _
  have hm := hm.tr hm2
  have f1 : te S7 a3 = some (.inr 9) := by rw [hm2.1]; exact f1
  have f4 : te S7 a2 = some (.inr 0) := by rw [hm2.1]; exact f4
  have f6 : te S7 b3 = some (.inr 0) := by rw [hm2.1]; exact f6
  refine tt_aload_n (k0 := 0) (by decide +kernel) rfl ?_
  obtain ⟨f8, h⟩ := h
  obtain ⟨b9, f10, h⟩ := h
  refine tt_getR (k := 0) (by decide +kernel) KC_5 (by decide) w_83 (fun _ => rfl) f8 f10 ?_
  refine tt_aload_n (k0 := 1) (by decide +kernel) rfl ?_
  obtain ⟨f11, h⟩ := h
  refine tt_callV (As := []) (rest := [.ref b9]) (ci := 1) (r0 := (R_1, F_1, 5)) (by decide +kernel) LK_Direction_sealingKey w_492 w_493 w_494 (by decide) (by decide) rfl rfl (Nat.le_of_ble_eq_true rfl) rfl rfl f11 (ct_mono h (fun r Sb h => ?_))
  obtain ⟨eb, h⟩ := h
  obtain ⟨b12, rfl, h⟩ := h
  rw [eb]
  show T G J_Sealer_seal 27 [(0, .ref a0), (1, .ref a1), (2, .ref a2), (3, .ref a3), (4, .ref b3)] [.ref b12, .ref b9] S7 _
  refine tt_aload_n (k0 := 1) (by decide +kernel) rfl ?_
  refine tt_callV (As := []) (rest := [.ref b12, .ref b9]) (ci := 1) (r0 := (R_1, F_1, 5)) (by decide +kernel) LK_Direction_number w_496 w_497 w_498 (by decide) (by decide) rfl rfl (Nat.le_of_ble_eq_true rfl) rfl rfl f11 (ct_mono h (fun r Sb h => ?_))
  obtain ⟨eb, h⟩ := h
  obtain ⟨r13, rfl, h⟩ := h
  rw [eb]
  show T G J_Sealer_seal 31 [(0, .ref a0), (1, .ref a1), (2, .ref a2), (3, .ref a3), (4, .ref b3)] [.int r13, .ref b12, .ref b9] S7 _
  obtain ⟨f14, h⟩ := h
  refine tt_callV (As := [.ref b12, .int r13]) (rest := []) (ci := 8) (r0 := (R_8, F_8, 2)) (by decide +kernel) LK_Stream_begin w_500 w_501 w_502 (by decide) (by decide) rfl rfl (Nat.le_of_ble_eq_true rfl) rfl rfl f14 (ct_mono h (fun r S15 h => ?_))
  obtain ⟨hm2, h⟩ := h
  obtain ⟨rfl, h⟩ := h
  show T G J_Sealer_seal 34 [(0, .ref a0), (1, .ref a1), (2, .ref a2), (3, .ref a3), (4, .ref b3)] [] S15 _
  have hm := hm.tr hm2
  have f1 : te S15 a3 = some (.inr 9) := by rw [hm2.1]; exact f1
  have f4 : te S15 a2 = some (.inr 0) := by rw [hm2.1]; exact f4
  have f6 : te S15 b3 = some (.inr 0) := by rw [hm2.1]; exact f6
  have f8 : te S15 a0 = some (.inr 5) := by rw [hm2.1]; exact f8
  have f10 : tR S15 a0 0 = some b9 := by rw [hm2.R]; exact f10
  have f11 : te S15 a1 = some (.inr 1) := by rw [hm2.1]; exact f11
  have f14 : te S15 b9 = some (.inr 8) := by rw [hm2.1]; exact f14
  refine tt_aload_n (k0 := 0) (by decide +kernel) rfl ?_
  refine tt_aload_n (k0 := 2) (by decide +kernel) rfl ?_
  refine tt_iconst (n := 0) (v := 0) (by decide +kernel) (by decide) ?_
  refine tt_aload_n (k0 := 2) (by decide +kernel) rfl ?_
  refine tt_callV (As := []) (rest := [.int 0, .ref a2, .ref a0]) (ci := 0) (r0 := (R_0, F_0, 2)) (by decide +kernel) LK_Bytes_size w_490 w_299 w_300 (by decide) (by decide) rfl rfl (Nat.le_of_ble_eq_true rfl) rfl rfl f4 (ct_mono h (fun r Sb h => ?_))
  obtain ⟨eb, h⟩ := h
  obtain ⟨r16, rfl, h⟩ := h
  rw [eb]
  show T G J_Sealer_seal 41 [(0, .ref a0), (1, .ref a1), (2, .ref a2), (3, .ref a3), (4, .ref b3)] [.int r16, .int 0, .ref a2, .ref a0] S15 _
  refine tt_aload (k0 := 4) (by decide +kernel) rfl ?_
  refine tt_callV (As := [.ref a2, .int 0, .int r16, .ref b3]) (rest := []) (ci := 5) (r0 := (R_5, F_5, 3)) (by decide +kernel) LK_Sealer_cover w_512 w_514 (in_p (n := 3) 5 rfl) (by decide) (by decide) rfl rfl (Nat.le_of_ble_eq_true rfl) rfl rfl f8 (ct_mono h (fun r S17 h => ?_))
  obtain ⟨hm2, h⟩ := h
  obtain ⟨rfl, h⟩ := h
  show T G J_Sealer_seal 46 [(0, .ref a0), (1, .ref a1), (2, .ref a2), (3, .ref a3), (4, .ref b3)] [] S17 _
  have hm := hm.tr hm2
  have f1 : te S17 a3 = some (.inr 9) := by rw [hm2.1]; exact f1
  have f4 : te S17 a2 = some (.inr 0) := by rw [hm2.1]; exact f4
  have f6 : te S17 b3 = some (.inr 0) := by rw [hm2.1]; exact f6
  have f8 : te S17 a0 = some (.inr 5) := by rw [hm2.1]; exact f8
  have f10 : tR S17 a0 0 = some b9 := by rw [hm2.R]; exact f10
  have f11 : te S17 a1 = some (.inr 1) := by rw [hm2.1]; exact f11
  have f14 : te S17 b9 = some (.inr 8) := by rw [hm2.1]; exact f14
  refine tt_aload_n (k0 := 0) (by decide +kernel) rfl ?_
  refine tt_getR (k := 0) (by decide +kernel) KC_5 (by decide) w_83 (fun _ => rfl) f8 f10 ?_
  refine tt_iconst (n := 0) (v := 0) (by decide +kernel) (by decide) ?_
  refine tt_callV (As := [.int 0]) (rest := []) (ci := 8) (r0 := (R_8, F_8, 2)) (by decide +kernel) LK_Stream_make w_516 w_517 w_518 (by decide) (by decide) rfl rfl (Nat.le_of_ble_eq_true rfl) rfl rfl f14 (ct_mono h (fun r S18 h => ?_))
  obtain ⟨hm2, h⟩ := h
  obtain ⟨rfl, h⟩ := h
  show T G J_Sealer_seal 54 [(0, .ref a0), (1, .ref a1), (2, .ref a2), (3, .ref a3), (4, .ref b3)] [] S18 _
  have hm := hm.tr hm2
  have f1 : te S18 a3 = some (.inr 9) := by rw [hm2.1]; exact f1
  have f4 : te S18 a2 = some (.inr 0) := by rw [hm2.1]; exact f4
  have f6 : te S18 b3 = some (.inr 0) := by rw [hm2.1]; exact f6
  have f8 : te S18 a0 = some (.inr 5) := by rw [hm2.1]; exact f8
  have f10 : tR S18 a0 0 = some b9 := by rw [hm2.R]; exact f10
  have f11 : te S18 a1 = some (.inr 1) := by rw [hm2.1]; exact f11
  have f14 : te S18 b9 = some (.inr 8) := by rw [hm2.1]; exact f14
  refine tt_aload_n (k0 := 0) (by decide +kernel) rfl ?_
  obtain ⟨b19, f20, h⟩ := h
  refine tt_getR (k := 1) (by decide +kernel) KC_5 (by decide) w_84 (fun _ => rfl) f8 f20 ?_
  refine tt_aload_n (k0 := 0) (by decide +kernel) rfl ?_
  refine tt_getR (k := 0) (by decide +kernel) KC_5 (by decide) w_83 (fun _ => rfl) f8 f10 ?_
  refine tt_aload (k0 := 4) (by decide +kernel) rfl ?_
  refine tt_aload (k0 := 4) (by decide +kernel) rfl ?_
  refine tt_callV (As := []) (rest := [.ref b3, .ref b9, .ref b19]) (ci := 0) (r0 := (R_0, F_0, 2)) (by decide +kernel) LK_Bytes_size w_490 w_299 w_300 (by decide) (by decide) rfl rfl (Nat.le_of_ble_eq_true rfl) rfl rfl f6 (ct_mono h (fun r Sb h => ?_))
  obtain ⟨eb, h⟩ := h
  obtain ⟨r21, rfl, h⟩ := h
  rw [eb]
  show T G J_Sealer_seal 69 [(0, .ref a0), (1, .ref a1), (2, .ref a2), (3, .ref a3), (4, .ref b3)] [.int r21, .ref b3, .ref b9, .ref b19] S18 _
  refine tt_aload_n (k0 := 0) (by decide +kernel) rfl ?_
  obtain ⟨b22, f23, h⟩ := h
  refine tt_getR (k := 2) (by decide +kernel) KC_5 (by decide) w_85 (fun _ => rfl) f8 f23 ?_
  obtain ⟨f24, h⟩ := h
  refine tt_callV (As := [.ref b9, .ref b3, .int r21, .ref b22]) (rest := []) (ci := 3) (r0 := (R_3, F_3, 5)) (by decide +kernel) LK_Poly_makeTag w_533 w_534 w_535 (by decide) (by decide) rfl rfl (Nat.le_of_ble_eq_true rfl) rfl rfl f24 (ct_mono h (fun r S25 h => ?_))
  obtain ⟨hm2, h⟩ := h
  obtain ⟨rfl, h⟩ := h
  show T G J_Sealer_seal 76 [(0, .ref a0), (1, .ref a1), (2, .ref a2), (3, .ref a3), (4, .ref b3)] [] S25 _
  have hm := hm.tr hm2
  have f1 : te S25 a3 = some (.inr 9) := by rw [hm2.1]; exact f1
  have f4 : te S25 a2 = some (.inr 0) := by rw [hm2.1]; exact f4
  have f6 : te S25 b3 = some (.inr 0) := by rw [hm2.1]; exact f6
  have f8 : te S25 a0 = some (.inr 5) := by rw [hm2.1]; exact f8
  have f10 : tR S25 a0 0 = some b9 := by rw [hm2.R]; exact f10
  have f11 : te S25 a1 = some (.inr 1) := by rw [hm2.1]; exact f11
  have f14 : te S25 b9 = some (.inr 8) := by rw [hm2.1]; exact f14
  have f20 : tR S25 a0 1 = some b19 := by rw [hm2.R]; exact f20
  have f23 : tR S25 a0 2 = some b22 := by rw [hm2.R]; exact f23
  have f24 : te S25 b19 = some (.inr 3) := by rw [hm2.1]; exact f24
  refine tt_aload (k0 := 4) (by decide +kernel) rfl ?_
  refine tt_aload_n (k0 := 0) (by decide +kernel) rfl ?_
  refine tt_getR (k := 2) (by decide +kernel) KC_5 (by decide) w_85 (fun _ => rfl) f8 f23 ?_
  refine tt_callV (As := [.ref b22]) (rest := []) (ci := 0) (r0 := (R_0, F_0, 2)) (by decide +kernel) LK_Bytes_putAll w_586 w_447 w_448 (by decide) (by decide) rfl rfl (Nat.le_of_ble_eq_true rfl) rfl rfl f6 (ct_mono h (fun r S26 h => ?_))
  obtain ⟨hm2, h⟩ := h
  obtain ⟨rfl, h⟩ := h
  show T G J_Sealer_seal 85 [(0, .ref a0), (1, .ref a1), (2, .ref a2), (3, .ref a3), (4, .ref b3)] [] S26 _
  have hm := hm.tr hm2
  have f1 : te S26 a3 = some (.inr 9) := by rw [hm2.1]; exact f1
  have f4 : te S26 a2 = some (.inr 0) := by rw [hm2.1]; exact f4
  have f6 : te S26 b3 = some (.inr 0) := by rw [hm2.1]; exact f6
  have f8 : te S26 a0 = some (.inr 5) := by rw [hm2.1]; exact f8
  have f10 : tR S26 a0 0 = some b9 := by rw [hm2.R]; exact f10
  have f11 : te S26 a1 = some (.inr 1) := by rw [hm2.1]; exact f11
  have f14 : te S26 b9 = some (.inr 8) := by rw [hm2.1]; exact f14
  have f20 : tR S26 a0 1 = some b19 := by rw [hm2.R]; exact f20
  have f23 : tR S26 a0 2 = some b22 := by rw [hm2.R]; exact f23
  have f24 : te S26 b19 = some (.inr 3) := by rw [hm2.1]; exact f24
  refine tt_aload_n (k0 := 3) (by decide +kernel) rfl ?_
  refine tt_callV (As := []) (rest := []) (ci := 9) (r0 := (R_9, F_9, 2)) (by decide +kernel) LK_Wire_send w_587 w_451 w_452 (by decide) (by decide) rfl rfl (Nat.le_of_ble_eq_true rfl) rfl rfl f1 (ct_mono h (fun r S27 h => ?_))
  obtain ⟨hm2, h⟩ := h
  obtain ⟨rfl, h⟩ := h
  show T G J_Sealer_seal 89 [(0, .ref a0), (1, .ref a1), (2, .ref a2), (3, .ref a3), (4, .ref b3)] [] S27 _
  have hm := hm.tr hm2
  have f1 : te S27 a3 = some (.inr 9) := by rw [hm2.1]; exact f1
  have f4 : te S27 a2 = some (.inr 0) := by rw [hm2.1]; exact f4
  have f6 : te S27 b3 = some (.inr 0) := by rw [hm2.1]; exact f6
  have f8 : te S27 a0 = some (.inr 5) := by rw [hm2.1]; exact f8
  have f10 : tR S27 a0 0 = some b9 := by rw [hm2.R]; exact f10
  have f11 : te S27 a1 = some (.inr 1) := by rw [hm2.1]; exact f11
  have f14 : te S27 b9 = some (.inr 8) := by rw [hm2.1]; exact f14
  have f20 : tR S27 a0 1 = some b19 := by rw [hm2.R]; exact f20
  have f23 : tR S27 a0 2 = some b22 := by rw [hm2.R]; exact f23
  have f24 : te S27 b19 = some (.inr 3) := by rw [hm2.1]; exact f24
  refine tt_aload_n (k0 := 1) (by decide +kernel) rfl ?_
  refine tt_callV (As := []) (rest := []) (ci := 1) (r0 := (R_1, F_1, 5)) (by decide +kernel) LK_Direction_step w_588 w_589 w_590 (by decide) (by decide) rfl rfl (Nat.le_of_ble_eq_true rfl) rfl rfl f11 (ct_mono h (fun r S28 h => ?_))
  obtain ⟨hm2, h⟩ := h
  obtain ⟨rfl, h⟩ := h
  show T G J_Sealer_seal 93 [(0, .ref a0), (1, .ref a1), (2, .ref a2), (3, .ref a3), (4, .ref b3)] [] S28 _
  have hm := hm.tr hm2
  have f1 : te S28 a3 = some (.inr 9) := by rw [hm2.1]; exact f1
  have f4 : te S28 a2 = some (.inr 0) := by rw [hm2.1]; exact f4
  have f6 : te S28 b3 = some (.inr 0) := by rw [hm2.1]; exact f6
  have f8 : te S28 a0 = some (.inr 5) := by rw [hm2.1]; exact f8
  have f10 : tR S28 a0 0 = some b9 := by rw [hm2.R]; exact f10
  have f11 : te S28 a1 = some (.inr 1) := by rw [hm2.1]; exact f11
  have f14 : te S28 b9 = some (.inr 8) := by rw [hm2.1]; exact f14
  have f20 : tR S28 a0 1 = some b19 := by rw [hm2.R]; exact f20
  have f23 : tR S28 a0 2 = some b22 := by rw [hm2.R]; exact f23
  have f24 : te S28 b19 = some (.inr 3) := by rw [hm2.1]; exact f24
  exact tt_vret (by decide +kernel) rfl ⟨hm, h⟩
set_option maxRecDepth 100000 in
theorem v_Direction_sealingKey {G : pG} (a0 : Nat) (S : TS) (Q : Option Value → Prop)
    (h : te S a0 = some (.inr 1) ∧ ∃ b2 : Nat, tR S a0 1 = some b2 ∧ Q (some (.ref b2))) :
    CP G J_Direction_sealingKey [.ref a0] S Q := by
  unfold CP
  refine ct_of (by decide +kernel) (Nat.le_of_ble_eq_true rfl) (lv := [(0, .ref a0)]) rfl ?_
  refine tt_aload_n (k0 := 0) (by decide +kernel) rfl ?_
  obtain ⟨f1, h⟩ := h
  obtain ⟨b2, f3, h⟩ := h
  refine tt_getR (k := 1) (by decide +kernel) KC_1 (by decide) w_182 (fun _ => rfl) f1 f3 ?_
  exact tt_aret (by decide +kernel) rfl ⟨rfl, h⟩
set_option maxRecDepth 100000 in
theorem v_Direction_number {G : pG} (a0 : Nat) (S : TS) (Q : Option Value → Prop)
    (h : te S a0 = some (.inr 1) ∧ Q (some (.int (tI S a0 3)))) :
    CP G J_Direction_number [.ref a0] S Q := by
  unfold CP
  refine ct_of (by decide +kernel) (Nat.le_of_ble_eq_true rfl) (lv := [(0, .ref a0)]) rfl ?_
  refine tt_aload_n (k0 := 0) (by decide +kernel) rfl ?_
  obtain ⟨f1, h⟩ := h
  refine tt_getI (k := 3) (by decide +kernel) KC_1 (by decide) w_184 (fun _ => rfl) f1 ?_
  exact tt_iret (by decide +kernel) rfl ⟨rfl, h⟩
set_option maxRecDepth 100000 in
theorem v_Sealer_cover {G : pG} (a0 : Nat) (a1 : Nat) (x2 : Int32) (x3 : Int32) (a4 : Nat) (S : TS) (Q : Option Value → TS → Prop)
    (h : T0 G J_Sealer_cover 3 [(0, .ref a0), (1, .ref a1), (2, .int x2), (3, .int x3), (4, .ref a4), (5, .int x2)] [] S Q) :
    C0 G J_Sealer_cover [.ref a0, .ref a1, .int x2, .int x3, .ref a4] S Q := by
  unfold C0
  refine ct_of (by decide +kernel) (Nat.le_of_ble_eq_true rfl) (lv := [(0, .ref a0), (1, .ref a1), (2, .int x2), (3, .int x3), (4, .ref a4)]) rfl ?_
  have hm : Sm0 S S := Sm0.rf S
  refine tt_iload_n (k0 := 2) (by decide +kernel) rfl ?_
  refine tt_istore (k0 := 5) (lv' := [(0, .ref a0), (1, .ref a1), (2, .int x2), (3, .int x3), (4, .ref a4), (5, .int x2)]) (by decide +kernel) (by decide) rfl ?_
  exact tt_mono h (fun r S' q => ⟨hm.tr q.1, q.2⟩)
set_option maxRecDepth 100000 in
theorem v_Sealer_cover_3 {G : pG} (a0 : Nat) (a1 : Nat) (x2 : Int32) (x3 : Int32) (a4 : Nat) (x5 : Int32) (S : TS) (Q : Option Value → TS → Prop)
    (h : ((x3 ≤ x5 → Q none S) ∧ (¬ (x3 ≤ x5) → ∀ y1 : Int32, y1 = x5 - x2 → ((¬ y1 - y1 / (64 : Int32) * (64 : Int32) = 0 → te S a1 = some (.inr 0) ∧ CP G J_Bytes_at [.ref a1, .int x5] S (fun r => ∃ r3 : Int32, r = some (.int r3) ∧ te S a0 = some (.inr 5) ∧ ∃ b5 : Nat, tR S a0 0 = some b5 ∧ te S b5 = some (.inr 8) ∧ CP G J_Stream_byteAt [.ref b5, .int (y1 - y1 / (64 : Int32) * (64 : Int32))] S (fun r => ∃ r8 : Int32, r = some (.int r8) ∧ te S a4 = some (.inr 0) ∧ C0 G J_Bytes_put [.ref a4, .int (r3 ^^^ r8)] S (fun r S10 => r = none ∧ ∀ y11 : Int32, y11 = x5 + 1 → T0 G J_Sealer_cover 3 [(0, .ref a0), (1, .ref a1), (2, .int x2), (3, .int x3), (4, .ref a4), (5, .int y11)] [] S10 Q)))) ∧ (y1 - y1 / (64 : Int32) * (64 : Int32) = 0 → te S a0 = some (.inr 5) ∧ ∃ b13 : Nat, tR S a0 0 = some b13 ∧ te S b13 = some (.inr 8) ∧ C0 G J_Stream_make [.ref b13, .int ((1 : Int32) + (y1 / (64 : Int32)))] S (fun r S16 => r = none ∧ te S16 a1 = some (.inr 0) ∧ CP G J_Bytes_at [.ref a1, .int x5] S16 (fun r => ∃ r18 : Int32, r = some (.int r18) ∧ CP G J_Stream_byteAt [.ref b13, .int (y1 - y1 / (64 : Int32) * (64 : Int32))] S16 (fun r => ∃ r19 : Int32, r = some (.int r19) ∧ te S16 a4 = some (.inr 0) ∧ C0 G J_Bytes_put [.ref a4, .int (r18 ^^^ r19)] S16 (fun r S21 => r = none ∧ ∀ y22 : Int32, y22 = x5 + 1 → T0 G J_Sealer_cover 3 [(0, .ref a0), (1, .ref a1), (2, .int x2), (3, .int x3), (4, .ref a4), (5, .int y22)] [] S21 Q))))))))) :
    T0 G J_Sealer_cover 3 [(0, .ref a0), (1, .ref a1), (2, .int x2), (3, .int x3), (4, .ref a4), (5, .int x5)] [] S Q := by
  unfold T0
  have hm : Sm0 S S := Sm0.rf S
  refine tt_iload (k0 := 5) (by decide +kernel) rfl ?_
  refine tt_iload_n (k0 := 3) (by decide +kernel) rfl ?_
  refine tt_icmp_ge (off := 61) 67 (by decide +kernel) (by decide) (fun c => ?_) (fun c => ?_)
  · have h := h.1 c
    exact tt_vret (by decide +kernel) rfl ⟨hm, h⟩
  · have h := h.2 c
    refine tt_iload (k0 := 5) (by decide +kernel) rfl ?_
    refine tt_iload_n (k0 := 2) (by decide +kernel) rfl ?_
    refine tt_isub (by decide +kernel) ?_
    refine tt_topi (fun y1 ey1 => ?_)
    have h := h y1 ey1
    refine tt_istore (k0 := 6) (lv' := [(0, .ref a0), (1, .ref a1), (2, .int x2), (3, .int x3), (4, .ref a4), (5, .int x5), (6, .int y1)]) (by decide +kernel) (by decide) rfl ?_
    refine tt_iload (k0 := 6) (by decide +kernel) rfl ?_
    refine tt_bipush (n := 64) (v := 64) (by decide +kernel) (by decide) ?_
    refine tt_irem (by decide +kernel) (by decide) ?_
    refine tt_if_ne (off := 17) 37 (by decide +kernel) (by decide) (fun c => ?_) (fun c => ?_)
    · have h := h.1 c
      refine tt_aload (k0 := 4) (by decide +kernel) rfl ?_
      refine tt_aload_n (k0 := 1) (by decide +kernel) rfl ?_
      refine tt_iload (k0 := 5) (by decide +kernel) rfl ?_
      obtain ⟨f2, h⟩ := h
      refine tt_callV (As := [.int x5]) (rest := [.ref a4]) (ci := 0) (r0 := (R_0, F_0, 2)) (by decide +kernel) LK_Bytes_at w_527 w_327 w_328 (by decide) (by decide) rfl rfl (Nat.le_of_ble_eq_true rfl) rfl rfl f2 (ct_mono h (fun r Sb h => ?_))
      obtain ⟨eb, h⟩ := h
      obtain ⟨r3, rfl, h⟩ := h
      rw [eb]
      show T G J_Sealer_cover 45 [(0, .ref a0), (1, .ref a1), (2, .int x2), (3, .int x3), (4, .ref a4), (5, .int x5), (6, .int y1)] [.int r3, .ref a4] S _
      refine tt_aload_n (k0 := 0) (by decide +kernel) rfl ?_
      obtain ⟨f4, h⟩ := h
      obtain ⟨b5, f6, h⟩ := h
      refine tt_getR (k := 0) (by decide +kernel) KC_5 (by decide) w_83 (fun _ => rfl) f4 f6 ?_
      refine tt_iload (k0 := 6) (by decide +kernel) rfl ?_
      refine tt_bipush (n := 64) (v := 64) (by decide +kernel) (by decide) ?_
      refine tt_irem (by decide +kernel) (by decide) ?_
      obtain ⟨f7, h⟩ := h
      refine tt_callV (As := [.int (y1 - y1 / (64 : Int32) * (64 : Int32))]) (rest := [.int r3, .ref a4]) (ci := 8) (r0 := (R_8, F_8, 2)) (by decide +kernel) LK_Stream_byteAt w_528 w_529 w_530 (by decide) (by decide) rfl rfl (Nat.le_of_ble_eq_true rfl) rfl rfl f7 (ct_mono h (fun r Sb h => ?_))
      obtain ⟨eb, h⟩ := h
      obtain ⟨r8, rfl, h⟩ := h
      rw [eb]
      show T G J_Sealer_cover 57 [(0, .ref a0), (1, .ref a1), (2, .int x2), (3, .int x3), (4, .ref a4), (5, .int x5), (6, .int y1)] [.int r8, .int r3, .ref a4] S _
      refine tt_ixor (by decide +kernel) ?_
      obtain ⟨f9, h⟩ := h
      refine tt_callV (As := [.int (r3 ^^^ r8)]) (rest := []) (ci := 0) (r0 := (R_0, F_0, 2)) (by decide +kernel) LK_Bytes_put w_532 w_239 w_240 (by decide) (by decide) rfl rfl (Nat.le_of_ble_eq_true rfl) rfl rfl f9 (ct_mono h (fun r S10 h => ?_))
      obtain ⟨hm2, h⟩ := h
      obtain ⟨rfl, h⟩ := h
      show T G J_Sealer_cover 61 [(0, .ref a0), (1, .ref a1), (2, .int x2), (3, .int x3), (4, .ref a4), (5, .int x5), (6, .int y1)] [] S10 _
      have hm := hm.tr hm2
      have f2 : te S10 a1 = some (.inr 0) := by rw [hm2.1]; exact f2
      have f4 : te S10 a0 = some (.inr 5) := by rw [hm2.1]; exact f4
      have f6 : tR S10 a0 0 = some b5 := by rw [hm2.R]; exact f6
      have f7 : te S10 b5 = some (.inr 8) := by rw [hm2.1]; exact f7
      have f9 : te S10 a4 = some (.inr 0) := by rw [hm2.1]; exact f9
      obtain ⟨y11, ey11⟩ : ∃ y : Int32, y = x5 + 1 := ⟨_, rfl⟩
      have h := h y11 ey11
      refine tt_iinc (i := 5) (n := 1) (v := y11) (lv' := [(0, .ref a0), (1, .ref a1), (2, .int x2), (3, .int x3), (4, .ref a4), (5, .int y11), (6, .int y1)]) (by decide +kernel) (by decide) rfl ey11.symm rfl ?_
      refine tt_goto (off := -61) (tgt := 3) (by decide +kernel) (by decide) ?_
      refine tt_lv [(0, .ref a0), (1, .ref a1), (2, .int x2), (3, .int x3), (4, .ref a4), (5, .int y11)] (by simp) ?_
      exact tt_mono h (fun r S' q => ⟨hm.tr q.1, q.2⟩)
    · have h := h.2 c
      refine tt_aload_n (k0 := 0) (by decide +kernel) rfl ?_
      obtain ⟨f12, h⟩ := h
      obtain ⟨b13, f14, h⟩ := h
      refine tt_getR (k := 0) (by decide +kernel) KC_5 (by decide) w_83 (fun _ => rfl) f12 f14 ?_
      refine tt_iconst (n := 1) (v := 1) (by decide +kernel) (by decide) ?_
      refine tt_iload (k0 := 6) (by decide +kernel) rfl ?_
      refine tt_bipush (n := 64) (v := 64) (by decide +kernel) (by decide) ?_
      refine tt_idiv (by decide +kernel) (by decide) ?_
      refine tt_iadd (by decide +kernel) ?_
      obtain ⟨f15, h⟩ := h
      refine tt_callV (As := [.int ((1 : Int32) + (y1 / (64 : Int32)))]) (rest := []) (ci := 8) (r0 := (R_8, F_8, 2)) (by decide +kernel) LK_Stream_make w_516 w_517 w_518 (by decide) (by decide) rfl rfl (Nat.le_of_ble_eq_true rfl) rfl rfl f15 (ct_mono h (fun r S16 h => ?_))
      obtain ⟨hm2, h⟩ := h
      obtain ⟨rfl, h⟩ := h
      show T G J_Sealer_cover 37 [(0, .ref a0), (1, .ref a1), (2, .int x2), (3, .int x3), (4, .ref a4), (5, .int x5), (6, .int y1)] [] S16 _
      have hm := hm.tr hm2
      have f12 : te S16 a0 = some (.inr 5) := by rw [hm2.1]; exact f12
      have f14 : tR S16 a0 0 = some b13 := by rw [hm2.R]; exact f14
      have f15 : te S16 b13 = some (.inr 8) := by rw [hm2.1]; exact f15
      refine tt_aload (k0 := 4) (by decide +kernel) rfl ?_
      refine tt_aload_n (k0 := 1) (by decide +kernel) rfl ?_
      refine tt_iload (k0 := 5) (by decide +kernel) rfl ?_
      obtain ⟨f17, h⟩ := h
      refine tt_callV (As := [.int x5]) (rest := [.ref a4]) (ci := 0) (r0 := (R_0, F_0, 2)) (by decide +kernel) LK_Bytes_at w_527 w_327 w_328 (by decide) (by decide) rfl rfl (Nat.le_of_ble_eq_true rfl) rfl rfl f17 (ct_mono h (fun r Sb h => ?_))
      obtain ⟨eb, h⟩ := h
      obtain ⟨r18, rfl, h⟩ := h
      rw [eb]
      show T G J_Sealer_cover 45 [(0, .ref a0), (1, .ref a1), (2, .int x2), (3, .int x3), (4, .ref a4), (5, .int x5), (6, .int y1)] [.int r18, .ref a4] S16 _
      refine tt_aload_n (k0 := 0) (by decide +kernel) rfl ?_
      refine tt_getR (k := 0) (by decide +kernel) KC_5 (by decide) w_83 (fun _ => rfl) f12 f14 ?_
      refine tt_iload (k0 := 6) (by decide +kernel) rfl ?_
      refine tt_bipush (n := 64) (v := 64) (by decide +kernel) (by decide) ?_
      refine tt_irem (by decide +kernel) (by decide) ?_
      refine tt_callV (As := [.int (y1 - y1 / (64 : Int32) * (64 : Int32))]) (rest := [.int r18, .ref a4]) (ci := 8) (r0 := (R_8, F_8, 2)) (by decide +kernel) LK_Stream_byteAt w_528 w_529 w_530 (by decide) (by decide) rfl rfl (Nat.le_of_ble_eq_true rfl) rfl rfl f15 (ct_mono h (fun r Sb h => ?_))
      obtain ⟨eb, h⟩ := h
      obtain ⟨r19, rfl, h⟩ := h
      rw [eb]
      show T G J_Sealer_cover 57 [(0, .ref a0), (1, .ref a1), (2, .int x2), (3, .int x3), (4, .ref a4), (5, .int x5), (6, .int y1)] [.int r19, .int r18, .ref a4] S16 _
      refine tt_ixor (by decide +kernel) ?_
      obtain ⟨f20, h⟩ := h
      refine tt_callV (As := [.int (r18 ^^^ r19)]) (rest := []) (ci := 0) (r0 := (R_0, F_0, 2)) (by decide +kernel) LK_Bytes_put w_532 w_239 w_240 (by decide) (by decide) rfl rfl (Nat.le_of_ble_eq_true rfl) rfl rfl f20 (ct_mono h (fun r S21 h => ?_))
      obtain ⟨hm2, h⟩ := h
      obtain ⟨rfl, h⟩ := h
      show T G J_Sealer_cover 61 [(0, .ref a0), (1, .ref a1), (2, .int x2), (3, .int x3), (4, .ref a4), (5, .int x5), (6, .int y1)] [] S21 _
      have hm := hm.tr hm2
      have f12 : te S21 a0 = some (.inr 5) := by rw [hm2.1]; exact f12
      have f14 : tR S21 a0 0 = some b13 := by rw [hm2.R]; exact f14
      have f15 : te S21 b13 = some (.inr 8) := by rw [hm2.1]; exact f15
      have f17 : te S21 a1 = some (.inr 0) := by rw [hm2.1]; exact f17
      have f20 : te S21 a4 = some (.inr 0) := by rw [hm2.1]; exact f20
      obtain ⟨y22, ey22⟩ : ∃ y : Int32, y = x5 + 1 := ⟨_, rfl⟩
      have h := h y22 ey22
      refine tt_iinc (i := 5) (n := 1) (v := y22) (lv' := [(0, .ref a0), (1, .ref a1), (2, .int x2), (3, .int x3), (4, .ref a4), (5, .int y22), (6, .int y1)]) (by decide +kernel) (by decide) rfl ey22.symm rfl ?_
      refine tt_goto (off := -61) (tgt := 3) (by decide +kernel) (by decide) ?_
      refine tt_lv [(0, .ref a0), (1, .ref a1), (2, .int x2), (3, .int x3), (4, .ref a4), (5, .int y22)] (by simp) ?_
      exact tt_mono h (fun r S' q => ⟨hm.tr q.1, q.2⟩)
set_option maxRecDepth 100000 in
theorem v_Direction_step {G : pG} (a0 : Nat) (S : TS) (Q : Option Value → TS → Prop)
    (h : te S a0 = some (.inr 1) ∧ ∀ S2 : TS, S2 = sI S a0 (upd (tI S a0) 3 ((tI S a0 3) + (1 : Int32))) → Q none S2) :
    C0 G J_Direction_step [.ref a0] S Q := by
  unfold C0
  refine ct_of (by decide +kernel) (Nat.le_of_ble_eq_true rfl) (lv := [(0, .ref a0)]) rfl ?_
  have hm : Sm0 S S := Sm0.rf S
  refine tt_aload_n (k0 := 0) (by decide +kernel) rfl ?_
  refine tt_dup (by decide +kernel) rfl ?_
  obtain ⟨f1, h⟩ := h
  refine tt_getI (k := 3) (by decide +kernel) KC_1 (by decide) w_184 (fun _ => rfl) f1 ?_
  refine tt_iconst (n := 1) (v := 1) (by decide +kernel) (by decide) ?_
  refine tt_iadd (by decide +kernel) ?_
  refine tt_putI (k := 3) (by decide +kernel) KC_1 (by decide) w_184 rfl rfl f1 ?_
  generalize eS2 : sI S a0 (upd (tI S a0) 3 ((tI S a0 3) + (1 : Int32))) = S2
  have h := h S2 eS2.symm
  have hm : Sm0 S S2 := by rw [← eS2]; exact hm.I
  have f1 : te S2 a0 = some (.inr 1) := by rw [← eS2, te_sI]; exact f1
  exact tt_vret (by decide +kernel) rfl ⟨hm, h⟩
set_option maxRecDepth 100000 in
theorem v_Side_makeKeyAnew {G : pG} (a0 : Nat) (x1 : Int32) (S : TS) (Q : Option Value → TS → Prop)
    (h : te S a0 = some (.inr 6) ∧ CP G J_Side_direction [.ref a0, .int x1] S (fun r => ∃ b2 : Nat, r = some (.ref b2) ∧ ∃ b3 : Nat, tR S a0 2 = some b3 ∧ te S b2 = some (.inr 1) ∧ CP G J_Direction_sealingKey [.ref b2] S (fun r => ∃ b6 : Nat, r = some (.ref b6) ∧ CP G J_Direction_generation [.ref b2] S (fun r => ∃ r7 : Int32, r = some (.int r7) ∧ C0 G J_Direction_makeKey [.ref b2, .ref b3, .ref b6, .int (r7 + (1 : Int32))] S (fun r S8 => r = none ∧ Q none S8))))) :
    C0 G J_Side_makeKeyAnew [.ref a0, .int x1] S Q := by
  unfold C0
  refine ct_of (by decide +kernel) (Nat.le_of_ble_eq_true rfl) (lv := [(0, .ref a0), (1, .int x1)]) rfl ?_
  have hm : Sm0 S S := Sm0.rf S
  refine tt_aload_n (k0 := 0) (by decide +kernel) rfl ?_
  refine tt_iload_n (k0 := 1) (by decide +kernel) rfl ?_
  obtain ⟨f1, h⟩ := h
  refine tt_callV (As := [.int x1]) (rest := []) (ci := 6) (r0 := (R_6, F_6, 13)) (by decide +kernel) LK_Side_direction w_608 w_482 w_483 (by decide) (by decide) rfl rfl (Nat.le_of_ble_eq_true rfl) rfl rfl f1 (ct_mono h (fun r Sb h => ?_))
  obtain ⟨eb, h⟩ := h
  obtain ⟨b2, rfl, h⟩ := h
  rw [eb]
  show T G J_Side_makeKeyAnew 5 [(0, .ref a0), (1, .int x1)] [.ref b2] S _
  refine tt_astore_n (k0 := 2) (lv' := [(0, .ref a0), (1, .int x1), (2, .ref b2)]) (by decide +kernel) (by decide) rfl ?_
  refine tt_aload_n (k0 := 2) (by decide +kernel) rfl ?_
  refine tt_aload_n (k0 := 0) (by decide +kernel) rfl ?_
  obtain ⟨b3, f4, h⟩ := h
  refine tt_getR (k := 2) (by decide +kernel) KC_6 (by decide) w_200 (fun _ => rfl) f1 f4 ?_
  refine tt_aload_n (k0 := 2) (by decide +kernel) rfl ?_
  obtain ⟨f5, h⟩ := h
  refine tt_callV (As := []) (rest := [.ref b3, .ref b2]) (ci := 1) (r0 := (R_1, F_1, 5)) (by decide +kernel) LK_Direction_sealingKey w_609 w_493 w_494 (by decide) (by decide) rfl rfl (Nat.le_of_ble_eq_true rfl) rfl rfl f5 (ct_mono h (fun r Sb h => ?_))
  obtain ⟨eb, h⟩ := h
  obtain ⟨b6, rfl, h⟩ := h
  rw [eb]
  show T G J_Side_makeKeyAnew 15 [(0, .ref a0), (1, .int x1), (2, .ref b2)] [.ref b6, .ref b3, .ref b2] S _
  refine tt_aload_n (k0 := 2) (by decide +kernel) rfl ?_
  refine tt_callV (As := []) (rest := [.ref b6, .ref b3, .ref b2]) (ci := 1) (r0 := (R_1, F_1, 5)) (by decide +kernel) LK_Direction_generation w_610 w_611 w_612 (by decide) (by decide) rfl rfl (Nat.le_of_ble_eq_true rfl) rfl rfl f5 (ct_mono h (fun r Sb h => ?_))
  obtain ⟨eb, h⟩ := h
  obtain ⟨r7, rfl, h⟩ := h
  rw [eb]
  show T G J_Side_makeKeyAnew 19 [(0, .ref a0), (1, .int x1), (2, .ref b2)] [.int r7, .ref b6, .ref b3, .ref b2] S _
  refine tt_iconst (n := 1) (v := 1) (by decide +kernel) (by decide) ?_
  refine tt_iadd (by decide +kernel) ?_
  refine tt_callV (As := [.ref b3, .ref b6, .int (r7 + (1 : Int32))]) (rest := []) (ci := 1) (r0 := (R_1, F_1, 5)) (by decide +kernel) LK_Direction_makeKey w_614 w_615 w_616 (by decide) (by decide) rfl rfl (Nat.le_of_ble_eq_true rfl) rfl rfl f5 (ct_mono h (fun r S8 h => ?_))
  obtain ⟨hm2, h⟩ := h
  obtain ⟨rfl, h⟩ := h
  show T G J_Side_makeKeyAnew 24 [(0, .ref a0), (1, .int x1), (2, .ref b2)] [] S8 _
  have hm := hm.tr hm2
  have f1 : te S8 a0 = some (.inr 6) := by rw [hm2.1]; exact f1
  have f4 : tR S8 a0 2 = some b3 := by rw [hm2.R]; exact f4
  have f5 : te S8 b2 = some (.inr 1) := by rw [hm2.1]; exact f5
  exact tt_vret (by decide +kernel) rfl ⟨hm, h⟩
set_option maxRecDepth 100000 in
theorem v_Direction_generation {G : pG} (a0 : Nat) (S : TS) (Q : Option Value → Prop)
    (h : te S a0 = some (.inr 1) ∧ Q (some (.int (tI S a0 4)))) :
    CP G J_Direction_generation [.ref a0] S Q := by
  unfold CP
  refine ct_of (by decide +kernel) (Nat.le_of_ble_eq_true rfl) (lv := [(0, .ref a0)]) rfl ?_
  refine tt_aload_n (k0 := 0) (by decide +kernel) rfl ?_
  obtain ⟨f1, h⟩ := h
  refine tt_getI (k := 4) (by decide +kernel) KC_1 (by decide) w_185 (fun _ => rfl) f1 ?_
  exact tt_iret (by decide +kernel) rfl ⟨rfl, h⟩
set_option maxRecDepth 100000 in
theorem v_Direction_makeKey {G : pG} (a0 : Nat) (a1 : Nat) (a2 : Nat) (x3 : Int32) (S : TS) (Q : Option Value → TS → Prop)
    (h : te S a0 = some (.inr 1) ∧ ∀ S2 : TS, S2 = sI S a0 (upd (tI S a0) 4 x3) → ∀ S3 : TS, S3 = sI S2 a0 (upd (tI S2 a0) 3 0) → ∃ b4 : Nat, tR S3 a0 2 = some b4 ∧ te S3 b4 = some (.inr 0) ∧ C0 G J_Bytes_clear [.ref b4] S3 (fun r S7 => r = none ∧ C0 G J_Bytes_put [.ref b4, .int 107] S7 (fun r S8 => r = none ∧ C0 G J_Bytes_put [.ref b4, .int (tI S8 a0 0)] S8 (fun r S9 => r = none ∧ C0 G J_Bytes_put [.ref b4, .int (tI S9 a0 4)] S9 (fun r S10 => r = none ∧ ∃ b11 : Nat, tR S10 a0 1 = some b11 ∧ te S10 a1 = some (.inr 2) ∧ C0 G J_Hash_mac [.ref a1, .ref a2, .ref b4, .ref b11] S10 (fun r S14 => r = none ∧ Q none S14)))))) :
    C0 G J_Direction_makeKey [.ref a0, .ref a1, .ref a2, .int x3] S Q := by
  unfold C0
  refine ct_of (by decide +kernel) (Nat.le_of_ble_eq_true rfl) (lv := [(0, .ref a0), (1, .ref a1), (2, .ref a2), (3, .int x3)]) rfl ?_
  have hm : Sm0 S S := Sm0.rf S
  refine tt_aload_n (k0 := 0) (by decide +kernel) rfl ?_
  refine tt_iload_n (k0 := 3) (by decide +kernel) rfl ?_
  obtain ⟨f1, h⟩ := h
  refine tt_putI (k := 4) (by decide +kernel) KC_1 (by decide) w_185 rfl rfl f1 ?_
  generalize eS2 : sI S a0 (upd (tI S a0) 4 x3) = S2
  have h := h S2 eS2.symm
  have hm : Sm0 S S2 := by rw [← eS2]; exact hm.I
  have f1 : te S2 a0 = some (.inr 1) := by rw [← eS2, te_sI]; exact f1
  refine tt_aload_n (k0 := 0) (by decide +kernel) rfl ?_
  refine tt_iconst (n := 0) (v := 0) (by decide +kernel) (by decide) ?_
  refine tt_putI (k := 3) (by decide +kernel) KC_1 (by decide) w_184 rfl rfl f1 ?_
  generalize eS3 : sI S2 a0 (upd (tI S2 a0) 3 0) = S3
  have h := h S3 eS3.symm
  have hm : Sm0 S S3 := by rw [← eS3]; exact hm.I
  have f1 : te S3 a0 = some (.inr 1) := by rw [← eS3, te_sI]; exact f1
  refine tt_aload_n (k0 := 0) (by decide +kernel) rfl ?_
  obtain ⟨b4, f5, h⟩ := h
  refine tt_getR (k := 2) (by decide +kernel) KC_1 (by decide) w_183 (fun _ => rfl) f1 f5 ?_
  obtain ⟨f6, h⟩ := h
  refine tt_callV (As := []) (rest := []) (ci := 0) (r0 := (R_0, F_0, 2)) (by decide +kernel) LK_Bytes_clear w_618 w_392 w_393 (by decide) (by decide) rfl rfl (Nat.le_of_ble_eq_true rfl) rfl rfl f6 (ct_mono h (fun r S7 h => ?_))
  obtain ⟨hm2, h⟩ := h
  obtain ⟨rfl, h⟩ := h
  show T G J_Direction_makeKey 17 [(0, .ref a0), (1, .ref a1), (2, .ref a2), (3, .int x3)] [] S7 _
  have hm := hm.tr hm2
  have f1 : te S7 a0 = some (.inr 1) := by rw [hm2.1]; exact f1
  have f5 : tR S7 a0 2 = some b4 := by rw [hm2.R]; exact f5
  have f6 : te S7 b4 = some (.inr 0) := by rw [hm2.1]; exact f6
  refine tt_aload_n (k0 := 0) (by decide +kernel) rfl ?_
  refine tt_getR (k := 2) (by decide +kernel) KC_1 (by decide) w_183 (fun _ => rfl) f1 f5 ?_
  refine tt_bipush (n := 107) (v := 107) (by decide +kernel) (by decide) ?_
  refine tt_callV (As := [.int 107]) (rest := []) (ci := 0) (r0 := (R_0, F_0, 2)) (by decide +kernel) LK_Bytes_put w_619 w_239 w_240 (by decide) (by decide) rfl rfl (Nat.le_of_ble_eq_true rfl) rfl rfl f6 (ct_mono h (fun r S8 h => ?_))
  obtain ⟨hm2, h⟩ := h
  obtain ⟨rfl, h⟩ := h
  show T G J_Direction_makeKey 26 [(0, .ref a0), (1, .ref a1), (2, .ref a2), (3, .int x3)] [] S8 _
  have hm := hm.tr hm2
  have f1 : te S8 a0 = some (.inr 1) := by rw [hm2.1]; exact f1
  have f5 : tR S8 a0 2 = some b4 := by rw [hm2.R]; exact f5
  have f6 : te S8 b4 = some (.inr 0) := by rw [hm2.1]; exact f6
  refine tt_aload_n (k0 := 0) (by decide +kernel) rfl ?_
  refine tt_getR (k := 2) (by decide +kernel) KC_1 (by decide) w_183 (fun _ => rfl) f1 f5 ?_
  refine tt_aload_n (k0 := 0) (by decide +kernel) rfl ?_
  refine tt_getI (k := 0) (by decide +kernel) KC_1 (by decide) w_181 (fun _ => rfl) f1 ?_
  refine tt_callV (As := [.int (tI S8 a0 0)]) (rest := []) (ci := 0) (r0 := (R_0, F_0, 2)) (by decide +kernel) LK_Bytes_put w_619 w_239 w_240 (by decide) (by decide) rfl rfl (Nat.le_of_ble_eq_true rfl) rfl rfl f6 (ct_mono h (fun r S9 h => ?_))
  obtain ⟨hm2, h⟩ := h
  obtain ⟨rfl, h⟩ := h
  show T G J_Direction_makeKey 37 [(0, .ref a0), (1, .ref a1), (2, .ref a2), (3, .int x3)] [] S9 _
  have hm := hm.tr hm2
  have f1 : te S9 a0 = some (.inr 1) := by rw [hm2.1]; exact f1
  have f5 : tR S9 a0 2 = some b4 := by rw [hm2.R]; exact f5
  have f6 : te S9 b4 = some (.inr 0) := by rw [hm2.1]; exact f6
  refine tt_aload_n (k0 := 0) (by decide +kernel) rfl ?_
  refine tt_getR (k := 2) (by decide +kernel) KC_1 (by decide) w_183 (fun _ => rfl) f1 f5 ?_
  refine tt_aload_n (k0 := 0) (by decide +kernel) rfl ?_
  refine tt_getI (k := 4) (by decide +kernel) KC_1 (by decide) w_185 (fun _ => rfl) f1 ?_
  refine tt_callV (As := [.int (tI S9 a0 4)]) (rest := []) (ci := 0) (r0 := (R_0, F_0, 2)) (by decide +kernel) LK_Bytes_put w_619 w_239 w_240 (by decide) (by decide) rfl rfl (Nat.le_of_ble_eq_true rfl) rfl rfl f6 (ct_mono h (fun r S10 h => ?_))
  obtain ⟨hm2, h⟩ := h
  obtain ⟨rfl, h⟩ := h
  show T G J_Direction_makeKey 48 [(0, .ref a0), (1, .ref a1), (2, .ref a2), (3, .int x3)] [] S10 _
  have hm := hm.tr hm2
  have f1 : te S10 a0 = some (.inr 1) := by rw [hm2.1]; exact f1
  have f5 : tR S10 a0 2 = some b4 := by rw [hm2.R]; exact f5
  have f6 : te S10 b4 = some (.inr 0) := by rw [hm2.1]; exact f6
  refine tt_aload_n (k0 := 1) (by decide +kernel) rfl ?_
  refine tt_aload_n (k0 := 2) (by decide +kernel) rfl ?_
  refine tt_aload_n (k0 := 0) (by decide +kernel) rfl ?_
  refine tt_getR (k := 2) (by decide +kernel) KC_1 (by decide) w_183 (fun _ => rfl) f1 f5 ?_
  refine tt_aload_n (k0 := 0) (by decide +kernel) rfl ?_
  obtain ⟨b11, f12, h⟩ := h
  refine tt_getR (k := 1) (by decide +kernel) KC_1 (by decide) w_182 (fun _ => rfl) f1 f12 ?_
  obtain ⟨f13, h⟩ := h
  refine tt_callV (As := [.ref a2, .ref b4, .ref b11]) (rest := []) (ci := 2) (r0 := (R_2, F_2, 4)) (by decide +kernel) LK_Hash_mac w_620 w_621 w_622 (by decide) (by decide) rfl rfl (Nat.le_of_ble_eq_true rfl) rfl rfl f13 (ct_mono h (fun r S14 h => ?_))
  obtain ⟨hm2, h⟩ := h
  obtain ⟨rfl, h⟩ := h
  show T G J_Direction_makeKey 61 [(0, .ref a0), (1, .ref a1), (2, .ref a2), (3, .int x3)] [] S14 _
  have hm := hm.tr hm2
  have f1 : te S14 a0 = some (.inr 1) := by rw [hm2.1]; exact f1
  have f5 : tR S14 a0 2 = some b4 := by rw [hm2.R]; exact f5
  have f6 : te S14 b4 = some (.inr 0) := by rw [hm2.1]; exact f6
  have f12 : tR S14 a0 1 = some b11 := by rw [hm2.R]; exact f12
  have f13 : te S14 a1 = some (.inr 2) := by rw [hm2.1]; exact f13
  exact tt_vret (by decide +kernel) rfl ⟨hm, h⟩
set_option maxRecDepth 100000 in
theorem v_Wire_has {G : pG} (a0 : Nat) (x1 : Int32) (S : TS) (Q : Option Value → Prop)
    (h : ((x1 < 0 → Q (some (.int 0))) ∧ (¬ (x1 < 0) → te S a0 = some (.inr 9) ∧ ((tI S a0 1 ≤ x1 → Q (some (.int 0))) ∧ (¬ (tI S a0 1 ≤ x1) → Q (some (.int 1))))))) :
    CP G J_Wire_has [.ref a0, .int x1] S Q := by
  unfold CP
  refine ct_of (by decide +kernel) (Nat.le_of_ble_eq_true rfl) (lv := [(0, .ref a0), (1, .int x1)]) rfl ?_
  refine tt_iload_n (k0 := 1) (by decide +kernel) rfl ?_
  refine tt_if_lt (off := 15) 16 (by decide +kernel) (by decide) (fun c => ?_) (fun c => ?_)
  · have h := h.1 c
    refine tt_iconst (n := 0) (v := 0) (by decide +kernel) (by decide) ?_
    exact tt_zret (by decide +kernel) rfl rfl ⟨rfl, h⟩
  · have h := h.2 c
    refine tt_iload_n (k0 := 1) (by decide +kernel) rfl ?_
    refine tt_aload_n (k0 := 0) (by decide +kernel) rfl ?_
    obtain ⟨f1, h⟩ := h
    refine tt_getI (k := 1) (by decide +kernel) KC_9 (by decide) w_103 (fun _ => rfl) f1 ?_
    refine tt_icmp_ge (off := 7) 16 (by decide +kernel) (by decide) (fun c => ?_) (fun c => ?_)
    · have h := h.1 c
      refine tt_iconst (n := 0) (v := 0) (by decide +kernel) (by decide) ?_
      exact tt_zret (by decide +kernel) rfl rfl ⟨rfl, h⟩
    · have h := h.2 c
      refine tt_iconst (n := 1) (v := 1) (by decide +kernel) (by decide) ?_
      refine tt_goto (off := 4) (tgt := 17) (by decide +kernel) (by decide) ?_
      exact tt_zret (by decide +kernel) rfl rfl ⟨rfl, h⟩
set_option maxRecDepth 100000 in
theorem v_Wire_at {G : pG} (a0 : Nat) (x1 : Int32) (S : TS) (Q : Option Value → Prop)
    (h : te S a0 = some (.inr 9) ∧ ∃ b2 : Nat, tR S a0 0 = some b2 ∧ CP G J_Wire_has [.ref a0, .int x1] S (fun r => ∃ r4 : Int32, r = some (.int r4) ∧ ((r4 = 0 → ∃ n5 : Nat, te S b2 = some (.inl (.object "SealedWire$Bytes", n5)) ∧ vp_in 12 n5 ∧ ∃ b7 : Nat, tR S b2 12 = some b7 ∧ Q (some (.ref b7))) ∧ (¬ (r4 = 0) → ∃ n8 : Nat, te S b2 = some (.inl (.object "SealedWire$Bytes", n8)) ∧ vp_in x1 n8 ∧ ∃ b10 : Nat, tR S b2 x1.toNatClampNeg = some b10 ∧ Q (some (.ref b10)))))) :
    CP G J_Wire_at [.ref a0, .int x1] S Q := by
  unfold CP
  refine ct_of (by decide +kernel) (Nat.le_of_ble_eq_true rfl) (lv := [(0, .ref a0), (1, .int x1)]) rfl ?_
  refine tt_aload_n (k0 := 0) (by decide +kernel) rfl ?_
  obtain ⟨f1, h⟩ := h
  obtain ⟨b2, f3, h⟩ := h
  refine tt_getR (k := 0) (by decide +kernel) KC_9 (by decide) w_102 (fun _ => rfl) f1 f3 ?_
  refine tt_aload_n (k0 := 0) (by decide +kernel) rfl ?_
  refine tt_iload_n (k0 := 1) (by decide +kernel) rfl ?_
  refine tt_callV (As := [.int x1]) (rest := [.ref b2]) (ci := 9) (r0 := (R_9, F_9, 2)) (by decide +kernel) LK_Wire_has w_649 w_642 w_643 (by decide) (by decide) rfl rfl (Nat.le_of_ble_eq_true rfl) rfl rfl f1 (ct_mono h (fun r Sb h => ?_))
  obtain ⟨eb, h⟩ := h
  obtain ⟨r4, rfl, h⟩ := h
  rw [eb]
  show T G J_Wire_at 9 [(0, .ref a0), (1, .int x1)] [.int r4, .ref b2] S _
  refine tt_if_eq (off := 7) 16 (by decide +kernel) (by decide) (fun c => ?_) (fun c => ?_)
  · have h := h.1 c
    refine tt_bipush (n := 12) (v := 12) (by decide +kernel) (by decide) ?_
    obtain ⟨n5, f6, h⟩ := h
    obtain ⟨g2, b7, g3, h⟩ := h
    refine tt_aald (by decide +kernel) f6 g2 g3 ?_
    exact tt_aret (by decide +kernel) rfl ⟨rfl, h⟩
  · have h := h.2 c
    refine tt_iload_n (k0 := 1) (by decide +kernel) rfl ?_
    refine tt_goto (off := 5) (tgt := 18) (by decide +kernel) (by decide) ?_
    obtain ⟨n8, f9, h⟩ := h
    obtain ⟨g2, b10, g3, h⟩ := h
    refine tt_aald (by decide +kernel) f9 g2 g3 ?_
    exact tt_aret (by decide +kernel) rfl ⟨rfl, h⟩
set_option maxRecDepth 100000 in
theorem v_Side_listens {G : pG} (a0 : Nat) (S : TS) (Q : Option Value → Prop)
    (h : te S a0 = some (.inr 6) ∧ ((tI S a0 11 = 3 → Q (some (.int 0))) ∧ (¬ (tI S a0 11 = 3) → ((tI S a0 11 = 4 → Q (some (.int 0))) ∧ (¬ (tI S a0 11 = 4) → Q (some (.int 1))))))) :
    CP G J_Side_listens [.ref a0] S Q := by
  unfold CP
  refine ct_of (by decide +kernel) (Nat.le_of_ble_eq_true rfl) (lv := [(0, .ref a0)]) rfl ?_
  refine tt_aload_n (k0 := 0) (by decide +kernel) rfl ?_
  obtain ⟨f1, h⟩ := h
  refine tt_getI (k := 11) (by decide +kernel) KC_6 (by decide) w_209 (fun _ => rfl) f1 ?_
  refine tt_iconst (n := 3) (v := 3) (by decide +kernel) (by decide) ?_
  refine tt_icmp_eq (off := 15) 20 (by decide +kernel) (by decide) (fun c => ?_) (fun c => ?_)
  · have h := h.1 c
    refine tt_iconst (n := 0) (v := 0) (by decide +kernel) (by decide) ?_
    exact tt_zret (by decide +kernel) rfl rfl ⟨rfl, h⟩
  · have h := h.2 c
    refine tt_aload_n (k0 := 0) (by decide +kernel) rfl ?_
    refine tt_getI (k := 11) (by decide +kernel) KC_6 (by decide) w_209 (fun _ => rfl) f1 ?_
    refine tt_iconst (n := 4) (v := 4) (by decide +kernel) (by decide) ?_
    refine tt_icmp_eq (off := 7) 20 (by decide +kernel) (by decide) (fun c => ?_) (fun c => ?_)
    · have h := h.1 c
      refine tt_iconst (n := 0) (v := 0) (by decide +kernel) (by decide) ?_
      exact tt_zret (by decide +kernel) rfl rfl ⟨rfl, h⟩
    · have h := h.2 c
      refine tt_iconst (n := 1) (v := 1) (by decide +kernel) (by decide) ?_
      refine tt_goto (off := 4) (tgt := 21) (by decide +kernel) (by decide) ?_
      exact tt_zret (by decide +kernel) rfl rfl ⟨rfl, h⟩
set_option maxRecDepth 100000 in
theorem v_Side_isServer {G : pG} (a0 : Nat) (S : TS) (Q : Option Value → Prop)
    (h : te S a0 = some (.inr 6) ∧ ((¬ tI S a0 0 = 1 → Q (some (.int 0))) ∧ (tI S a0 0 = 1 → Q (some (.int 1))))) :
    CP G J_Side_isServer [.ref a0] S Q := by
  unfold CP
  refine ct_of (by decide +kernel) (Nat.le_of_ble_eq_true rfl) (lv := [(0, .ref a0)]) rfl ?_
  refine tt_aload_n (k0 := 0) (by decide +kernel) rfl ?_
  obtain ⟨f1, h⟩ := h
  refine tt_getI (k := 0) (by decide +kernel) KC_6 (by decide) w_198 (fun _ => rfl) f1 ?_
  refine tt_iconst (n := 1) (v := 1) (by decide +kernel) (by decide) ?_
  refine tt_icmp_ne (off := 7) 12 (by decide +kernel) (by decide) (fun c => ?_) (fun c => ?_)
  · have h := h.1 c
    refine tt_iconst (n := 0) (v := 0) (by decide +kernel) (by decide) ?_
    exact tt_zret (by decide +kernel) rfl rfl ⟨rfl, h⟩
  · have h := h.2 c
    refine tt_iconst (n := 1) (v := 1) (by decide +kernel) (by decide) ?_
    refine tt_goto (off := 4) (tgt := 13) (by decide +kernel) (by decide) ?_
    exact tt_zret (by decide +kernel) rfl rfl ⟨rfl, h⟩
set_option maxRecDepth 100000 in
theorem v_Side_agree {G : pG} (a0 : Nat) (x1 : Int32) (a2 : Nat) (S : TS) (Q : Option Value → TS → Prop)
    (h : CP G J_Side_isKeyNumber [.int x1] S (fun r => ∃ r1 : Int32, r = some (.int r1) ∧ ((¬ r1 = 0 → te S a0 = some (.inr 6) ∧ ∃ b3 : Nat, tR S a0 2 = some b3 ∧ ∃ b5 : Nat, tR S a0 7 = some b5 ∧ te S b3 = some (.inr 2) ∧ C0 G J_Hash_digest [.ref b3, .ref a2, .ref b5] S (fun r S8 => r = none ∧ ∃ b9 : Nat, tR S8 a0 3 = some b9 ∧ ∃ n11 : Nat, te S8 b9 = some (.inl (.object "SealedWire$Bytes", n11)) ∧ vp_in x1 n11 ∧ ∃ b13 : Nat, tR S8 b9 x1.toNatClampNeg = some b13 ∧ ∃ b14 : Nat, tR S8 a0 8 = some b14 ∧ C0 G J_Hash_mac [.ref b3, .ref b13, .ref b5, .ref b14] S8 (fun r S16 => r = none ∧ ∃ b17 : Nat, tR S16 a0 10 = some b17 ∧ te S16 b17 = some (.inr 0) ∧ C0 G J_Bytes_clear [.ref b17] S16 (fun r S20 => r = none ∧ C0 G J_Bytes_put [.ref b17, .int 102] S20 (fun r S21 => r = none ∧ ∃ b22 : Nat, tR S21 a0 9 = some b22 ∧ C0 G J_Hash_mac [.ref b3, .ref b14, .ref b17, .ref b22] S21 (fun r S24 => r = none ∧ Q none S24)))))) ∧ (r1 = 0 → Q none S)))) :
    C0 G J_Side_agree [.ref a0, .int x1, .ref a2] S Q := by
  unfold C0
  refine ct_of (by decide +kernel) (Nat.le_of_ble_eq_true rfl) (lv := [(0, .ref a0), (1, .int x1), (2, .ref a2)]) rfl ?_
  have hm : Sm0 S S := Sm0.rf S
  refine tt_iload_n (k0 := 1) (by decide +kernel) rfl ?_
  refine tt_callS (As := [.int x1]) (rest := []) (by decide +kernel) LK_Side_isKeyNumber w_348 w_338 (by decide) (by decide) rfl rfl (Nat.le_of_ble_eq_true rfl) (ct_mono h (fun r Sb h => ?_))
  obtain ⟨eb, h⟩ := h
  obtain ⟨r1, rfl, h⟩ := h
  rw [eb]
  show T G J_Side_agree 4 [(0, .ref a0), (1, .int x1), (2, .ref a2)] [.int r1] S _
  refine tt_if_ne (off := 4) 8 (by decide +kernel) (by decide) (fun c => ?_) (fun c => ?_)
  · have h := h.1 c
    refine tt_aload_n (k0 := 0) (by decide +kernel) rfl ?_
    obtain ⟨f2, h⟩ := h
    obtain ⟨b3, f4, h⟩ := h
    refine tt_getR (k := 2) (by decide +kernel) KC_6 (by decide) w_200 (fun _ => rfl) f2 f4 ?_
    refine tt_aload_n (k0 := 2) (by decide +kernel) rfl ?_
    refine tt_aload_n (k0 := 0) (by decide +kernel) rfl ?_
    obtain ⟨b5, f6, h⟩ := h
    refine tt_getR (k := 7) (by decide +kernel) KC_6 (by decide) w_205 (fun _ => rfl) f2 f6 ?_
    obtain ⟨f7, h⟩ := h
    refine tt_callV (As := [.ref a2, .ref b5]) (rest := []) (ci := 2) (r0 := (R_2, F_2, 4)) (by decide +kernel) LK_Hash_digest w_349 w_350 w_351 (by decide) (by decide) rfl rfl (Nat.le_of_ble_eq_true rfl) rfl rfl f7 (ct_mono h (fun r S8 h => ?_))
    obtain ⟨hm2, h⟩ := h
    obtain ⟨rfl, h⟩ := h
    show T G J_Side_agree 20 [(0, .ref a0), (1, .int x1), (2, .ref a2)] [] S8 _
    have hm := hm.tr hm2
    have f2 : te S8 a0 = some (.inr 6) := by rw [hm2.1]; exact f2
    have f4 : tR S8 a0 2 = some b3 := by rw [hm2.R]; exact f4
    have f6 : tR S8 a0 7 = some b5 := by rw [hm2.R]; exact f6
    have f7 : te S8 b3 = some (.inr 2) := by rw [hm2.1]; exact f7
    refine tt_aload_n (k0 := 0) (by decide +kernel) rfl ?_
    refine tt_getR (k := 2) (by decide +kernel) KC_6 (by decide) w_200 (fun _ => rfl) f2 f4 ?_
    refine tt_aload_n (k0 := 0) (by decide +kernel) rfl ?_
    obtain ⟨b9, f10, h⟩ := h
    refine tt_getR (k := 3) (by decide +kernel) KC_6 (by decide) w_201 (fun _ => rfl) f2 f10 ?_
    refine tt_iload_n (k0 := 1) (by decide +kernel) rfl ?_
    obtain ⟨n11, f12, h⟩ := h
    obtain ⟨g2, b13, g3, h⟩ := h
    refine tt_aald (by decide +kernel) f12 g2 g3 ?_
    refine tt_aload_n (k0 := 0) (by decide +kernel) rfl ?_
    refine tt_getR (k := 7) (by decide +kernel) KC_6 (by decide) w_205 (fun _ => rfl) f2 f6 ?_
    refine tt_aload_n (k0 := 0) (by decide +kernel) rfl ?_
    obtain ⟨b14, f15, h⟩ := h
    refine tt_getR (k := 8) (by decide +kernel) KC_6 (by decide) w_206 (fun _ => rfl) f2 f15 ?_
    refine tt_callV (As := [.ref b13, .ref b5, .ref b14]) (rest := []) (ci := 2) (r0 := (R_2, F_2, 4)) (by decide +kernel) LK_Hash_mac w_672 w_621 w_622 (by decide) (by decide) rfl rfl (Nat.le_of_ble_eq_true rfl) rfl rfl f7 (ct_mono h (fun r S16 h => ?_))
    obtain ⟨hm2, h⟩ := h
    obtain ⟨rfl, h⟩ := h
    show T G J_Side_agree 41 [(0, .ref a0), (1, .int x1), (2, .ref a2)] [] S16 _
    have hm := hm.tr hm2
    have f2 : te S16 a0 = some (.inr 6) := by rw [hm2.1]; exact f2
    have f4 : tR S16 a0 2 = some b3 := by rw [hm2.R]; exact f4
    have f6 : tR S16 a0 7 = some b5 := by rw [hm2.R]; exact f6
    have f7 : te S16 b3 = some (.inr 2) := by rw [hm2.1]; exact f7
    have f10 : tR S16 a0 3 = some b9 := by rw [hm2.R]; exact f10
    have f12 : te S16 b9 = some (.inl (.object "SealedWire$Bytes", n11)) := by rw [hm2.1]; exact f12
    have f15 : tR S16 a0 8 = some b14 := by rw [hm2.R]; exact f15
    refine tt_aload_n (k0 := 0) (by decide +kernel) rfl ?_
    obtain ⟨b17, f18, h⟩ := h
    refine tt_getR (k := 10) (by decide +kernel) KC_6 (by decide) w_208 (fun _ => rfl) f2 f18 ?_
    obtain ⟨f19, h⟩ := h
    refine tt_callV (As := []) (rest := []) (ci := 0) (r0 := (R_0, F_0, 2)) (by decide +kernel) LK_Bytes_clear w_409 w_392 w_393 (by decide) (by decide) rfl rfl (Nat.le_of_ble_eq_true rfl) rfl rfl f19 (ct_mono h (fun r S20 h => ?_))
    obtain ⟨hm2, h⟩ := h
    obtain ⟨rfl, h⟩ := h
    show T G J_Side_agree 48 [(0, .ref a0), (1, .int x1), (2, .ref a2)] [] S20 _
    have hm := hm.tr hm2
    have f2 : te S20 a0 = some (.inr 6) := by rw [hm2.1]; exact f2
    have f4 : tR S20 a0 2 = some b3 := by rw [hm2.R]; exact f4
    have f6 : tR S20 a0 7 = some b5 := by rw [hm2.R]; exact f6
    have f7 : te S20 b3 = some (.inr 2) := by rw [hm2.1]; exact f7
    have f10 : tR S20 a0 3 = some b9 := by rw [hm2.R]; exact f10
    have f12 : te S20 b9 = some (.inl (.object "SealedWire$Bytes", n11)) := by rw [hm2.1]; exact f12
    have f15 : tR S20 a0 8 = some b14 := by rw [hm2.R]; exact f15
    have f18 : tR S20 a0 10 = some b17 := by rw [hm2.R]; exact f18
    have f19 : te S20 b17 = some (.inr 0) := by rw [hm2.1]; exact f19
    refine tt_aload_n (k0 := 0) (by decide +kernel) rfl ?_
    refine tt_getR (k := 10) (by decide +kernel) KC_6 (by decide) w_208 (fun _ => rfl) f2 f18 ?_
    refine tt_bipush (n := 102) (v := 102) (by decide +kernel) (by decide) ?_
    refine tt_callV (As := [.int 102]) (rest := []) (ci := 0) (r0 := (R_0, F_0, 2)) (by decide +kernel) LK_Bytes_put w_426 w_239 w_240 (by decide) (by decide) rfl rfl (Nat.le_of_ble_eq_true rfl) rfl rfl f19 (ct_mono h (fun r S21 h => ?_))
    obtain ⟨hm2, h⟩ := h
    obtain ⟨rfl, h⟩ := h
    show T G J_Side_agree 57 [(0, .ref a0), (1, .int x1), (2, .ref a2)] [] S21 _
    have hm := hm.tr hm2
    have f2 : te S21 a0 = some (.inr 6) := by rw [hm2.1]; exact f2
    have f4 : tR S21 a0 2 = some b3 := by rw [hm2.R]; exact f4
    have f6 : tR S21 a0 7 = some b5 := by rw [hm2.R]; exact f6
    have f7 : te S21 b3 = some (.inr 2) := by rw [hm2.1]; exact f7
    have f10 : tR S21 a0 3 = some b9 := by rw [hm2.R]; exact f10
    have f12 : te S21 b9 = some (.inl (.object "SealedWire$Bytes", n11)) := by rw [hm2.1]; exact f12
    have f15 : tR S21 a0 8 = some b14 := by rw [hm2.R]; exact f15
    have f18 : tR S21 a0 10 = some b17 := by rw [hm2.R]; exact f18
    have f19 : te S21 b17 = some (.inr 0) := by rw [hm2.1]; exact f19
    refine tt_aload_n (k0 := 0) (by decide +kernel) rfl ?_
    refine tt_getR (k := 2) (by decide +kernel) KC_6 (by decide) w_200 (fun _ => rfl) f2 f4 ?_
    refine tt_aload_n (k0 := 0) (by decide +kernel) rfl ?_
    refine tt_getR (k := 8) (by decide +kernel) KC_6 (by decide) w_206 (fun _ => rfl) f2 f15 ?_
    refine tt_aload_n (k0 := 0) (by decide +kernel) rfl ?_
    refine tt_getR (k := 10) (by decide +kernel) KC_6 (by decide) w_208 (fun _ => rfl) f2 f18 ?_
    refine tt_aload_n (k0 := 0) (by decide +kernel) rfl ?_
    obtain ⟨b22, f23, h⟩ := h
    refine tt_getR (k := 9) (by decide +kernel) KC_6 (by decide) w_207 (fun _ => rfl) f2 f23 ?_
    refine tt_callV (As := [.ref b14, .ref b17, .ref b22]) (rest := []) (ci := 2) (r0 := (R_2, F_2, 4)) (by decide +kernel) LK_Hash_mac w_672 w_621 w_622 (by decide) (by decide) rfl rfl (Nat.le_of_ble_eq_true rfl) rfl rfl f7 (ct_mono h (fun r S24 h => ?_))
    obtain ⟨hm2, h⟩ := h
    obtain ⟨rfl, h⟩ := h
    show T G J_Side_agree 76 [(0, .ref a0), (1, .int x1), (2, .ref a2)] [] S24 _
    have hm := hm.tr hm2
    have f2 : te S24 a0 = some (.inr 6) := by rw [hm2.1]; exact f2
    have f4 : tR S24 a0 2 = some b3 := by rw [hm2.R]; exact f4
    have f6 : tR S24 a0 7 = some b5 := by rw [hm2.R]; exact f6
    have f7 : te S24 b3 = some (.inr 2) := by rw [hm2.1]; exact f7
    have f10 : tR S24 a0 3 = some b9 := by rw [hm2.R]; exact f10
    have f12 : te S24 b9 = some (.inl (.object "SealedWire$Bytes", n11)) := by rw [hm2.1]; exact f12
    have f15 : tR S24 a0 8 = some b14 := by rw [hm2.R]; exact f15
    have f18 : tR S24 a0 10 = some b17 := by rw [hm2.R]; exact f18
    have f19 : te S24 b17 = some (.inr 0) := by rw [hm2.1]; exact f19
    have f23 : tR S24 a0 9 = some b22 := by rw [hm2.R]; exact f23
    exact tt_vret (by decide +kernel) rfl ⟨hm, h⟩
  · have h := h.2 c
    exact tt_vret (by decide +kernel) rfl ⟨hm, h⟩
set_option maxRecDepth 100000 in
theorem v_Side_prove {G : pG} (a0 : Nat) (x1 : Int32) (a2 : Nat) (S : TS) (Q : Option Value → TS → Prop)
    (h : te S a0 = some (.inr 6) ∧ ∃ b2 : Nat, tR S a0 10 = some b2 ∧ te S b2 = some (.inr 0) ∧ C0 G J_Bytes_clear [.ref b2] S (fun r S5 => r = none ∧ C0 G J_Bytes_put [.ref b2, .int x1] S5 (fun r S6 => r = none ∧ ∃ b7 : Nat, tR S6 a0 7 = some b7 ∧ C0 G J_Bytes_putAll [.ref b2, .ref b7] S6 (fun r S9 => r = none ∧ ∃ b10 : Nat, tR S9 a0 2 = some b10 ∧ ∃ b12 : Nat, tR S9 a0 9 = some b12 ∧ te S9 b10 = some (.inr 2) ∧ C0 G J_Hash_mac [.ref b10, .ref b12, .ref b2, .ref a2] S9 (fun r S15 => r = none ∧ Q none S15))))) :
    C0 G J_Side_prove [.ref a0, .int x1, .ref a2] S Q := by
  unfold C0
  refine ct_of (by decide +kernel) (Nat.le_of_ble_eq_true rfl) (lv := [(0, .ref a0), (1, .int x1), (2, .ref a2)]) rfl ?_
  have hm : Sm0 S S := Sm0.rf S
  refine tt_aload_n (k0 := 0) (by decide +kernel) rfl ?_
  obtain ⟨f1, h⟩ := h
  obtain ⟨b2, f3, h⟩ := h
  refine tt_getR (k := 10) (by decide +kernel) KC_6 (by decide) w_208 (fun _ => rfl) f1 f3 ?_
  obtain ⟨f4, h⟩ := h
  refine tt_callV (As := []) (rest := []) (ci := 0) (r0 := (R_0, F_0, 2)) (by decide +kernel) LK_Bytes_clear w_409 w_392 w_393 (by decide) (by decide) rfl rfl (Nat.le_of_ble_eq_true rfl) rfl rfl f4 (ct_mono h (fun r S5 h => ?_))
  obtain ⟨hm2, h⟩ := h
  obtain ⟨rfl, h⟩ := h
  show T G J_Side_prove 7 [(0, .ref a0), (1, .int x1), (2, .ref a2)] [] S5 _
  have hm := hm.tr hm2
  have f1 : te S5 a0 = some (.inr 6) := by rw [hm2.1]; exact f1
  have f3 : tR S5 a0 10 = some b2 := by rw [hm2.R]; exact f3
  have f4 : te S5 b2 = some (.inr 0) := by rw [hm2.1]; exact f4
  refine tt_aload_n (k0 := 0) (by decide +kernel) rfl ?_
  refine tt_getR (k := 10) (by decide +kernel) KC_6 (by decide) w_208 (fun _ => rfl) f1 f3 ?_
  refine tt_iload_n (k0 := 1) (by decide +kernel) rfl ?_
  refine tt_callV (As := [.int x1]) (rest := []) (ci := 0) (r0 := (R_0, F_0, 2)) (by decide +kernel) LK_Bytes_put w_426 w_239 w_240 (by decide) (by decide) rfl rfl (Nat.le_of_ble_eq_true rfl) rfl rfl f4 (ct_mono h (fun r S6 h => ?_))
  obtain ⟨hm2, h⟩ := h
  obtain ⟨rfl, h⟩ := h
  show T G J_Side_prove 15 [(0, .ref a0), (1, .int x1), (2, .ref a2)] [] S6 _
  have hm := hm.tr hm2
  have f1 : te S6 a0 = some (.inr 6) := by rw [hm2.1]; exact f1
  have f3 : tR S6 a0 10 = some b2 := by rw [hm2.R]; exact f3
  have f4 : te S6 b2 = some (.inr 0) := by rw [hm2.1]; exact f4
  refine tt_aload_n (k0 := 0) (by decide +kernel) rfl ?_
  refine tt_getR (k := 10) (by decide +kernel) KC_6 (by decide) w_208 (fun _ => rfl) f1 f3 ?_
  refine tt_aload_n (k0 := 0) (by decide +kernel) rfl ?_
  obtain ⟨b7, f8, h⟩ := h
  refine tt_getR (k := 7) (by decide +kernel) KC_6 (by decide) w_205 (fun _ => rfl) f1 f8 ?_
  refine tt_callV (As := [.ref b7]) (rest := []) (ci := 0) (r0 := (R_0, F_0, 2)) (by decide +kernel) LK_Bytes_putAll w_677 w_447 w_448 (by decide) (by decide) rfl rfl (Nat.le_of_ble_eq_true rfl) rfl rfl f4 (ct_mono h (fun r S9 h => ?_))
  obtain ⟨hm2, h⟩ := h
  obtain ⟨rfl, h⟩ := h
  show T G J_Side_prove 26 [(0, .ref a0), (1, .int x1), (2, .ref a2)] [] S9 _
  have hm := hm.tr hm2
  have f1 : te S9 a0 = some (.inr 6) := by rw [hm2.1]; exact f1
  have f3 : tR S9 a0 10 = some b2 := by rw [hm2.R]; exact f3
  have f4 : te S9 b2 = some (.inr 0) := by rw [hm2.1]; exact f4
  have f8 : tR S9 a0 7 = some b7 := by rw [hm2.R]; exact f8
  refine tt_aload_n (k0 := 0) (by decide +kernel) rfl ?_
  obtain ⟨b10, f11, h⟩ := h
  refine tt_getR (k := 2) (by decide +kernel) KC_6 (by decide) w_200 (fun _ => rfl) f1 f11 ?_
  refine tt_aload_n (k0 := 0) (by decide +kernel) rfl ?_
  obtain ⟨b12, f13, h⟩ := h
  refine tt_getR (k := 9) (by decide +kernel) KC_6 (by decide) w_207 (fun _ => rfl) f1 f13 ?_
  refine tt_aload_n (k0 := 0) (by decide +kernel) rfl ?_
  refine tt_getR (k := 10) (by decide +kernel) KC_6 (by decide) w_208 (fun _ => rfl) f1 f3 ?_
  refine tt_aload_n (k0 := 2) (by decide +kernel) rfl ?_
  obtain ⟨f14, h⟩ := h
  refine tt_callV (As := [.ref b12, .ref b2, .ref a2]) (rest := []) (ci := 2) (r0 := (R_2, F_2, 4)) (by decide +kernel) LK_Hash_mac w_672 w_621 w_622 (by decide) (by decide) rfl rfl (Nat.le_of_ble_eq_true rfl) rfl rfl f14 (ct_mono h (fun r S15 h => ?_))
  obtain ⟨hm2, h⟩ := h
  obtain ⟨rfl, h⟩ := h
  show T G J_Side_prove 42 [(0, .ref a0), (1, .int x1), (2, .ref a2)] [] S15 _
  have hm := hm.tr hm2
  have f1 : te S15 a0 = some (.inr 6) := by rw [hm2.1]; exact f1
  have f3 : tR S15 a0 10 = some b2 := by rw [hm2.R]; exact f3
  have f4 : te S15 b2 = some (.inr 0) := by rw [hm2.1]; exact f4
  have f8 : tR S15 a0 7 = some b7 := by rw [hm2.R]; exact f8
  have f11 : tR S15 a0 2 = some b10 := by rw [hm2.R]; exact f11
  have f13 : tR S15 a0 9 = some b12 := by rw [hm2.R]; exact f13
  have f14 : te S15 b10 = some (.inr 2) := by rw [hm2.1]; exact f14
  exact tt_vret (by decide +kernel) rfl ⟨hm, h⟩
set_option maxRecDepth 100000 in
theorem v_Side_open {G : pG} (a0 : Nat) (S : TS) (Q : Option Value → TS → Prop)
    (h : te S a0 = some (.inr 6) ∧ ∃ b2 : Nat, tR S a0 4 = some b2 ∧ ∃ b4 : Nat, tR S a0 2 = some b4 ∧ ∃ b6 : Nat, tR S a0 8 = some b6 ∧ te S b2 = some (.inr 1) ∧ C0 G J_Direction_makeKey [.ref b2, .ref b4, .ref b6, .int 0] S (fun r S9 => r = none ∧ ∃ b10 : Nat, tR S9 a0 5 = some b10 ∧ te S9 b10 = some (.inr 1) ∧ C0 G J_Direction_makeKey [.ref b10, .ref b4, .ref b6, .int 0] S9 (fun r S13 => r = none ∧ ∀ S14 : TS, S14 = sI S13 a0 (upd (tI S13 a0) 11 2) → Q none S14))) :
    C0 G J_Side_open [.ref a0] S Q := by
  unfold C0
  refine ct_of (by decide +kernel) (Nat.le_of_ble_eq_true rfl) (lv := [(0, .ref a0)]) rfl ?_
  have hm : Sm0 S S := Sm0.rf S
  refine tt_aload_n (k0 := 0) (by decide +kernel) rfl ?_
  obtain ⟨f1, h⟩ := h
  obtain ⟨b2, f3, h⟩ := h
  refine tt_getR (k := 4) (by decide +kernel) KC_6 (by decide) w_202 (fun _ => rfl) f1 f3 ?_
  refine tt_aload_n (k0 := 0) (by decide +kernel) rfl ?_
  obtain ⟨b4, f5, h⟩ := h
  refine tt_getR (k := 2) (by decide +kernel) KC_6 (by decide) w_200 (fun _ => rfl) f1 f5 ?_
  refine tt_aload_n (k0 := 0) (by decide +kernel) rfl ?_
  obtain ⟨b6, f7, h⟩ := h
  refine tt_getR (k := 8) (by decide +kernel) KC_6 (by decide) w_206 (fun _ => rfl) f1 f7 ?_
  refine tt_iconst (n := 0) (v := 0) (by decide +kernel) (by decide) ?_
  obtain ⟨f8, h⟩ := h
  refine tt_callV (As := [.ref b4, .ref b6, .int 0]) (rest := []) (ci := 1) (r0 := (R_1, F_1, 5)) (by decide +kernel) LK_Direction_makeKey w_614 w_615 w_616 (by decide) (by decide) rfl rfl (Nat.le_of_ble_eq_true rfl) rfl rfl f8 (ct_mono h (fun r S9 h => ?_))
  obtain ⟨hm2, h⟩ := h
  obtain ⟨rfl, h⟩ := h
  show T G J_Side_open 16 [(0, .ref a0)] [] S9 _
  have hm := hm.tr hm2
  have f1 : te S9 a0 = some (.inr 6) := by rw [hm2.1]; exact f1
  have f3 : tR S9 a0 4 = some b2 := by rw [hm2.R]; exact f3
  have f5 : tR S9 a0 2 = some b4 := by rw [hm2.R]; exact f5
  have f7 : tR S9 a0 8 = some b6 := by rw [hm2.R]; exact f7
  have f8 : te S9 b2 = some (.inr 1) := by rw [hm2.1]; exact f8
  refine tt_aload_n (k0 := 0) (by decide +kernel) rfl ?_
  obtain ⟨b10, f11, h⟩ := h
  refine tt_getR (k := 5) (by decide +kernel) KC_6 (by decide) w_203 (fun _ => rfl) f1 f11 ?_
  refine tt_aload_n (k0 := 0) (by decide +kernel) rfl ?_
  refine tt_getR (k := 2) (by decide +kernel) KC_6 (by decide) w_200 (fun _ => rfl) f1 f5 ?_
  refine tt_aload_n (k0 := 0) (by decide +kernel) rfl ?_
  refine tt_getR (k := 8) (by decide +kernel) KC_6 (by decide) w_206 (fun _ => rfl) f1 f7 ?_
  refine tt_iconst (n := 0) (v := 0) (by decide +kernel) (by decide) ?_
  obtain ⟨f12, h⟩ := h
  refine tt_callV (As := [.ref b4, .ref b6, .int 0]) (rest := []) (ci := 1) (r0 := (R_1, F_1, 5)) (by decide +kernel) LK_Direction_makeKey w_614 w_615 w_616 (by decide) (by decide) rfl rfl (Nat.le_of_ble_eq_true rfl) rfl rfl f12 (ct_mono h (fun r S13 h => ?_))
  obtain ⟨hm2, h⟩ := h
  obtain ⟨rfl, h⟩ := h
  show T G J_Side_open 32 [(0, .ref a0)] [] S13 _
  have hm := hm.tr hm2
  have f1 : te S13 a0 = some (.inr 6) := by rw [hm2.1]; exact f1
  have f3 : tR S13 a0 4 = some b2 := by rw [hm2.R]; exact f3
  have f5 : tR S13 a0 2 = some b4 := by rw [hm2.R]; exact f5
  have f7 : tR S13 a0 8 = some b6 := by rw [hm2.R]; exact f7
  have f8 : te S13 b2 = some (.inr 1) := by rw [hm2.1]; exact f8
  have f11 : tR S13 a0 5 = some b10 := by rw [hm2.R]; exact f11
  have f12 : te S13 b10 = some (.inr 1) := by rw [hm2.1]; exact f12
  refine tt_aload_n (k0 := 0) (by decide +kernel) rfl ?_
  refine tt_iconst (n := 2) (v := 2) (by decide +kernel) (by decide) ?_
  refine tt_putI (k := 11) (by decide +kernel) KC_6 (by decide) w_209 rfl rfl f1 ?_
  generalize eS14 : sI S13 a0 (upd (tI S13 a0) 11 2) = S14
  have h := h S14 eS14.symm
  have hm : Sm0 S S14 := by rw [← eS14]; exact hm.I
  have f1 : te S14 a0 = some (.inr 6) := by rw [← eS14, te_sI]; exact f1
  have f3 : tR S14 a0 4 = some b2 := by rw [← eS14, tR_sI]; exact f3
  have f5 : tR S14 a0 2 = some b4 := by rw [← eS14, tR_sI]; exact f5
  have f7 : tR S14 a0 8 = some b6 := by rw [← eS14, tR_sI]; exact f7
  have f8 : te S14 b2 = some (.inr 1) := by rw [← eS14, te_sI]; exact f8
  have f11 : tR S14 a0 5 = some b10 := by rw [← eS14, tR_sI]; exact f11
  have f12 : te S14 b10 = some (.inr 1) := by rw [← eS14, te_sI]; exact f12
  exact tt_vret (by decide +kernel) rfl ⟨hm, h⟩
set_option maxRecDepth 100000 in
theorem v_Sealer_unseal {G : pG} (a0 : Nat) (a1 : Nat) (a2 : Nat) (a3 : Nat) (S : TS) (Q : Option Value → TS → Prop)
    (h : te S a2 = some (.inr 0) ∧ CP G J_Bytes_size [.ref a2] S (fun r => ∃ r2 : Int32, r = some (.int r2) ∧ ∀ y3 : Int32, y3 = r2 - (16 : Int32) → ((3 ≤ y3 → te S a0 = some (.inr 5) ∧ ∃ b5 : Nat, tR S a0 0 = some b5 ∧ te S a1 = some (.inr 1) ∧ CP G J_Direction_sealingKey [.ref a1] S (fun r => ∃ b8 : Nat, r = some (.ref b8) ∧ CP G J_Direction_number [.ref a1] S (fun r => ∃ r9 : Int32, r = some (.int r9) ∧ te S b5 = some (.inr 8) ∧ C0 G J_Stream_begin [.ref b5, .ref b8, .int r9] S (fun r S11 => r = none ∧ C0 G J_Stream_make [.ref b5, .int 0] S11 (fun r S12 => r = none ∧ ∃ b13 : Nat, tR S12 a0 1 = some b13 ∧ ∃ b15 : Nat, tR S12 a0 2 = some b15 ∧ te S12 b13 = some (.inr 3) ∧ C0 G J_Poly_makeTag [.ref b13, .ref b5, .ref a2, .int y3, .ref b15] S12 (fun r S18 => r = none ∧ CP G J_Bytes_holdsAt [.ref a2, .int y3, .ref b15] S18 (fun r => ∃ r19 : Int32, r = some (.int r19) ∧ ((¬ r19 = 0 → te S18 a3 = some (.inr 0) ∧ C0 G J_Bytes_clear [.ref a3] S18 (fun r S21 => r = none ∧ C0 G J_Sealer_cover [.ref a0, .ref a2, .int 3, .int y3, .ref a3] S21 (fun r S22 => r = none ∧ Q (some (.int 1)) S22))) ∧ (r19 = 0 → Q (some (.int 0)) S18))))))))) ∧ (¬ (3 ≤ y3) → Q (some (.int 0)) S)))) :
    C0 G J_Sealer_unseal [.ref a0, .ref a1, .ref a2, .ref a3] S Q := by
  unfold C0
  refine ct_of (by decide +kernel) (Nat.le_of_ble_eq_true rfl) (lv := [(0, .ref a0), (1, .ref a1), (2, .ref a2), (3, .ref a3)]) rfl ?_
  have hm : Sm0 S S := Sm0.rf S
  refine tt_aload_n (k0 := 2) (by decide +kernel) rfl ?_
  obtain ⟨f1, h⟩ := h
  refine tt_callV (As := []) (rest := []) (ci := 0) (r0 := (R_0, F_0, 2)) (by decide +kernel) LK_Bytes_size w_490 w_299 w_300 (by decide) (by decide) rfl rfl (Nat.le_of_ble_eq_true rfl) rfl rfl f1 (ct_mono h (fun r Sb h => ?_))
  obtain ⟨eb, h⟩ := h
  obtain ⟨r2, rfl, h⟩ := h
  rw [eb]
  show T G J_Sealer_unseal 4 [(0, .ref a0), (1, .ref a1), (2, .ref a2), (3, .ref a3)] [.int r2] S _
  refine tt_bipush (n := 16) (v := 16) (by decide +kernel) (by decide) ?_
  refine tt_isub (by decide +kernel) ?_
  refine tt_topi (fun y3 ey3 => ?_)
  have h := h y3 ey3
  refine tt_istore (k0 := 4) (lv' := [(0, .ref a0), (1, .ref a1), (2, .ref a2), (3, .ref a3), (4, .int y3)]) (by decide +kernel) (by decide) rfl ?_
  refine tt_iload (k0 := 4) (by decide +kernel) rfl ?_
  refine tt_iconst (n := 3) (v := 3) (by decide +kernel) (by decide) ?_
  refine tt_icmp_ge (off := 5) 17 (by decide +kernel) (by decide) (fun c => ?_) (fun c => ?_)
  · have h := h.1 c
    refine tt_aload_n (k0 := 0) (by decide +kernel) rfl ?_
    obtain ⟨f4, h⟩ := h
    obtain ⟨b5, f6, h⟩ := h
    refine tt_getR (k := 0) (by decide +kernel) KC_5 (by decide) w_83 (fun _ => rfl) f4 f6 ?_
    refine tt_aload_n (k0 := 1) (by decide +kernel) rfl ?_
    obtain ⟨f7, h⟩ := h
    refine tt_callV (As := []) (rest := [.ref b5]) (ci := 1) (r0 := (R_1, F_1, 5)) (by decide +kernel) LK_Direction_sealingKey w_492 w_493 w_494 (by decide) (by decide) rfl rfl (Nat.le_of_ble_eq_true rfl) rfl rfl f7 (ct_mono h (fun r Sb h => ?_))
    obtain ⟨eb, h⟩ := h
    obtain ⟨b8, rfl, h⟩ := h
    rw [eb]
    show T G J_Sealer_unseal 25 [(0, .ref a0), (1, .ref a1), (2, .ref a2), (3, .ref a3), (4, .int y3)] [.ref b8, .ref b5] S _
    refine tt_aload_n (k0 := 1) (by decide +kernel) rfl ?_
    refine tt_callV (As := []) (rest := [.ref b8, .ref b5]) (ci := 1) (r0 := (R_1, F_1, 5)) (by decide +kernel) LK_Direction_number w_496 w_497 w_498 (by decide) (by decide) rfl rfl (Nat.le_of_ble_eq_true rfl) rfl rfl f7 (ct_mono h (fun r Sb h => ?_))
    obtain ⟨eb, h⟩ := h
    obtain ⟨r9, rfl, h⟩ := h
    rw [eb]
    show T G J_Sealer_unseal 29 [(0, .ref a0), (1, .ref a1), (2, .ref a2), (3, .ref a3), (4, .int y3)] [.int r9, .ref b8, .ref b5] S _
    obtain ⟨f10, h⟩ := h
    refine tt_callV (As := [.ref b8, .int r9]) (rest := []) (ci := 8) (r0 := (R_8, F_8, 2)) (by decide +kernel) LK_Stream_begin w_500 w_501 w_502 (by decide) (by decide) rfl rfl (Nat.le_of_ble_eq_true rfl) rfl rfl f10 (ct_mono h (fun r S11 h => ?_))
    obtain ⟨hm2, h⟩ := h
    obtain ⟨rfl, h⟩ := h
    show T G J_Sealer_unseal 32 [(0, .ref a0), (1, .ref a1), (2, .ref a2), (3, .ref a3), (4, .int y3)] [] S11 _
    have hm := hm.tr hm2
    have f1 : te S11 a2 = some (.inr 0) := by rw [hm2.1]; exact f1
    have f4 : te S11 a0 = some (.inr 5) := by rw [hm2.1]; exact f4
    have f6 : tR S11 a0 0 = some b5 := by rw [hm2.R]; exact f6
    have f7 : te S11 a1 = some (.inr 1) := by rw [hm2.1]; exact f7
    have f10 : te S11 b5 = some (.inr 8) := by rw [hm2.1]; exact f10
    refine tt_aload_n (k0 := 0) (by decide +kernel) rfl ?_
    refine tt_getR (k := 0) (by decide +kernel) KC_5 (by decide) w_83 (fun _ => rfl) f4 f6 ?_
    refine tt_iconst (n := 0) (v := 0) (by decide +kernel) (by decide) ?_
    refine tt_callV (As := [.int 0]) (rest := []) (ci := 8) (r0 := (R_8, F_8, 2)) (by decide +kernel) LK_Stream_make w_516 w_517 w_518 (by decide) (by decide) rfl rfl (Nat.le_of_ble_eq_true rfl) rfl rfl f10 (ct_mono h (fun r S12 h => ?_))
    obtain ⟨hm2, h⟩ := h
    obtain ⟨rfl, h⟩ := h
    show T G J_Sealer_unseal 40 [(0, .ref a0), (1, .ref a1), (2, .ref a2), (3, .ref a3), (4, .int y3)] [] S12 _
    have hm := hm.tr hm2
    have f1 : te S12 a2 = some (.inr 0) := by rw [hm2.1]; exact f1
    have f4 : te S12 a0 = some (.inr 5) := by rw [hm2.1]; exact f4
    have f6 : tR S12 a0 0 = some b5 := by rw [hm2.R]; exact f6
    have f7 : te S12 a1 = some (.inr 1) := by rw [hm2.1]; exact f7
    have f10 : te S12 b5 = some (.inr 8) := by rw [hm2.1]; exact f10
    refine tt_aload_n (k0 := 0) (by decide +kernel) rfl ?_
    obtain ⟨b13, f14, h⟩ := h
    refine tt_getR (k := 1) (by decide +kernel) KC_5 (by decide) w_84 (fun _ => rfl) f4 f14 ?_
    refine tt_aload_n (k0 := 0) (by decide +kernel) rfl ?_
    refine tt_getR (k := 0) (by decide +kernel) KC_5 (by decide) w_83 (fun _ => rfl) f4 f6 ?_
    refine tt_aload_n (k0 := 2) (by decide +kernel) rfl ?_
    refine tt_iload (k0 := 4) (by decide +kernel) rfl ?_
    refine tt_aload_n (k0 := 0) (by decide +kernel) rfl ?_
    obtain ⟨b15, f16, h⟩ := h
    refine tt_getR (k := 2) (by decide +kernel) KC_5 (by decide) w_85 (fun _ => rfl) f4 f16 ?_
    obtain ⟨f17, h⟩ := h
    refine tt_callV (As := [.ref b5, .ref a2, .int y3, .ref b15]) (rest := []) (ci := 3) (r0 := (R_3, F_3, 5)) (by decide +kernel) LK_Poly_makeTag w_533 w_534 w_535 (by decide) (by decide) rfl rfl (Nat.le_of_ble_eq_true rfl) rfl rfl f17 (ct_mono h (fun r S18 h => ?_))
    obtain ⟨hm2, h⟩ := h
    obtain ⟨rfl, h⟩ := h
    show T G J_Sealer_unseal 58 [(0, .ref a0), (1, .ref a1), (2, .ref a2), (3, .ref a3), (4, .int y3)] [] S18 _
    have hm := hm.tr hm2
    have f1 : te S18 a2 = some (.inr 0) := by rw [hm2.1]; exact f1
    have f4 : te S18 a0 = some (.inr 5) := by rw [hm2.1]; exact f4
    have f6 : tR S18 a0 0 = some b5 := by rw [hm2.R]; exact f6
    have f7 : te S18 a1 = some (.inr 1) := by rw [hm2.1]; exact f7
    have f10 : te S18 b5 = some (.inr 8) := by rw [hm2.1]; exact f10
    have f14 : tR S18 a0 1 = some b13 := by rw [hm2.R]; exact f14
    have f16 : tR S18 a0 2 = some b15 := by rw [hm2.R]; exact f16
    have f17 : te S18 b13 = some (.inr 3) := by rw [hm2.1]; exact f17
    refine tt_aload_n (k0 := 2) (by decide +kernel) rfl ?_
    refine tt_iload (k0 := 4) (by decide +kernel) rfl ?_
    refine tt_aload_n (k0 := 0) (by decide +kernel) rfl ?_
    refine tt_getR (k := 2) (by decide +kernel) KC_5 (by decide) w_85 (fun _ => rfl) f4 f16 ?_
    refine tt_callV (As := [.int y3, .ref b15]) (rest := []) (ci := 0) (r0 := (R_0, F_0, 2)) (by decide +kernel) LK_Bytes_holdsAt w_702 w_683 w_684 (by decide) (by decide) rfl rfl (Nat.le_of_ble_eq_true rfl) rfl rfl f1 (ct_mono h (fun r Sb h => ?_))
    obtain ⟨eb, h⟩ := h
    obtain ⟨r19, rfl, h⟩ := h
    rw [eb]
    show T G J_Sealer_unseal 68 [(0, .ref a0), (1, .ref a1), (2, .ref a2), (3, .ref a3), (4, .int y3)] [.int r19] S18 _
    refine tt_if_ne (off := 5) 73 (by decide +kernel) (by decide) (fun c => ?_) (fun c => ?_)
    · have h := h.1 c
      refine tt_aload_n (k0 := 3) (by decide +kernel) rfl ?_
      obtain ⟨f20, h⟩ := h
      refine tt_callV (As := []) (rest := []) (ci := 0) (r0 := (R_0, F_0, 2)) (by decide +kernel) LK_Bytes_clear w_703 w_392 w_393 (by decide) (by decide) rfl rfl (Nat.le_of_ble_eq_true rfl) rfl rfl f20 (ct_mono h (fun r S21 h => ?_))
      obtain ⟨hm2, h⟩ := h
      obtain ⟨rfl, h⟩ := h
      show T G J_Sealer_unseal 77 [(0, .ref a0), (1, .ref a1), (2, .ref a2), (3, .ref a3), (4, .int y3)] [] S21 _
      have hm := hm.tr hm2
      have f1 : te S21 a2 = some (.inr 0) := by rw [hm2.1]; exact f1
      have f4 : te S21 a0 = some (.inr 5) := by rw [hm2.1]; exact f4
      have f6 : tR S21 a0 0 = some b5 := by rw [hm2.R]; exact f6
      have f7 : te S21 a1 = some (.inr 1) := by rw [hm2.1]; exact f7
      have f10 : te S21 b5 = some (.inr 8) := by rw [hm2.1]; exact f10
      have f14 : tR S21 a0 1 = some b13 := by rw [hm2.R]; exact f14
      have f16 : tR S21 a0 2 = some b15 := by rw [hm2.R]; exact f16
      have f17 : te S21 b13 = some (.inr 3) := by rw [hm2.1]; exact f17
      have f20 : te S21 a3 = some (.inr 0) := by rw [hm2.1]; exact f20
      refine tt_aload_n (k0 := 0) (by decide +kernel) rfl ?_
      refine tt_aload_n (k0 := 2) (by decide +kernel) rfl ?_
      refine tt_iconst (n := 3) (v := 3) (by decide +kernel) (by decide) ?_
      refine tt_iload (k0 := 4) (by decide +kernel) rfl ?_
      refine tt_aload_n (k0 := 3) (by decide +kernel) rfl ?_
      refine tt_callV (As := [.ref a2, .int 3, .int y3, .ref a3]) (rest := []) (ci := 5) (r0 := (R_5, F_5, 3)) (by decide +kernel) LK_Sealer_cover w_512 w_514 (in_p (n := 3) 5 rfl) (by decide) (by decide) rfl rfl (Nat.le_of_ble_eq_true rfl) rfl rfl f4 (ct_mono h (fun r S22 h => ?_))
      obtain ⟨hm2, h⟩ := h
      obtain ⟨rfl, h⟩ := h
      show T G J_Sealer_unseal 86 [(0, .ref a0), (1, .ref a1), (2, .ref a2), (3, .ref a3), (4, .int y3)] [] S22 _
      have hm := hm.tr hm2
      have f1 : te S22 a2 = some (.inr 0) := by rw [hm2.1]; exact f1
      have f4 : te S22 a0 = some (.inr 5) := by rw [hm2.1]; exact f4
      have f6 : tR S22 a0 0 = some b5 := by rw [hm2.R]; exact f6
      have f7 : te S22 a1 = some (.inr 1) := by rw [hm2.1]; exact f7
      have f10 : te S22 b5 = some (.inr 8) := by rw [hm2.1]; exact f10
      have f14 : tR S22 a0 1 = some b13 := by rw [hm2.R]; exact f14
      have f16 : tR S22 a0 2 = some b15 := by rw [hm2.R]; exact f16
      have f17 : te S22 b13 = some (.inr 3) := by rw [hm2.1]; exact f17
      have f20 : te S22 a3 = some (.inr 0) := by rw [hm2.1]; exact f20
      refine tt_iconst (n := 1) (v := 1) (by decide +kernel) (by decide) ?_
      exact tt_zret (by decide +kernel) rfl rfl ⟨hm, h⟩
    · have h := h.2 c
      refine tt_iconst (n := 0) (v := 0) (by decide +kernel) (by decide) ?_
      exact tt_zret (by decide +kernel) rfl rfl ⟨hm, h⟩
  · have h := h.2 c
    refine tt_iconst (n := 0) (v := 0) (by decide +kernel) (by decide) ?_
    exact tt_zret (by decide +kernel) rfl rfl ⟨hm, h⟩
set_option maxRecDepth 100000 in
theorem v_Request_readFrom {G : pG} (a0 : Nat) (a1 : Nat) (S : TS) (Q : Option Value → TS → Prop)
    (h : te S a1 = some (.inr 0) ∧ CP G J_Bytes_at [.ref a1, .int 1] S (fun r => ∃ r2 : Int32, r = some (.int r2) ∧ te S a0 = some (.inr 4) ∧ ∀ S4 : TS, S4 = sI S a0 (upd (tI S a0) 2 r2) → CP G J_Bytes_at [.ref a1, .int 2] S4 (fun r => ∃ r5 : Int32, r = some (.int r5) ∧ CP G J_Bytes_size [.ref a1] S4 (fun r => ∃ r6 : Int32, r = some (.int r6) ∧ ∀ y7 : Int32, y7 = (r6 - (3 : Int32)) - r5 → CP G J_Request_isOp [.int (tI S4 a0 2)] S4 (fun r => ∃ r8 : Int32, r = some (.int r8) ∧ ((r8 = 0 → Q (some (.int 0)) S4) ∧ (¬ (r8 = 0) → ((r5 < 1 → Q (some (.int 0)) S4) ∧ (¬ (r5 < 1) → ((16 < r5 → Q (some (.int 0)) S4) ∧ (¬ (16 < r5) → ((y7 < 0 → Q (some (.int 0)) S4) ∧ (¬ (y7 < 0) → CP G J_Request_mostBytes [.int (tI S4 a0 2)] S4 (fun r => ∃ r9 : Int32, r = some (.int r9) ∧ ((y7 ≤ r9 → ∃ b10 : Nat, tR S4 a0 0 = some b10 ∧ te S4 b10 = some (.inr 0) ∧ C0 G J_Bytes_clear [.ref b10] S4 (fun r S13 => r = none ∧ C0 G J_Bytes_putPart [.ref b10, .ref a1, .int 3, .int r5] S13 (fun r S14 => r = none ∧ ∃ b15 : Nat, tR S14 a0 1 = some b15 ∧ te S14 b15 = some (.inr 0) ∧ C0 G J_Bytes_clear [.ref b15] S14 (fun r S18 => r = none ∧ C0 G J_Bytes_putPart [.ref b15, .ref a1, .int ((3 : Int32) + r5), .int y7] S18 (fun r S19 => r = none ∧ Q (some (.int 1)) S19))))) ∧ (¬ (y7 ≤ r9) → Q (some (.int 0)) S4)))))))))))))))) :
    C0 G J_Request_readFrom [.ref a0, .ref a1] S Q := by
  unfold C0
  refine ct_of (by decide +kernel) (Nat.le_of_ble_eq_true rfl) (lv := [(0, .ref a0), (1, .ref a1)]) rfl ?_
  have hm : Sm0 S S := Sm0.rf S
  refine tt_aload_n (k0 := 0) (by decide +kernel) rfl ?_
  refine tt_aload_n (k0 := 1) (by decide +kernel) rfl ?_
  refine tt_iconst (n := 1) (v := 1) (by decide +kernel) (by decide) ?_
  obtain ⟨f1, h⟩ := h
  refine tt_callV (As := [.int 1]) (rest := [.ref a0]) (ci := 0) (r0 := (R_0, F_0, 2)) (by decide +kernel) LK_Bytes_at w_712 w_327 w_328 (by decide) (by decide) rfl rfl (Nat.le_of_ble_eq_true rfl) rfl rfl f1 (ct_mono h (fun r Sb h => ?_))
  obtain ⟨eb, h⟩ := h
  obtain ⟨r2, rfl, h⟩ := h
  rw [eb]
  show T G J_Request_readFrom 6 [(0, .ref a0), (1, .ref a1)] [.int r2, .ref a0] S _
  obtain ⟨f3, h⟩ := h
  refine tt_putI (k := 2) (by decide +kernel) KC_4 (by decide) w_137 rfl rfl f3 ?_
  generalize eS4 : sI S a0 (upd (tI S a0) 2 r2) = S4
  have h := h S4 eS4.symm
  have hm : Sm0 S S4 := by rw [← eS4]; exact hm.I
  have f1 : te S4 a1 = some (.inr 0) := by rw [← eS4, te_sI]; exact f1
  have f3 : te S4 a0 = some (.inr 4) := by rw [← eS4, te_sI]; exact f3
  refine tt_aload_n (k0 := 1) (by decide +kernel) rfl ?_
  refine tt_iconst (n := 2) (v := 2) (by decide +kernel) (by decide) ?_
  refine tt_callV (As := [.int 2]) (rest := []) (ci := 0) (r0 := (R_0, F_0, 2)) (by decide +kernel) LK_Bytes_at w_712 w_327 w_328 (by decide) (by decide) rfl rfl (Nat.le_of_ble_eq_true rfl) rfl rfl f1 (ct_mono h (fun r Sb h => ?_))
  obtain ⟨eb, h⟩ := h
  obtain ⟨r5, rfl, h⟩ := h
  rw [eb]
  show T G J_Request_readFrom 14 [(0, .ref a0), (1, .ref a1)] [.int r5] S4 _
  refine tt_istore_n (k0 := 2) (lv' := [(0, .ref a0), (1, .ref a1), (2, .int r5)]) (by decide +kernel) (by decide) rfl ?_
  refine tt_aload_n (k0 := 1) (by decide +kernel) rfl ?_
  refine tt_callV (As := []) (rest := []) (ci := 0) (r0 := (R_0, F_0, 2)) (by decide +kernel) LK_Bytes_size w_713 w_299 w_300 (by decide) (by decide) rfl rfl (Nat.le_of_ble_eq_true rfl) rfl rfl f1 (ct_mono h (fun r Sb h => ?_))
  obtain ⟨eb, h⟩ := h
  obtain ⟨r6, rfl, h⟩ := h
  rw [eb]
  show T G J_Request_readFrom 19 [(0, .ref a0), (1, .ref a1), (2, .int r5)] [.int r6] S4 _
  refine tt_iconst (n := 3) (v := 3) (by decide +kernel) (by decide) ?_
  refine tt_isub (by decide +kernel) ?_
  refine tt_iload_n (k0 := 2) (by decide +kernel) rfl ?_
  refine tt_isub (by decide +kernel) ?_
  refine tt_topi (fun y7 ey7 => ?_)
  have h := h y7 ey7
  refine tt_istore_n (k0 := 3) (lv' := [(0, .ref a0), (1, .ref a1), (2, .int r5), (3, .int y7)]) (by decide +kernel) (by decide) rfl ?_
  refine tt_aload_n (k0 := 0) (by decide +kernel) rfl ?_
  refine tt_getI (k := 2) (by decide +kernel) KC_4 (by decide) w_137 (fun _ => rfl) f3 ?_
  refine tt_callS (As := [.int (tI S4 a0 2)]) (rest := []) (by decide +kernel) LK_Request_isOp w_714 w_476 (by decide) (by decide) rfl rfl (Nat.le_of_ble_eq_true rfl) (ct_mono h (fun r Sb h => ?_))
  obtain ⟨eb, h⟩ := h
  obtain ⟨r8, rfl, h⟩ := h
  rw [eb]
  show T G J_Request_readFrom 31 [(0, .ref a0), (1, .ref a1), (2, .int r5), (3, .int y7)] [.int r8] S4 _
  refine tt_if_eq (off := 29) 60 (by decide +kernel) (by decide) (fun c => ?_) (fun c => ?_)
  · have h := h.1 c
    refine tt_iconst (n := 0) (v := 0) (by decide +kernel) (by decide) ?_
    exact tt_zret (by decide +kernel) rfl rfl ⟨hm, h⟩
  · have h := h.2 c
    refine tt_iload_n (k0 := 2) (by decide +kernel) rfl ?_
    refine tt_iconst (n := 1) (v := 1) (by decide +kernel) (by decide) ?_
    refine tt_icmp_lt (off := 24) 60 (by decide +kernel) (by decide) (fun c => ?_) (fun c => ?_)
    · have h := h.1 c
      refine tt_iconst (n := 0) (v := 0) (by decide +kernel) (by decide) ?_
      exact tt_zret (by decide +kernel) rfl rfl ⟨hm, h⟩
    · have h := h.2 c
      refine tt_iload_n (k0 := 2) (by decide +kernel) rfl ?_
      refine tt_bipush (n := 16) (v := 16) (by decide +kernel) (by decide) ?_
      refine tt_icmp_gt (off := 18) 60 (by decide +kernel) (by decide) (fun c => ?_) (fun c => ?_)
      · have h := h.1 c
        refine tt_iconst (n := 0) (v := 0) (by decide +kernel) (by decide) ?_
        exact tt_zret (by decide +kernel) rfl rfl ⟨hm, h⟩
      · have h := h.2 c
        refine tt_iload_n (k0 := 3) (by decide +kernel) rfl ?_
        refine tt_if_lt (off := 14) 60 (by decide +kernel) (by decide) (fun c => ?_) (fun c => ?_)
        · have h := h.1 c
          refine tt_iconst (n := 0) (v := 0) (by decide +kernel) (by decide) ?_
          exact tt_zret (by decide +kernel) rfl rfl ⟨hm, h⟩
        · have h := h.2 c
          refine tt_iload_n (k0 := 3) (by decide +kernel) rfl ?_
          refine tt_aload_n (k0 := 0) (by decide +kernel) rfl ?_
          refine tt_getI (k := 2) (by decide +kernel) KC_4 (by decide) w_137 (fun _ => rfl) f3 ?_
          refine tt_callS (As := [.int (tI S4 a0 2)]) (rest := [.int y7]) (by decide +kernel) LK_Request_mostBytes w_715 w_479 (by decide) (by decide) rfl rfl (Nat.le_of_ble_eq_true rfl) (ct_mono h (fun r Sb h => ?_))
          obtain ⟨eb, h⟩ := h
          obtain ⟨r9, rfl, h⟩ := h
          rw [eb]
          show T G J_Request_readFrom 57 [(0, .ref a0), (1, .ref a1), (2, .int r5), (3, .int y7)] [.int r9, .int y7] S4 _
          refine tt_icmp_le (off := 5) 62 (by decide +kernel) (by decide) (fun c => ?_) (fun c => ?_)
          · have h := h.1 c
            refine tt_aload_n (k0 := 0) (by decide +kernel) rfl ?_
            obtain ⟨b10, f11, h⟩ := h
            refine tt_getR (k := 0) (by decide +kernel) KC_4 (by decide) w_135 (fun _ => rfl) f3 f11 ?_
            obtain ⟨f12, h⟩ := h
            refine tt_callV (As := []) (rest := []) (ci := 0) (r0 := (R_0, F_0, 2)) (by decide +kernel) LK_Bytes_clear w_716 w_392 w_393 (by decide) (by decide) rfl rfl (Nat.le_of_ble_eq_true rfl) rfl rfl f12 (ct_mono h (fun r S13 h => ?_))
            obtain ⟨hm2, h⟩ := h
            obtain ⟨rfl, h⟩ := h
            show T G J_Request_readFrom 69 [(0, .ref a0), (1, .ref a1), (2, .int r5), (3, .int y7)] [] S13 _
            have hm := hm.tr hm2
            have f1 : te S13 a1 = some (.inr 0) := by rw [hm2.1]; exact f1
            have f3 : te S13 a0 = some (.inr 4) := by rw [hm2.1]; exact f3
            have f11 : tR S13 a0 0 = some b10 := by rw [hm2.R]; exact f11
            have f12 : te S13 b10 = some (.inr 0) := by rw [hm2.1]; exact f12
            refine tt_aload_n (k0 := 0) (by decide +kernel) rfl ?_
            refine tt_getR (k := 0) (by decide +kernel) KC_4 (by decide) w_135 (fun _ => rfl) f3 f11 ?_
            refine tt_aload_n (k0 := 1) (by decide +kernel) rfl ?_
            refine tt_iconst (n := 3) (v := 3) (by decide +kernel) (by decide) ?_
            refine tt_iload_n (k0 := 2) (by decide +kernel) rfl ?_
            refine tt_callV (As := [.ref a1, .int 3, .int r5]) (rest := []) (ci := 0) (r0 := (R_0, F_0, 2)) (by decide +kernel) LK_Bytes_putPart w_717 w_358 w_359 (by decide) (by decide) rfl rfl (Nat.le_of_ble_eq_true rfl) rfl rfl f12 (ct_mono h (fun r S14 h => ?_))
            obtain ⟨hm2, h⟩ := h
            obtain ⟨rfl, h⟩ := h
            show T G J_Request_readFrom 79 [(0, .ref a0), (1, .ref a1), (2, .int r5), (3, .int y7)] [] S14 _
            have hm := hm.tr hm2
            have f1 : te S14 a1 = some (.inr 0) := by rw [hm2.1]; exact f1
            have f3 : te S14 a0 = some (.inr 4) := by rw [hm2.1]; exact f3
            have f11 : tR S14 a0 0 = some b10 := by rw [hm2.R]; exact f11
            have f12 : te S14 b10 = some (.inr 0) := by rw [hm2.1]; exact f12
            refine tt_aload_n (k0 := 0) (by decide +kernel) rfl ?_
            obtain ⟨b15, f16, h⟩ := h
            refine tt_getR (k := 1) (by decide +kernel) KC_4 (by decide) w_136 (fun _ => rfl) f3 f16 ?_
            obtain ⟨f17, h⟩ := h
            refine tt_callV (As := []) (rest := []) (ci := 0) (r0 := (R_0, F_0, 2)) (by decide +kernel) LK_Bytes_clear w_716 w_392 w_393 (by decide) (by decide) rfl rfl (Nat.le_of_ble_eq_true rfl) rfl rfl f17 (ct_mono h (fun r S18 h => ?_))
            obtain ⟨hm2, h⟩ := h
            obtain ⟨rfl, h⟩ := h
            show T G J_Request_readFrom 86 [(0, .ref a0), (1, .ref a1), (2, .int r5), (3, .int y7)] [] S18 _
            have hm := hm.tr hm2
            have f1 : te S18 a1 = some (.inr 0) := by rw [hm2.1]; exact f1
            have f3 : te S18 a0 = some (.inr 4) := by rw [hm2.1]; exact f3
            have f11 : tR S18 a0 0 = some b10 := by rw [hm2.R]; exact f11
            have f12 : te S18 b10 = some (.inr 0) := by rw [hm2.1]; exact f12
            have f16 : tR S18 a0 1 = some b15 := by rw [hm2.R]; exact f16
            have f17 : te S18 b15 = some (.inr 0) := by rw [hm2.1]; exact f17
            refine tt_aload_n (k0 := 0) (by decide +kernel) rfl ?_
            refine tt_getR (k := 1) (by decide +kernel) KC_4 (by decide) w_136 (fun _ => rfl) f3 f16 ?_
            refine tt_aload_n (k0 := 1) (by decide +kernel) rfl ?_
            refine tt_iconst (n := 3) (v := 3) (by decide +kernel) (by decide) ?_
            refine tt_iload_n (k0 := 2) (by decide +kernel) rfl ?_
            refine tt_iadd (by decide +kernel) ?_
            refine tt_iload_n (k0 := 3) (by decide +kernel) rfl ?_
            refine tt_callV (As := [.ref a1, .int ((3 : Int32) + r5), .int y7]) (rest := []) (ci := 0) (r0 := (R_0, F_0, 2)) (by decide +kernel) LK_Bytes_putPart w_717 w_358 w_359 (by decide) (by decide) rfl rfl (Nat.le_of_ble_eq_true rfl) rfl rfl f17 (ct_mono h (fun r S19 h => ?_))
            obtain ⟨hm2, h⟩ := h
            obtain ⟨rfl, h⟩ := h
            show T G J_Request_readFrom 98 [(0, .ref a0), (1, .ref a1), (2, .int r5), (3, .int y7)] [] S19 _
            have hm := hm.tr hm2
            have f1 : te S19 a1 = some (.inr 0) := by rw [hm2.1]; exact f1
            have f3 : te S19 a0 = some (.inr 4) := by rw [hm2.1]; exact f3
            have f11 : tR S19 a0 0 = some b10 := by rw [hm2.R]; exact f11
            have f12 : te S19 b10 = some (.inr 0) := by rw [hm2.1]; exact f12
            have f16 : tR S19 a0 1 = some b15 := by rw [hm2.R]; exact f16
            have f17 : te S19 b15 = some (.inr 0) := by rw [hm2.1]; exact f17
            refine tt_iconst (n := 1) (v := 1) (by decide +kernel) (by decide) ?_
            exact tt_zret (by decide +kernel) rfl rfl ⟨hm, h⟩
          · have h := h.2 c
            refine tt_iconst (n := 0) (v := 0) (by decide +kernel) (by decide) ?_
            exact tt_zret (by decide +kernel) rfl rfl ⟨hm, h⟩
set_option maxRecDepth 100000 in
theorem v_Store_serve {G : pG} (a0 : Nat) (a1 : Nat) (a2 : Nat) (S : TS) (Q : Option Value → TS → Prop)
    (h : te S a1 = some (.inr 4) ∧ CP G J_Request_target [.ref a1] S (fun r => ∃ b2 : Nat, r = some (.ref b2) ∧ te S a0 = some (.inr 7) ∧ CP G J_Store_find [.ref a0, .ref b2] S (fun r => ∃ r4 : Int32, r = some (.int r4) ∧ CP G J_Request_op [.ref a1] S (fun r => ∃ r5 : Int32, r = some (.int r5) ∧ ((r5 = 0 → ((0 ≤ r4 → te S a2 = some (.inr 0) ∧ C0 G J_Bytes_put [.ref a2, .int 0] S (fun r S7 => r = none ∧ ((r4 < 0 → Q none S7) ∧ (¬ (r4 < 0) → ∃ b8 : Nat, tR S7 a0 1 = some b8 ∧ ∃ n10 : Nat, te S7 b8 = some (.inl (.object "SealedWire$Bytes", n10)) ∧ vp_in r4 n10 ∧ ∃ b12 : Nat, tR S7 b8 r4.toNatClampNeg = some b12 ∧ C0 G J_Bytes_putAll [.ref a2, .ref b12] S7 (fun r S13 => r = none ∧ Q none S13))))) ∧ (¬ (0 ≤ r4) → te S a2 = some (.inr 0) ∧ C0 G J_Bytes_put [.ref a2, .int 1] S (fun r S15 => r = none ∧ ((r4 < 0 → Q none S15) ∧ (¬ (r4 < 0) → ∃ b16 : Nat, tR S15 a0 1 = some b16 ∧ ∃ n18 : Nat, te S15 b16 = some (.inl (.object "SealedWire$Bytes", n18)) ∧ vp_in r4 n18 ∧ ∃ b20 : Nat, tR S15 b16 r4.toNatClampNeg = some b20 ∧ C0 G J_Bytes_putAll [.ref a2, .ref b20] S15 (fun r S21 => r = none ∧ Q none S21))))))) ∧ (r5 = 1 → ((0 ≤ r4 → CP G J_Request_data [.ref a1] S (fun r => ∃ b22 : Nat, r = some (.ref b22) ∧ C0 G J_Store_replace [.ref a0, .int r4, .ref b22] S (fun r S23 => ∃ r24 : Int32, r = some (.int r24) ∧ te S23 a2 = some (.inr 0) ∧ C0 G J_Bytes_put [.ref a2, .int r24] S23 (fun r S26 => r = none ∧ Q none S26)))) ∧ (¬ (0 ≤ r4) → C0 G J_Store_add [.ref a0, .ref a1] S (fun r S27 => ∃ r28 : Int32, r = some (.int r28) ∧ te S27 a2 = some (.inr 0) ∧ C0 G J_Bytes_put [.ref a2, .int r28] S27 (fun r S30 => r = none ∧ Q none S30))))) ∧ (r5 = 2 → ((0 ≤ r4 → C1 G J_Store_removeAt [.ref a0, .int r4] S (fun r S31 => ∃ r32 : Int32, r = some (.int r32) ∧ te S31 a2 = some (.inr 0) ∧ C0 G J_Bytes_put [.ref a2, .int r32] S31 (fun r S34 => r = none ∧ Q none S34))) ∧ (¬ (0 ≤ r4) → te S a2 = some (.inr 0) ∧ C0 G J_Bytes_put [.ref a2, .int 1] S (fun r S36 => r = none ∧ Q none S36)))) ∧ (r5 = 3 → ((0 ≤ r4 → te S a2 = some (.inr 0) ∧ C0 G J_Bytes_put [.ref a2, .int 2] S (fun r S38 => r = none ∧ Q none S38)) ∧ (¬ (0 ≤ r4) → C0 G J_Store_add [.ref a0, .ref a1] S (fun r S39 => ∃ r40 : Int32, r = some (.int r40) ∧ te S39 a2 = some (.inr 0) ∧ C0 G J_Bytes_put [.ref a2, .int r40] S39 (fun r S42 => r = none ∧ Q none S42))))) ∧ (¬ r5 = 0 → ¬ r5 = 1 → ¬ r5 = 2 → ¬ r5 = 3 → ((0 ≤ r4 → CP G J_Request_data [.ref a1] S (fun r => ∃ b43 : Nat, r = some (.ref b43) ∧ C0 G J_Store_lengthen [.ref a0, .int r4, .ref b43] S (fun r S44 => ∃ r45 : Int32, r = some (.int r45) ∧ te S44 a2 = some (.inr 0) ∧ C0 G J_Bytes_put [.ref a2, .int r45] S44 (fun r S47 => r = none ∧ Q none S47)))) ∧ (¬ (0 ≤ r4) → te S a2 = some (.inr 0) ∧ C0 G J_Bytes_put [.ref a2, .int 1] S (fun r S49 => r = none ∧ Q none S49))))))))) :
    C1 G J_Store_serve [.ref a0, .ref a1, .ref a2] S Q := by
  unfold C1
  refine ct_of (by decide +kernel) (Nat.le_of_ble_eq_true rfl) (lv := [(0, .ref a0), (1, .ref a1), (2, .ref a2)]) rfl ?_
  have hm : Sm1 S S := Sm1.rf S
  refine tt_aload_n (k0 := 0) (by decide +kernel) rfl ?_
  refine tt_aload_n (k0 := 1) (by decide +kernel) rfl ?_
  obtain ⟨f1, h⟩ := h
  refine tt_callV (As := []) (rest := [.ref a0]) (ci := 4) (r0 := (R_4, F_4, 3)) (by decide +kernel) LK_Request_target w_723 w_724 w_725 (by decide) (by decide) rfl rfl (Nat.le_of_ble_eq_true rfl) rfl rfl f1 (ct_mono h (fun r Sb h => ?_))
  obtain ⟨eb, h⟩ := h
  obtain ⟨b2, rfl, h⟩ := h
  rw [eb]
  show T G J_Store_serve 5 [(0, .ref a0), (1, .ref a1), (2, .ref a2)] [.ref b2, .ref a0] S _
  obtain ⟨f3, h⟩ := h
  refine tt_callV (As := [.ref b2]) (rest := []) (ci := 7) (r0 := (R_7, F_7, 3)) (by decide +kernel) LK_Store_find w_727 w_728 w_729 (by decide) (by decide) rfl rfl (Nat.le_of_ble_eq_true rfl) rfl rfl f3 (ct_mono h (fun r Sb h => ?_))
  obtain ⟨eb, h⟩ := h
  obtain ⟨r4, rfl, h⟩ := h
  rw [eb]
  show T G J_Store_serve 8 [(0, .ref a0), (1, .ref a1), (2, .ref a2)] [.int r4] S _
  refine tt_istore_n (k0 := 3) (lv' := [(0, .ref a0), (1, .ref a1), (2, .ref a2), (3, .int r4)]) (by decide +kernel) (by decide) rfl ?_
  refine tt_aload_n (k0 := 1) (by decide +kernel) rfl ?_
  refine tt_callV (As := []) (rest := []) (ci := 4) (r0 := (R_4, F_4, 3)) (by decide +kernel) LK_Request_op w_736 w_737 w_738 (by decide) (by decide) rfl rfl (Nat.le_of_ble_eq_true rfl) rfl rfl f1 (ct_mono h (fun r Sb h => ?_))
  obtain ⟨eb, h⟩ := h
  obtain ⟨r5, rfl, h⟩ := h
  rw [eb]
  show T G J_Store_serve 13 [(0, .ref a0), (1, .ref a1), (2, .ref a2), (3, .int r4)] [.int r5] S _
  by_cases n0 : r5 = 0
  · have h := h.1 n0
    refine tt_tableIn 44 (by decide +kernel : decode (jc J_Store_serve) 13 = .ok (.tableswitch (129) (0) (3) #[31, 61, 89, 109], 31)) (by rw [n0]; decide) (by rw [n0]; decide) (off := 31) (by rw [n0]; decide +kernel) (by decide) ?_
    refine tt_aload_n (k0 := 2) (by decide +kernel) rfl ?_
    refine tt_iload_n (k0 := 3) (by decide +kernel) rfl ?_
    refine tt_if_ge (off := 7) 53 (by decide +kernel) (by decide) (fun c => ?_) (fun c => ?_)
    · have h := h.1 c
      refine tt_iconst (n := 0) (v := 0) (by decide +kernel) (by decide) ?_
      obtain ⟨f6, h⟩ := h
      refine tt_callV (As := [.int 0]) (rest := []) (ci := 0) (r0 := (R_0, F_0, 2)) (by decide +kernel) LK_Bytes_put w_740 w_239 w_240 (by decide) (by decide) rfl rfl (Nat.le_of_ble_eq_true rfl) rfl rfl f6 (ct_mono h (fun r S7 h => ?_))
      obtain ⟨hm2, h⟩ := h
      obtain ⟨rfl, h⟩ := h
      show T G J_Store_serve 57 [(0, .ref a0), (1, .ref a1), (2, .ref a2), (3, .int r4)] [] S7 _
      have hm := hm.tr hm2.s1
      have f1 : te S7 a1 = some (.inr 4) := by rw [hm2.1]; exact f1
      have f3 : te S7 a0 = some (.inr 7) := by rw [hm2.1]; exact f3
      have f6 : te S7 a2 = some (.inr 0) := by rw [hm2.1]; exact f6
      refine tt_iload_n (k0 := 3) (by decide +kernel) rfl ?_
      refine tt_if_lt (off := 105) 163 (by decide +kernel) (by decide) (fun c => ?_) (fun c => ?_)
      · have h := h.1 c
        exact tt_vret (by decide +kernel) rfl ⟨hm, h⟩
      · have h := h.2 c
        refine tt_aload_n (k0 := 2) (by decide +kernel) rfl ?_
        refine tt_aload_n (k0 := 0) (by decide +kernel) rfl ?_
        obtain ⟨b8, f9, h⟩ := h
        refine tt_getR (k := 1) (by decide +kernel) KC_7 (by decide) w_118 (fun _ => rfl) f3 f9 ?_
        refine tt_iload_n (k0 := 3) (by decide +kernel) rfl ?_
        obtain ⟨n10, f11, h⟩ := h
        obtain ⟨g2, b12, g3, h⟩ := h
        refine tt_aald (by decide +kernel) f11 g2 g3 ?_
        refine tt_callV (As := [.ref b12]) (rest := []) (ci := 0) (r0 := (R_0, F_0, 2)) (by decide +kernel) LK_Bytes_putAll w_741 w_447 w_448 (by decide) (by decide) rfl rfl (Nat.le_of_ble_eq_true rfl) rfl rfl f6 (ct_mono h (fun r S13 h => ?_))
        obtain ⟨hm2, h⟩ := h
        obtain ⟨rfl, h⟩ := h
        show T G J_Store_serve 71 [(0, .ref a0), (1, .ref a1), (2, .ref a2), (3, .int r4)] [] S13 _
        have hm := hm.tr hm2.s1
        have f1 : te S13 a1 = some (.inr 4) := by rw [hm2.1]; exact f1
        have f3 : te S13 a0 = some (.inr 7) := by rw [hm2.1]; exact f3
        have f6 : te S13 a2 = some (.inr 0) := by rw [hm2.1]; exact f6
        have f9 : tR S13 a0 1 = some b8 := by rw [hm2.R]; exact f9
        have f11 : te S13 b8 = some (.inl (.object "SealedWire$Bytes", n10)) := by rw [hm2.1]; exact f11
        refine tt_goto (off := 92) (tgt := 163) (by decide +kernel) (by decide) ?_
        exact tt_vret (by decide +kernel) rfl ⟨hm, h⟩
    · have h := h.2 c
      refine tt_iconst (n := 1) (v := 1) (by decide +kernel) (by decide) ?_
      refine tt_goto (off := 4) (tgt := 54) (by decide +kernel) (by decide) ?_
      obtain ⟨f14, h⟩ := h
      refine tt_callV (As := [.int 1]) (rest := []) (ci := 0) (r0 := (R_0, F_0, 2)) (by decide +kernel) LK_Bytes_put w_740 w_239 w_240 (by decide) (by decide) rfl rfl (Nat.le_of_ble_eq_true rfl) rfl rfl f14 (ct_mono h (fun r S15 h => ?_))
      obtain ⟨hm2, h⟩ := h
      obtain ⟨rfl, h⟩ := h
      show T G J_Store_serve 57 [(0, .ref a0), (1, .ref a1), (2, .ref a2), (3, .int r4)] [] S15 _
      have hm := hm.tr hm2.s1
      have f1 : te S15 a1 = some (.inr 4) := by rw [hm2.1]; exact f1
      have f3 : te S15 a0 = some (.inr 7) := by rw [hm2.1]; exact f3
      have f14 : te S15 a2 = some (.inr 0) := by rw [hm2.1]; exact f14
      refine tt_iload_n (k0 := 3) (by decide +kernel) rfl ?_
      refine tt_if_lt (off := 105) 163 (by decide +kernel) (by decide) (fun c => ?_) (fun c => ?_)
      · have h := h.1 c
        exact tt_vret (by decide +kernel) rfl ⟨hm, h⟩
      · have h := h.2 c
        refine tt_aload_n (k0 := 2) (by decide +kernel) rfl ?_
        refine tt_aload_n (k0 := 0) (by decide +kernel) rfl ?_
        obtain ⟨b16, f17, h⟩ := h
        refine tt_getR (k := 1) (by decide +kernel) KC_7 (by decide) w_118 (fun _ => rfl) f3 f17 ?_
        refine tt_iload_n (k0 := 3) (by decide +kernel) rfl ?_
        obtain ⟨n18, f19, h⟩ := h
        obtain ⟨g2, b20, g3, h⟩ := h
        refine tt_aald (by decide +kernel) f19 g2 g3 ?_
        refine tt_callV (As := [.ref b20]) (rest := []) (ci := 0) (r0 := (R_0, F_0, 2)) (by decide +kernel) LK_Bytes_putAll w_741 w_447 w_448 (by decide) (by decide) rfl rfl (Nat.le_of_ble_eq_true rfl) rfl rfl f14 (ct_mono h (fun r S21 h => ?_))
        obtain ⟨hm2, h⟩ := h
        obtain ⟨rfl, h⟩ := h
        show T G J_Store_serve 71 [(0, .ref a0), (1, .ref a1), (2, .ref a2), (3, .int r4)] [] S21 _
        have hm := hm.tr hm2.s1
        have f1 : te S21 a1 = some (.inr 4) := by rw [hm2.1]; exact f1
        have f3 : te S21 a0 = some (.inr 7) := by rw [hm2.1]; exact f3
        have f14 : te S21 a2 = some (.inr 0) := by rw [hm2.1]; exact f14
        have f17 : tR S21 a0 1 = some b16 := by rw [hm2.R]; exact f17
        have f19 : te S21 b16 = some (.inl (.object "SealedWire$Bytes", n18)) := by rw [hm2.1]; exact f19
        refine tt_goto (off := 92) (tgt := 163) (by decide +kernel) (by decide) ?_
        exact tt_vret (by decide +kernel) rfl ⟨hm, h⟩
  · by_cases n1 : r5 = 1
    · have h := h.2.1 n1
      refine tt_tableIn 74 (by decide +kernel : decode (jc J_Store_serve) 13 = .ok (.tableswitch (129) (0) (3) #[31, 61, 89, 109], 31)) (by rw [n1]; decide) (by rw [n1]; decide) (off := 61) (by rw [n1]; decide +kernel) (by decide) ?_
      refine tt_aload_n (k0 := 2) (by decide +kernel) rfl ?_
      refine tt_iload_n (k0 := 3) (by decide +kernel) rfl ?_
      refine tt_if_ge (off := 11) 87 (by decide +kernel) (by decide) (fun c => ?_) (fun c => ?_)
      · have h := h.1 c
        refine tt_aload_n (k0 := 0) (by decide +kernel) rfl ?_
        refine tt_iload_n (k0 := 3) (by decide +kernel) rfl ?_
        refine tt_aload_n (k0 := 1) (by decide +kernel) rfl ?_
        refine tt_callV (As := []) (rest := [.int r4, .ref a0, .ref a2]) (ci := 4) (r0 := (R_4, F_4, 3)) (by decide +kernel) LK_Request_data w_747 w_748 w_749 (by decide) (by decide) rfl rfl (Nat.le_of_ble_eq_true rfl) rfl rfl f1 (ct_mono h (fun r Sb h => ?_))
        obtain ⟨eb, h⟩ := h
        obtain ⟨b22, rfl, h⟩ := h
        rw [eb]
        show T G J_Store_serve 93 [(0, .ref a0), (1, .ref a1), (2, .ref a2), (3, .int r4)] [.ref b22, .int r4, .ref a0, .ref a2] S _
        refine tt_callV (As := [.int r4, .ref b22]) (rest := [.ref a2]) (ci := 7) (r0 := (R_7, F_7, 3)) (by decide +kernel) LK_Store_replace w_751 w_753 (in_p (n := 3) 23 rfl) (by decide) (by decide) rfl rfl (Nat.le_of_ble_eq_true rfl) rfl rfl f3 (ct_mono h (fun r S23 h => ?_))
        obtain ⟨hm2, h⟩ := h
        obtain ⟨r24, rfl, h⟩ := h
        show T G J_Store_serve 96 [(0, .ref a0), (1, .ref a1), (2, .ref a2), (3, .int r4)] [.int r24, .ref a2] S23 _
        have hm := hm.tr hm2.s1
        have f1 : te S23 a1 = some (.inr 4) := by rw [hm2.1]; exact f1
        have f3 : te S23 a0 = some (.inr 7) := by rw [hm2.1]; exact f3
        obtain ⟨f25, h⟩ := h
        refine tt_callV (As := [.int r24]) (rest := []) (ci := 0) (r0 := (R_0, F_0, 2)) (by decide +kernel) LK_Bytes_put w_740 w_239 w_240 (by decide) (by decide) rfl rfl (Nat.le_of_ble_eq_true rfl) rfl rfl f25 (ct_mono h (fun r S26 h => ?_))
        obtain ⟨hm2, h⟩ := h
        obtain ⟨rfl, h⟩ := h
        show T G J_Store_serve 99 [(0, .ref a0), (1, .ref a1), (2, .ref a2), (3, .int r4)] [] S26 _
        have hm := hm.tr hm2.s1
        have f1 : te S26 a1 = some (.inr 4) := by rw [hm2.1]; exact f1
        have f3 : te S26 a0 = some (.inr 7) := by rw [hm2.1]; exact f3
        have f25 : te S26 a2 = some (.inr 0) := by rw [hm2.1]; exact f25
        refine tt_goto (off := 64) (tgt := 163) (by decide +kernel) (by decide) ?_
        exact tt_vret (by decide +kernel) rfl ⟨hm, h⟩
      · have h := h.2 c
        refine tt_aload_n (k0 := 0) (by decide +kernel) rfl ?_
        refine tt_aload_n (k0 := 1) (by decide +kernel) rfl ?_
        refine tt_callV (As := [.ref a1]) (rest := [.ref a2]) (ci := 7) (r0 := (R_7, F_7, 3)) (by decide +kernel) LK_Store_add w_742 w_744 (in_p (n := 3) 22 rfl) (by decide) (by decide) rfl rfl (Nat.le_of_ble_eq_true rfl) rfl rfl f3 (ct_mono h (fun r S27 h => ?_))
        obtain ⟨hm2, h⟩ := h
        obtain ⟨r28, rfl, h⟩ := h
        show T G J_Store_serve 84 [(0, .ref a0), (1, .ref a1), (2, .ref a2), (3, .int r4)] [.int r28, .ref a2] S27 _
        have hm := hm.tr hm2.s1
        have f1 : te S27 a1 = some (.inr 4) := by rw [hm2.1]; exact f1
        have f3 : te S27 a0 = some (.inr 7) := by rw [hm2.1]; exact f3
        refine tt_goto (off := 12) (tgt := 96) (by decide +kernel) (by decide) ?_
        obtain ⟨f29, h⟩ := h
        refine tt_callV (As := [.int r28]) (rest := []) (ci := 0) (r0 := (R_0, F_0, 2)) (by decide +kernel) LK_Bytes_put w_740 w_239 w_240 (by decide) (by decide) rfl rfl (Nat.le_of_ble_eq_true rfl) rfl rfl f29 (ct_mono h (fun r S30 h => ?_))
        obtain ⟨hm2, h⟩ := h
        obtain ⟨rfl, h⟩ := h
        show T G J_Store_serve 99 [(0, .ref a0), (1, .ref a1), (2, .ref a2), (3, .int r4)] [] S30 _
        have hm := hm.tr hm2.s1
        have f1 : te S30 a1 = some (.inr 4) := by rw [hm2.1]; exact f1
        have f3 : te S30 a0 = some (.inr 7) := by rw [hm2.1]; exact f3
        have f29 : te S30 a2 = some (.inr 0) := by rw [hm2.1]; exact f29
        refine tt_goto (off := 64) (tgt := 163) (by decide +kernel) (by decide) ?_
        exact tt_vret (by decide +kernel) rfl ⟨hm, h⟩
    · by_cases n2 : r5 = 2
      · have h := h.2.2.1 n2
        refine tt_tableIn 102 (by decide +kernel : decode (jc J_Store_serve) 13 = .ok (.tableswitch (129) (0) (3) #[31, 61, 89, 109], 31)) (by rw [n2]; decide) (by rw [n2]; decide) (off := 89) (by rw [n2]; decide +kernel) (by decide) ?_
        refine tt_aload_n (k0 := 2) (by decide +kernel) rfl ?_
        refine tt_iload_n (k0 := 3) (by decide +kernel) rfl ?_
        refine tt_if_ge (off := 7) 111 (by decide +kernel) (by decide) (fun c => ?_) (fun c => ?_)
        · have h := h.1 c
          refine tt_aload_n (k0 := 0) (by decide +kernel) rfl ?_
          refine tt_iload_n (k0 := 3) (by decide +kernel) rfl ?_
          refine tt_callV (As := [.int r4]) (rest := [.ref a2]) (ci := 7) (r0 := (R_7, F_7, 3)) (by decide +kernel) LK_Store_removeAt w_755 w_757 (in_p (n := 3) 24 rfl) (by decide) (by decide) rfl rfl (Nat.le_of_ble_eq_true rfl) rfl rfl f3 (ct_mono h (fun r S31 h => ?_))
          obtain ⟨hm2, h⟩ := h
          obtain ⟨r32, rfl, h⟩ := h
          show T G J_Store_serve 116 [(0, .ref a0), (1, .ref a1), (2, .ref a2), (3, .int r4)] [.int r32, .ref a2] S31 _
          have hm := hm.tr hm2
          have f1 : te S31 a1 = some (.inr 4) := by rw [hm2.1]; exact f1
          have f3 : te S31 a0 = some (.inr 7) := by rw [hm2.1]; exact f3
          obtain ⟨f33, h⟩ := h
          refine tt_callV (As := [.int r32]) (rest := []) (ci := 0) (r0 := (R_0, F_0, 2)) (by decide +kernel) LK_Bytes_put w_740 w_239 w_240 (by decide) (by decide) rfl rfl (Nat.le_of_ble_eq_true rfl) rfl rfl f33 (ct_mono h (fun r S34 h => ?_))
          obtain ⟨hm2, h⟩ := h
          obtain ⟨rfl, h⟩ := h
          show T G J_Store_serve 119 [(0, .ref a0), (1, .ref a1), (2, .ref a2), (3, .int r4)] [] S34 _
          have hm := hm.tr hm2.s1
          have f1 : te S34 a1 = some (.inr 4) := by rw [hm2.1]; exact f1
          have f3 : te S34 a0 = some (.inr 7) := by rw [hm2.1]; exact f3
          have f33 : te S34 a2 = some (.inr 0) := by rw [hm2.1]; exact f33
          refine tt_goto (off := 44) (tgt := 163) (by decide +kernel) (by decide) ?_
          exact tt_vret (by decide +kernel) rfl ⟨hm, h⟩
        · have h := h.2 c
          refine tt_iconst (n := 1) (v := 1) (by decide +kernel) (by decide) ?_
          refine tt_goto (off := 8) (tgt := 116) (by decide +kernel) (by decide) ?_
          obtain ⟨f35, h⟩ := h
          refine tt_callV (As := [.int 1]) (rest := []) (ci := 0) (r0 := (R_0, F_0, 2)) (by decide +kernel) LK_Bytes_put w_740 w_239 w_240 (by decide) (by decide) rfl rfl (Nat.le_of_ble_eq_true rfl) rfl rfl f35 (ct_mono h (fun r S36 h => ?_))
          obtain ⟨hm2, h⟩ := h
          obtain ⟨rfl, h⟩ := h
          show T G J_Store_serve 119 [(0, .ref a0), (1, .ref a1), (2, .ref a2), (3, .int r4)] [] S36 _
          have hm := hm.tr hm2.s1
          have f1 : te S36 a1 = some (.inr 4) := by rw [hm2.1]; exact f1
          have f3 : te S36 a0 = some (.inr 7) := by rw [hm2.1]; exact f3
          have f35 : te S36 a2 = some (.inr 0) := by rw [hm2.1]; exact f35
          refine tt_goto (off := 44) (tgt := 163) (by decide +kernel) (by decide) ?_
          exact tt_vret (by decide +kernel) rfl ⟨hm, h⟩
      · by_cases n3 : r5 = 3
        · have h := h.2.2.2.1 n3
          refine tt_tableIn 122 (by decide +kernel : decode (jc J_Store_serve) 13 = .ok (.tableswitch (129) (0) (3) #[31, 61, 89, 109], 31)) (by rw [n3]; decide) (by rw [n3]; decide) (off := 109) (by rw [n3]; decide +kernel) (by decide) ?_
          refine tt_aload_n (k0 := 2) (by decide +kernel) rfl ?_
          refine tt_iload_n (k0 := 3) (by decide +kernel) rfl ?_
          refine tt_if_ge (off := 11) 135 (by decide +kernel) (by decide) (fun c => ?_) (fun c => ?_)
          · have h := h.1 c
            refine tt_iconst (n := 2) (v := 2) (by decide +kernel) (by decide) ?_
            obtain ⟨f37, h⟩ := h
            refine tt_callV (As := [.int 2]) (rest := []) (ci := 0) (r0 := (R_0, F_0, 2)) (by decide +kernel) LK_Bytes_put w_740 w_239 w_240 (by decide) (by decide) rfl rfl (Nat.le_of_ble_eq_true rfl) rfl rfl f37 (ct_mono h (fun r S38 h => ?_))
            obtain ⟨hm2, h⟩ := h
            obtain ⟨rfl, h⟩ := h
            show T G J_Store_serve 139 [(0, .ref a0), (1, .ref a1), (2, .ref a2), (3, .int r4)] [] S38 _
            have hm := hm.tr hm2.s1
            have f1 : te S38 a1 = some (.inr 4) := by rw [hm2.1]; exact f1
            have f3 : te S38 a0 = some (.inr 7) := by rw [hm2.1]; exact f3
            have f37 : te S38 a2 = some (.inr 0) := by rw [hm2.1]; exact f37
            refine tt_goto (off := 24) (tgt := 163) (by decide +kernel) (by decide) ?_
            exact tt_vret (by decide +kernel) rfl ⟨hm, h⟩
          · have h := h.2 c
            refine tt_aload_n (k0 := 0) (by decide +kernel) rfl ?_
            refine tt_aload_n (k0 := 1) (by decide +kernel) rfl ?_
            refine tt_callV (As := [.ref a1]) (rest := [.ref a2]) (ci := 7) (r0 := (R_7, F_7, 3)) (by decide +kernel) LK_Store_add w_742 w_744 (in_p (n := 3) 22 rfl) (by decide) (by decide) rfl rfl (Nat.le_of_ble_eq_true rfl) rfl rfl f3 (ct_mono h (fun r S39 h => ?_))
            obtain ⟨hm2, h⟩ := h
            obtain ⟨r40, rfl, h⟩ := h
            show T G J_Store_serve 132 [(0, .ref a0), (1, .ref a1), (2, .ref a2), (3, .int r4)] [.int r40, .ref a2] S39 _
            have hm := hm.tr hm2.s1
            have f1 : te S39 a1 = some (.inr 4) := by rw [hm2.1]; exact f1
            have f3 : te S39 a0 = some (.inr 7) := by rw [hm2.1]; exact f3
            refine tt_goto (off := 4) (tgt := 136) (by decide +kernel) (by decide) ?_
            obtain ⟨f41, h⟩ := h
            refine tt_callV (As := [.int r40]) (rest := []) (ci := 0) (r0 := (R_0, F_0, 2)) (by decide +kernel) LK_Bytes_put w_740 w_239 w_240 (by decide) (by decide) rfl rfl (Nat.le_of_ble_eq_true rfl) rfl rfl f41 (ct_mono h (fun r S42 h => ?_))
            obtain ⟨hm2, h⟩ := h
            obtain ⟨rfl, h⟩ := h
            show T G J_Store_serve 139 [(0, .ref a0), (1, .ref a1), (2, .ref a2), (3, .int r4)] [] S42 _
            have hm := hm.tr hm2.s1
            have f1 : te S42 a1 = some (.inr 4) := by rw [hm2.1]; exact f1
            have f3 : te S42 a0 = some (.inr 7) := by rw [hm2.1]; exact f3
            have f41 : te S42 a2 = some (.inr 0) := by rw [hm2.1]; exact f41
            refine tt_goto (off := 24) (tgt := 163) (by decide +kernel) (by decide) ?_
            exact tt_vret (by decide +kernel) rfl ⟨hm, h⟩
        · have h := h.2.2.2.2 n0 n1 n2 n3
          refine tt_tableOut 142 (by decide +kernel : decode (jc J_Store_serve) 13 = .ok (.tableswitch (129) (0) (3) #[31, 61, 89, 109], 31)) (by have m0 := lv_neT n0 (a := 0) rfl; have m1 := lv_neT n1 (a := 1) rfl; have m2 := lv_neT n2 (a := 2) rfl; have m3 := lv_neT n3 (a := 3) rfl; omega) (by decide) ?_
          refine tt_aload_n (k0 := 2) (by decide +kernel) rfl ?_
          refine tt_iload_n (k0 := 3) (by decide +kernel) rfl ?_
          refine tt_if_ge (off := 7) 151 (by decide +kernel) (by decide) (fun c => ?_) (fun c => ?_)
          · have h := h.1 c
            refine tt_aload_n (k0 := 0) (by decide +kernel) rfl ?_
            refine tt_iload_n (k0 := 3) (by decide +kernel) rfl ?_
            refine tt_aload_n (k0 := 1) (by decide +kernel) rfl ?_
            refine tt_callV (As := []) (rest := [.int r4, .ref a0, .ref a2]) (ci := 4) (r0 := (R_4, F_4, 3)) (by decide +kernel) LK_Request_data w_747 w_748 w_749 (by decide) (by decide) rfl rfl (Nat.le_of_ble_eq_true rfl) rfl rfl f1 (ct_mono h (fun r Sb h => ?_))
            obtain ⟨eb, h⟩ := h
            obtain ⟨b43, rfl, h⟩ := h
            rw [eb]
            show T G J_Store_serve 157 [(0, .ref a0), (1, .ref a1), (2, .ref a2), (3, .int r4)] [.ref b43, .int r4, .ref a0, .ref a2] S _
            refine tt_callV (As := [.int r4, .ref b43]) (rest := [.ref a2]) (ci := 7) (r0 := (R_7, F_7, 3)) (by decide +kernel) LK_Store_lengthen w_759 w_761 (in_p (n := 3) 25 rfl) (by decide) (by decide) rfl rfl (Nat.le_of_ble_eq_true rfl) rfl rfl f3 (ct_mono h (fun r S44 h => ?_))
            obtain ⟨hm2, h⟩ := h
            obtain ⟨r45, rfl, h⟩ := h
            show T G J_Store_serve 160 [(0, .ref a0), (1, .ref a1), (2, .ref a2), (3, .int r4)] [.int r45, .ref a2] S44 _
            have hm := hm.tr hm2.s1
            have f1 : te S44 a1 = some (.inr 4) := by rw [hm2.1]; exact f1
            have f3 : te S44 a0 = some (.inr 7) := by rw [hm2.1]; exact f3
            obtain ⟨f46, h⟩ := h
            refine tt_callV (As := [.int r45]) (rest := []) (ci := 0) (r0 := (R_0, F_0, 2)) (by decide +kernel) LK_Bytes_put w_740 w_239 w_240 (by decide) (by decide) rfl rfl (Nat.le_of_ble_eq_true rfl) rfl rfl f46 (ct_mono h (fun r S47 h => ?_))
            obtain ⟨hm2, h⟩ := h
            obtain ⟨rfl, h⟩ := h
            show T G J_Store_serve 163 [(0, .ref a0), (1, .ref a1), (2, .ref a2), (3, .int r4)] [] S47 _
            have hm := hm.tr hm2.s1
            have f1 : te S47 a1 = some (.inr 4) := by rw [hm2.1]; exact f1
            have f3 : te S47 a0 = some (.inr 7) := by rw [hm2.1]; exact f3
            have f46 : te S47 a2 = some (.inr 0) := by rw [hm2.1]; exact f46
            exact tt_vret (by decide +kernel) rfl ⟨hm, h⟩
          · have h := h.2 c
            refine tt_iconst (n := 1) (v := 1) (by decide +kernel) (by decide) ?_
            refine tt_goto (off := 12) (tgt := 160) (by decide +kernel) (by decide) ?_
            obtain ⟨f48, h⟩ := h
            refine tt_callV (As := [.int 1]) (rest := []) (ci := 0) (r0 := (R_0, F_0, 2)) (by decide +kernel) LK_Bytes_put w_740 w_239 w_240 (by decide) (by decide) rfl rfl (Nat.le_of_ble_eq_true rfl) rfl rfl f48 (ct_mono h (fun r S49 h => ?_))
            obtain ⟨hm2, h⟩ := h
            obtain ⟨rfl, h⟩ := h
            show T G J_Store_serve 163 [(0, .ref a0), (1, .ref a1), (2, .ref a2), (3, .int r4)] [] S49 _
            have hm := hm.tr hm2.s1
            have f1 : te S49 a1 = some (.inr 4) := by rw [hm2.1]; exact f1
            have f3 : te S49 a0 = some (.inr 7) := by rw [hm2.1]; exact f3
            have f48 : te S49 a2 = some (.inr 0) := by rw [hm2.1]; exact f48
            exact tt_vret (by decide +kernel) rfl ⟨hm, h⟩
set_option maxRecDepth 100000 in
theorem v_Request_target {G : pG} (a0 : Nat) (S : TS) (Q : Option Value → Prop)
    (h : te S a0 = some (.inr 4) ∧ ∃ b2 : Nat, tR S a0 0 = some b2 ∧ Q (some (.ref b2))) :
    CP G J_Request_target [.ref a0] S Q := by
  unfold CP
  refine ct_of (by decide +kernel) (Nat.le_of_ble_eq_true rfl) (lv := [(0, .ref a0)]) rfl ?_
  refine tt_aload_n (k0 := 0) (by decide +kernel) rfl ?_
  obtain ⟨f1, h⟩ := h
  obtain ⟨b2, f3, h⟩ := h
  refine tt_getR (k := 0) (by decide +kernel) KC_4 (by decide) w_135 (fun _ => rfl) f1 f3 ?_
  exact tt_aret (by decide +kernel) rfl ⟨rfl, h⟩
set_option maxRecDepth 100000 in
theorem v_Store_find {G : pG} (a0 : Nat) (a1 : Nat) (S : TS) (Q : Option Value → Prop)
    (h : TP G J_Store_find 2 [(0, .ref a0), (1, .ref a1), (2, .int 0)] [] S Q) :
    CP G J_Store_find [.ref a0, .ref a1] S Q := by
  unfold CP
  refine ct_of (by decide +kernel) (Nat.le_of_ble_eq_true rfl) (lv := [(0, .ref a0), (1, .ref a1)]) rfl ?_
  refine tt_iconst (n := 0) (v := 0) (by decide +kernel) (by decide) ?_
  refine tt_istore_n (k0 := 2) (lv' := [(0, .ref a0), (1, .ref a1), (2, .int 0)]) (by decide +kernel) (by decide) rfl ?_
  exact h
set_option maxRecDepth 100000 in
theorem v_Store_find_2 {G : pG} (a0 : Nat) (a1 : Nat) (x2 : Int32) (S : TS) (Q : Option Value → Prop)
    (h : te S a0 = some (.inr 7) ∧ ((tI S a0 2 ≤ x2 → Q (some (.int ((-1))))) ∧ (¬ (tI S a0 2 ≤ x2) → ∃ b2 : Nat, tR S a0 0 = some b2 ∧ ∃ n4 : Nat, te S b2 = some (.inl (.object "SealedWire$Bytes", n4)) ∧ vp_in x2 n4 ∧ ∃ b6 : Nat, tR S b2 x2.toNatClampNeg = some b6 ∧ te S b6 = some (.inr 0) ∧ CP G J_Bytes_same [.ref b6, .ref a1] S (fun r => ∃ r8 : Int32, r = some (.int r8) ∧ ((r8 = 0 → ∀ y9 : Int32, y9 = x2 + 1 → TP G J_Store_find 2 [(0, .ref a0), (1, .ref a1), (2, .int y9)] [] S Q) ∧ (¬ (r8 = 0) → Q (some (.int x2)))))))) :
    TP G J_Store_find 2 [(0, .ref a0), (1, .ref a1), (2, .int x2)] [] S Q := by
  unfold TP
  refine tt_iload_n (k0 := 2) (by decide +kernel) rfl ?_
  refine tt_aload_n (k0 := 0) (by decide +kernel) rfl ?_
  obtain ⟨f1, h⟩ := h
  refine tt_getI (k := 2) (by decide +kernel) KC_7 (by decide) w_119 (fun _ => rfl) f1 ?_
  refine tt_icmp_ge (off := 24) 31 (by decide +kernel) (by decide) (fun c => ?_) (fun c => ?_)
  · have h := h.1 c
    refine tt_iconst (n := -1) (v := -1) (by decide +kernel) (by decide) ?_
    exact tt_iret (by decide +kernel) rfl ⟨rfl, h⟩
  · have h := h.2 c
    refine tt_aload_n (k0 := 0) (by decide +kernel) rfl ?_
    obtain ⟨b2, f3, h⟩ := h
    refine tt_getR (k := 0) (by decide +kernel) KC_7 (by decide) w_117 (fun _ => rfl) f1 f3 ?_
    refine tt_iload_n (k0 := 2) (by decide +kernel) rfl ?_
    obtain ⟨n4, f5, h⟩ := h
    obtain ⟨g2, b6, g3, h⟩ := h
    refine tt_aald (by decide +kernel) f5 g2 g3 ?_
    refine tt_aload_n (k0 := 1) (by decide +kernel) rfl ?_
    obtain ⟨f7, h⟩ := h
    refine tt_callV (As := [.ref a1]) (rest := []) (ci := 0) (r0 := (R_0, F_0, 2)) (by decide +kernel) LK_Bytes_same w_731 w_732 w_733 (by decide) (by decide) rfl rfl (Nat.le_of_ble_eq_true rfl) rfl rfl f7 (ct_mono h (fun r Sb h => ?_))
    obtain ⟨eb, h⟩ := h
    obtain ⟨r8, rfl, h⟩ := h
    rw [eb]
    show T G J_Store_find 20 [(0, .ref a0), (1, .ref a1), (2, .int x2)] [.int r8] S _
    refine tt_if_eq (off := 5) 25 (by decide +kernel) (by decide) (fun c => ?_) (fun c => ?_)
    · have h := h.1 c
      obtain ⟨y9, ey9⟩ : ∃ y : Int32, y = x2 + 1 := ⟨_, rfl⟩
      have h := h y9 ey9
      refine tt_iinc (i := 2) (n := 1) (v := y9) (lv' := [(0, .ref a0), (1, .ref a1), (2, .int y9)]) (by decide +kernel) (by decide) rfl ey9.symm rfl ?_
      refine tt_goto (off := -26) (tgt := 2) (by decide +kernel) (by decide) ?_
      exact h
    · have h := h.2 c
      refine tt_iload_n (k0 := 2) (by decide +kernel) rfl ?_
      exact tt_iret (by decide +kernel) rfl ⟨rfl, h⟩
set_option maxRecDepth 100000 in
theorem v_Request_op {G : pG} (a0 : Nat) (S : TS) (Q : Option Value → Prop)
    (h : te S a0 = some (.inr 4) ∧ Q (some (.int (tI S a0 2)))) :
    CP G J_Request_op [.ref a0] S Q := by
  unfold CP
  refine ct_of (by decide +kernel) (Nat.le_of_ble_eq_true rfl) (lv := [(0, .ref a0)]) rfl ?_
  refine tt_aload_n (k0 := 0) (by decide +kernel) rfl ?_
  obtain ⟨f1, h⟩ := h
  refine tt_getI (k := 2) (by decide +kernel) KC_4 (by decide) w_137 (fun _ => rfl) f1 ?_
  exact tt_iret (by decide +kernel) rfl ⟨rfl, h⟩
set_option maxRecDepth 100000 in
theorem v_Store_add {G : pG} (a0 : Nat) (a1 : Nat) (S : TS) (Q : Option Value → TS → Prop)
    (h : te S a0 = some (.inr 7) ∧ ((tI S a0 2 < 20 → ∃ b2 : Nat, tR S a0 0 = some b2 ∧ ∃ n4 : Nat, te S b2 = some (.inl (.object "SealedWire$Bytes", n4)) ∧ vp_in (tI S a0 2) n4 ∧ ∃ b6 : Nat, tR S b2 (tI S a0 2).toNatClampNeg = some b6 ∧ te S a1 = some (.inr 4) ∧ CP G J_Request_target [.ref a1] S (fun r => ∃ b8 : Nat, r = some (.ref b8) ∧ te S b6 = some (.inr 0) ∧ C0 G J_Bytes_become [.ref b6, .ref b8] S (fun r S10 => r = none ∧ ∃ b11 : Nat, tR S10 a0 1 = some b11 ∧ ∃ n13 : Nat, te S10 b11 = some (.inl (.object "SealedWire$Bytes", n13)) ∧ vp_in (tI S10 a0 2) n13 ∧ ∃ b15 : Nat, tR S10 b11 (tI S10 a0 2).toNatClampNeg = some b15 ∧ CP G J_Request_data [.ref a1] S10 (fun r => ∃ b16 : Nat, r = some (.ref b16) ∧ te S10 b15 = some (.inr 0) ∧ C0 G J_Bytes_become [.ref b15, .ref b16] S10 (fun r S18 => r = none ∧ ∀ S19 : TS, S19 = sI S18 a0 (upd (tI S18 a0) 2 ((tI S18 a0 2) + (1 : Int32))) → Q (some (.int 0)) S19))))) ∧ (¬ (tI S a0 2 < 20) → Q (some (.int 3)) S))) :
    C0 G J_Store_add [.ref a0, .ref a1] S Q := by
  unfold C0
  refine ct_of (by decide +kernel) (Nat.le_of_ble_eq_true rfl) (lv := [(0, .ref a0), (1, .ref a1)]) rfl ?_
  have hm : Sm0 S S := Sm0.rf S
  refine tt_aload_n (k0 := 0) (by decide +kernel) rfl ?_
  obtain ⟨f1, h⟩ := h
  refine tt_getI (k := 2) (by decide +kernel) KC_7 (by decide) w_119 (fun _ => rfl) f1 ?_
  refine tt_bipush (n := 20) (v := 20) (by decide +kernel) (by decide) ?_
  refine tt_icmp_lt (off := 5) 11 (by decide +kernel) (by decide) (fun c => ?_) (fun c => ?_)
  · have h := h.1 c
    refine tt_aload_n (k0 := 0) (by decide +kernel) rfl ?_
    obtain ⟨b2, f3, h⟩ := h
    refine tt_getR (k := 0) (by decide +kernel) KC_7 (by decide) w_117 (fun _ => rfl) f1 f3 ?_
    refine tt_aload_n (k0 := 0) (by decide +kernel) rfl ?_
    refine tt_getI (k := 2) (by decide +kernel) KC_7 (by decide) w_119 (fun _ => rfl) f1 ?_
    obtain ⟨n4, f5, h⟩ := h
    obtain ⟨g2, b6, g3, h⟩ := h
    refine tt_aald (by decide +kernel) f5 g2 g3 ?_
    refine tt_aload_n (k0 := 1) (by decide +kernel) rfl ?_
    obtain ⟨f7, h⟩ := h
    refine tt_callV (As := []) (rest := [.ref b6]) (ci := 4) (r0 := (R_4, F_4, 3)) (by decide +kernel) LK_Request_target w_723 w_724 w_725 (by decide) (by decide) rfl rfl (Nat.le_of_ble_eq_true rfl) rfl rfl f7 (ct_mono h (fun r Sb h => ?_))
    obtain ⟨eb, h⟩ := h
    obtain ⟨b8, rfl, h⟩ := h
    rw [eb]
    show T G J_Store_add 24 [(0, .ref a0), (1, .ref a1)] [.ref b8, .ref b6] S _
    obtain ⟨f9, h⟩ := h
    refine tt_callV (As := [.ref b8]) (rest := []) (ci := 0) (r0 := (R_0, F_0, 2)) (by decide +kernel) LK_Bytes_become w_746 w_354 w_355 (by decide) (by decide) rfl rfl (Nat.le_of_ble_eq_true rfl) rfl rfl f9 (ct_mono h (fun r S10 h => ?_))
    obtain ⟨hm2, h⟩ := h
    obtain ⟨rfl, h⟩ := h
    show T G J_Store_add 27 [(0, .ref a0), (1, .ref a1)] [] S10 _
    have hm := hm.tr hm2
    have f1 : te S10 a0 = some (.inr 7) := by rw [hm2.1]; exact f1
    have f3 : tR S10 a0 0 = some b2 := by rw [hm2.R]; exact f3
    have f5 : te S10 b2 = some (.inl (.object "SealedWire$Bytes", n4)) := by rw [hm2.1]; exact f5
    have f7 : te S10 a1 = some (.inr 4) := by rw [hm2.1]; exact f7
    have f9 : te S10 b6 = some (.inr 0) := by rw [hm2.1]; exact f9
    refine tt_aload_n (k0 := 0) (by decide +kernel) rfl ?_
    obtain ⟨b11, f12, h⟩ := h
    refine tt_getR (k := 1) (by decide +kernel) KC_7 (by decide) w_118 (fun _ => rfl) f1 f12 ?_
    refine tt_aload_n (k0 := 0) (by decide +kernel) rfl ?_
    refine tt_getI (k := 2) (by decide +kernel) KC_7 (by decide) w_119 (fun _ => rfl) f1 ?_
    obtain ⟨n13, f14, h⟩ := h
    obtain ⟨g2, b15, g3, h⟩ := h
    refine tt_aald (by decide +kernel) f14 g2 g3 ?_
    refine tt_aload_n (k0 := 1) (by decide +kernel) rfl ?_
    refine tt_callV (As := []) (rest := [.ref b15]) (ci := 4) (r0 := (R_4, F_4, 3)) (by decide +kernel) LK_Request_data w_747 w_748 w_749 (by decide) (by decide) rfl rfl (Nat.le_of_ble_eq_true rfl) rfl rfl f7 (ct_mono h (fun r Sb h => ?_))
    obtain ⟨eb, h⟩ := h
    obtain ⟨b16, rfl, h⟩ := h
    rw [eb]
    show T G J_Store_add 40 [(0, .ref a0), (1, .ref a1)] [.ref b16, .ref b15] S10 _
    obtain ⟨f17, h⟩ := h
    refine tt_callV (As := [.ref b16]) (rest := []) (ci := 0) (r0 := (R_0, F_0, 2)) (by decide +kernel) LK_Bytes_become w_746 w_354 w_355 (by decide) (by decide) rfl rfl (Nat.le_of_ble_eq_true rfl) rfl rfl f17 (ct_mono h (fun r S18 h => ?_))
    obtain ⟨hm2, h⟩ := h
    obtain ⟨rfl, h⟩ := h
    show T G J_Store_add 43 [(0, .ref a0), (1, .ref a1)] [] S18 _
    have hm := hm.tr hm2
    have f1 : te S18 a0 = some (.inr 7) := by rw [hm2.1]; exact f1
    have f3 : tR S18 a0 0 = some b2 := by rw [hm2.R]; exact f3
    have f5 : te S18 b2 = some (.inl (.object "SealedWire$Bytes", n4)) := by rw [hm2.1]; exact f5
    have f7 : te S18 a1 = some (.inr 4) := by rw [hm2.1]; exact f7
    have f9 : te S18 b6 = some (.inr 0) := by rw [hm2.1]; exact f9
    have f12 : tR S18 a0 1 = some b11 := by rw [hm2.R]; exact f12
    have f14 : te S18 b11 = some (.inl (.object "SealedWire$Bytes", n13)) := by rw [hm2.1]; exact f14
    have f17 : te S18 b15 = some (.inr 0) := by rw [hm2.1]; exact f17
    refine tt_aload_n (k0 := 0) (by decide +kernel) rfl ?_
    refine tt_dup (by decide +kernel) rfl ?_
    refine tt_getI (k := 2) (by decide +kernel) KC_7 (by decide) w_119 (fun _ => rfl) f1 ?_
    refine tt_iconst (n := 1) (v := 1) (by decide +kernel) (by decide) ?_
    refine tt_iadd (by decide +kernel) ?_
    refine tt_putI (k := 2) (by decide +kernel) KC_7 (by decide) w_119 rfl rfl f1 ?_
    generalize eS19 : sI S18 a0 (upd (tI S18 a0) 2 ((tI S18 a0 2) + (1 : Int32))) = S19
    have h := h S19 eS19.symm
    have hm : Sm0 S S19 := by rw [← eS19]; exact hm.I
    have f1 : te S19 a0 = some (.inr 7) := by rw [← eS19, te_sI]; exact f1
    have f3 : tR S19 a0 0 = some b2 := by rw [← eS19, tR_sI]; exact f3
    have f5 : te S19 b2 = some (.inl (.object "SealedWire$Bytes", n4)) := by rw [← eS19, te_sI]; exact f5
    have f7 : te S19 a1 = some (.inr 4) := by rw [← eS19, te_sI]; exact f7
    have f9 : te S19 b6 = some (.inr 0) := by rw [← eS19, te_sI]; exact f9
    have f12 : tR S19 a0 1 = some b11 := by rw [← eS19, tR_sI]; exact f12
    have f14 : te S19 b11 = some (.inl (.object "SealedWire$Bytes", n13)) := by rw [← eS19, te_sI]; exact f14
    have f17 : te S19 b15 = some (.inr 0) := by rw [← eS19, te_sI]; exact f17
    refine tt_iconst (n := 0) (v := 0) (by decide +kernel) (by decide) ?_
    exact tt_iret (by decide +kernel) rfl ⟨hm, h⟩
  · have h := h.2 c
    refine tt_iconst (n := 3) (v := 3) (by decide +kernel) (by decide) ?_
    exact tt_iret (by decide +kernel) rfl ⟨hm, h⟩
set_option maxRecDepth 100000 in
theorem v_Request_data {G : pG} (a0 : Nat) (S : TS) (Q : Option Value → Prop)
    (h : te S a0 = some (.inr 4) ∧ ∃ b2 : Nat, tR S a0 1 = some b2 ∧ Q (some (.ref b2))) :
    CP G J_Request_data [.ref a0] S Q := by
  unfold CP
  refine ct_of (by decide +kernel) (Nat.le_of_ble_eq_true rfl) (lv := [(0, .ref a0)]) rfl ?_
  refine tt_aload_n (k0 := 0) (by decide +kernel) rfl ?_
  obtain ⟨f1, h⟩ := h
  obtain ⟨b2, f3, h⟩ := h
  refine tt_getR (k := 1) (by decide +kernel) KC_4 (by decide) w_136 (fun _ => rfl) f1 f3 ?_
  exact tt_aret (by decide +kernel) rfl ⟨rfl, h⟩
set_option maxRecDepth 100000 in
theorem v_Store_replace {G : pG} (a0 : Nat) (x1 : Int32) (a2 : Nat) (S : TS) (Q : Option Value → TS → Prop)
    (h : te S a0 = some (.inr 7) ∧ ∃ b2 : Nat, tR S a0 1 = some b2 ∧ ∃ n4 : Nat, te S b2 = some (.inl (.object "SealedWire$Bytes", n4)) ∧ vp_in x1 n4 ∧ ∃ b6 : Nat, tR S b2 x1.toNatClampNeg = some b6 ∧ te S b6 = some (.inr 0) ∧ C0 G J_Bytes_become [.ref b6, .ref a2] S (fun r S8 => r = none ∧ Q (some (.int 0)) S8)) :
    C0 G J_Store_replace [.ref a0, .int x1, .ref a2] S Q := by
  unfold C0
  refine ct_of (by decide +kernel) (Nat.le_of_ble_eq_true rfl) (lv := [(0, .ref a0), (1, .int x1), (2, .ref a2)]) rfl ?_
  have hm : Sm0 S S := Sm0.rf S
  refine tt_aload_n (k0 := 0) (by decide +kernel) rfl ?_
  obtain ⟨f1, h⟩ := h
  obtain ⟨b2, f3, h⟩ := h
  refine tt_getR (k := 1) (by decide +kernel) KC_7 (by decide) w_118 (fun _ => rfl) f1 f3 ?_
  refine tt_iload_n (k0 := 1) (by decide +kernel) rfl ?_
  obtain ⟨n4, f5, h⟩ := h
  obtain ⟨g2, b6, g3, h⟩ := h
  refine tt_aald (by decide +kernel) f5 g2 g3 ?_
  refine tt_aload_n (k0 := 2) (by decide +kernel) rfl ?_
  obtain ⟨f7, h⟩ := h
  refine tt_callV (As := [.ref a2]) (rest := []) (ci := 0) (r0 := (R_0, F_0, 2)) (by decide +kernel) LK_Bytes_become w_746 w_354 w_355 (by decide) (by decide) rfl rfl (Nat.le_of_ble_eq_true rfl) rfl rfl f7 (ct_mono h (fun r S8 h => ?_))
  obtain ⟨hm2, h⟩ := h
  obtain ⟨rfl, h⟩ := h
  show T G J_Store_replace 10 [(0, .ref a0), (1, .int x1), (2, .ref a2)] [] S8 _
  have hm := hm.tr hm2
  have f1 : te S8 a0 = some (.inr 7) := by rw [hm2.1]; exact f1
  have f3 : tR S8 a0 1 = some b2 := by rw [hm2.R]; exact f3
  have f5 : te S8 b2 = some (.inl (.object "SealedWire$Bytes", n4)) := by rw [hm2.1]; exact f5
  have f7 : te S8 b6 = some (.inr 0) := by rw [hm2.1]; exact f7
  refine tt_iconst (n := 0) (v := 0) (by decide +kernel) (by decide) ?_
  exact tt_iret (by decide +kernel) rfl ⟨hm, h⟩
set_option maxRecDepth 100000 in
theorem v_Store_removeAt {G : pG} (a0 : Nat) (x1 : Int32) (S : TS) (Q : Option Value → TS → Prop)
    (h : te S a0 = some (.inr 7) ∧ ∀ S2 : TS, S2 = sI S a0 (upd (tI S a0) 2 ((tI S a0 2) - (1 : Int32))) → ∃ b3 : Nat, tR S2 a0 0 = some b3 ∧ ∃ n5 : Nat, te S2 b3 = some (.inl (.object "SealedWire$Bytes", n5)) ∧ vp_in x1 n5 ∧ ∃ b7 : Nat, tR S2 b3 x1.toNatClampNeg = some b7 ∧ ∃ b8 : Nat, tR S2 a0 1 = some b8 ∧ ∃ n10 : Nat, te S2 b8 = some (.inl (.object "SealedWire$Bytes", n10)) ∧ vp_in x1 n10 ∧ ∃ b12 : Nat, tR S2 b8 x1.toNatClampNeg = some b12 ∧ vp_in (tI S2 a0 2) n5 ∧ ∃ b13 : Nat, tR S2 b3 (tI S2 a0 2).toNatClampNeg = some b13 ∧ te S2 b13 = some (.inr 0) ∧ vp_in x1 n5 ∧ ∀ S15 : TS, S15 = sR S2 b3 (va_up (tR S2 b3) x1.toNatClampNeg (some b13)) → ∃ b16 : Nat, tR S15 a0 1 = some b16 ∧ ∃ n18 : Nat, te S15 b16 = some (.inl (.object "SealedWire$Bytes", n18)) ∧ vp_in (tI S15 a0 2) n18 ∧ ∃ b20 : Nat, tR S15 b16 (tI S15 a0 2).toNatClampNeg = some b20 ∧ te S15 b20 = some (.inr 0) ∧ vp_in x1 n18 ∧ ∀ S22 : TS, S22 = sR S15 b16 (va_up (tR S15 b16) x1.toNatClampNeg (some b20)) → ∃ b23 : Nat, tR S22 a0 0 = some b23 ∧ ∃ n25 : Nat, te S22 b23 = some (.inl (.object "SealedWire$Bytes", n25)) ∧ te S22 b7 = some (.inr 0) ∧ vp_in (tI S22 a0 2) n25 ∧ ∀ S28 : TS, S28 = sR S22 b23 (va_up (tR S22 b23) (tI S22 a0 2).toNatClampNeg (some b7)) → ∃ b29 : Nat, tR S28 a0 1 = some b29 ∧ ∃ n31 : Nat, te S28 b29 = some (.inl (.object "SealedWire$Bytes", n31)) ∧ te S28 b12 = some (.inr 0) ∧ vp_in (tI S28 a0 2) n31 ∧ ∀ S34 : TS, S34 = sR S28 b29 (va_up (tR S28 b29) (tI S28 a0 2).toNatClampNeg (some b12)) → Q (some (.int 0)) S34) :
    C1 G J_Store_removeAt [.ref a0, .int x1] S Q := by
  unfold C1
  refine ct_of (by decide +kernel) (Nat.le_of_ble_eq_true rfl) (lv := [(0, .ref a0), (1, .int x1)]) rfl ?_
  have hm : Sm1 S S := Sm1.rf S
  refine tt_aload_n (k0 := 0) (by decide +kernel) rfl ?_
  refine tt_dup (by decide +kernel) rfl ?_
  obtain ⟨f1, h⟩ := h
  refine tt_getI (k := 2) (by decide +kernel) KC_7 (by decide) w_119 (fun _ => rfl) f1 ?_
  refine tt_iconst (n := 1) (v := 1) (by decide +kernel) (by decide) ?_
  refine tt_isub (by decide +kernel) ?_
  refine tt_putI (k := 2) (by decide +kernel) KC_7 (by decide) w_119 rfl rfl f1 ?_
  generalize eS2 : sI S a0 (upd (tI S a0) 2 ((tI S a0 2) - (1 : Int32))) = S2
  have h := h S2 eS2.symm
  have hm : Sm1 S S2 := by rw [← eS2]; exact hm.I
  have f1 : te S2 a0 = some (.inr 7) := by rw [← eS2, te_sI]; exact f1
  refine tt_aload_n (k0 := 0) (by decide +kernel) rfl ?_
  obtain ⟨b3, f4, h⟩ := h
  refine tt_getR (k := 0) (by decide +kernel) KC_7 (by decide) w_117 (fun _ => rfl) f1 f4 ?_
  refine tt_iload_n (k0 := 1) (by decide +kernel) rfl ?_
  obtain ⟨n5, f6, h⟩ := h
  obtain ⟨g2, b7, g3, h⟩ := h
  refine tt_aald (by decide +kernel) f6 g2 g3 ?_
  refine tt_astore_n (k0 := 2) (lv' := [(0, .ref a0), (1, .int x1), (2, .ref b7)]) (by decide +kernel) (by decide) rfl ?_
  refine tt_aload_n (k0 := 0) (by decide +kernel) rfl ?_
  obtain ⟨b8, f9, h⟩ := h
  refine tt_getR (k := 1) (by decide +kernel) KC_7 (by decide) w_118 (fun _ => rfl) f1 f9 ?_
  refine tt_iload_n (k0 := 1) (by decide +kernel) rfl ?_
  obtain ⟨n10, f11, h⟩ := h
  obtain ⟨g2, b12, g3, h⟩ := h
  refine tt_aald (by decide +kernel) f11 g2 g3 ?_
  refine tt_astore_n (k0 := 3) (lv' := [(0, .ref a0), (1, .int x1), (2, .ref b7), (3, .ref b12)]) (by decide +kernel) (by decide) rfl ?_
  refine tt_aload_n (k0 := 0) (by decide +kernel) rfl ?_
  refine tt_getR (k := 0) (by decide +kernel) KC_7 (by decide) w_117 (fun _ => rfl) f1 f4 ?_
  refine tt_iload_n (k0 := 1) (by decide +kernel) rfl ?_
  refine tt_aload_n (k0 := 0) (by decide +kernel) rfl ?_
  refine tt_getR (k := 0) (by decide +kernel) KC_7 (by decide) w_117 (fun _ => rfl) f1 f4 ?_
  refine tt_aload_n (k0 := 0) (by decide +kernel) rfl ?_
  refine tt_getI (k := 2) (by decide +kernel) KC_7 (by decide) w_119 (fun _ => rfl) f1 ?_
  obtain ⟨g2, b13, g3, h⟩ := h
  refine tt_aald (by decide +kernel) f6 g2 g3 ?_
  obtain ⟨f14, h⟩ := h
  obtain ⟨g3, h⟩ := h
  refine tt_aast (r := (R_0, F_0, 2)) (ci := 0) (by decide +kernel) f6 rfl f14 g3 ?_
  generalize eS15 : sR S2 b3 (va_up (tR S2 b3) x1.toNatClampNeg (some b13)) = S15
  have h := h S15 eS15.symm
  have hm : Sm1 S S15 := by rw [← eS15]; exact hm.Rr
  have f1 : te S15 a0 = some (.inr 7) := by rw [← eS15, te_sR]; exact f1
  have f6 : te S15 b3 = some (.inl (.object "SealedWire$Bytes", n5)) := by rw [← eS15, te_sR]; exact f6
  have f11 : te S15 b8 = some (.inl (.object "SealedWire$Bytes", n10)) := by rw [← eS15, te_sR]; exact f11
  have f14 : te S15 b13 = some (.inr 0) := by rw [← eS15, te_sR]; exact f14
  refine tt_aload_n (k0 := 0) (by decide +kernel) rfl ?_
  obtain ⟨b16, f17, h⟩ := h
  refine tt_getR (k := 1) (by decide +kernel) KC_7 (by decide) w_118 (fun _ => rfl) f1 f17 ?_
  refine tt_iload_n (k0 := 1) (by decide +kernel) rfl ?_
  refine tt_aload_n (k0 := 0) (by decide +kernel) rfl ?_
  refine tt_getR (k := 1) (by decide +kernel) KC_7 (by decide) w_118 (fun _ => rfl) f1 f17 ?_
  refine tt_aload_n (k0 := 0) (by decide +kernel) rfl ?_
  refine tt_getI (k := 2) (by decide +kernel) KC_7 (by decide) w_119 (fun _ => rfl) f1 ?_
  obtain ⟨n18, f19, h⟩ := h
  obtain ⟨g2, b20, g3, h⟩ := h
  refine tt_aald (by decide +kernel) f19 g2 g3 ?_
  obtain ⟨f21, h⟩ := h
  obtain ⟨g3, h⟩ := h
  refine tt_aast (r := (R_0, F_0, 2)) (ci := 0) (by decide +kernel) f19 rfl f21 g3 ?_
  generalize eS22 : sR S15 b16 (va_up (tR S15 b16) x1.toNatClampNeg (some b20)) = S22
  have h := h S22 eS22.symm
  have hm : Sm1 S S22 := by rw [← eS22]; exact hm.Rr
  have f1 : te S22 a0 = some (.inr 7) := by rw [← eS22, te_sR]; exact f1
  have f6 : te S22 b3 = some (.inl (.object "SealedWire$Bytes", n5)) := by rw [← eS22, te_sR]; exact f6
  have f11 : te S22 b8 = some (.inl (.object "SealedWire$Bytes", n10)) := by rw [← eS22, te_sR]; exact f11
  have f14 : te S22 b13 = some (.inr 0) := by rw [← eS22, te_sR]; exact f14
  have f19 : te S22 b16 = some (.inl (.object "SealedWire$Bytes", n18)) := by rw [← eS22, te_sR]; exact f19
  have f21 : te S22 b20 = some (.inr 0) := by rw [← eS22, te_sR]; exact f21
  refine tt_aload_n (k0 := 0) (by decide +kernel) rfl ?_
  obtain ⟨b23, f24, h⟩ := h
  refine tt_getR (k := 0) (by decide +kernel) KC_7 (by decide) w_117 (fun _ => rfl) f1 f24 ?_
  refine tt_aload_n (k0 := 0) (by decide +kernel) rfl ?_
  refine tt_getI (k := 2) (by decide +kernel) KC_7 (by decide) w_119 (fun _ => rfl) f1 ?_
  refine tt_aload_n (k0 := 2) (by decide +kernel) rfl ?_
  obtain ⟨n25, f26, h⟩ := h
  obtain ⟨f27, h⟩ := h
  obtain ⟨g3, h⟩ := h
  refine tt_aast (r := (R_0, F_0, 2)) (ci := 0) (by decide +kernel) f26 rfl f27 g3 ?_
  generalize eS28 : sR S22 b23 (va_up (tR S22 b23) (tI S22 a0 2).toNatClampNeg (some b7)) = S28
  have h := h S28 eS28.symm
  have hm : Sm1 S S28 := by rw [← eS28]; exact hm.Rr
  have f1 : te S28 a0 = some (.inr 7) := by rw [← eS28, te_sR]; exact f1
  have f6 : te S28 b3 = some (.inl (.object "SealedWire$Bytes", n5)) := by rw [← eS28, te_sR]; exact f6
  have f11 : te S28 b8 = some (.inl (.object "SealedWire$Bytes", n10)) := by rw [← eS28, te_sR]; exact f11
  have f14 : te S28 b13 = some (.inr 0) := by rw [← eS28, te_sR]; exact f14
  have f19 : te S28 b16 = some (.inl (.object "SealedWire$Bytes", n18)) := by rw [← eS28, te_sR]; exact f19
  have f21 : te S28 b20 = some (.inr 0) := by rw [← eS28, te_sR]; exact f21
  have f26 : te S28 b23 = some (.inl (.object "SealedWire$Bytes", n25)) := by rw [← eS28, te_sR]; exact f26
  have f27 : te S28 b7 = some (.inr 0) := by rw [← eS28, te_sR]; exact f27
  refine tt_aload_n (k0 := 0) (by decide +kernel) rfl ?_
  obtain ⟨b29, f30, h⟩ := h
  refine tt_getR (k := 1) (by decide +kernel) KC_7 (by decide) w_118 (fun _ => rfl) f1 f30 ?_
  refine tt_aload_n (k0 := 0) (by decide +kernel) rfl ?_
  refine tt_getI (k := 2) (by decide +kernel) KC_7 (by decide) w_119 (fun _ => rfl) f1 ?_
  refine tt_aload_n (k0 := 3) (by decide +kernel) rfl ?_
  obtain ⟨n31, f32, h⟩ := h
  obtain ⟨f33, h⟩ := h
  obtain ⟨g3, h⟩ := h
  refine tt_aast (r := (R_0, F_0, 2)) (ci := 0) (by decide +kernel) f32 rfl f33 g3 ?_
  generalize eS34 : sR S28 b29 (va_up (tR S28 b29) (tI S28 a0 2).toNatClampNeg (some b12)) = S34
  have h := h S34 eS34.symm
  have hm : Sm1 S S34 := by rw [← eS34]; exact hm.Rr
  have f1 : te S34 a0 = some (.inr 7) := by rw [← eS34, te_sR]; exact f1
  have f6 : te S34 b3 = some (.inl (.object "SealedWire$Bytes", n5)) := by rw [← eS34, te_sR]; exact f6
  have f11 : te S34 b8 = some (.inl (.object "SealedWire$Bytes", n10)) := by rw [← eS34, te_sR]; exact f11
  have f14 : te S34 b13 = some (.inr 0) := by rw [← eS34, te_sR]; exact f14
  have f19 : te S34 b16 = some (.inl (.object "SealedWire$Bytes", n18)) := by rw [← eS34, te_sR]; exact f19
  have f21 : te S34 b20 = some (.inr 0) := by rw [← eS34, te_sR]; exact f21
  have f26 : te S34 b23 = some (.inl (.object "SealedWire$Bytes", n25)) := by rw [← eS34, te_sR]; exact f26
  have f27 : te S34 b7 = some (.inr 0) := by rw [← eS34, te_sR]; exact f27
  have f32 : te S34 b29 = some (.inl (.object "SealedWire$Bytes", n31)) := by rw [← eS34, te_sR]; exact f32
  have f33 : te S34 b12 = some (.inr 0) := by rw [← eS34, te_sR]; exact f33
  refine tt_iconst (n := 0) (v := 0) (by decide +kernel) (by decide) ?_
  exact tt_iret (by decide +kernel) rfl ⟨hm, h⟩
set_option maxRecDepth 100000 in
theorem v_Store_lengthen {G : pG} (a0 : Nat) (x1 : Int32) (a2 : Nat) (S : TS) (Q : Option Value → TS → Prop)
    (h : te S a0 = some (.inr 7) ∧ ∃ b2 : Nat, tR S a0 1 = some b2 ∧ ∃ n4 : Nat, te S b2 = some (.inl (.object "SealedWire$Bytes", n4)) ∧ vp_in x1 n4 ∧ ∃ b6 : Nat, tR S b2 x1.toNatClampNeg = some b6 ∧ te S b6 = some (.inr 0) ∧ CP G J_Bytes_size [.ref b6] S (fun r => ∃ r8 : Int32, r = some (.int r8) ∧ te S a2 = some (.inr 0) ∧ CP G J_Bytes_size [.ref a2] S (fun r => ∃ r10 : Int32, r = some (.int r10) ∧ ((r8 + r10 ≤ 64 → vp_in x1 n4 ∧ ∃ b11 : Nat, tR S b2 x1.toNatClampNeg = some b11 ∧ te S b11 = some (.inr 0) ∧ C0 G J_Bytes_putAll [.ref b11, .ref a2] S (fun r S13 => r = none ∧ Q (some (.int 0)) S13)) ∧ (¬ (r8 + r10 ≤ 64) → Q (some (.int 3)) S))))) :
    C0 G J_Store_lengthen [.ref a0, .int x1, .ref a2] S Q := by
  unfold C0
  refine ct_of (by decide +kernel) (Nat.le_of_ble_eq_true rfl) (lv := [(0, .ref a0), (1, .int x1), (2, .ref a2)]) rfl ?_
  have hm : Sm0 S S := Sm0.rf S
  refine tt_aload_n (k0 := 0) (by decide +kernel) rfl ?_
  obtain ⟨f1, h⟩ := h
  obtain ⟨b2, f3, h⟩ := h
  refine tt_getR (k := 1) (by decide +kernel) KC_7 (by decide) w_118 (fun _ => rfl) f1 f3 ?_
  refine tt_iload_n (k0 := 1) (by decide +kernel) rfl ?_
  obtain ⟨n4, f5, h⟩ := h
  obtain ⟨g2, b6, g3, h⟩ := h
  refine tt_aald (by decide +kernel) f5 g2 g3 ?_
  obtain ⟨f7, h⟩ := h
  refine tt_callV (As := []) (rest := []) (ci := 0) (r0 := (R_0, F_0, 2)) (by decide +kernel) LK_Bytes_size w_763 w_299 w_300 (by decide) (by decide) rfl rfl (Nat.le_of_ble_eq_true rfl) rfl rfl f7 (ct_mono h (fun r Sb h => ?_))
  obtain ⟨eb, h⟩ := h
  obtain ⟨r8, rfl, h⟩ := h
  rw [eb]
  show T G J_Store_lengthen 9 [(0, .ref a0), (1, .int x1), (2, .ref a2)] [.int r8] S _
  refine tt_aload_n (k0 := 2) (by decide +kernel) rfl ?_
  obtain ⟨f9, h⟩ := h
  refine tt_callV (As := []) (rest := [.int r8]) (ci := 0) (r0 := (R_0, F_0, 2)) (by decide +kernel) LK_Bytes_size w_763 w_299 w_300 (by decide) (by decide) rfl rfl (Nat.le_of_ble_eq_true rfl) rfl rfl f9 (ct_mono h (fun r Sb h => ?_))
  obtain ⟨eb, h⟩ := h
  obtain ⟨r10, rfl, h⟩ := h
  rw [eb]
  show T G J_Store_lengthen 13 [(0, .ref a0), (1, .int x1), (2, .ref a2)] [.int r10, .int r8] S _
  refine tt_iadd (by decide +kernel) ?_
  refine tt_bipush (n := 64) (v := 64) (by decide +kernel) (by decide) ?_
  refine tt_icmp_le (off := 5) 21 (by decide +kernel) (by decide) (fun c => ?_) (fun c => ?_)
  · have h := h.1 c
    refine tt_aload_n (k0 := 0) (by decide +kernel) rfl ?_
    refine tt_getR (k := 1) (by decide +kernel) KC_7 (by decide) w_118 (fun _ => rfl) f1 f3 ?_
    refine tt_iload_n (k0 := 1) (by decide +kernel) rfl ?_
    obtain ⟨g2, b11, g3, h⟩ := h
    refine tt_aald (by decide +kernel) f5 g2 g3 ?_
    refine tt_aload_n (k0 := 2) (by decide +kernel) rfl ?_
    obtain ⟨f12, h⟩ := h
    refine tt_callV (As := [.ref a2]) (rest := []) (ci := 0) (r0 := (R_0, F_0, 2)) (by decide +kernel) LK_Bytes_putAll w_741 w_447 w_448 (by decide) (by decide) rfl rfl (Nat.le_of_ble_eq_true rfl) rfl rfl f12 (ct_mono h (fun r S13 h => ?_))
    obtain ⟨hm2, h⟩ := h
    obtain ⟨rfl, h⟩ := h
    show T G J_Store_lengthen 31 [(0, .ref a0), (1, .int x1), (2, .ref a2)] [] S13 _
    have hm := hm.tr hm2
    have f1 : te S13 a0 = some (.inr 7) := by rw [hm2.1]; exact f1
    have f3 : tR S13 a0 1 = some b2 := by rw [hm2.R]; exact f3
    have f5 : te S13 b2 = some (.inl (.object "SealedWire$Bytes", n4)) := by rw [hm2.1]; exact f5
    have f7 : te S13 b6 = some (.inr 0) := by rw [hm2.1]; exact f7
    have f9 : te S13 a2 = some (.inr 0) := by rw [hm2.1]; exact f9
    have f12 : te S13 b11 = some (.inr 0) := by rw [hm2.1]; exact f12
    refine tt_iconst (n := 0) (v := 0) (by decide +kernel) (by decide) ?_
    exact tt_iret (by decide +kernel) rfl ⟨hm, h⟩
  · have h := h.2 c
    refine tt_iconst (n := 3) (v := 3) (by decide +kernel) (by decide) ?_
    exact tt_iret (by decide +kernel) rfl ⟨hm, h⟩
set_option maxRecDepth 100000 in
theorem v_Wire_remove {G : pG} (a0 : Nat) (x1 : Int32) (S : TS) (Q : Option Value → TS → Prop)
    (h : te S a0 = some (.inr 9) ∧ CP G J_Wire_has [.ref a0, .int x1] S (fun r => ∃ r2 : Int32, r = some (.int r2) ∧ ((¬ r2 = 0 → ∃ b3 : Nat, tR S a0 0 = some b3 ∧ ∃ n5 : Nat, te S b3 = some (.inl (.object "SealedWire$Bytes", n5)) ∧ vp_in x1 n5 ∧ ∃ b7 : Nat, tR S b3 x1.toNatClampNeg = some b7 ∧ T1 G J_Wire_remove 18 [(0, .ref a0), (1, .int x1), (2, .ref b7), (3, .int x1)] [] S Q) ∧ (r2 = 0 → Q none S)))) :
    C1 G J_Wire_remove [.ref a0, .int x1] S Q := by
  unfold C1
  refine ct_of (by decide +kernel) (Nat.le_of_ble_eq_true rfl) (lv := [(0, .ref a0), (1, .int x1)]) rfl ?_
  have hm : Sm1 S S := Sm1.rf S
  refine tt_aload_n (k0 := 0) (by decide +kernel) rfl ?_
  refine tt_iload_n (k0 := 1) (by decide +kernel) rfl ?_
  obtain ⟨f1, h⟩ := h
  refine tt_callV (As := [.int x1]) (rest := []) (ci := 9) (r0 := (R_9, F_9, 2)) (by decide +kernel) LK_Wire_has w_649 w_642 w_643 (by decide) (by decide) rfl rfl (Nat.le_of_ble_eq_true rfl) rfl rfl f1 (ct_mono h (fun r Sb h => ?_))
  obtain ⟨eb, h⟩ := h
  obtain ⟨r2, rfl, h⟩ := h
  rw [eb]
  show T G J_Wire_remove 5 [(0, .ref a0), (1, .int x1)] [.int r2] S _
  refine tt_if_ne (off := 4) 9 (by decide +kernel) (by decide) (fun c => ?_) (fun c => ?_)
  · have h := h.1 c
    refine tt_aload_n (k0 := 0) (by decide +kernel) rfl ?_
    obtain ⟨b3, f4, h⟩ := h
    refine tt_getR (k := 0) (by decide +kernel) KC_9 (by decide) w_102 (fun _ => rfl) f1 f4 ?_
    refine tt_iload_n (k0 := 1) (by decide +kernel) rfl ?_
    obtain ⟨n5, f6, h⟩ := h
    obtain ⟨g2, b7, g3, h⟩ := h
    refine tt_aald (by decide +kernel) f6 g2 g3 ?_
    refine tt_astore_n (k0 := 2) (lv' := [(0, .ref a0), (1, .int x1), (2, .ref b7)]) (by decide +kernel) (by decide) rfl ?_
    refine tt_iload_n (k0 := 1) (by decide +kernel) rfl ?_
    refine tt_istore_n (k0 := 3) (lv' := [(0, .ref a0), (1, .int x1), (2, .ref b7), (3, .int x1)]) (by decide +kernel) (by decide) rfl ?_
    exact tt_mono h (fun r S' q => ⟨hm.tr q.1, q.2⟩)
  · have h := h.2 c
    exact tt_vret (by decide +kernel) rfl ⟨hm, h⟩
set_option maxRecDepth 100000 in
theorem v_Wire_remove_18 {G : pG} (a0 : Nat) (x1 : Int32) (a2 : Nat) (x3 : Int32) (S : TS) (Q : Option Value → TS → Prop)
    (h : te S a0 = some (.inr 9) ∧ (((tI S a0 1) - (1 : Int32) ≤ x3 → ∀ S2 : TS, S2 = sI S a0 (upd (tI S a0) 1 ((tI S a0 1) - (1 : Int32))) → ∃ b3 : Nat, tR S2 a0 0 = some b3 ∧ ∃ n5 : Nat, te S2 b3 = some (.inl (.object "SealedWire$Bytes", n5)) ∧ te S2 a2 = some (.inr 0) ∧ vp_in (tI S2 a0 1) n5 ∧ ∀ S8 : TS, S8 = sR S2 b3 (va_up (tR S2 b3) (tI S2 a0 1).toNatClampNeg (some a2)) → Q none S8) ∧ (¬ ((tI S a0 1) - (1 : Int32) ≤ x3) → ∃ b9 : Nat, tR S a0 0 = some b9 ∧ ∃ n11 : Nat, te S b9 = some (.inl (.object "SealedWire$Bytes", n11)) ∧ vp_in (x3 + (1 : Int32)) n11 ∧ ∃ b13 : Nat, tR S b9 (x3 + (1 : Int32)).toNatClampNeg = some b13 ∧ te S b13 = some (.inr 0) ∧ vp_in x3 n11 ∧ ∀ S15 : TS, S15 = sR S b9 (va_up (tR S b9) x3.toNatClampNeg (some b13)) → ∀ y16 : Int32, y16 = x3 + 1 → T1 G J_Wire_remove 18 [(0, .ref a0), (1, .int x1), (2, .ref a2), (3, .int y16)] [] S15 Q))) :
    T1 G J_Wire_remove 18 [(0, .ref a0), (1, .int x1), (2, .ref a2), (3, .int x3)] [] S Q := by
  unfold T1
  have hm : Sm1 S S := Sm1.rf S
  refine tt_iload_n (k0 := 3) (by decide +kernel) rfl ?_
  refine tt_aload_n (k0 := 0) (by decide +kernel) rfl ?_
  obtain ⟨f1, h⟩ := h
  refine tt_getI (k := 1) (by decide +kernel) KC_9 (by decide) w_103 (fun _ => rfl) f1 ?_
  refine tt_iconst (n := 1) (v := 1) (by decide +kernel) (by decide) ?_
  refine tt_isub (by decide +kernel) ?_
  refine tt_icmp_ge (off := 23) 48 (by decide +kernel) (by decide) (fun c => ?_) (fun c => ?_)
  · have h := h.1 c
    refine tt_aload_n (k0 := 0) (by decide +kernel) rfl ?_
    refine tt_dup (by decide +kernel) rfl ?_
    refine tt_getI (k := 1) (by decide +kernel) KC_9 (by decide) w_103 (fun _ => rfl) f1 ?_
    refine tt_iconst (n := 1) (v := 1) (by decide +kernel) (by decide) ?_
    refine tt_isub (by decide +kernel) ?_
    refine tt_putI (k := 1) (by decide +kernel) KC_9 (by decide) w_103 rfl rfl f1 ?_
    generalize eS2 : sI S a0 (upd (tI S a0) 1 ((tI S a0 1) - (1 : Int32))) = S2
    have h := h S2 eS2.symm
    have hm : Sm1 S S2 := by rw [← eS2]; exact hm.I
    have f1 : te S2 a0 = some (.inr 9) := by rw [← eS2, te_sI]; exact f1
    refine tt_aload_n (k0 := 0) (by decide +kernel) rfl ?_
    obtain ⟨b3, f4, h⟩ := h
    refine tt_getR (k := 0) (by decide +kernel) KC_9 (by decide) w_102 (fun _ => rfl) f1 f4 ?_
    refine tt_aload_n (k0 := 0) (by decide +kernel) rfl ?_
    refine tt_getI (k := 1) (by decide +kernel) KC_9 (by decide) w_103 (fun _ => rfl) f1 ?_
    refine tt_aload_n (k0 := 2) (by decide +kernel) rfl ?_
    obtain ⟨n5, f6, h⟩ := h
    obtain ⟨f7, h⟩ := h
    obtain ⟨g3, h⟩ := h
    refine tt_aast (r := (R_0, F_0, 2)) (ci := 0) (by decide +kernel) f6 rfl f7 g3 ?_
    generalize eS8 : sR S2 b3 (va_up (tR S2 b3) (tI S2 a0 1).toNatClampNeg (some a2)) = S8
    have h := h S8 eS8.symm
    have hm : Sm1 S S8 := by rw [← eS8]; exact hm.Rr
    have f1 : te S8 a0 = some (.inr 9) := by rw [← eS8, te_sR]; exact f1
    have f6 : te S8 b3 = some (.inl (.object "SealedWire$Bytes", n5)) := by rw [← eS8, te_sR]; exact f6
    have f7 : te S8 a2 = some (.inr 0) := by rw [← eS8, te_sR]; exact f7
    exact tt_vret (by decide +kernel) rfl ⟨hm, h⟩
  · have h := h.2 c
    refine tt_aload_n (k0 := 0) (by decide +kernel) rfl ?_
    obtain ⟨b9, f10, h⟩ := h
    refine tt_getR (k := 0) (by decide +kernel) KC_9 (by decide) w_102 (fun _ => rfl) f1 f10 ?_
    refine tt_iload_n (k0 := 3) (by decide +kernel) rfl ?_
    refine tt_aload_n (k0 := 0) (by decide +kernel) rfl ?_
    refine tt_getR (k := 0) (by decide +kernel) KC_9 (by decide) w_102 (fun _ => rfl) f1 f10 ?_
    refine tt_iload_n (k0 := 3) (by decide +kernel) rfl ?_
    refine tt_iconst (n := 1) (v := 1) (by decide +kernel) (by decide) ?_
    refine tt_iadd (by decide +kernel) ?_
    obtain ⟨n11, f12, h⟩ := h
    obtain ⟨g2, b13, g3, h⟩ := h
    refine tt_aald (by decide +kernel) f12 g2 g3 ?_
    obtain ⟨f14, h⟩ := h
    obtain ⟨g3, h⟩ := h
    refine tt_aast (r := (R_0, F_0, 2)) (ci := 0) (by decide +kernel) f12 rfl f14 g3 ?_
    generalize eS15 : sR S b9 (va_up (tR S b9) x3.toNatClampNeg (some b13)) = S15
    have h := h S15 eS15.symm
    have hm : Sm1 S S15 := by rw [← eS15]; exact hm.Rr
    have f1 : te S15 a0 = some (.inr 9) := by rw [← eS15, te_sR]; exact f1
    have f12 : te S15 b9 = some (.inl (.object "SealedWire$Bytes", n11)) := by rw [← eS15, te_sR]; exact f12
    have f14 : te S15 b13 = some (.inr 0) := by rw [← eS15, te_sR]; exact f14
    obtain ⟨y16, ey16⟩ : ∃ y : Int32, y = x3 + 1 := ⟨_, rfl⟩
    have h := h y16 ey16
    refine tt_iinc (i := 3) (n := 1) (v := y16) (lv' := [(0, .ref a0), (1, .int x1), (2, .ref a2), (3, .int y16)]) (by decide +kernel) (by decide) rfl ey16.symm rfl ?_
    refine tt_goto (off := -27) (tgt := 18) (by decide +kernel) (by decide) ?_
    exact tt_mono h (fun r S' q => ⟨hm.tr q.1, q.2⟩)
set_option maxRecDepth 100000 in
theorem v_Wire_size {G : pG} (a0 : Nat) (S : TS) (Q : Option Value → Prop)
    (h : te S a0 = some (.inr 9) ∧ Q (some (.int (tI S a0 1)))) :
    CP G J_Wire_size [.ref a0] S Q := by
  unfold CP
  refine ct_of (by decide +kernel) (Nat.le_of_ble_eq_true rfl) (lv := [(0, .ref a0)]) rfl ?_
  refine tt_aload_n (k0 := 0) (by decide +kernel) rfl ?_
  obtain ⟨f1, h⟩ := h
  refine tt_getI (k := 1) (by decide +kernel) KC_9 (by decide) w_103 (fun _ => rfl) f1 ?_
  exact tt_iret (by decide +kernel) rfl ⟨rfl, h⟩
set_option maxRecDepth 100000 in
theorem v_Wire_bringFirst {G : pG} (a0 : Nat) (x1 : Int32) (S : TS) (Q : Option Value → TS → Prop)
    (h : te S a0 = some (.inr 9) ∧ CP G J_Wire_has [.ref a0, .int x1] S (fun r => ∃ r2 : Int32, r = some (.int r2) ∧ ((¬ r2 = 0 → ∃ b3 : Nat, tR S a0 0 = some b3 ∧ ∃ n5 : Nat, te S b3 = some (.inl (.object "SealedWire$Bytes", n5)) ∧ vp_in x1 n5 ∧ ∃ b7 : Nat, tR S b3 x1.toNatClampNeg = some b7 ∧ T1 G J_Wire_bringFirst 18 [(0, .ref a0), (1, .int x1), (2, .ref b7), (3, .int x1)] [] S Q) ∧ (r2 = 0 → Q none S)))) :
    C1 G J_Wire_bringFirst [.ref a0, .int x1] S Q := by
  unfold C1
  refine ct_of (by decide +kernel) (Nat.le_of_ble_eq_true rfl) (lv := [(0, .ref a0), (1, .int x1)]) rfl ?_
  have hm : Sm1 S S := Sm1.rf S
  refine tt_aload_n (k0 := 0) (by decide +kernel) rfl ?_
  refine tt_iload_n (k0 := 1) (by decide +kernel) rfl ?_
  obtain ⟨f1, h⟩ := h
  refine tt_callV (As := [.int x1]) (rest := []) (ci := 9) (r0 := (R_9, F_9, 2)) (by decide +kernel) LK_Wire_has w_649 w_642 w_643 (by decide) (by decide) rfl rfl (Nat.le_of_ble_eq_true rfl) rfl rfl f1 (ct_mono h (fun r Sb h => ?_))
  obtain ⟨eb, h⟩ := h
  obtain ⟨r2, rfl, h⟩ := h
  rw [eb]
  show T G J_Wire_bringFirst 5 [(0, .ref a0), (1, .int x1)] [.int r2] S _
  refine tt_if_ne (off := 4) 9 (by decide +kernel) (by decide) (fun c => ?_) (fun c => ?_)
  · have h := h.1 c
    refine tt_aload_n (k0 := 0) (by decide +kernel) rfl ?_
    obtain ⟨b3, f4, h⟩ := h
    refine tt_getR (k := 0) (by decide +kernel) KC_9 (by decide) w_102 (fun _ => rfl) f1 f4 ?_
    refine tt_iload_n (k0 := 1) (by decide +kernel) rfl ?_
    obtain ⟨n5, f6, h⟩ := h
    obtain ⟨g2, b7, g3, h⟩ := h
    refine tt_aald (by decide +kernel) f6 g2 g3 ?_
    refine tt_astore_n (k0 := 2) (lv' := [(0, .ref a0), (1, .int x1), (2, .ref b7)]) (by decide +kernel) (by decide) rfl ?_
    refine tt_iload_n (k0 := 1) (by decide +kernel) rfl ?_
    refine tt_istore_n (k0 := 3) (lv' := [(0, .ref a0), (1, .int x1), (2, .ref b7), (3, .int x1)]) (by decide +kernel) (by decide) rfl ?_
    exact tt_mono h (fun r S' q => ⟨hm.tr q.1, q.2⟩)
  · have h := h.2 c
    exact tt_vret (by decide +kernel) rfl ⟨hm, h⟩
set_option maxRecDepth 100000 in
theorem v_Wire_bringFirst_18 {G : pG} (a0 : Nat) (x1 : Int32) (a2 : Nat) (x3 : Int32) (S : TS) (Q : Option Value → TS → Prop)
    (h : ((x3 ≤ 0 → te S a0 = some (.inr 9) ∧ ∃ b2 : Nat, tR S a0 0 = some b2 ∧ ∃ n4 : Nat, te S b2 = some (.inl (.object "SealedWire$Bytes", n4)) ∧ te S a2 = some (.inr 0) ∧ vp_in 0 n4 ∧ ∀ S7 : TS, S7 = sR S b2 (va_up (tR S b2) 0 (some a2)) → Q none S7) ∧ (¬ (x3 ≤ 0) → te S a0 = some (.inr 9) ∧ ∃ b9 : Nat, tR S a0 0 = some b9 ∧ ∃ n11 : Nat, te S b9 = some (.inl (.object "SealedWire$Bytes", n11)) ∧ vp_in (x3 - (1 : Int32)) n11 ∧ ∃ b13 : Nat, tR S b9 (x3 - (1 : Int32)).toNatClampNeg = some b13 ∧ te S b13 = some (.inr 0) ∧ vp_in x3 n11 ∧ ∀ S15 : TS, S15 = sR S b9 (va_up (tR S b9) x3.toNatClampNeg (some b13)) → ∀ y16 : Int32, y16 = x3 + (-1) → T1 G J_Wire_bringFirst 18 [(0, .ref a0), (1, .int x1), (2, .ref a2), (3, .int y16)] [] S15 Q))) :
    T1 G J_Wire_bringFirst 18 [(0, .ref a0), (1, .int x1), (2, .ref a2), (3, .int x3)] [] S Q := by
  unfold T1
  have hm : Sm1 S S := Sm1.rf S
  refine tt_iload_n (k0 := 3) (by decide +kernel) rfl ?_
  refine tt_if_le (off := 23) 42 (by decide +kernel) (by decide) (fun c => ?_) (fun c => ?_)
  · have h := h.1 c
    refine tt_aload_n (k0 := 0) (by decide +kernel) rfl ?_
    obtain ⟨f1, h⟩ := h
    obtain ⟨b2, f3, h⟩ := h
    refine tt_getR (k := 0) (by decide +kernel) KC_9 (by decide) w_102 (fun _ => rfl) f1 f3 ?_
    refine tt_iconst (n := 0) (v := 0) (by decide +kernel) (by decide) ?_
    refine tt_aload_n (k0 := 2) (by decide +kernel) rfl ?_
    obtain ⟨n4, f5, h⟩ := h
    obtain ⟨f6, h⟩ := h
    obtain ⟨g3, h⟩ := h
    refine tt_aast (r := (R_0, F_0, 2)) (ci := 0) (by decide +kernel) f5 rfl f6 g3 ?_
    show T G J_Wire_bringFirst 49 [(0, .ref a0), (1, .int x1), (2, .ref a2), (3, .int x3)] [] (sR S b2 (va_up (tR S b2) 0 (some a2))) _
    generalize eS7 : sR S b2 (va_up (tR S b2) 0 (some a2)) = S7
    have h := h S7 eS7.symm
    have hm : Sm1 S S7 := by rw [← eS7]; exact hm.Rr
    have f1 : te S7 a0 = some (.inr 9) := by rw [← eS7, te_sR]; exact f1
    have f5 : te S7 b2 = some (.inl (.object "SealedWire$Bytes", n4)) := by rw [← eS7, te_sR]; exact f5
    have f6 : te S7 a2 = some (.inr 0) := by rw [← eS7, te_sR]; exact f6
    exact tt_vret (by decide +kernel) rfl ⟨hm, h⟩
  · have h := h.2 c
    refine tt_aload_n (k0 := 0) (by decide +kernel) rfl ?_
    obtain ⟨f8, h⟩ := h
    obtain ⟨b9, f10, h⟩ := h
    refine tt_getR (k := 0) (by decide +kernel) KC_9 (by decide) w_102 (fun _ => rfl) f8 f10 ?_
    refine tt_iload_n (k0 := 3) (by decide +kernel) rfl ?_
    refine tt_aload_n (k0 := 0) (by decide +kernel) rfl ?_
    refine tt_getR (k := 0) (by decide +kernel) KC_9 (by decide) w_102 (fun _ => rfl) f8 f10 ?_
    refine tt_iload_n (k0 := 3) (by decide +kernel) rfl ?_
    refine tt_iconst (n := 1) (v := 1) (by decide +kernel) (by decide) ?_
    refine tt_isub (by decide +kernel) ?_
    obtain ⟨n11, f12, h⟩ := h
    obtain ⟨g2, b13, g3, h⟩ := h
    refine tt_aald (by decide +kernel) f12 g2 g3 ?_
    obtain ⟨f14, h⟩ := h
    obtain ⟨g3, h⟩ := h
    refine tt_aast (r := (R_0, F_0, 2)) (ci := 0) (by decide +kernel) f12 rfl f14 g3 ?_
    generalize eS15 : sR S b9 (va_up (tR S b9) x3.toNatClampNeg (some b13)) = S15
    have h := h S15 eS15.symm
    have hm : Sm1 S S15 := by rw [← eS15]; exact hm.Rr
    have f8 : te S15 a0 = some (.inr 9) := by rw [← eS15, te_sR]; exact f8
    have f12 : te S15 b9 = some (.inl (.object "SealedWire$Bytes", n11)) := by rw [← eS15, te_sR]; exact f12
    have f14 : te S15 b13 = some (.inr 0) := by rw [← eS15, te_sR]; exact f14
    obtain ⟨y16, ey16⟩ : ∃ y : Int32, y = x3 + (-1) := ⟨_, rfl⟩
    have h := h y16 ey16
    refine tt_iinc (i := 3) (n := -1) (v := y16) (lv' := [(0, .ref a0), (1, .int x1), (2, .ref a2), (3, .int y16)]) (by decide +kernel) (by decide) rfl (by rw [ey16]; exact congrArg (fun z => x3 + z) (by decide : Int32.ofInt (-1) = (-1))) rfl ?_
    refine tt_goto (off := -21) (tgt := 18) (by decide +kernel) (by decide) ?_
    exact tt_mono h (fun r S' q => ⟨hm.tr q.1, q.2⟩)
set_option maxRecDepth 100000 in
theorem v_Store_valueAt {G : pG} (a0 : Nat) (x1 : Int32) (S : TS) (Q : Option Value → Prop)
    (h : te S a0 = some (.inr 7) ∧ ∃ b2 : Nat, tR S a0 1 = some b2 ∧ ((x1 < 0 → ∃ n4 : Nat, te S b2 = some (.inl (.object "SealedWire$Bytes", n4)) ∧ vp_in 0 n4 ∧ ∃ b6 : Nat, tR S b2 0 = some b6 ∧ Q (some (.ref b6))) ∧ (¬ (x1 < 0) → ((tI S a0 2 ≤ x1 → ∃ n7 : Nat, te S b2 = some (.inl (.object "SealedWire$Bytes", n7)) ∧ vp_in 0 n7 ∧ ∃ b9 : Nat, tR S b2 0 = some b9 ∧ Q (some (.ref b9))) ∧ (¬ (tI S a0 2 ≤ x1) → ∃ n10 : Nat, te S b2 = some (.inl (.object "SealedWire$Bytes", n10)) ∧ vp_in x1 n10 ∧ ∃ b12 : Nat, tR S b2 x1.toNatClampNeg = some b12 ∧ Q (some (.ref b12))))))) :
    CP G J_Store_valueAt [.ref a0, .int x1] S Q := by
  unfold CP
  refine ct_of (by decide +kernel) (Nat.le_of_ble_eq_true rfl) (lv := [(0, .ref a0), (1, .int x1)]) rfl ?_
  refine tt_aload_n (k0 := 0) (by decide +kernel) rfl ?_
  obtain ⟨f1, h⟩ := h
  obtain ⟨b2, f3, h⟩ := h
  refine tt_getR (k := 1) (by decide +kernel) KC_7 (by decide) w_118 (fun _ => rfl) f1 f3 ?_
  refine tt_iload_n (k0 := 1) (by decide +kernel) rfl ?_
  refine tt_if_lt (off := 15) 20 (by decide +kernel) (by decide) (fun c => ?_) (fun c => ?_)
  · have h := h.1 c
    refine tt_iconst (n := 0) (v := 0) (by decide +kernel) (by decide) ?_
    obtain ⟨n4, f5, h⟩ := h
    obtain ⟨g2, b6, g3, h⟩ := h
    refine tt_aald (by decide +kernel) f5 g2 g3 ?_
    exact tt_aret (by decide +kernel) rfl ⟨rfl, h⟩
  · have h := h.2 c
    refine tt_iload_n (k0 := 1) (by decide +kernel) rfl ?_
    refine tt_aload_n (k0 := 0) (by decide +kernel) rfl ?_
    refine tt_getI (k := 2) (by decide +kernel) KC_7 (by decide) w_119 (fun _ => rfl) f1 ?_
    refine tt_icmp_ge (off := 7) 20 (by decide +kernel) (by decide) (fun c => ?_) (fun c => ?_)
    · have h := h.1 c
      refine tt_iconst (n := 0) (v := 0) (by decide +kernel) (by decide) ?_
      obtain ⟨n7, f8, h⟩ := h
      obtain ⟨g2, b9, g3, h⟩ := h
      refine tt_aald (by decide +kernel) f8 g2 g3 ?_
      exact tt_aret (by decide +kernel) rfl ⟨rfl, h⟩
    · have h := h.2 c
      refine tt_iload_n (k0 := 1) (by decide +kernel) rfl ?_
      refine tt_goto (off := 4) (tgt := 21) (by decide +kernel) (by decide) ?_
      obtain ⟨n10, f11, h⟩ := h
      obtain ⟨g2, b12, g3, h⟩ := h
      refine tt_aald (by decide +kernel) f11 g2 g3 ?_
      exact tt_aret (by decide +kernel) rfl ⟨rfl, h⟩
set_option maxRecDepth 100000 in
theorem v_Side_state {G : pG} (a0 : Nat) (S : TS) (Q : Option Value → Prop)
    (h : te S a0 = some (.inr 6) ∧ Q (some (.int (tI S a0 11)))) :
    CP G J_Side_state [.ref a0] S Q := by
  unfold CP
  refine ct_of (by decide +kernel) (Nat.le_of_ble_eq_true rfl) (lv := [(0, .ref a0)]) rfl ?_
  refine tt_aload_n (k0 := 0) (by decide +kernel) rfl ?_
  obtain ⟨f1, h⟩ := h
  refine tt_getI (k := 11) (by decide +kernel) KC_6 (by decide) w_209 (fun _ => rfl) f1 ?_
  exact tt_iret (by decide +kernel) rfl ⟨rfl, h⟩
set_option maxRecDepth 100000 in
theorem v_Side_keysHeld {G : pG} (a0 : Nat) (S : TS) (Q : Option Value → Prop)
    (h : TP G J_Side_keysHeld 4 [(0, .ref a0), (1, .int 0), (2, .int 0)] [] S Q) :
    CP G J_Side_keysHeld [.ref a0] S Q := by
  unfold CP
  refine ct_of (by decide +kernel) (Nat.le_of_ble_eq_true rfl) (lv := [(0, .ref a0)]) rfl ?_
  refine tt_iconst (n := 0) (v := 0) (by decide +kernel) (by decide) ?_
  refine tt_istore_n (k0 := 1) (lv' := [(0, .ref a0), (1, .int 0)]) (by decide +kernel) (by decide) rfl ?_
  refine tt_iconst (n := 0) (v := 0) (by decide +kernel) (by decide) ?_
  refine tt_istore_n (k0 := 2) (lv' := [(0, .ref a0), (1, .int 0), (2, .int 0)]) (by decide +kernel) (by decide) rfl ?_
  exact h
set_option maxRecDepth 100000 in
theorem v_Side_keysHeld_4 {G : pG} (a0 : Nat) (x1 : Int32) (x2 : Int32) (S : TS) (Q : Option Value → Prop)
    (h : ((8 ≤ x2 → Q (some (.int x1))) ∧ (¬ (8 ≤ x2) → te S a0 = some (.inr 6) ∧ CP G J_Side_hasKey [.ref a0, .int x2] S (fun r => ∃ r2 : Int32, r = some (.int r2) ∧ ((r2 = 0 → ∀ y3 : Int32, y3 = x1 + (0 : Int32) → ∀ y4 : Int32, y4 = x2 + 1 → TP G J_Side_keysHeld 4 [(0, .ref a0), (1, .int y3), (2, .int y4)] [] S Q) ∧ (¬ (r2 = 0) → ∀ y5 : Int32, y5 = x1 + (1 : Int32) → ∀ y6 : Int32, y6 = x2 + 1 → TP G J_Side_keysHeld 4 [(0, .ref a0), (1, .int y5), (2, .int y6)] [] S Q)))))) :
    TP G J_Side_keysHeld 4 [(0, .ref a0), (1, .int x1), (2, .int x2)] [] S Q := by
  unfold TP
  refine tt_iload_n (k0 := 2) (by decide +kernel) rfl ?_
  refine tt_bipush (n := 8) (v := 8) (by decide +kernel) (by decide) ?_
  refine tt_icmp_ge (off := 25) 32 (by decide +kernel) (by decide) (fun c => ?_) (fun c => ?_)
  · have h := h.1 c
    refine tt_iload_n (k0 := 1) (by decide +kernel) rfl ?_
    exact tt_iret (by decide +kernel) rfl ⟨rfl, h⟩
  · have h := h.2 c
    refine tt_iload_n (k0 := 1) (by decide +kernel) rfl ?_
    refine tt_aload_n (k0 := 0) (by decide +kernel) rfl ?_
    refine tt_iload_n (k0 := 2) (by decide +kernel) rfl ?_
    obtain ⟨f1, h⟩ := h
    refine tt_callV (As := [.int x2]) (rest := [.int x1]) (ci := 6) (r0 := (R_6, F_6, 13)) (by decide +kernel) LK_Side_hasKey w_843 w_401 w_402 (by decide) (by decide) rfl rfl (Nat.le_of_ble_eq_true rfl) rfl rfl f1 (ct_mono h (fun r Sb h => ?_))
    obtain ⟨eb, h⟩ := h
    obtain ⟨r2, rfl, h⟩ := h
    rw [eb]
    show T G J_Side_keysHeld 16 [(0, .ref a0), (1, .int x1), (2, .int x2)] [.int r2, .int x1] S _
    refine tt_if_eq (off := 7) 23 (by decide +kernel) (by decide) (fun c => ?_) (fun c => ?_)
    · have h := h.1 c
      refine tt_iconst (n := 0) (v := 0) (by decide +kernel) (by decide) ?_
      refine tt_iadd (by decide +kernel) ?_
      refine tt_topi (fun y3 ey3 => ?_)
      have h := h y3 ey3
      refine tt_istore_n (k0 := 1) (lv' := [(0, .ref a0), (1, .int y3), (2, .int x2)]) (by decide +kernel) (by decide) rfl ?_
      obtain ⟨y4, ey4⟩ : ∃ y : Int32, y = x2 + 1 := ⟨_, rfl⟩
      have h := h y4 ey4
      refine tt_iinc (i := 2) (n := 1) (v := y4) (lv' := [(0, .ref a0), (1, .int y3), (2, .int y4)]) (by decide +kernel) (by decide) rfl ey4.symm rfl ?_
      refine tt_goto (off := -25) (tgt := 4) (by decide +kernel) (by decide) ?_
      exact h
    · have h := h.2 c
      refine tt_iconst (n := 1) (v := 1) (by decide +kernel) (by decide) ?_
      refine tt_goto (off := 4) (tgt := 24) (by decide +kernel) (by decide) ?_
      refine tt_iadd (by decide +kernel) ?_
      refine tt_topi (fun y5 ey5 => ?_)
      have h := h y5 ey5
      refine tt_istore_n (k0 := 1) (lv' := [(0, .ref a0), (1, .int y5), (2, .int x2)]) (by decide +kernel) (by decide) rfl ?_
      obtain ⟨y6, ey6⟩ : ∃ y : Int32, y = x2 + 1 := ⟨_, rfl⟩
      have h := h y6 ey6
      refine tt_iinc (i := 2) (n := 1) (v := y6) (lv' := [(0, .ref a0), (1, .int y5), (2, .int y6)]) (by decide +kernel) (by decide) rfl ey6.symm rfl ?_
      refine tt_goto (off := -25) (tgt := 4) (by decide +kernel) (by decide) ?_
      exact h
set_option maxRecDepth 100000 in
theorem v_Side_randomsMade {G : pG} (a0 : Nat) (S : TS) (Q : Option Value → Prop)
    (h : te S a0 = some (.inr 6) ∧ Q (some (.int (tI S a0 12)))) :
    CP G J_Side_randomsMade [.ref a0] S Q := by
  unfold CP
  refine ct_of (by decide +kernel) (Nat.le_of_ble_eq_true rfl) (lv := [(0, .ref a0)]) rfl ?_
  refine tt_aload_n (k0 := 0) (by decide +kernel) rfl ?_
  obtain ⟨f1, h⟩ := h
  refine tt_getI (k := 12) (by decide +kernel) KC_6 (by decide) w_210 (fun _ => rfl) f1 ?_
  exact tt_iret (by decide +kernel) rfl ⟨rfl, h⟩
set_option maxRecDepth 100000 in
theorem v_Store_size {G : pG} (a0 : Nat) (S : TS) (Q : Option Value → Prop)
    (h : te S a0 = some (.inr 7) ∧ Q (some (.int (tI S a0 2)))) :
    CP G J_Store_size [.ref a0] S Q := by
  unfold CP
  refine ct_of (by decide +kernel) (Nat.le_of_ble_eq_true rfl) (lv := [(0, .ref a0)]) rfl ?_
  refine tt_aload_n (k0 := 0) (by decide +kernel) rfl ?_
  obtain ⟨f1, h⟩ := h
  refine tt_getI (k := 2) (by decide +kernel) KC_7 (by decide) w_119 (fun _ => rfl) f1 ?_
  exact tt_iret (by decide +kernel) rfl ⟨rfl, h⟩
