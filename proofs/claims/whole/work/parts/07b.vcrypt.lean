set_option maxRecDepth 100000 in
theorem v_Stream_init {G : pG} (a0 : Nat) (S : TS) (Q : Option Value → TS → Prop)
    (h : ∀ S1 : TS, S1 = sN S (.inl (.int, 16)) 16 → te S1 a0 = some (.inr 8) ∧ ∀ S3 : TS, S3 = sR S1 a0 (va_up (tR S1 a0) 0 (some (tz S))) → ∀ S4 : TS, S4 = sN S3 (.inl (.int, 16)) 16 → te S4 a0 = some (.inr 8) ∧ ∀ S6 : TS, S6 = sR S4 a0 (va_up (tR S4 a0) 1 (some (tz S3))) → Q none S6) :
    CT G J_Stream_init [.ref a0] S Q := by
  refine ct_of (by decide +kernel) (Nat.le_of_ble_eq_true rfl) (lv := [(0, .ref a0)]) rfl ?_
  refine tt_aload_n (k0 := 0) (by decide +kernel) rfl ?_
  refine tt_objInit (by decide +kernel) w_48 w_21 w_22 (by decide) (Nat.le_of_ble_eq_true rfl) ?_
  refine tt_aload_n (k0 := 0) (by decide +kernel) rfl ?_
  refine tt_bipush (n := 16) (v := 16) (by decide +kernel) (by decide) ?_
  refine tt_newarr (at0 := .int) (n := 16) (by decide +kernel) w_36 rfl (by decide) (by decide) (by decide) ?_
  show T G J_Stream_init 9 [(0, .ref a0)] [.ref (tz S), .ref a0] (sN S (.inl (.int, 16)) 16) _
  generalize eS1 : sN S (.inl (.int, 16)) 16 = S1
  have h := h S1 eS1.symm
  obtain ⟨f2, h⟩ := h
  refine tt_putFR (k := 0) (by decide +kernel) KC_8 (by decide) w_49 rfl rfl rfl (Or.inr ⟨_, rfl⟩) f2 ?_
  generalize eS3 : sR S1 a0 (va_up (tR S1 a0) 0 (some (tz S))) = S3
  have h := h S3 eS3.symm
  refine tt_aload_n (k0 := 0) (by decide +kernel) rfl ?_
  refine tt_bipush (n := 16) (v := 16) (by decide +kernel) (by decide) ?_
  refine tt_newarr (at0 := .int) (n := 16) (by decide +kernel) w_36 rfl (by decide) (by decide) (by decide) ?_
  show T G J_Stream_init 17 [(0, .ref a0)] [.ref (tz S3), .ref a0] (sN S3 (.inl (.int, 16)) 16) _
  generalize eS4 : sN S3 (.inl (.int, 16)) 16 = S4
  have h := h S4 eS4.symm
  obtain ⟨f5, h⟩ := h
  refine tt_putFR (k := 1) (by decide +kernel) KC_8 (by decide) w_50 rfl rfl rfl (Or.inr ⟨_, rfl⟩) f5 ?_
  generalize eS6 : sR S4 a0 (va_up (tR S4 a0) 1 (some (tz S3))) = S6
  have h := h S6 eS6.symm
  exact tt_vret (by decide +kernel) rfl h
set_option maxRecDepth 100000 in
theorem v_Poly_init {G : pG} (a0 : Nat) (S : TS) (Q : Option Value → TS → Prop)
    (h : ∀ S1 : TS, S1 = sN S (.inl (.long, 5)) 5 → te S1 a0 = some (.inr 3) ∧ ∀ S3 : TS, S3 = sR S1 a0 (va_up (tR S1 a0) 0 (some (tz S))) → ∀ S4 : TS, S4 = sN S3 (.inl (.long, 5)) 5 → te S4 a0 = some (.inr 3) ∧ ∀ S6 : TS, S6 = sR S4 a0 (va_up (tR S4 a0) 1 (some (tz S3))) → ∀ S7 : TS, S7 = sN S6 (.inl (.long, 5)) 5 → te S7 a0 = some (.inr 3) ∧ ∀ S9 : TS, S9 = sR S7 a0 (va_up (tR S7 a0) 2 (some (tz S6))) → ∀ S10 : TS, S10 = sN S9 (.inl (.int, 4)) 4 → te S10 a0 = some (.inr 3) ∧ ∀ S12 : TS, S12 = sR S10 a0 (va_up (tR S10 a0) 3 (some (tz S9))) → ∀ S13 : TS, S13 = sN S12 (.inr 0) 2 → CT G J_Bytes_init [.ref (tz S12), .int 248] S13 (fun r S14 => r = none ∧ te S14 a0 = some (.inr 3) ∧ ∀ S16 : TS, S16 = sR S14 a0 (va_up (tR S14 a0) 4 (some (tz S12))) → Q none S16)) :
    CT G J_Poly_init [.ref a0] S Q := by
  refine ct_of (by decide +kernel) (Nat.le_of_ble_eq_true rfl) (lv := [(0, .ref a0)]) rfl ?_
  refine tt_aload_n (k0 := 0) (by decide +kernel) rfl ?_
  refine tt_objInit (by decide +kernel) w_61 w_21 w_22 (by decide) (Nat.le_of_ble_eq_true rfl) ?_
  refine tt_aload_n (k0 := 0) (by decide +kernel) rfl ?_
  refine tt_iconst (n := 5) (v := 5) (by decide +kernel) (by decide) ?_
  refine tt_newarr (at0 := .long) (n := 5) (by decide +kernel) w_80 rfl (by decide) (by decide) (by decide) ?_
  show T G J_Poly_init 8 [(0, .ref a0)] [.ref (tz S), .ref a0] (sN S (.inl (.long, 5)) 5) _
  generalize eS1 : sN S (.inl (.long, 5)) 5 = S1
  have h := h S1 eS1.symm
  obtain ⟨f2, h⟩ := h
  refine tt_putFR (k := 0) (by decide +kernel) KC_3 (by decide) w_64 rfl rfl rfl (Or.inr ⟨_, rfl⟩) f2 ?_
  generalize eS3 : sR S1 a0 (va_up (tR S1 a0) 0 (some (tz S))) = S3
  have h := h S3 eS3.symm
  refine tt_aload_n (k0 := 0) (by decide +kernel) rfl ?_
  refine tt_iconst (n := 5) (v := 5) (by decide +kernel) (by decide) ?_
  refine tt_newarr (at0 := .long) (n := 5) (by decide +kernel) w_80 rfl (by decide) (by decide) (by decide) ?_
  show T G J_Poly_init 15 [(0, .ref a0)] [.ref (tz S3), .ref a0] (sN S3 (.inl (.long, 5)) 5) _
  generalize eS4 : sN S3 (.inl (.long, 5)) 5 = S4
  have h := h S4 eS4.symm
  obtain ⟨f5, h⟩ := h
  refine tt_putFR (k := 1) (by decide +kernel) KC_3 (by decide) w_65 rfl rfl rfl (Or.inr ⟨_, rfl⟩) f5 ?_
  generalize eS6 : sR S4 a0 (va_up (tR S4 a0) 1 (some (tz S3))) = S6
  have h := h S6 eS6.symm
  refine tt_aload_n (k0 := 0) (by decide +kernel) rfl ?_
  refine tt_iconst (n := 5) (v := 5) (by decide +kernel) (by decide) ?_
  refine tt_newarr (at0 := .long) (n := 5) (by decide +kernel) w_80 rfl (by decide) (by decide) (by decide) ?_
  show T G J_Poly_init 22 [(0, .ref a0)] [.ref (tz S6), .ref a0] (sN S6 (.inl (.long, 5)) 5) _
  generalize eS7 : sN S6 (.inl (.long, 5)) 5 = S7
  have h := h S7 eS7.symm
  obtain ⟨f8, h⟩ := h
  refine tt_putFR (k := 2) (by decide +kernel) KC_3 (by decide) w_66 rfl rfl rfl (Or.inr ⟨_, rfl⟩) f8 ?_
  generalize eS9 : sR S7 a0 (va_up (tR S7 a0) 2 (some (tz S6))) = S9
  have h := h S9 eS9.symm
  refine tt_aload_n (k0 := 0) (by decide +kernel) rfl ?_
  refine tt_iconst (n := 4) (v := 4) (by decide +kernel) (by decide) ?_
  refine tt_newarr (at0 := .int) (n := 4) (by decide +kernel) w_36 rfl (by decide) (by decide) (by decide) ?_
  show T G J_Poly_init 29 [(0, .ref a0)] [.ref (tz S9), .ref a0] (sN S9 (.inl (.int, 4)) 4) _
  generalize eS10 : sN S9 (.inl (.int, 4)) 4 = S10
  have h := h S10 eS10.symm
  obtain ⟨f11, h⟩ := h
  refine tt_putFR (k := 3) (by decide +kernel) KC_3 (by decide) w_67 rfl rfl rfl (Or.inr ⟨_, rfl⟩) f11 ?_
  generalize eS12 : sR S10 a0 (va_up (tR S10 a0) 3 (some (tz S9))) = S12
  have h := h S12 eS12.symm
  refine tt_aload_n (k0 := 0) (by decide +kernel) rfl ?_
  refine tt_new (by decide +kernel) KC_0 w_62 w_24 w_2 OK_0 ?_
  generalize eS13 : sN S12 (.inr 0) 2 = S13
  have h := h S13 eS13.symm
  refine tt_dup (by decide +kernel) rfl ?_
  refine tt_sipush (n := 248) (v := 248) (by decide +kernel) (by decide) ?_
  refine tt_callI (As := [.int 248]) (rest := [.ref (tz S12), .ref a0]) (by decide +kernel) LK_Bytes_init rfl w_63 w_26 rfl (by decide) (by decide) rfl rfl (Nat.le_of_ble_eq_true rfl) (ct_mono h (fun r S14 h => ?_))
  obtain ⟨rfl, h⟩ := h
  show T G J_Poly_init 43 [(0, .ref a0)] [.ref (tz S12), .ref a0] S14 _
  obtain ⟨f15, h⟩ := h
  refine tt_putFR (k := 4) (by decide +kernel) KC_3 (by decide) w_68 rfl rfl rfl (Or.inl ⟨_, rfl⟩) f15 ?_
  generalize eS16 : sR S14 a0 (va_up (tR S14 a0) 4 (some (tz S12))) = S16
  have h := h S16 eS16.symm
  exact tt_vret (by decide +kernel) rfl h
set_option maxRecDepth 100000 in
theorem v_Hash_init {G : pG} (a0 : Nat) (S : TS) (Q : Option Value → TS → Prop)
    (h : ∀ S1 : TS, S1 = sN S (.inl (.int, 8)) 8 → te S1 a0 = some (.inr 2) ∧ ∀ S3 : TS, S3 = sR S1 a0 (va_up (tR S1 a0) 0 (some (tz S))) → ∀ S4 : TS, S4 = sN S3 (.inl (.int, 64)) 64 → te S4 a0 = some (.inr 2) ∧ ∀ S6 : TS, S6 = sR S4 a0 (va_up (tR S4 a0) 1 (some (tz S3))) → ∀ S7 : TS, S7 = sN S6 (.inr 0) 2 → CT G J_Bytes_init [.ref (tz S6), .int 264] S7 (fun r S8 => r = none ∧ te S8 a0 = some (.inr 2) ∧ ∀ S10 : TS, S10 = sR S8 a0 (va_up (tR S8 a0) 2 (some (tz S6))) → ∀ S11 : TS, S11 = sN S10 (.inr 0) 2 → CT G J_Bytes_init [.ref (tz S10), .int 32] S11 (fun r S12 => r = none ∧ te S12 a0 = some (.inr 2) ∧ ∀ S14 : TS, S14 = sR S12 a0 (va_up (tR S12 a0) 3 (some (tz S10))) → Q none S14))) :
    CT G J_Hash_init [.ref a0] S Q := by
  refine ct_of (by decide +kernel) (Nat.le_of_ble_eq_true rfl) (lv := [(0, .ref a0)]) rfl ?_
  refine tt_aload_n (k0 := 0) (by decide +kernel) rfl ?_
  refine tt_objInit (by decide +kernel) w_156 w_21 w_22 (by decide) (Nat.le_of_ble_eq_true rfl) ?_
  refine tt_aload_n (k0 := 0) (by decide +kernel) rfl ?_
  refine tt_bipush (n := 8) (v := 8) (by decide +kernel) (by decide) ?_
  refine tt_newarr (at0 := .int) (n := 8) (by decide +kernel) w_36 rfl (by decide) (by decide) (by decide) ?_
  show T G J_Hash_init 9 [(0, .ref a0)] [.ref (tz S), .ref a0] (sN S (.inl (.int, 8)) 8) _
  generalize eS1 : sN S (.inl (.int, 8)) 8 = S1
  have h := h S1 eS1.symm
  obtain ⟨f2, h⟩ := h
  refine tt_putFR (k := 0) (by decide +kernel) KC_2 (by decide) w_159 rfl rfl rfl (Or.inr ⟨_, rfl⟩) f2 ?_
  generalize eS3 : sR S1 a0 (va_up (tR S1 a0) 0 (some (tz S))) = S3
  have h := h S3 eS3.symm
  refine tt_aload_n (k0 := 0) (by decide +kernel) rfl ?_
  refine tt_bipush (n := 64) (v := 64) (by decide +kernel) (by decide) ?_
  refine tt_newarr (at0 := .int) (n := 64) (by decide +kernel) w_36 rfl (by decide) (by decide) (by decide) ?_
  show T G J_Hash_init 17 [(0, .ref a0)] [.ref (tz S3), .ref a0] (sN S3 (.inl (.int, 64)) 64) _
  generalize eS4 : sN S3 (.inl (.int, 64)) 64 = S4
  have h := h S4 eS4.symm
  obtain ⟨f5, h⟩ := h
  refine tt_putFR (k := 1) (by decide +kernel) KC_2 (by decide) w_160 rfl rfl rfl (Or.inr ⟨_, rfl⟩) f5 ?_
  generalize eS6 : sR S4 a0 (va_up (tR S4 a0) 1 (some (tz S3))) = S6
  have h := h S6 eS6.symm
  refine tt_aload_n (k0 := 0) (by decide +kernel) rfl ?_
  refine tt_new (by decide +kernel) KC_0 w_157 w_24 w_2 OK_0 ?_
  generalize eS7 : sN S6 (.inr 0) 2 = S7
  have h := h S7 eS7.symm
  refine tt_dup (by decide +kernel) rfl ?_
  refine tt_sipush (n := 264) (v := 264) (by decide +kernel) (by decide) ?_
  refine tt_callI (As := [.int 264]) (rest := [.ref (tz S6), .ref a0]) (by decide +kernel) LK_Bytes_init rfl w_158 w_26 rfl (by decide) (by decide) rfl rfl (Nat.le_of_ble_eq_true rfl) (ct_mono h (fun r S8 h => ?_))
  obtain ⟨rfl, h⟩ := h
  show T G J_Hash_init 31 [(0, .ref a0)] [.ref (tz S6), .ref a0] S8 _
  obtain ⟨f9, h⟩ := h
  refine tt_putFR (k := 2) (by decide +kernel) KC_2 (by decide) w_161 rfl rfl rfl (Or.inl ⟨_, rfl⟩) f9 ?_
  generalize eS10 : sR S8 a0 (va_up (tR S8 a0) 2 (some (tz S6))) = S10
  have h := h S10 eS10.symm
  refine tt_aload_n (k0 := 0) (by decide +kernel) rfl ?_
  refine tt_new (by decide +kernel) KC_0 w_157 w_24 w_2 OK_0 ?_
  generalize eS11 : sN S10 (.inr 0) 2 = S11
  have h := h S11 eS11.symm
  refine tt_dup (by decide +kernel) rfl ?_
  refine tt_bipush (n := 32) (v := 32) (by decide +kernel) (by decide) ?_
  refine tt_callI (As := [.int 32]) (rest := [.ref (tz S10), .ref a0]) (by decide +kernel) LK_Bytes_init rfl w_158 w_26 rfl (by decide) (by decide) rfl rfl (Nat.le_of_ble_eq_true rfl) (ct_mono h (fun r S12 h => ?_))
  obtain ⟨rfl, h⟩ := h
  show T G J_Hash_init 44 [(0, .ref a0)] [.ref (tz S10), .ref a0] S12 _
  obtain ⟨f13, h⟩ := h
  refine tt_putFR (k := 3) (by decide +kernel) KC_2 (by decide) w_162 rfl rfl rfl (Or.inl ⟨_, rfl⟩) f13 ?_
  generalize eS14 : sR S12 a0 (va_up (tR S12 a0) 3 (some (tz S10))) = S14
  have h := h S14 eS14.symm
  exact tt_vret (by decide +kernel) rfl h
set_option maxRecDepth 100000 in
theorem v_Hash_digest {G : pG} (a0 : Nat) (a1 : Nat) (a2 : Nat) (S : TS) (Q : Option Value → TS → Prop)
    (h : te S a0 = some (.inr 2) ∧ ∃ b2 : Nat, tR S a0 2 = some b2 ∧ te S b2 = some (.inr 0) ∧ C0 G J_Bytes_become [.ref b2, .ref a1] S (fun r S5 => r = none ∧ C0 G J_Hash_finish [.ref a0, .ref a2] S5 (fun r S6 => r = none ∧ Q none S6))) :
    C0 G J_Hash_digest [.ref a0, .ref a1, .ref a2] S Q := by
  unfold C0
  refine ct_of (by decide +kernel) (Nat.le_of_ble_eq_true rfl) (lv := [(0, .ref a0), (1, .ref a1), (2, .ref a2)]) rfl ?_
  have hm : Sm0 S S := Sm0.rf S
  refine tt_aload_n (k0 := 0) (by decide +kernel) rfl ?_
  obtain ⟨f1, h⟩ := h
  obtain ⟨b2, f3, h⟩ := h
  refine tt_getR (k := 2) (by decide +kernel) KC_2 (by decide) w_161 (fun _ => rfl) f1 f3 ?_
  refine tt_aload_n (k0 := 1) (by decide +kernel) rfl ?_
  obtain ⟨f4, h⟩ := h
  refine tt_callV (As := [.ref a1]) (rest := []) (ci := 0) (r0 := (R_0, F_0, 2)) (by decide +kernel) LK_Bytes_become w_353 w_354 w_355 (by decide) (by decide) rfl rfl (Nat.le_of_ble_eq_true rfl) rfl rfl f4 (ct_mono h (fun r S5 h => ?_))
  obtain ⟨hm2, h⟩ := h
  obtain ⟨rfl, h⟩ := h
  show T G J_Hash_digest 8 [(0, .ref a0), (1, .ref a1), (2, .ref a2)] [] S5 _
  have hm := hm.tr hm2
  have f1 : te S5 a0 = some (.inr 2) := by rw [hm2.1]; exact f1
  have f3 : tR S5 a0 2 = some b2 := by rw [hm2.R]; exact f3
  have f4 : te S5 b2 = some (.inr 0) := by rw [hm2.1]; exact f4
  refine tt_aload_n (k0 := 0) (by decide +kernel) rfl ?_
  refine tt_aload_n (k0 := 2) (by decide +kernel) rfl ?_
  refine tt_callV (As := [.ref a2]) (rest := []) (ci := 2) (r0 := (R_2, F_2, 4)) (by decide +kernel) LK_Hash_finish w_364 w_366 (in_p (n := 4) 1 rfl) (by decide) (by decide) rfl rfl (Nat.le_of_ble_eq_true rfl) rfl rfl f1 (ct_mono h (fun r S6 h => ?_))
  obtain ⟨hm2, h⟩ := h
  obtain ⟨rfl, h⟩ := h
  show T G J_Hash_digest 13 [(0, .ref a0), (1, .ref a1), (2, .ref a2)] [] S6 _
  have hm := hm.tr hm2
  have f1 : te S6 a0 = some (.inr 2) := by rw [hm2.1]; exact f1
  have f3 : tR S6 a0 2 = some b2 := by rw [hm2.R]; exact f3
  have f4 : te S6 b2 = some (.inr 0) := by rw [hm2.1]; exact f4
  exact tt_vret (by decide +kernel) rfl ⟨hm, h⟩
set_option maxRecDepth 100000 in
theorem v_Hash_finish {G : pG} (a0 : Nat) (a1 : Nat) (S : TS) (Q : Option Value → TS → Prop)
    (h : te S a0 = some (.inr 2) ∧ ∃ b2 : Nat, tR S a0 2 = some b2 ∧ te S b2 = some (.inr 0) ∧ CP G J_Bytes_size [.ref b2] S (fun r => ∃ r5 : Int32, r = some (.int r5) ∧ ∀ y6 : Int32, y6 = r5 <<< ((3 : Int32) &&& 31) → C0 G J_Bytes_put [.ref b2, .int 128] S (fun r S7 => r = none ∧ CP G J_Bytes_size [.ref b2] S7 (fun r => ∃ r8 : Int32, r = some (.int r8) ∧ ∀ y9 : Int32, y9 = ((56 : Int32) - r8) &&& (63 : Int32) → T0 G J_Hash_finish 37 [(0, .ref a0), (1, .ref a1), (2, .int y6), (3, .int y9), (4, .int 0)] [] S7 Q)))) :
    C0 G J_Hash_finish [.ref a0, .ref a1] S Q := by
  unfold C0
  refine ct_of (by decide +kernel) (Nat.le_of_ble_eq_true rfl) (lv := [(0, .ref a0), (1, .ref a1)]) rfl ?_
  have hm : Sm0 S S := Sm0.rf S
  refine tt_aload_n (k0 := 0) (by decide +kernel) rfl ?_
  obtain ⟨f1, h⟩ := h
  obtain ⟨b2, f3, h⟩ := h
  refine tt_getR (k := 2) (by decide +kernel) KC_2 (by decide) w_161 (fun _ => rfl) f1 f3 ?_
  obtain ⟨f4, h⟩ := h
  refine tt_callV (As := []) (rest := []) (ci := 0) (r0 := (R_0, F_0, 2)) (by decide +kernel) LK_Bytes_size w_368 w_299 w_300 (by decide) (by decide) rfl rfl (Nat.le_of_ble_eq_true rfl) rfl rfl f4 (ct_mono h (fun r Sb h => ?_))
  obtain ⟨eb, h⟩ := h
  obtain ⟨r5, rfl, h⟩ := h
  rw [eb]
  show T G J_Hash_finish 7 [(0, .ref a0), (1, .ref a1)] [.int r5] S _
  refine tt_iconst (n := 3) (v := 3) (by decide +kernel) (by decide) ?_
  refine tt_ishl (by decide +kernel) ?_
  refine tt_topi (fun y6 ey6 => ?_)
  have h := h y6 ey6
  refine tt_istore_n (k0 := 2) (lv' := [(0, .ref a0), (1, .ref a1), (2, .int y6)]) (by decide +kernel) (by decide) rfl ?_
  refine tt_aload_n (k0 := 0) (by decide +kernel) rfl ?_
  refine tt_getR (k := 2) (by decide +kernel) KC_2 (by decide) w_161 (fun _ => rfl) f1 f3 ?_
  refine tt_sipush (n := 128) (v := 128) (by decide +kernel) (by decide) ?_
  refine tt_callV (As := [.int 128]) (rest := []) (ci := 0) (r0 := (R_0, F_0, 2)) (by decide +kernel) LK_Bytes_put w_369 w_239 w_240 (by decide) (by decide) rfl rfl (Nat.le_of_ble_eq_true rfl) rfl rfl f4 (ct_mono h (fun r S7 h => ?_))
  obtain ⟨hm2, h⟩ := h
  obtain ⟨rfl, h⟩ := h
  show T G J_Hash_finish 20 [(0, .ref a0), (1, .ref a1), (2, .int y6)] [] S7 _
  have hm := hm.tr hm2
  have f1 : te S7 a0 = some (.inr 2) := by rw [hm2.1]; exact f1
  have f3 : tR S7 a0 2 = some b2 := by rw [hm2.R]; exact f3
  have f4 : te S7 b2 = some (.inr 0) := by rw [hm2.1]; exact f4
  refine tt_bipush (n := 56) (v := 56) (by decide +kernel) (by decide) ?_
  refine tt_aload_n (k0 := 0) (by decide +kernel) rfl ?_
  refine tt_getR (k := 2) (by decide +kernel) KC_2 (by decide) w_161 (fun _ => rfl) f1 f3 ?_
  refine tt_callV (As := []) (rest := [.int 56]) (ci := 0) (r0 := (R_0, F_0, 2)) (by decide +kernel) LK_Bytes_size w_368 w_299 w_300 (by decide) (by decide) rfl rfl (Nat.le_of_ble_eq_true rfl) rfl rfl f4 (ct_mono h (fun r Sb h => ?_))
  obtain ⟨eb, h⟩ := h
  obtain ⟨r8, rfl, h⟩ := h
  rw [eb]
  show T G J_Hash_finish 29 [(0, .ref a0), (1, .ref a1), (2, .int y6)] [.int r8, .int 56] S7 _
  refine tt_isub (by decide +kernel) ?_
  refine tt_bipush (n := 63) (v := 63) (by decide +kernel) (by decide) ?_
  refine tt_iand (by decide +kernel) ?_
  refine tt_topi (fun y9 ey9 => ?_)
  have h := h y9 ey9
  refine tt_istore_n (k0 := 3) (lv' := [(0, .ref a0), (1, .ref a1), (2, .int y6), (3, .int y9)]) (by decide +kernel) (by decide) rfl ?_
  refine tt_iconst (n := 0) (v := 0) (by decide +kernel) (by decide) ?_
  refine tt_istore (k0 := 4) (lv' := [(0, .ref a0), (1, .ref a1), (2, .int y6), (3, .int y9), (4, .int 0)]) (by decide +kernel) (by decide) rfl ?_
  exact tt_mono h (fun r S' q => ⟨hm.tr q.1, q.2⟩)
set_option maxRecDepth 100000 in
theorem v_Hash_finish_37 {G : pG} {t : Nat → Nat} (hG : GS G t) (a0 : Nat) (a1 : Nat) (x2 : Int32) (x3 : Int32) (x4 : Int32) (S : TS) (Q : Option Value → TS → Prop)
    (h : ((x3 ≤ x4 → te S a0 = some (.inr 2) ∧ ∃ b2 : Nat, tR S a0 2 = some b2 ∧ te S b2 = some (.inr 0) ∧ C0 G J_Bytes_putNumber [.ref b2, .int 0] S (fun r S5 => r = none ∧ C0 G J_Bytes_putNumber [.ref b2, .int x2] S5 (fun r S6 => r = none ∧ ∃ b7 : Nat, tR S6 a0 0 = some b7 ∧ ∃ n9 : Nat, te S6 b7 = some (.inl (.int, n9)) ∧ ¬ (nI n9) < 0 ∧ (0 : Int32).toNatClampNeg + (nI n9).toNatClampNeg ≤ 8 ∧ (0 : Int32).toNatClampNeg + (nI n9).toNatClampNeg ≤ n9 ∧ ∀ S11 : TS, S11 = sI S6 b7 (va_cpy (ro 0) (tI S6 b7) (0 : Int32).toNatClampNeg (0 : Int32).toNatClampNeg (nI n9).toNatClampNeg) → T0 G J_Hash_finish 93 [(0, .ref a0), (1, .ref a1), (2, .int x2), (3, .int x3), (4, .int 0)] [] S11 Q))) ∧ (¬ (x3 ≤ x4) → te S a0 = some (.inr 2) ∧ ∃ b13 : Nat, tR S a0 2 = some b13 ∧ te S b13 = some (.inr 0) ∧ C0 G J_Bytes_put [.ref b13, .int 0] S (fun r S16 => r = none ∧ ∀ y17 : Int32, y17 = x4 + 1 → T0 G J_Hash_finish 37 [(0, .ref a0), (1, .ref a1), (2, .int x2), (3, .int x3), (4, .int y17)] [] S16 Q)))) :
    T0 G J_Hash_finish 37 [(0, .ref a0), (1, .ref a1), (2, .int x2), (3, .int x3), (4, .int x4)] [] S Q := by
  unfold T0
  have hm : Sm0 S S := Sm0.rf S
  refine tt_iload (k0 := 4) (by decide +kernel) rfl ?_
  refine tt_iload_n (k0 := 3) (by decide +kernel) rfl ?_
  refine tt_icmp_ge (off := 17) 57 (by decide +kernel) (by decide) (fun c => ?_) (fun c => ?_)
  · have h := h.1 c
    refine tt_aload_n (k0 := 0) (by decide +kernel) rfl ?_
    obtain ⟨f1, h⟩ := h
    obtain ⟨b2, f3, h⟩ := h
    refine tt_getR (k := 2) (by decide +kernel) KC_2 (by decide) w_161 (fun _ => rfl) f1 f3 ?_
    refine tt_iconst (n := 0) (v := 0) (by decide +kernel) (by decide) ?_
    obtain ⟨f4, h⟩ := h
    refine tt_callV (As := [.int 0]) (rest := []) (ci := 0) (r0 := (R_0, F_0, 2)) (by decide +kernel) LK_Bytes_putNumber w_370 w_303 w_304 (by decide) (by decide) rfl rfl (Nat.le_of_ble_eq_true rfl) rfl rfl f4 (ct_mono h (fun r S5 h => ?_))
    obtain ⟨hm2, h⟩ := h
    obtain ⟨rfl, h⟩ := h
    show T G J_Hash_finish 65 [(0, .ref a0), (1, .ref a1), (2, .int x2), (3, .int x3), (4, .int x4)] [] S5 _
    have hm := hm.tr hm2
    have f1 : te S5 a0 = some (.inr 2) := by rw [hm2.1]; exact f1
    have f3 : tR S5 a0 2 = some b2 := by rw [hm2.R]; exact f3
    have f4 : te S5 b2 = some (.inr 0) := by rw [hm2.1]; exact f4
    refine tt_aload_n (k0 := 0) (by decide +kernel) rfl ?_
    refine tt_getR (k := 2) (by decide +kernel) KC_2 (by decide) w_161 (fun _ => rfl) f1 f3 ?_
    refine tt_iload_n (k0 := 2) (by decide +kernel) rfl ?_
    refine tt_callV (As := [.int x2]) (rest := []) (ci := 0) (r0 := (R_0, F_0, 2)) (by decide +kernel) LK_Bytes_putNumber w_370 w_303 w_304 (by decide) (by decide) rfl rfl (Nat.le_of_ble_eq_true rfl) rfl rfl f4 (ct_mono h (fun r S6 h => ?_))
    obtain ⟨hm2, h⟩ := h
    obtain ⟨rfl, h⟩ := h
    show T G J_Hash_finish 73 [(0, .ref a0), (1, .ref a1), (2, .int x2), (3, .int x3), (4, .int x4)] [] S6 _
    have hm := hm.tr hm2
    have f1 : te S6 a0 = some (.inr 2) := by rw [hm2.1]; exact f1
    have f3 : tR S6 a0 2 = some b2 := by rw [hm2.R]; exact f3
    have f4 : te S6 b2 = some (.inr 0) := by rw [hm2.1]; exact f4
    refine tt_gets (z := ("SealedWire$Hash", "START", "[I", .ref (t 0))) (by decide +kernel) (by rw [hG.1]; simp [stt]) w_371 ?_
    refine tt_iconst (n := 0) (v := 0) (by decide +kernel) (by decide) ?_
    refine tt_aload_n (k0 := 0) (by decide +kernel) rfl ?_
    obtain ⟨b7, f8, h⟩ := h
    refine tt_getR (k := 0) (by decide +kernel) KC_2 (by decide) w_159 (fun _ => rfl) f1 f8 ?_
    refine tt_iconst (n := 0) (v := 0) (by decide +kernel) (by decide) ?_
    refine tt_aload_n (k0 := 0) (by decide +kernel) rfl ?_
    refine tt_getR (k := 0) (by decide +kernel) KC_2 (by decide) w_159 (fun _ => rfl) f1 f8 ?_
    obtain ⟨n9, f10, h⟩ := h
    refine tt_alen (by decide +kernel) f10 ?_
    obtain ⟨g2, g3, g4, h⟩ := h
    refine tt_acopyro (n0 := 8) (f := ro 0) (by decide +kernel) w_373 w_363 w_362 w_13 (by decide) (Nat.le_of_ble_eq_true rfl) (by rw [hG.2]; simp [rot]) f10 (by decide) (by decide) g2 g3 g4 ?_
    generalize eS11 : sI S6 b7 (va_cpy (ro 0) (tI S6 b7) (0 : Int32).toNatClampNeg (0 : Int32).toNatClampNeg (nI n9).toNatClampNeg) = S11
    have h := h S11 eS11.symm
    have hm : Sm0 S S11 := by rw [← eS11]; exact hm.I
    have f1 : te S11 a0 = some (.inr 2) := by rw [← eS11, te_sI]; exact f1
    have f3 : tR S11 a0 2 = some b2 := by rw [← eS11, tR_sI]; exact f3
    have f4 : te S11 b2 = some (.inr 0) := by rw [← eS11, te_sI]; exact f4
    have f8 : tR S11 a0 0 = some b7 := by rw [← eS11, tR_sI]; exact f8
    have f10 : te S11 b7 = some (.inl (.int, n9)) := by rw [← eS11, te_sI]; exact f10
    refine tt_iconst (n := 0) (v := 0) (by decide +kernel) (by decide) ?_
    refine tt_istore (k0 := 4) (lv' := [(0, .ref a0), (1, .ref a1), (2, .int x2), (3, .int x3), (4, .int 0)]) (by decide +kernel) (by decide) rfl ?_
    exact tt_mono h (fun r S' q => ⟨hm.tr q.1, q.2⟩)
  · have h := h.2 c
    refine tt_aload_n (k0 := 0) (by decide +kernel) rfl ?_
    obtain ⟨f12, h⟩ := h
    obtain ⟨b13, f14, h⟩ := h
    refine tt_getR (k := 2) (by decide +kernel) KC_2 (by decide) w_161 (fun _ => rfl) f12 f14 ?_
    refine tt_iconst (n := 0) (v := 0) (by decide +kernel) (by decide) ?_
    obtain ⟨f15, h⟩ := h
    refine tt_callV (As := [.int 0]) (rest := []) (ci := 0) (r0 := (R_0, F_0, 2)) (by decide +kernel) LK_Bytes_put w_369 w_239 w_240 (by decide) (by decide) rfl rfl (Nat.le_of_ble_eq_true rfl) rfl rfl f15 (ct_mono h (fun r S16 h => ?_))
    obtain ⟨hm2, h⟩ := h
    obtain ⟨rfl, h⟩ := h
    show T G J_Hash_finish 51 [(0, .ref a0), (1, .ref a1), (2, .int x2), (3, .int x3), (4, .int x4)] [] S16 _
    have hm := hm.tr hm2
    have f12 : te S16 a0 = some (.inr 2) := by rw [hm2.1]; exact f12
    have f14 : tR S16 a0 2 = some b13 := by rw [hm2.R]; exact f14
    have f15 : te S16 b13 = some (.inr 0) := by rw [hm2.1]; exact f15
    obtain ⟨y17, ey17⟩ : ∃ y : Int32, y = x4 + 1 := ⟨_, rfl⟩
    have h := h y17 ey17
    refine tt_iinc (i := 4) (n := 1) (v := y17) (lv' := [(0, .ref a0), (1, .ref a1), (2, .int x2), (3, .int x3), (4, .int y17)]) (by decide +kernel) (by decide) rfl ey17.symm rfl ?_
    refine tt_goto (off := -17) (tgt := 37) (by decide +kernel) (by decide) ?_
    exact tt_mono h (fun r S' q => ⟨hm.tr q.1, q.2⟩)
set_option maxRecDepth 100000 in
theorem v_Hash_finish_93 {G : pG} (a0 : Nat) (a1 : Nat) (x2 : Int32) (x3 : Int32) (x4 : Int32) (S : TS) (Q : Option Value → TS → Prop)
    (h : te S a0 = some (.inr 2) ∧ ∃ b2 : Nat, tR S a0 2 = some b2 ∧ te S b2 = some (.inr 0) ∧ CP G J_Bytes_size [.ref b2] S (fun r => ∃ r5 : Int32, r = some (.int r5) ∧ ((r5 ≤ x4 → te S a1 = some (.inr 0) ∧ C0 G J_Bytes_clear [.ref a1] S (fun r S7 => r = none ∧ T0 G J_Hash_finish 128 [(0, .ref a0), (1, .ref a1), (2, .int x2), (3, .int x3), (4, .int 0)] [] S7 Q)) ∧ (¬ (r5 ≤ x4) → C0 G J_Hash_spread [.ref a0, .int x4] S (fun r S8 => r = none ∧ C0 G J_Hash_mix [.ref a0] S8 (fun r S9 => r = none ∧ ∀ y10 : Int32, y10 = x4 + 64 → T0 G J_Hash_finish 93 [(0, .ref a0), (1, .ref a1), (2, .int x2), (3, .int x3), (4, .int y10)] [] S9 Q)))))) :
    T0 G J_Hash_finish 93 [(0, .ref a0), (1, .ref a1), (2, .int x2), (3, .int x3), (4, .int x4)] [] S Q := by
  unfold T0
  have hm : Sm0 S S := Sm0.rf S
  refine tt_iload (k0 := 4) (by decide +kernel) rfl ?_
  refine tt_aload_n (k0 := 0) (by decide +kernel) rfl ?_
  obtain ⟨f1, h⟩ := h
  obtain ⟨b2, f3, h⟩ := h
  refine tt_getR (k := 2) (by decide +kernel) KC_2 (by decide) w_161 (fun _ => rfl) f1 f3 ?_
  obtain ⟨f4, h⟩ := h
  refine tt_callV (As := []) (rest := [.int x4]) (ci := 0) (r0 := (R_0, F_0, 2)) (by decide +kernel) LK_Bytes_size w_368 w_299 w_300 (by decide) (by decide) rfl rfl (Nat.le_of_ble_eq_true rfl) rfl rfl f4 (ct_mono h (fun r Sb h => ?_))
  obtain ⟨eb, h⟩ := h
  obtain ⟨r5, rfl, h⟩ := h
  rw [eb]
  show T G J_Hash_finish 102 [(0, .ref a0), (1, .ref a1), (2, .int x2), (3, .int x3), (4, .int x4)] [.int r5, .int x4] S _
  refine tt_icmp_ge (off := 19) 121 (by decide +kernel) (by decide) (fun c => ?_) (fun c => ?_)
  · have h := h.1 c
    refine tt_aload_n (k0 := 1) (by decide +kernel) rfl ?_
    obtain ⟨f6, h⟩ := h
    refine tt_callV (As := []) (rest := []) (ci := 0) (r0 := (R_0, F_0, 2)) (by decide +kernel) LK_Bytes_clear w_391 w_392 w_393 (by decide) (by decide) rfl rfl (Nat.le_of_ble_eq_true rfl) rfl rfl f6 (ct_mono h (fun r S7 h => ?_))
    obtain ⟨hm2, h⟩ := h
    obtain ⟨rfl, h⟩ := h
    show T G J_Hash_finish 125 [(0, .ref a0), (1, .ref a1), (2, .int x2), (3, .int x3), (4, .int x4)] [] S7 _
    have hm := hm.tr hm2
    have f1 : te S7 a0 = some (.inr 2) := by rw [hm2.1]; exact f1
    have f3 : tR S7 a0 2 = some b2 := by rw [hm2.R]; exact f3
    have f4 : te S7 b2 = some (.inr 0) := by rw [hm2.1]; exact f4
    have f6 : te S7 a1 = some (.inr 0) := by rw [hm2.1]; exact f6
    refine tt_iconst (n := 0) (v := 0) (by decide +kernel) (by decide) ?_
    refine tt_istore (k0 := 4) (lv' := [(0, .ref a0), (1, .ref a1), (2, .int x2), (3, .int x3), (4, .int 0)]) (by decide +kernel) (by decide) rfl ?_
    exact tt_mono h (fun r S' q => ⟨hm.tr q.1, q.2⟩)
  · have h := h.2 c
    refine tt_aload_n (k0 := 0) (by decide +kernel) rfl ?_
    refine tt_iload (k0 := 4) (by decide +kernel) rfl ?_
    refine tt_callV (As := [.int x4]) (rest := []) (ci := 2) (r0 := (R_2, F_2, 4)) (by decide +kernel) LK_Hash_spread w_374 w_376 (in_p (n := 4) 2 rfl) (by decide) (by decide) rfl rfl (Nat.le_of_ble_eq_true rfl) rfl rfl f1 (ct_mono h (fun r S8 h => ?_))
    obtain ⟨hm2, h⟩ := h
    obtain ⟨rfl, h⟩ := h
    show T G J_Hash_finish 111 [(0, .ref a0), (1, .ref a1), (2, .int x2), (3, .int x3), (4, .int x4)] [] S8 _
    have hm := hm.tr hm2
    have f1 : te S8 a0 = some (.inr 2) := by rw [hm2.1]; exact f1
    have f3 : tR S8 a0 2 = some b2 := by rw [hm2.R]; exact f3
    have f4 : te S8 b2 = some (.inr 0) := by rw [hm2.1]; exact f4
    refine tt_aload_n (k0 := 0) (by decide +kernel) rfl ?_
    refine tt_callV (As := []) (rest := []) (ci := 2) (r0 := (R_2, F_2, 4)) (by decide +kernel) LK_Hash_mix w_385 w_387 (in_p (n := 4) 3 rfl) (by decide) (by decide) rfl rfl (Nat.le_of_ble_eq_true rfl) rfl rfl f1 (ct_mono h (fun r S9 h => ?_))
    obtain ⟨hm2, h⟩ := h
    obtain ⟨rfl, h⟩ := h
    show T G J_Hash_finish 115 [(0, .ref a0), (1, .ref a1), (2, .int x2), (3, .int x3), (4, .int x4)] [] S9 _
    have hm := hm.tr hm2
    have f1 : te S9 a0 = some (.inr 2) := by rw [hm2.1]; exact f1
    have f3 : tR S9 a0 2 = some b2 := by rw [hm2.R]; exact f3
    have f4 : te S9 b2 = some (.inr 0) := by rw [hm2.1]; exact f4
    obtain ⟨y10, ey10⟩ : ∃ y : Int32, y = x4 + 64 := ⟨_, rfl⟩
    have h := h y10 ey10
    refine tt_iinc (i := 4) (n := 64) (v := y10) (lv' := [(0, .ref a0), (1, .ref a1), (2, .int x2), (3, .int x3), (4, .int y10)]) (by decide +kernel) (by decide) rfl ey10.symm rfl ?_
    refine tt_goto (off := -25) (tgt := 93) (by decide +kernel) (by decide) ?_
    exact tt_mono h (fun r S' q => ⟨hm.tr q.1, q.2⟩)
set_option maxRecDepth 100000 in
theorem v_Hash_finish_128 {G : pG} (a0 : Nat) (a1 : Nat) (x2 : Int32) (x3 : Int32) (x4 : Int32) (S : TS) (Q : Option Value → TS → Prop)
    (h : te S a0 = some (.inr 2) ∧ ∃ b2 : Nat, tR S a0 0 = some b2 ∧ ∃ n4 : Nat, te S b2 = some (.inl (.int, n4)) ∧ ((nI n4 ≤ x4 → Q none S) ∧ (¬ (nI n4 ≤ x4) → vp_in x4 n4 ∧ te S a1 = some (.inr 0) ∧ C0 G J_Bytes_putNumber [.ref a1, .int (tI S b2 x4.toNatClampNeg)] S (fun r S7 => r = none ∧ ∀ y8 : Int32, y8 = x4 + 1 → T0 G J_Hash_finish 128 [(0, .ref a0), (1, .ref a1), (2, .int x2), (3, .int x3), (4, .int y8)] [] S7 Q)))) :
    T0 G J_Hash_finish 128 [(0, .ref a0), (1, .ref a1), (2, .int x2), (3, .int x3), (4, .int x4)] [] S Q := by
  unfold T0
  have hm : Sm0 S S := Sm0.rf S
  refine tt_iload (k0 := 4) (by decide +kernel) rfl ?_
  refine tt_aload_n (k0 := 0) (by decide +kernel) rfl ?_
  obtain ⟨f1, h⟩ := h
  obtain ⟨b2, f3, h⟩ := h
  refine tt_getR (k := 0) (by decide +kernel) KC_2 (by decide) w_159 (fun _ => rfl) f1 f3 ?_
  obtain ⟨n4, f5, h⟩ := h
  refine tt_alen (by decide +kernel) f5 ?_
  refine tt_icmp_ge (off := 20) 155 (by decide +kernel) (by decide) (fun c => ?_) (fun c => ?_)
  · have h := h.1 c
    exact tt_vret (by decide +kernel) rfl ⟨hm, h⟩
  · have h := h.2 c
    refine tt_aload_n (k0 := 1) (by decide +kernel) rfl ?_
    refine tt_aload_n (k0 := 0) (by decide +kernel) rfl ?_
    refine tt_getR (k := 0) (by decide +kernel) KC_2 (by decide) w_159 (fun _ => rfl) f1 f3 ?_
    refine tt_iload (k0 := 4) (by decide +kernel) rfl ?_
    obtain ⟨g2, h⟩ := h
    refine tt_iald (by decide +kernel) f5 g2 ?_
    obtain ⟨f6, h⟩ := h
    refine tt_callV (As := [.int (tI S b2 x4.toNatClampNeg)]) (rest := []) (ci := 0) (r0 := (R_0, F_0, 2)) (by decide +kernel) LK_Bytes_putNumber w_370 w_303 w_304 (by decide) (by decide) rfl rfl (Nat.le_of_ble_eq_true rfl) rfl rfl f6 (ct_mono h (fun r S7 h => ?_))
    obtain ⟨hm2, h⟩ := h
    obtain ⟨rfl, h⟩ := h
    show T G J_Hash_finish 149 [(0, .ref a0), (1, .ref a1), (2, .int x2), (3, .int x3), (4, .int x4)] [] S7 _
    have hm := hm.tr hm2
    have f1 : te S7 a0 = some (.inr 2) := by rw [hm2.1]; exact f1
    have f3 : tR S7 a0 0 = some b2 := by rw [hm2.R]; exact f3
    have f5 : te S7 b2 = some (.inl (.int, n4)) := by rw [hm2.1]; exact f5
    have f6 : te S7 a1 = some (.inr 0) := by rw [hm2.1]; exact f6
    obtain ⟨y8, ey8⟩ : ∃ y : Int32, y = x4 + 1 := ⟨_, rfl⟩
    have h := h y8 ey8
    refine tt_iinc (i := 4) (n := 1) (v := y8) (lv' := [(0, .ref a0), (1, .ref a1), (2, .int x2), (3, .int x3), (4, .int y8)]) (by decide +kernel) (by decide) rfl ey8.symm rfl ?_
    refine tt_goto (off := -24) (tgt := 128) (by decide +kernel) (by decide) ?_
    exact tt_mono h (fun r S' q => ⟨hm.tr q.1, q.2⟩)
set_option maxRecDepth 100000 in
theorem v_Hash_spread {G : pG} (a0 : Nat) (x1 : Int32) (S : TS) (Q : Option Value → TS → Prop)
    (h : T0 G J_Hash_spread 2 [(0, .ref a0), (1, .int x1), (2, .int 0)] [] S Q) :
    C0 G J_Hash_spread [.ref a0, .int x1] S Q := by
  unfold C0
  refine ct_of (by decide +kernel) (Nat.le_of_ble_eq_true rfl) (lv := [(0, .ref a0), (1, .int x1)]) rfl ?_
  have hm : Sm0 S S := Sm0.rf S
  refine tt_iconst (n := 0) (v := 0) (by decide +kernel) (by decide) ?_
  refine tt_istore_n (k0 := 2) (lv' := [(0, .ref a0), (1, .int x1), (2, .int 0)]) (by decide +kernel) (by decide) rfl ?_
  exact tt_mono h (fun r S' q => ⟨hm.tr q.1, q.2⟩)
set_option maxRecDepth 100000 in
theorem v_Hash_spread_2 {G : pG} (a0 : Nat) (x1 : Int32) (x2 : Int32) (S : TS) (Q : Option Value → TS → Prop)
    (h : ((16 ≤ x2 → T0 G J_Hash_spread 35 [(0, .ref a0), (1, .int x1), (2, .int 16)] [] S Q) ∧ (¬ (16 ≤ x2) → te S a0 = some (.inr 2) ∧ ∃ b2 : Nat, tR S a0 1 = some b2 ∧ ∃ b4 : Nat, tR S a0 2 = some b4 ∧ te S b4 = some (.inr 0) ∧ CP G J_Bytes_numberAt [.ref b4, .int (x1 + ((4 : Int32) * x2))] S (fun r => ∃ r7 : Int32, r = some (.int r7) ∧ ∃ n8 : Nat, te S b2 = some (.inl (.int, n8)) ∧ vp_in x2 n8 ∧ ∀ S10 : TS, S10 = sI S b2 (upd (tI S b2) x2.toNatClampNeg r7) → ∀ y11 : Int32, y11 = x2 + 1 → T0 G J_Hash_spread 2 [(0, .ref a0), (1, .int x1), (2, .int y11)] [] S10 Q)))) :
    T0 G J_Hash_spread 2 [(0, .ref a0), (1, .int x1), (2, .int x2)] [] S Q := by
  unfold T0
  have hm : Sm0 S S := Sm0.rf S
  refine tt_iload_n (k0 := 2) (by decide +kernel) rfl ?_
  refine tt_bipush (n := 16) (v := 16) (by decide +kernel) (by decide) ?_
  refine tt_icmp_ge (off := 27) 32 (by decide +kernel) (by decide) (fun c => ?_) (fun c => ?_)
  · have h := h.1 c
    refine tt_bipush (n := 16) (v := 16) (by decide +kernel) (by decide) ?_
    refine tt_istore_n (k0 := 2) (lv' := [(0, .ref a0), (1, .int x1), (2, .int 16)]) (by decide +kernel) (by decide) rfl ?_
    exact tt_mono h (fun r S' q => ⟨hm.tr q.1, q.2⟩)
  · have h := h.2 c
    refine tt_aload_n (k0 := 0) (by decide +kernel) rfl ?_
    obtain ⟨f1, h⟩ := h
    obtain ⟨b2, f3, h⟩ := h
    refine tt_getR (k := 1) (by decide +kernel) KC_2 (by decide) w_160 (fun _ => rfl) f1 f3 ?_
    refine tt_iload_n (k0 := 2) (by decide +kernel) rfl ?_
    refine tt_aload_n (k0 := 0) (by decide +kernel) rfl ?_
    obtain ⟨b4, f5, h⟩ := h
    refine tt_getR (k := 2) (by decide +kernel) KC_2 (by decide) w_161 (fun _ => rfl) f1 f5 ?_
    refine tt_iload_n (k0 := 1) (by decide +kernel) rfl ?_
    refine tt_iconst (n := 4) (v := 4) (by decide +kernel) (by decide) ?_
    refine tt_iload_n (k0 := 2) (by decide +kernel) rfl ?_
    refine tt_imul (by decide +kernel) ?_
    refine tt_iadd (by decide +kernel) ?_
    obtain ⟨f6, h⟩ := h
    refine tt_callV (As := [.int (x1 + ((4 : Int32) * x2))]) (rest := [.int x2, .ref b2]) (ci := 0) (r0 := (R_0, F_0, 2)) (by decide +kernel) LK_Bytes_numberAt w_378 w_379 w_380 (by decide) (by decide) rfl rfl (Nat.le_of_ble_eq_true rfl) rfl rfl f6 (ct_mono h (fun r Sb h => ?_))
    obtain ⟨eb, h⟩ := h
    obtain ⟨r7, rfl, h⟩ := h
    rw [eb]
    show T G J_Hash_spread 25 [(0, .ref a0), (1, .int x1), (2, .int x2)] [.int r7, .int x2, .ref b2] S _
    obtain ⟨n8, f9, h⟩ := h
    obtain ⟨g2, h⟩ := h
    refine tt_iast (by decide +kernel) f9 g2 ?_
    generalize eS10 : sI S b2 (upd (tI S b2) x2.toNatClampNeg r7) = S10
    have h := h S10 eS10.symm
    have hm : Sm0 S S10 := by rw [← eS10]; exact hm.I
    have f1 : te S10 a0 = some (.inr 2) := by rw [← eS10, te_sI]; exact f1
    have f3 : tR S10 a0 1 = some b2 := by rw [← eS10, tR_sI]; exact f3
    have f5 : tR S10 a0 2 = some b4 := by rw [← eS10, tR_sI]; exact f5
    have f6 : te S10 b4 = some (.inr 0) := by rw [← eS10, te_sI]; exact f6
    have f9 : te S10 b2 = some (.inl (.int, n8)) := by rw [← eS10, te_sI]; exact f9
    obtain ⟨y11, ey11⟩ : ∃ y : Int32, y = x2 + 1 := ⟨_, rfl⟩
    have h := h y11 ey11
    refine tt_iinc (i := 2) (n := 1) (v := y11) (lv' := [(0, .ref a0), (1, .int x1), (2, .int y11)]) (by decide +kernel) (by decide) rfl ey11.symm rfl ?_
    refine tt_goto (off := -27) (tgt := 2) (by decide +kernel) (by decide) ?_
    exact tt_mono h (fun r S' q => ⟨hm.tr q.1, q.2⟩)
set_option maxRecDepth 100000 in
theorem v_Hash_spread_35 {G : pG} (a0 : Nat) (x1 : Int32) (x2 : Int32) (S : TS) (Q : Option Value → TS → Prop)
    (h : ((64 ≤ x2 → Q none S) ∧ (¬ (64 ≤ x2) → te S a0 = some (.inr 2) ∧ ∃ b2 : Nat, tR S a0 1 = some b2 ∧ ∃ n4 : Nat, te S b2 = some (.inl (.int, n4)) ∧ vp_in (x2 - (15 : Int32)) n4 ∧ ∀ y6 : Int32, y6 = tI S b2 (x2 - (15 : Int32)).toNatClampNeg → vp_in (x2 - (2 : Int32)) n4 ∧ ∀ y7 : Int32, y7 = tI S b2 (x2 - (2 : Int32)).toNatClampNeg → CP G J_Int_rotateRight [.int y6, .int 7] S (fun r => ∃ r8 : Int32, r = some (.int r8) ∧ CP G J_Int_rotateRight [.int y6, .int 18] S (fun r => ∃ r9 : Int32, r = some (.int r9) ∧ ∀ y10 : Int32, y10 = (r8 ^^^ r9) ^^^ (ushr y6 3) → CP G J_Int_rotateRight [.int y7, .int 17] S (fun r => ∃ r11 : Int32, r = some (.int r11) ∧ CP G J_Int_rotateRight [.int y7, .int 19] S (fun r => ∃ r12 : Int32, r = some (.int r12) ∧ ∀ y13 : Int32, y13 = (r11 ^^^ r12) ^^^ (ushr y7 10) → vp_in (x2 - (16 : Int32)) n4 ∧ vp_in (x2 - (7 : Int32)) n4 ∧ vp_in x2 n4 ∧ ∀ S14 : TS, S14 = sI S b2 (upd (tI S b2) x2.toNatClampNeg ((((tI S b2 (x2 - (16 : Int32)).toNatClampNeg) + y10) + (tI S b2 (x2 - (7 : Int32)).toNatClampNeg)) + y13)) → ∀ y15 : Int32, y15 = x2 + 1 → T0 G J_Hash_spread 35 [(0, .ref a0), (1, .int x1), (2, .int y15)] [] S14 Q))))))) :
    T0 G J_Hash_spread 35 [(0, .ref a0), (1, .int x1), (2, .int x2)] [] S Q := by
  unfold T0
  have hm : Sm0 S S := Sm0.rf S
  refine tt_iload_n (k0 := 2) (by decide +kernel) rfl ?_
  refine tt_bipush (n := 64) (v := 64) (by decide +kernel) (by decide) ?_
  refine tt_icmp_ge (off := 102) 140 (by decide +kernel) (by decide) (fun c => ?_) (fun c => ?_)
  · have h := h.1 c
    exact tt_vret (by decide +kernel) rfl ⟨hm, h⟩
  · have h := h.2 c
    refine tt_aload_n (k0 := 0) (by decide +kernel) rfl ?_
    obtain ⟨f1, h⟩ := h
    obtain ⟨b2, f3, h⟩ := h
    refine tt_getR (k := 1) (by decide +kernel) KC_2 (by decide) w_160 (fun _ => rfl) f1 f3 ?_
    refine tt_iload_n (k0 := 2) (by decide +kernel) rfl ?_
    refine tt_bipush (n := 15) (v := 15) (by decide +kernel) (by decide) ?_
    refine tt_isub (by decide +kernel) ?_
    obtain ⟨n4, f5, h⟩ := h
    obtain ⟨g2, h⟩ := h
    refine tt_iald (by decide +kernel) f5 g2 ?_
    refine tt_topi (fun y6 ey6 => ?_)
    have h := h y6 ey6
    refine tt_istore_n (k0 := 3) (lv' := [(0, .ref a0), (1, .int x1), (2, .int x2), (3, .int y6)]) (by decide +kernel) (by decide) rfl ?_
    refine tt_aload_n (k0 := 0) (by decide +kernel) rfl ?_
    refine tt_getR (k := 1) (by decide +kernel) KC_2 (by decide) w_160 (fun _ => rfl) f1 f3 ?_
    refine tt_iload_n (k0 := 2) (by decide +kernel) rfl ?_
    refine tt_iconst (n := 2) (v := 2) (by decide +kernel) (by decide) ?_
    refine tt_isub (by decide +kernel) ?_
    obtain ⟨g2, h⟩ := h
    refine tt_iald (by decide +kernel) f5 g2 ?_
    refine tt_topi (fun y7 ey7 => ?_)
    have h := h y7 ey7
    refine tt_istore (k0 := 4) (lv' := [(0, .ref a0), (1, .int x1), (2, .int x2), (3, .int y6), (4, .int y7)]) (by decide +kernel) (by decide) rfl ?_
    refine tt_iload_n (k0 := 3) (by decide +kernel) rfl ?_
    refine tt_bipush (n := 7) (v := 7) (by decide +kernel) (by decide) ?_
    refine tt_callS (As := [.int y6, .int 7]) (rest := []) (by decide +kernel) LK_Int_rotateRight w_382 w_383 (by decide) (by decide) rfl rfl (Nat.le_of_ble_eq_true rfl) (ct_mono h (fun r Sb h => ?_))
    obtain ⟨eb, h⟩ := h
    obtain ⟨r8, rfl, h⟩ := h
    rw [eb]
    show T G J_Hash_spread 67 [(0, .ref a0), (1, .int x1), (2, .int x2), (3, .int y6), (4, .int y7)] [.int r8] S _
    refine tt_iload_n (k0 := 3) (by decide +kernel) rfl ?_
    refine tt_bipush (n := 18) (v := 18) (by decide +kernel) (by decide) ?_
    refine tt_callS (As := [.int y6, .int 18]) (rest := [.int r8]) (by decide +kernel) LK_Int_rotateRight w_382 w_383 (by decide) (by decide) rfl rfl (Nat.le_of_ble_eq_true rfl) (ct_mono h (fun r Sb h => ?_))
    obtain ⟨eb, h⟩ := h
    obtain ⟨r9, rfl, h⟩ := h
    rw [eb]
    show T G J_Hash_spread 73 [(0, .ref a0), (1, .int x1), (2, .int x2), (3, .int y6), (4, .int y7)] [.int r9, .int r8] S _
    refine tt_ixor (by decide +kernel) ?_
    refine tt_iload_n (k0 := 3) (by decide +kernel) rfl ?_
    refine tt_iconst (n := 3) (v := 3) (by decide +kernel) (by decide) ?_
    refine tt_iushr (by decide +kernel) ?_
    refine tt_ixor (by decide +kernel) ?_
    refine tt_topi (fun y10 ey10 => ?_)
    have h := h y10 ey10
    refine tt_istore (k0 := 5) (lv' := [(0, .ref a0), (1, .int x1), (2, .int x2), (3, .int y6), (4, .int y7), (5, .int y10)]) (by decide +kernel) (by decide) rfl ?_
    refine tt_iload (k0 := 4) (by decide +kernel) rfl ?_
    refine tt_bipush (n := 17) (v := 17) (by decide +kernel) (by decide) ?_
    refine tt_callS (As := [.int y7, .int 17]) (rest := []) (by decide +kernel) LK_Int_rotateRight w_382 w_383 (by decide) (by decide) rfl rfl (Nat.le_of_ble_eq_true rfl) (ct_mono h (fun r Sb h => ?_))
    obtain ⟨eb, h⟩ := h
    obtain ⟨r11, rfl, h⟩ := h
    rw [eb]
    show T G J_Hash_spread 87 [(0, .ref a0), (1, .int x1), (2, .int x2), (3, .int y6), (4, .int y7), (5, .int y10)] [.int r11] S _
    refine tt_iload (k0 := 4) (by decide +kernel) rfl ?_
    refine tt_bipush (n := 19) (v := 19) (by decide +kernel) (by decide) ?_
    refine tt_callS (As := [.int y7, .int 19]) (rest := [.int r11]) (by decide +kernel) LK_Int_rotateRight w_382 w_383 (by decide) (by decide) rfl rfl (Nat.le_of_ble_eq_true rfl) (ct_mono h (fun r Sb h => ?_))
    obtain ⟨eb, h⟩ := h
    obtain ⟨r12, rfl, h⟩ := h
    rw [eb]
    show T G J_Hash_spread 94 [(0, .ref a0), (1, .int x1), (2, .int x2), (3, .int y6), (4, .int y7), (5, .int y10)] [.int r12, .int r11] S _
    refine tt_ixor (by decide +kernel) ?_
    refine tt_iload (k0 := 4) (by decide +kernel) rfl ?_
    refine tt_bipush (n := 10) (v := 10) (by decide +kernel) (by decide) ?_
    refine tt_iushr (by decide +kernel) ?_
    refine tt_ixor (by decide +kernel) ?_
    refine tt_topi (fun y13 ey13 => ?_)
    have h := h y13 ey13
    refine tt_istore (k0 := 6) (lv' := [(0, .ref a0), (1, .int x1), (2, .int x2), (3, .int y6), (4, .int y7), (5, .int y10), (6, .int y13)]) (by decide +kernel) (by decide) rfl ?_
    refine tt_aload_n (k0 := 0) (by decide +kernel) rfl ?_
    refine tt_getR (k := 1) (by decide +kernel) KC_2 (by decide) w_160 (fun _ => rfl) f1 f3 ?_
    refine tt_iload_n (k0 := 2) (by decide +kernel) rfl ?_
    refine tt_aload_n (k0 := 0) (by decide +kernel) rfl ?_
    refine tt_getR (k := 1) (by decide +kernel) KC_2 (by decide) w_160 (fun _ => rfl) f1 f3 ?_
    refine tt_iload_n (k0 := 2) (by decide +kernel) rfl ?_
    refine tt_bipush (n := 16) (v := 16) (by decide +kernel) (by decide) ?_
    refine tt_isub (by decide +kernel) ?_
    obtain ⟨g2, h⟩ := h
    refine tt_iald (by decide +kernel) f5 g2 ?_
    refine tt_iload (k0 := 5) (by decide +kernel) rfl ?_
    refine tt_iadd (by decide +kernel) ?_
    refine tt_aload_n (k0 := 0) (by decide +kernel) rfl ?_
    refine tt_getR (k := 1) (by decide +kernel) KC_2 (by decide) w_160 (fun _ => rfl) f1 f3 ?_
    refine tt_iload_n (k0 := 2) (by decide +kernel) rfl ?_
    refine tt_bipush (n := 7) (v := 7) (by decide +kernel) (by decide) ?_
    refine tt_isub (by decide +kernel) ?_
    obtain ⟨g2, h⟩ := h
    refine tt_iald (by decide +kernel) f5 g2 ?_
    refine tt_iadd (by decide +kernel) ?_
    refine tt_iload (k0 := 6) (by decide +kernel) rfl ?_
    refine tt_iadd (by decide +kernel) ?_
    obtain ⟨g2, h⟩ := h
    refine tt_iast (by decide +kernel) f5 g2 ?_
    generalize eS14 : sI S b2 (upd (tI S b2) x2.toNatClampNeg ((((tI S b2 (x2 - (16 : Int32)).toNatClampNeg) + y10) + (tI S b2 (x2 - (7 : Int32)).toNatClampNeg)) + y13)) = S14
    have h := h S14 eS14.symm
    have hm : Sm0 S S14 := by rw [← eS14]; exact hm.I
    have f1 : te S14 a0 = some (.inr 2) := by rw [← eS14, te_sI]; exact f1
    have f3 : tR S14 a0 1 = some b2 := by rw [← eS14, tR_sI]; exact f3
    have f5 : te S14 b2 = some (.inl (.int, n4)) := by rw [← eS14, te_sI]; exact f5
    obtain ⟨y15, ey15⟩ : ∃ y : Int32, y = x2 + 1 := ⟨_, rfl⟩
    have h := h y15 ey15
    refine tt_iinc (i := 2) (n := 1) (v := y15) (lv' := [(0, .ref a0), (1, .int x1), (2, .int y15), (3, .int y6), (4, .int y7), (5, .int y10), (6, .int y13)]) (by decide +kernel) (by decide) rfl ey15.symm rfl ?_
    refine tt_goto (off := -102) (tgt := 35) (by decide +kernel) (by decide) ?_
    refine tt_lv [(0, .ref a0), (1, .int x1), (2, .int y15)] (by simp) ?_
    exact tt_mono h (fun r S' q => ⟨hm.tr q.1, q.2⟩)
set_option maxRecDepth 100000 in
theorem v_Int_rotateRight {G : pG} (x0 : Int32) (x1 : Int32) (S : TS) (Q : Option Value → Prop)
    (h : Q (some (.int ((ushr x0 x1) ||| (x0 <<< ((-x1) &&& 31)))))) :
    CP G J_Int_rotateRight [.int x0, .int x1] S Q := by
  unfold CP
  refine ct_of (by decide +kernel) (Nat.le_of_ble_eq_true rfl) (lv := [(0, .int x0), (1, .int x1)]) rfl ?_
  refine tt_iload_n (k0 := 0) (by decide +kernel) rfl ?_
  refine tt_iload_n (k0 := 1) (by decide +kernel) rfl ?_
  refine tt_iushr (by decide +kernel) ?_
  refine tt_iload_n (k0 := 0) (by decide +kernel) rfl ?_
  refine tt_iload_n (k0 := 1) (by decide +kernel) rfl ?_
  refine tt_ineg (by decide +kernel) ?_
  refine tt_ishl (by decide +kernel) ?_
  refine tt_ior (by decide +kernel) ?_
  exact tt_iret (by decide +kernel) rfl ⟨rfl, h⟩
set_option maxRecDepth 100000 in
theorem v_Hash_mix {G : pG} (a0 : Nat) (S : TS) (Q : Option Value → TS → Prop)
    (h : te S a0 = some (.inr 2) ∧ ∃ b2 : Nat, tR S a0 0 = some b2 ∧ ∃ n4 : Nat, te S b2 = some (.inl (.int, n4)) ∧ vp_in 0 n4 ∧ ∀ y6 : Int32, y6 = tI S b2 0 → vp_in 1 n4 ∧ ∀ y7 : Int32, y7 = tI S b2 1 → vp_in 2 n4 ∧ ∀ y8 : Int32, y8 = tI S b2 2 → vp_in 3 n4 ∧ ∀ y9 : Int32, y9 = tI S b2 3 → vp_in 4 n4 ∧ ∀ y10 : Int32, y10 = tI S b2 4 → vp_in 5 n4 ∧ ∀ y11 : Int32, y11 = tI S b2 5 → vp_in 6 n4 ∧ ∀ y12 : Int32, y12 = tI S b2 6 → vp_in 7 n4 ∧ ∀ y13 : Int32, y13 = tI S b2 7 → T0 G J_Hash_mix 66 [(0, .ref a0), (1, .int y6), (2, .int y7), (3, .int y8), (4, .int y9), (5, .int y10), (6, .int y11), (7, .int y12), (8, .int y13), (9, .int 0)] [] S Q) :
    C0 G J_Hash_mix [.ref a0] S Q := by
  unfold C0
  refine ct_of (by decide +kernel) (Nat.le_of_ble_eq_true rfl) (lv := [(0, .ref a0)]) rfl ?_
  have hm : Sm0 S S := Sm0.rf S
  refine tt_aload_n (k0 := 0) (by decide +kernel) rfl ?_
  obtain ⟨f1, h⟩ := h
  obtain ⟨b2, f3, h⟩ := h
  refine tt_getR (k := 0) (by decide +kernel) KC_2 (by decide) w_159 (fun _ => rfl) f1 f3 ?_
  refine tt_iconst (n := 0) (v := 0) (by decide +kernel) (by decide) ?_
  obtain ⟨n4, f5, h⟩ := h
  obtain ⟨g2, h⟩ := h
  refine tt_iald (by decide +kernel) f5 g2 ?_
  show T G J_Hash_mix 6 [(0, .ref a0)] [.int (tI S b2 0)] S _
  refine tt_topi (fun y6 ey6 => ?_)
  have h := h y6 ey6
  refine tt_istore_n (k0 := 1) (lv' := [(0, .ref a0), (1, .int y6)]) (by decide +kernel) (by decide) rfl ?_
  refine tt_aload_n (k0 := 0) (by decide +kernel) rfl ?_
  refine tt_getR (k := 0) (by decide +kernel) KC_2 (by decide) w_159 (fun _ => rfl) f1 f3 ?_
  refine tt_iconst (n := 1) (v := 1) (by decide +kernel) (by decide) ?_
  obtain ⟨g2, h⟩ := h
  refine tt_iald (by decide +kernel) f5 g2 ?_
  show T G J_Hash_mix 13 [(0, .ref a0), (1, .int y6)] [.int (tI S b2 1)] S _
  refine tt_topi (fun y7 ey7 => ?_)
  have h := h y7 ey7
  refine tt_istore_n (k0 := 2) (lv' := [(0, .ref a0), (1, .int y6), (2, .int y7)]) (by decide +kernel) (by decide) rfl ?_
  refine tt_aload_n (k0 := 0) (by decide +kernel) rfl ?_
  refine tt_getR (k := 0) (by decide +kernel) KC_2 (by decide) w_159 (fun _ => rfl) f1 f3 ?_
  refine tt_iconst (n := 2) (v := 2) (by decide +kernel) (by decide) ?_
  obtain ⟨g2, h⟩ := h
  refine tt_iald (by decide +kernel) f5 g2 ?_
  show T G J_Hash_mix 20 [(0, .ref a0), (1, .int y6), (2, .int y7)] [.int (tI S b2 2)] S _
  refine tt_topi (fun y8 ey8 => ?_)
  have h := h y8 ey8
  refine tt_istore_n (k0 := 3) (lv' := [(0, .ref a0), (1, .int y6), (2, .int y7), (3, .int y8)]) (by decide +kernel) (by decide) rfl ?_
  refine tt_aload_n (k0 := 0) (by decide +kernel) rfl ?_
  refine tt_getR (k := 0) (by decide +kernel) KC_2 (by decide) w_159 (fun _ => rfl) f1 f3 ?_
  refine tt_iconst (n := 3) (v := 3) (by decide +kernel) (by decide) ?_
  obtain ⟨g2, h⟩ := h
  refine tt_iald (by decide +kernel) f5 g2 ?_
  show T G J_Hash_mix 27 [(0, .ref a0), (1, .int y6), (2, .int y7), (3, .int y8)] [.int (tI S b2 3)] S _
  refine tt_topi (fun y9 ey9 => ?_)
  have h := h y9 ey9
  refine tt_istore (k0 := 4) (lv' := [(0, .ref a0), (1, .int y6), (2, .int y7), (3, .int y8), (4, .int y9)]) (by decide +kernel) (by decide) rfl ?_
  refine tt_aload_n (k0 := 0) (by decide +kernel) rfl ?_
  refine tt_getR (k := 0) (by decide +kernel) KC_2 (by decide) w_159 (fun _ => rfl) f1 f3 ?_
  refine tt_iconst (n := 4) (v := 4) (by decide +kernel) (by decide) ?_
  obtain ⟨g2, h⟩ := h
  refine tt_iald (by decide +kernel) f5 g2 ?_
  show T G J_Hash_mix 35 [(0, .ref a0), (1, .int y6), (2, .int y7), (3, .int y8), (4, .int y9)] [.int (tI S b2 4)] S _
  refine tt_topi (fun y10 ey10 => ?_)
  have h := h y10 ey10
  refine tt_istore (k0 := 5) (lv' := [(0, .ref a0), (1, .int y6), (2, .int y7), (3, .int y8), (4, .int y9), (5, .int y10)]) (by decide +kernel) (by decide) rfl ?_
  refine tt_aload_n (k0 := 0) (by decide +kernel) rfl ?_
  refine tt_getR (k := 0) (by decide +kernel) KC_2 (by decide) w_159 (fun _ => rfl) f1 f3 ?_
  refine tt_iconst (n := 5) (v := 5) (by decide +kernel) (by decide) ?_
  obtain ⟨g2, h⟩ := h
  refine tt_iald (by decide +kernel) f5 g2 ?_
  show T G J_Hash_mix 43 [(0, .ref a0), (1, .int y6), (2, .int y7), (3, .int y8), (4, .int y9), (5, .int y10)] [.int (tI S b2 5)] S _
  refine tt_topi (fun y11 ey11 => ?_)
  have h := h y11 ey11
  refine tt_istore (k0 := 6) (lv' := [(0, .ref a0), (1, .int y6), (2, .int y7), (3, .int y8), (4, .int y9), (5, .int y10), (6, .int y11)]) (by decide +kernel) (by decide) rfl ?_
  refine tt_aload_n (k0 := 0) (by decide +kernel) rfl ?_
  refine tt_getR (k := 0) (by decide +kernel) KC_2 (by decide) w_159 (fun _ => rfl) f1 f3 ?_
  refine tt_bipush (n := 6) (v := 6) (by decide +kernel) (by decide) ?_
  obtain ⟨g2, h⟩ := h
  refine tt_iald (by decide +kernel) f5 g2 ?_
  show T G J_Hash_mix 52 [(0, .ref a0), (1, .int y6), (2, .int y7), (3, .int y8), (4, .int y9), (5, .int y10), (6, .int y11)] [.int (tI S b2 6)] S _
  refine tt_topi (fun y12 ey12 => ?_)
  have h := h y12 ey12
  refine tt_istore (k0 := 7) (lv' := [(0, .ref a0), (1, .int y6), (2, .int y7), (3, .int y8), (4, .int y9), (5, .int y10), (6, .int y11), (7, .int y12)]) (by decide +kernel) (by decide) rfl ?_
  refine tt_aload_n (k0 := 0) (by decide +kernel) rfl ?_
  refine tt_getR (k := 0) (by decide +kernel) KC_2 (by decide) w_159 (fun _ => rfl) f1 f3 ?_
  refine tt_bipush (n := 7) (v := 7) (by decide +kernel) (by decide) ?_
  obtain ⟨g2, h⟩ := h
  refine tt_iald (by decide +kernel) f5 g2 ?_
  show T G J_Hash_mix 61 [(0, .ref a0), (1, .int y6), (2, .int y7), (3, .int y8), (4, .int y9), (5, .int y10), (6, .int y11), (7, .int y12)] [.int (tI S b2 7)] S _
  refine tt_topi (fun y13 ey13 => ?_)
  have h := h y13 ey13
  refine tt_istore (k0 := 8) (lv' := [(0, .ref a0), (1, .int y6), (2, .int y7), (3, .int y8), (4, .int y9), (5, .int y10), (6, .int y11), (7, .int y12), (8, .int y13)]) (by decide +kernel) (by decide) rfl ?_
  refine tt_iconst (n := 0) (v := 0) (by decide +kernel) (by decide) ?_
  refine tt_istore (k0 := 9) (lv' := [(0, .ref a0), (1, .int y6), (2, .int y7), (3, .int y8), (4, .int y9), (5, .int y10), (6, .int y11), (7, .int y12), (8, .int y13), (9, .int 0)]) (by decide +kernel) (by decide) rfl ?_
  exact tt_mono h (fun r S' q => ⟨hm.tr q.1, q.2⟩)
set_option maxRecDepth 100000 in
theorem v_Hash_mix_66 {G : pG} {t : Nat → Nat} (hG : GS G t) (a0 : Nat) (x1 : Int32) (x2 : Int32) (x3 : Int32) (x4 : Int32) (x5 : Int32) (x6 : Int32) (x7 : Int32) (x8 : Int32) (x9 : Int32) (S : TS) (Q : Option Value → TS → Prop)
    (h : ((64 ≤ x9 → te S a0 = some (.inr 2) ∧ ∃ b2 : Nat, tR S a0 0 = some b2 ∧ ∃ n4 : Nat, te S b2 = some (.inl (.int, n4)) ∧ vp_in 0 n4 ∧ vp_in 0 n4 ∧ ∀ S6 : TS, S6 = sI S b2 (upd (tI S b2) 0 ((tI S b2 0) + x1)) → vp_in 1 n4 ∧ vp_in 1 n4 ∧ ∀ S7 : TS, S7 = sI S6 b2 (upd (tI S6 b2) 1 ((tI S6 b2 1) + x2)) → vp_in 2 n4 ∧ vp_in 2 n4 ∧ ∀ S8 : TS, S8 = sI S7 b2 (upd (tI S7 b2) 2 ((tI S7 b2 2) + x3)) → vp_in 3 n4 ∧ vp_in 3 n4 ∧ ∀ S9 : TS, S9 = sI S8 b2 (upd (tI S8 b2) 3 ((tI S8 b2 3) + x4)) → vp_in 4 n4 ∧ vp_in 4 n4 ∧ ∀ S10 : TS, S10 = sI S9 b2 (upd (tI S9 b2) 4 ((tI S9 b2 4) + x5)) → vp_in 5 n4 ∧ vp_in 5 n4 ∧ ∀ S11 : TS, S11 = sI S10 b2 (upd (tI S10 b2) 5 ((tI S10 b2 5) + x6)) → vp_in 6 n4 ∧ vp_in 6 n4 ∧ ∀ S12 : TS, S12 = sI S11 b2 (upd (tI S11 b2) 6 ((tI S11 b2 6) + x7)) → vp_in 7 n4 ∧ vp_in 7 n4 ∧ ∀ S13 : TS, S13 = sI S12 b2 (upd (tI S12 b2) 7 ((tI S12 b2 7) + x8)) → Q none S13) ∧ (¬ (64 ≤ x9) → CP G J_Int_rotateRight [.int x5, .int 6] S (fun r => ∃ r14 : Int32, r = some (.int r14) ∧ CP G J_Int_rotateRight [.int x5, .int 11] S (fun r => ∃ r15 : Int32, r = some (.int r15) ∧ CP G J_Int_rotateRight [.int x5, .int 25] S (fun r => ∃ r16 : Int32, r = some (.int r16) ∧ ∀ y17 : Int32, y17 = (r14 ^^^ r15) ^^^ r16 → vp_in x9 64 ∧ te S a0 = some (.inr 2) ∧ ∃ b19 : Nat, tR S a0 1 = some b19 ∧ ∃ n21 : Nat, te S b19 = some (.inl (.int, n21)) ∧ vp_in x9 n21 ∧ ∀ y23 : Int32, y23 = (((x8 + y17) + ((x5 &&& x6) ^^^ ((x5 ^^^ ((-1) : Int32)) &&& x7))) + (ro 1 x9.toNatClampNeg)) + (tI S b19 x9.toNatClampNeg) → CP G J_Int_rotateRight [.int x1, .int 2] S (fun r => ∃ r24 : Int32, r = some (.int r24) ∧ CP G J_Int_rotateRight [.int x1, .int 13] S (fun r => ∃ r25 : Int32, r = some (.int r25) ∧ CP G J_Int_rotateRight [.int x1, .int 22] S (fun r => ∃ r26 : Int32, r = some (.int r26) ∧ ∀ y27 : Int32, y27 = (r24 ^^^ r25) ^^^ r26 → ∀ y28 : Int32, y28 = y27 + (((x1 &&& x2) ^^^ (x1 &&& x3)) ^^^ (x2 &&& x3)) → ∀ y29 : Int32, y29 = x4 + y23 → ∀ y30 : Int32, y30 = y23 + y28 → ∀ y31 : Int32, y31 = x9 + 1 → T0 G J_Hash_mix 66 [(0, .ref a0), (1, .int y30), (2, .int x1), (3, .int x2), (4, .int x3), (5, .int y29), (6, .int x5), (7, .int x6), (8, .int x7), (9, .int y31)] [] S Q))))))))) :
    T0 G J_Hash_mix 66 [(0, .ref a0), (1, .int x1), (2, .int x2), (3, .int x3), (4, .int x4), (5, .int x5), (6, .int x6), (7, .int x7), (8, .int x8), (9, .int x9)] [] S Q := by
  unfold T0
  have hm : Sm0 S S := Sm0.rf S
  refine tt_iload (k0 := 9) (by decide +kernel) rfl ?_
  refine tt_bipush (n := 64) (v := 64) (by decide +kernel) (by decide) ?_
  refine tt_icmp_ge (off := 139) 209 (by decide +kernel) (by decide) (fun c => ?_) (fun c => ?_)
  · have h := h.1 c
    refine tt_aload_n (k0 := 0) (by decide +kernel) rfl ?_
    obtain ⟨f1, h⟩ := h
    obtain ⟨b2, f3, h⟩ := h
    refine tt_getR (k := 0) (by decide +kernel) KC_2 (by decide) w_159 (fun _ => rfl) f1 f3 ?_
    refine tt_iconst (n := 0) (v := 0) (by decide +kernel) (by decide) ?_
    refine tt_dup2_11 (by decide +kernel) rfl rfl ?_
    obtain ⟨n4, f5, h⟩ := h
    obtain ⟨g2, h⟩ := h
    refine tt_iald (by decide +kernel) f5 g2 ?_
    show T G J_Hash_mix 216 [(0, .ref a0), (1, .int x1), (2, .int x2), (3, .int x3), (4, .int x4), (5, .int x5), (6, .int x6), (7, .int x7), (8, .int x8), (9, .int x9)] [.int (tI S b2 0), .int 0, .ref b2] S _
    refine tt_iload_n (k0 := 1) (by decide +kernel) rfl ?_
    refine tt_iadd (by decide +kernel) ?_
    obtain ⟨g2, h⟩ := h
    refine tt_iast (by decide +kernel) f5 g2 ?_
    show T G J_Hash_mix 219 [(0, .ref a0), (1, .int x1), (2, .int x2), (3, .int x3), (4, .int x4), (5, .int x5), (6, .int x6), (7, .int x7), (8, .int x8), (9, .int x9)] [] (sI S b2 (upd (tI S b2) 0 ((tI S b2 0) + x1))) _
    generalize eS6 : sI S b2 (upd (tI S b2) 0 ((tI S b2 0) + x1)) = S6
    have h := h S6 eS6.symm
    have hm : Sm0 S S6 := by rw [← eS6]; exact hm.I
    have f1 : te S6 a0 = some (.inr 2) := by rw [← eS6, te_sI]; exact f1
    have f3 : tR S6 a0 0 = some b2 := by rw [← eS6, tR_sI]; exact f3
    have f5 : te S6 b2 = some (.inl (.int, n4)) := by rw [← eS6, te_sI]; exact f5
    refine tt_aload_n (k0 := 0) (by decide +kernel) rfl ?_
    refine tt_getR (k := 0) (by decide +kernel) KC_2 (by decide) w_159 (fun _ => rfl) f1 f3 ?_
    refine tt_iconst (n := 1) (v := 1) (by decide +kernel) (by decide) ?_
    refine tt_dup2_11 (by decide +kernel) rfl rfl ?_
    obtain ⟨g2, h⟩ := h
    refine tt_iald (by decide +kernel) f5 g2 ?_
    show T G J_Hash_mix 226 [(0, .ref a0), (1, .int x1), (2, .int x2), (3, .int x3), (4, .int x4), (5, .int x5), (6, .int x6), (7, .int x7), (8, .int x8), (9, .int x9)] [.int (tI S6 b2 1), .int 1, .ref b2] S6 _
    refine tt_iload_n (k0 := 2) (by decide +kernel) rfl ?_
    refine tt_iadd (by decide +kernel) ?_
    obtain ⟨g2, h⟩ := h
    refine tt_iast (by decide +kernel) f5 g2 ?_
    show T G J_Hash_mix 229 [(0, .ref a0), (1, .int x1), (2, .int x2), (3, .int x3), (4, .int x4), (5, .int x5), (6, .int x6), (7, .int x7), (8, .int x8), (9, .int x9)] [] (sI S6 b2 (upd (tI S6 b2) 1 ((tI S6 b2 1) + x2))) _
    generalize eS7 : sI S6 b2 (upd (tI S6 b2) 1 ((tI S6 b2 1) + x2)) = S7
    have h := h S7 eS7.symm
    have hm : Sm0 S S7 := by rw [← eS7]; exact hm.I
    have f1 : te S7 a0 = some (.inr 2) := by rw [← eS7, te_sI]; exact f1
    have f3 : tR S7 a0 0 = some b2 := by rw [← eS7, tR_sI]; exact f3
    have f5 : te S7 b2 = some (.inl (.int, n4)) := by rw [← eS7, te_sI]; exact f5
    refine tt_aload_n (k0 := 0) (by decide +kernel) rfl ?_
    refine tt_getR (k := 0) (by decide +kernel) KC_2 (by decide) w_159 (fun _ => rfl) f1 f3 ?_
    refine tt_iconst (n := 2) (v := 2) (by decide +kernel) (by decide) ?_
    refine tt_dup2_11 (by decide +kernel) rfl rfl ?_
    obtain ⟨g2, h⟩ := h
    refine tt_iald (by decide +kernel) f5 g2 ?_
    show T G J_Hash_mix 236 [(0, .ref a0), (1, .int x1), (2, .int x2), (3, .int x3), (4, .int x4), (5, .int x5), (6, .int x6), (7, .int x7), (8, .int x8), (9, .int x9)] [.int (tI S7 b2 2), .int 2, .ref b2] S7 _
    refine tt_iload_n (k0 := 3) (by decide +kernel) rfl ?_
    refine tt_iadd (by decide +kernel) ?_
    obtain ⟨g2, h⟩ := h
    refine tt_iast (by decide +kernel) f5 g2 ?_
    show T G J_Hash_mix 239 [(0, .ref a0), (1, .int x1), (2, .int x2), (3, .int x3), (4, .int x4), (5, .int x5), (6, .int x6), (7, .int x7), (8, .int x8), (9, .int x9)] [] (sI S7 b2 (upd (tI S7 b2) 2 ((tI S7 b2 2) + x3))) _
    generalize eS8 : sI S7 b2 (upd (tI S7 b2) 2 ((tI S7 b2 2) + x3)) = S8
    have h := h S8 eS8.symm
    have hm : Sm0 S S8 := by rw [← eS8]; exact hm.I
    have f1 : te S8 a0 = some (.inr 2) := by rw [← eS8, te_sI]; exact f1
    have f3 : tR S8 a0 0 = some b2 := by rw [← eS8, tR_sI]; exact f3
    have f5 : te S8 b2 = some (.inl (.int, n4)) := by rw [← eS8, te_sI]; exact f5
    refine tt_aload_n (k0 := 0) (by decide +kernel) rfl ?_
    refine tt_getR (k := 0) (by decide +kernel) KC_2 (by decide) w_159 (fun _ => rfl) f1 f3 ?_
    refine tt_iconst (n := 3) (v := 3) (by decide +kernel) (by decide) ?_
    refine tt_dup2_11 (by decide +kernel) rfl rfl ?_
    obtain ⟨g2, h⟩ := h
    refine tt_iald (by decide +kernel) f5 g2 ?_
    show T G J_Hash_mix 246 [(0, .ref a0), (1, .int x1), (2, .int x2), (3, .int x3), (4, .int x4), (5, .int x5), (6, .int x6), (7, .int x7), (8, .int x8), (9, .int x9)] [.int (tI S8 b2 3), .int 3, .ref b2] S8 _
    refine tt_iload (k0 := 4) (by decide +kernel) rfl ?_
    refine tt_iadd (by decide +kernel) ?_
    obtain ⟨g2, h⟩ := h
    refine tt_iast (by decide +kernel) f5 g2 ?_
    show T G J_Hash_mix 250 [(0, .ref a0), (1, .int x1), (2, .int x2), (3, .int x3), (4, .int x4), (5, .int x5), (6, .int x6), (7, .int x7), (8, .int x8), (9, .int x9)] [] (sI S8 b2 (upd (tI S8 b2) 3 ((tI S8 b2 3) + x4))) _
    generalize eS9 : sI S8 b2 (upd (tI S8 b2) 3 ((tI S8 b2 3) + x4)) = S9
    have h := h S9 eS9.symm
    have hm : Sm0 S S9 := by rw [← eS9]; exact hm.I
    have f1 : te S9 a0 = some (.inr 2) := by rw [← eS9, te_sI]; exact f1
    have f3 : tR S9 a0 0 = some b2 := by rw [← eS9, tR_sI]; exact f3
    have f5 : te S9 b2 = some (.inl (.int, n4)) := by rw [← eS9, te_sI]; exact f5
    refine tt_aload_n (k0 := 0) (by decide +kernel) rfl ?_
    refine tt_getR (k := 0) (by decide +kernel) KC_2 (by decide) w_159 (fun _ => rfl) f1 f3 ?_
    refine tt_iconst (n := 4) (v := 4) (by decide +kernel) (by decide) ?_
    refine tt_dup2_11 (by decide +kernel) rfl rfl ?_
    obtain ⟨g2, h⟩ := h
    refine tt_iald (by decide +kernel) f5 g2 ?_
    show T G J_Hash_mix 257 [(0, .ref a0), (1, .int x1), (2, .int x2), (3, .int x3), (4, .int x4), (5, .int x5), (6, .int x6), (7, .int x7), (8, .int x8), (9, .int x9)] [.int (tI S9 b2 4), .int 4, .ref b2] S9 _
    refine tt_iload (k0 := 5) (by decide +kernel) rfl ?_
    refine tt_iadd (by decide +kernel) ?_
    obtain ⟨g2, h⟩ := h
    refine tt_iast (by decide +kernel) f5 g2 ?_
    show T G J_Hash_mix 261 [(0, .ref a0), (1, .int x1), (2, .int x2), (3, .int x3), (4, .int x4), (5, .int x5), (6, .int x6), (7, .int x7), (8, .int x8), (9, .int x9)] [] (sI S9 b2 (upd (tI S9 b2) 4 ((tI S9 b2 4) + x5))) _
    generalize eS10 : sI S9 b2 (upd (tI S9 b2) 4 ((tI S9 b2 4) + x5)) = S10
    have h := h S10 eS10.symm
    have hm : Sm0 S S10 := by rw [← eS10]; exact hm.I
    have f1 : te S10 a0 = some (.inr 2) := by rw [← eS10, te_sI]; exact f1
    have f3 : tR S10 a0 0 = some b2 := by rw [← eS10, tR_sI]; exact f3
    have f5 : te S10 b2 = some (.inl (.int, n4)) := by rw [← eS10, te_sI]; exact f5
    refine tt_aload_n (k0 := 0) (by decide +kernel) rfl ?_
    refine tt_getR (k := 0) (by decide +kernel) KC_2 (by decide) w_159 (fun _ => rfl) f1 f3 ?_
    refine tt_iconst (n := 5) (v := 5) (by decide +kernel) (by decide) ?_
    refine tt_dup2_11 (by decide +kernel) rfl rfl ?_
    obtain ⟨g2, h⟩ := h
    refine tt_iald (by decide +kernel) f5 g2 ?_
    show T G J_Hash_mix 268 [(0, .ref a0), (1, .int x1), (2, .int x2), (3, .int x3), (4, .int x4), (5, .int x5), (6, .int x6), (7, .int x7), (8, .int x8), (9, .int x9)] [.int (tI S10 b2 5), .int 5, .ref b2] S10 _
    refine tt_iload (k0 := 6) (by decide +kernel) rfl ?_
    refine tt_iadd (by decide +kernel) ?_
    obtain ⟨g2, h⟩ := h
    refine tt_iast (by decide +kernel) f5 g2 ?_
    show T G J_Hash_mix 272 [(0, .ref a0), (1, .int x1), (2, .int x2), (3, .int x3), (4, .int x4), (5, .int x5), (6, .int x6), (7, .int x7), (8, .int x8), (9, .int x9)] [] (sI S10 b2 (upd (tI S10 b2) 5 ((tI S10 b2 5) + x6))) _
    generalize eS11 : sI S10 b2 (upd (tI S10 b2) 5 ((tI S10 b2 5) + x6)) = S11
    have h := h S11 eS11.symm
    have hm : Sm0 S S11 := by rw [← eS11]; exact hm.I
    have f1 : te S11 a0 = some (.inr 2) := by rw [← eS11, te_sI]; exact f1
    have f3 : tR S11 a0 0 = some b2 := by rw [← eS11, tR_sI]; exact f3
    have f5 : te S11 b2 = some (.inl (.int, n4)) := by rw [← eS11, te_sI]; exact f5
    refine tt_aload_n (k0 := 0) (by decide +kernel) rfl ?_
    refine tt_getR (k := 0) (by decide +kernel) KC_2 (by decide) w_159 (fun _ => rfl) f1 f3 ?_
    refine tt_bipush (n := 6) (v := 6) (by decide +kernel) (by decide) ?_
    refine tt_dup2_11 (by decide +kernel) rfl rfl ?_
    obtain ⟨g2, h⟩ := h
    refine tt_iald (by decide +kernel) f5 g2 ?_
    show T G J_Hash_mix 280 [(0, .ref a0), (1, .int x1), (2, .int x2), (3, .int x3), (4, .int x4), (5, .int x5), (6, .int x6), (7, .int x7), (8, .int x8), (9, .int x9)] [.int (tI S11 b2 6), .int 6, .ref b2] S11 _
    refine tt_iload (k0 := 7) (by decide +kernel) rfl ?_
    refine tt_iadd (by decide +kernel) ?_
    obtain ⟨g2, h⟩ := h
    refine tt_iast (by decide +kernel) f5 g2 ?_
    show T G J_Hash_mix 284 [(0, .ref a0), (1, .int x1), (2, .int x2), (3, .int x3), (4, .int x4), (5, .int x5), (6, .int x6), (7, .int x7), (8, .int x8), (9, .int x9)] [] (sI S11 b2 (upd (tI S11 b2) 6 ((tI S11 b2 6) + x7))) _
    generalize eS12 : sI S11 b2 (upd (tI S11 b2) 6 ((tI S11 b2 6) + x7)) = S12
    have h := h S12 eS12.symm
    have hm : Sm0 S S12 := by rw [← eS12]; exact hm.I
    have f1 : te S12 a0 = some (.inr 2) := by rw [← eS12, te_sI]; exact f1
    have f3 : tR S12 a0 0 = some b2 := by rw [← eS12, tR_sI]; exact f3
    have f5 : te S12 b2 = some (.inl (.int, n4)) := by rw [← eS12, te_sI]; exact f5
    refine tt_aload_n (k0 := 0) (by decide +kernel) rfl ?_
    refine tt_getR (k := 0) (by decide +kernel) KC_2 (by decide) w_159 (fun _ => rfl) f1 f3 ?_
    refine tt_bipush (n := 7) (v := 7) (by decide +kernel) (by decide) ?_
    refine tt_dup2_11 (by decide +kernel) rfl rfl ?_
    obtain ⟨g2, h⟩ := h
    refine tt_iald (by decide +kernel) f5 g2 ?_
    show T G J_Hash_mix 292 [(0, .ref a0), (1, .int x1), (2, .int x2), (3, .int x3), (4, .int x4), (5, .int x5), (6, .int x6), (7, .int x7), (8, .int x8), (9, .int x9)] [.int (tI S12 b2 7), .int 7, .ref b2] S12 _
    refine tt_iload (k0 := 8) (by decide +kernel) rfl ?_
    refine tt_iadd (by decide +kernel) ?_
    obtain ⟨g2, h⟩ := h
    refine tt_iast (by decide +kernel) f5 g2 ?_
    show T G J_Hash_mix 296 [(0, .ref a0), (1, .int x1), (2, .int x2), (3, .int x3), (4, .int x4), (5, .int x5), (6, .int x6), (7, .int x7), (8, .int x8), (9, .int x9)] [] (sI S12 b2 (upd (tI S12 b2) 7 ((tI S12 b2 7) + x8))) _
    generalize eS13 : sI S12 b2 (upd (tI S12 b2) 7 ((tI S12 b2 7) + x8)) = S13
    have h := h S13 eS13.symm
    have hm : Sm0 S S13 := by rw [← eS13]; exact hm.I
    have f1 : te S13 a0 = some (.inr 2) := by rw [← eS13, te_sI]; exact f1
    have f3 : tR S13 a0 0 = some b2 := by rw [← eS13, tR_sI]; exact f3
    have f5 : te S13 b2 = some (.inl (.int, n4)) := by rw [← eS13, te_sI]; exact f5
    exact tt_vret (by decide +kernel) rfl ⟨hm, h⟩
  · have h := h.2 c
    refine tt_iload (k0 := 5) (by decide +kernel) rfl ?_
    refine tt_bipush (n := 6) (v := 6) (by decide +kernel) (by decide) ?_
    refine tt_callS (As := [.int x5, .int 6]) (rest := []) (by decide +kernel) LK_Int_rotateRight w_382 w_383 (by decide) (by decide) rfl rfl (Nat.le_of_ble_eq_true rfl) (ct_mono h (fun r Sb h => ?_))
    obtain ⟨eb, h⟩ := h
    obtain ⟨r14, rfl, h⟩ := h
    rw [eb]
    show T G J_Hash_mix 80 [(0, .ref a0), (1, .int x1), (2, .int x2), (3, .int x3), (4, .int x4), (5, .int x5), (6, .int x6), (7, .int x7), (8, .int x8), (9, .int x9)] [.int r14] S _
    refine tt_iload (k0 := 5) (by decide +kernel) rfl ?_
    refine tt_bipush (n := 11) (v := 11) (by decide +kernel) (by decide) ?_
    refine tt_callS (As := [.int x5, .int 11]) (rest := [.int r14]) (by decide +kernel) LK_Int_rotateRight w_382 w_383 (by decide) (by decide) rfl rfl (Nat.le_of_ble_eq_true rfl) (ct_mono h (fun r Sb h => ?_))
    obtain ⟨eb, h⟩ := h
    obtain ⟨r15, rfl, h⟩ := h
    rw [eb]
    show T G J_Hash_mix 87 [(0, .ref a0), (1, .int x1), (2, .int x2), (3, .int x3), (4, .int x4), (5, .int x5), (6, .int x6), (7, .int x7), (8, .int x8), (9, .int x9)] [.int r15, .int r14] S _
    refine tt_ixor (by decide +kernel) ?_
    refine tt_iload (k0 := 5) (by decide +kernel) rfl ?_
    refine tt_bipush (n := 25) (v := 25) (by decide +kernel) (by decide) ?_
    refine tt_callS (As := [.int x5, .int 25]) (rest := [.int (r14 ^^^ r15)]) (by decide +kernel) LK_Int_rotateRight w_382 w_383 (by decide) (by decide) rfl rfl (Nat.le_of_ble_eq_true rfl) (ct_mono h (fun r Sb h => ?_))
    obtain ⟨eb, h⟩ := h
    obtain ⟨r16, rfl, h⟩ := h
    rw [eb]
    show T G J_Hash_mix 95 [(0, .ref a0), (1, .int x1), (2, .int x2), (3, .int x3), (4, .int x4), (5, .int x5), (6, .int x6), (7, .int x7), (8, .int x8), (9, .int x9)] [.int r16, .int (r14 ^^^ r15)] S _
    refine tt_ixor (by decide +kernel) ?_
    refine tt_topi (fun y17 ey17 => ?_)
    have h := h y17 ey17
    refine tt_istore (k0 := 10) (lv' := [(0, .ref a0), (1, .int x1), (2, .int x2), (3, .int x3), (4, .int x4), (5, .int x5), (6, .int x6), (7, .int x7), (8, .int x8), (9, .int x9), (10, .int y17)]) (by decide +kernel) (by decide) rfl ?_
    refine tt_iload (k0 := 8) (by decide +kernel) rfl ?_
    refine tt_iload (k0 := 10) (by decide +kernel) rfl ?_
    refine tt_iadd (by decide +kernel) ?_
    refine tt_iload (k0 := 5) (by decide +kernel) rfl ?_
    refine tt_iload (k0 := 6) (by decide +kernel) rfl ?_
    refine tt_iand (by decide +kernel) ?_
    refine tt_iload (k0 := 5) (by decide +kernel) rfl ?_
    refine tt_iconst (n := -1) (v := -1) (by decide +kernel) (by decide) ?_
    refine tt_ixor (by decide +kernel) ?_
    refine tt_iload (k0 := 7) (by decide +kernel) rfl ?_
    refine tt_iand (by decide +kernel) ?_
    refine tt_ixor (by decide +kernel) ?_
    refine tt_iadd (by decide +kernel) ?_
    refine tt_gets (z := ("SealedWire$Hash", "ROUNDS", "[I", .ref (t 1))) (by decide +kernel) (by rw [hG.1]; simp [stt]) w_389 ?_
    refine tt_iload (k0 := 9) (by decide +kernel) rfl ?_
    obtain ⟨g, h⟩ := h
    refine tt_iro (n := 64) (f := ro 1) (by decide +kernel) (by rw [hG.2]; simp [rot]) g ?_
    refine tt_iadd (by decide +kernel) ?_
    refine tt_aload_n (k0 := 0) (by decide +kernel) rfl ?_
    obtain ⟨f18, h⟩ := h
    obtain ⟨b19, f20, h⟩ := h
    refine tt_getR (k := 1) (by decide +kernel) KC_2 (by decide) w_160 (fun _ => rfl) f18 f20 ?_
    refine tt_iload (k0 := 9) (by decide +kernel) rfl ?_
    obtain ⟨n21, f22, h⟩ := h
    obtain ⟨g2, h⟩ := h
    refine tt_iald (by decide +kernel) f22 g2 ?_
    refine tt_iadd (by decide +kernel) ?_
    refine tt_topi (fun y23 ey23 => ?_)
    have h := h y23 ey23
    refine tt_istore (k0 := 11) (lv' := [(0, .ref a0), (1, .int x1), (2, .int x2), (3, .int x3), (4, .int x4), (5, .int x5), (6, .int x6), (7, .int x7), (8, .int x8), (9, .int x9), (10, .int y17), (11, .int y23)]) (by decide +kernel) (by decide) rfl ?_
    refine tt_iload_n (k0 := 1) (by decide +kernel) rfl ?_
    refine tt_iconst (n := 2) (v := 2) (by decide +kernel) (by decide) ?_
    refine tt_callS (As := [.int x1, .int 2]) (rest := []) (by decide +kernel) LK_Int_rotateRight w_382 w_383 (by decide) (by decide) rfl rfl (Nat.le_of_ble_eq_true rfl) (ct_mono h (fun r Sb h => ?_))
    obtain ⟨eb, h⟩ := h
    obtain ⟨r24, rfl, h⟩ := h
    rw [eb]
    show T G J_Hash_mix 139 [(0, .ref a0), (1, .int x1), (2, .int x2), (3, .int x3), (4, .int x4), (5, .int x5), (6, .int x6), (7, .int x7), (8, .int x8), (9, .int x9), (10, .int y17), (11, .int y23)] [.int r24] S _
    refine tt_iload_n (k0 := 1) (by decide +kernel) rfl ?_
    refine tt_bipush (n := 13) (v := 13) (by decide +kernel) (by decide) ?_
    refine tt_callS (As := [.int x1, .int 13]) (rest := [.int r24]) (by decide +kernel) LK_Int_rotateRight w_382 w_383 (by decide) (by decide) rfl rfl (Nat.le_of_ble_eq_true rfl) (ct_mono h (fun r Sb h => ?_))
    obtain ⟨eb, h⟩ := h
    obtain ⟨r25, rfl, h⟩ := h
    rw [eb]
    show T G J_Hash_mix 145 [(0, .ref a0), (1, .int x1), (2, .int x2), (3, .int x3), (4, .int x4), (5, .int x5), (6, .int x6), (7, .int x7), (8, .int x8), (9, .int x9), (10, .int y17), (11, .int y23)] [.int r25, .int r24] S _
    refine tt_ixor (by decide +kernel) ?_
    refine tt_iload_n (k0 := 1) (by decide +kernel) rfl ?_
    refine tt_bipush (n := 22) (v := 22) (by decide +kernel) (by decide) ?_
    refine tt_callS (As := [.int x1, .int 22]) (rest := [.int (r24 ^^^ r25)]) (by decide +kernel) LK_Int_rotateRight w_382 w_383 (by decide) (by decide) rfl rfl (Nat.le_of_ble_eq_true rfl) (ct_mono h (fun r Sb h => ?_))
    obtain ⟨eb, h⟩ := h
    obtain ⟨r26, rfl, h⟩ := h
    rw [eb]
    show T G J_Hash_mix 152 [(0, .ref a0), (1, .int x1), (2, .int x2), (3, .int x3), (4, .int x4), (5, .int x5), (6, .int x6), (7, .int x7), (8, .int x8), (9, .int x9), (10, .int y17), (11, .int y23)] [.int r26, .int (r24 ^^^ r25)] S _
    refine tt_ixor (by decide +kernel) ?_
    refine tt_topi (fun y27 ey27 => ?_)
    have h := h y27 ey27
    refine tt_istore (k0 := 12) (lv' := [(0, .ref a0), (1, .int x1), (2, .int x2), (3, .int x3), (4, .int x4), (5, .int x5), (6, .int x6), (7, .int x7), (8, .int x8), (9, .int x9), (10, .int y17), (11, .int y23), (12, .int y27)]) (by decide +kernel) (by decide) rfl ?_
    refine tt_iload (k0 := 12) (by decide +kernel) rfl ?_
    refine tt_iload_n (k0 := 1) (by decide +kernel) rfl ?_
    refine tt_iload_n (k0 := 2) (by decide +kernel) rfl ?_
    refine tt_iand (by decide +kernel) ?_
    refine tt_iload_n (k0 := 1) (by decide +kernel) rfl ?_
    refine tt_iload_n (k0 := 3) (by decide +kernel) rfl ?_
    refine tt_iand (by decide +kernel) ?_
    refine tt_ixor (by decide +kernel) ?_
    refine tt_iload_n (k0 := 2) (by decide +kernel) rfl ?_
    refine tt_iload_n (k0 := 3) (by decide +kernel) rfl ?_
    refine tt_iand (by decide +kernel) ?_
    refine tt_ixor (by decide +kernel) ?_
    refine tt_iadd (by decide +kernel) ?_
    refine tt_topi (fun y28 ey28 => ?_)
    have h := h y28 ey28
    refine tt_istore (k0 := 13) (lv' := [(0, .ref a0), (1, .int x1), (2, .int x2), (3, .int x3), (4, .int x4), (5, .int x5), (6, .int x6), (7, .int x7), (8, .int x8), (9, .int x9), (10, .int y17), (11, .int y23), (12, .int y27), (13, .int y28)]) (by decide +kernel) (by decide) rfl ?_
    refine tt_iload (k0 := 7) (by decide +kernel) rfl ?_
    refine tt_istore (k0 := 8) (lv' := [(0, .ref a0), (1, .int x1), (2, .int x2), (3, .int x3), (4, .int x4), (5, .int x5), (6, .int x6), (7, .int x7), (8, .int x7), (9, .int x9), (10, .int y17), (11, .int y23), (12, .int y27), (13, .int y28)]) (by decide +kernel) (by decide) rfl ?_
    refine tt_iload (k0 := 6) (by decide +kernel) rfl ?_
    refine tt_istore (k0 := 7) (lv' := [(0, .ref a0), (1, .int x1), (2, .int x2), (3, .int x3), (4, .int x4), (5, .int x5), (6, .int x6), (7, .int x6), (8, .int x7), (9, .int x9), (10, .int y17), (11, .int y23), (12, .int y27), (13, .int y28)]) (by decide +kernel) (by decide) rfl ?_
    refine tt_iload (k0 := 5) (by decide +kernel) rfl ?_
    refine tt_istore (k0 := 6) (lv' := [(0, .ref a0), (1, .int x1), (2, .int x2), (3, .int x3), (4, .int x4), (5, .int x5), (6, .int x5), (7, .int x6), (8, .int x7), (9, .int x9), (10, .int y17), (11, .int y23), (12, .int y27), (13, .int y28)]) (by decide +kernel) (by decide) rfl ?_
    refine tt_iload (k0 := 4) (by decide +kernel) rfl ?_
    refine tt_iload (k0 := 11) (by decide +kernel) rfl ?_
    refine tt_iadd (by decide +kernel) ?_
    refine tt_topi (fun y29 ey29 => ?_)
    have h := h y29 ey29
    refine tt_istore (k0 := 5) (lv' := [(0, .ref a0), (1, .int x1), (2, .int x2), (3, .int x3), (4, .int x4), (5, .int y29), (6, .int x5), (7, .int x6), (8, .int x7), (9, .int x9), (10, .int y17), (11, .int y23), (12, .int y27), (13, .int y28)]) (by decide +kernel) (by decide) rfl ?_
    refine tt_iload_n (k0 := 3) (by decide +kernel) rfl ?_
    refine tt_istore (k0 := 4) (lv' := [(0, .ref a0), (1, .int x1), (2, .int x2), (3, .int x3), (4, .int x3), (5, .int y29), (6, .int x5), (7, .int x6), (8, .int x7), (9, .int x9), (10, .int y17), (11, .int y23), (12, .int y27), (13, .int y28)]) (by decide +kernel) (by decide) rfl ?_
    refine tt_iload_n (k0 := 2) (by decide +kernel) rfl ?_
    refine tt_istore_n (k0 := 3) (lv' := [(0, .ref a0), (1, .int x1), (2, .int x2), (3, .int x2), (4, .int x3), (5, .int y29), (6, .int x5), (7, .int x6), (8, .int x7), (9, .int x9), (10, .int y17), (11, .int y23), (12, .int y27), (13, .int y28)]) (by decide +kernel) (by decide) rfl ?_
    refine tt_iload_n (k0 := 1) (by decide +kernel) rfl ?_
    refine tt_istore_n (k0 := 2) (lv' := [(0, .ref a0), (1, .int x1), (2, .int x1), (3, .int x2), (4, .int x3), (5, .int y29), (6, .int x5), (7, .int x6), (8, .int x7), (9, .int x9), (10, .int y17), (11, .int y23), (12, .int y27), (13, .int y28)]) (by decide +kernel) (by decide) rfl ?_
    refine tt_iload (k0 := 11) (by decide +kernel) rfl ?_
    refine tt_iload (k0 := 13) (by decide +kernel) rfl ?_
    refine tt_iadd (by decide +kernel) ?_
    refine tt_topi (fun y30 ey30 => ?_)
    have h := h y30 ey30
    refine tt_istore_n (k0 := 1) (lv' := [(0, .ref a0), (1, .int y30), (2, .int x1), (3, .int x2), (4, .int x3), (5, .int y29), (6, .int x5), (7, .int x6), (8, .int x7), (9, .int x9), (10, .int y17), (11, .int y23), (12, .int y27), (13, .int y28)]) (by decide +kernel) (by decide) rfl ?_
    obtain ⟨y31, ey31⟩ : ∃ y : Int32, y = x9 + 1 := ⟨_, rfl⟩
    have h := h y31 ey31
    refine tt_iinc (i := 9) (n := 1) (v := y31) (lv' := [(0, .ref a0), (1, .int y30), (2, .int x1), (3, .int x2), (4, .int x3), (5, .int y29), (6, .int x5), (7, .int x6), (8, .int x7), (9, .int y31), (10, .int y17), (11, .int y23), (12, .int y27), (13, .int y28)]) (by decide +kernel) (by decide) rfl ey31.symm rfl ?_
    refine tt_goto (off := -140) (tgt := 66) (by decide +kernel) (by decide) ?_
    refine tt_lv [(0, .ref a0), (1, .int y30), (2, .int x1), (3, .int x2), (4, .int x3), (5, .int y29), (6, .int x5), (7, .int x6), (8, .int x7), (9, .int y31)] (by simp) ?_
    exact tt_mono h (fun r S' q => ⟨hm.tr q.1, q.2⟩)
set_option maxRecDepth 100000 in
theorem v_Stream_begin {G : pG} {t : Nat → Nat} (hG : GS G t) (a0 : Nat) (a1 : Nat) (x2 : Int32) (S : TS) (Q : Option Value → TS → Prop)
    (h : te S a0 = some (.inr 8) ∧ ∃ b2 : Nat, tR S a0 0 = some b2 ∧ ∃ n4 : Nat, te S (t 2) = some (.inl (.int, n4)) ∧ ∃ n6 : Nat, te S b2 = some (.inl (.int, n6)) ∧ ¬ (nI n4) < 0 ∧ (0 : Int32).toNatClampNeg + (nI n4).toNatClampNeg ≤ 4 ∧ (0 : Int32).toNatClampNeg + (nI n4).toNatClampNeg ≤ n6 ∧ ∀ S8 : TS, S8 = sI S b2 (va_cpy (ro 2) (tI S b2) (0 : Int32).toNatClampNeg (0 : Int32).toNatClampNeg (nI n4).toNatClampNeg) → T0 G J_Stream_begin 18 [(0, .ref a0), (1, .ref a1), (2, .int x2), (3, .int 0)] [] S8 Q) :
    C0 G J_Stream_begin [.ref a0, .ref a1, .int x2] S Q := by
  unfold C0
  refine ct_of (by decide +kernel) (Nat.le_of_ble_eq_true rfl) (lv := [(0, .ref a0), (1, .ref a1), (2, .int x2)]) rfl ?_
  have hm : Sm0 S S := Sm0.rf S
  refine tt_gets (z := ("SealedWire$Stream", "CONSTANTS", "[I", .ref (t 2))) (by decide +kernel) (by rw [hG.1]; simp [stt]) w_504 ?_
  refine tt_iconst (n := 0) (v := 0) (by decide +kernel) (by decide) ?_
  refine tt_aload_n (k0 := 0) (by decide +kernel) rfl ?_
  obtain ⟨f1, h⟩ := h
  obtain ⟨b2, f3, h⟩ := h
  refine tt_getR (k := 0) (by decide +kernel) KC_8 (by decide) w_49 (fun _ => rfl) f1 f3 ?_
  refine tt_iconst (n := 0) (v := 0) (by decide +kernel) (by decide) ?_
  refine tt_gets (z := ("SealedWire$Stream", "CONSTANTS", "[I", .ref (t 2))) (by decide +kernel) (by rw [hG.1]; simp [stt]) w_504 ?_
  obtain ⟨n4, f5, h⟩ := h
  refine tt_alen (by decide +kernel) f5 ?_
  obtain ⟨n6, f7, h⟩ := h
  obtain ⟨g2, g3, g4, h⟩ := h
  refine tt_acopyro (n0 := 4) (f := ro 2) (by decide +kernel) w_506 w_363 w_362 w_13 (by decide) (Nat.le_of_ble_eq_true rfl) (by rw [hG.2]; simp [rot]) f7 (by decide) (by decide) g2 g3 g4 ?_
  generalize eS8 : sI S b2 (va_cpy (ro 2) (tI S b2) (0 : Int32).toNatClampNeg (0 : Int32).toNatClampNeg (nI n4).toNatClampNeg) = S8
  have h := h S8 eS8.symm
  have hm : Sm0 S S8 := by rw [← eS8]; exact hm.I
  have f1 : te S8 a0 = some (.inr 8) := by rw [← eS8, te_sI]; exact f1
  have f3 : tR S8 a0 0 = some b2 := by rw [← eS8, tR_sI]; exact f3
  have f5 : te S8 (t 2) = some (.inl (.int, n4)) := by rw [← eS8, te_sI]; exact f5
  have f7 : te S8 b2 = some (.inl (.int, n6)) := by rw [← eS8, te_sI]; exact f7
  refine tt_iconst (n := 0) (v := 0) (by decide +kernel) (by decide) ?_
  refine tt_istore_n (k0 := 3) (lv' := [(0, .ref a0), (1, .ref a1), (2, .int x2), (3, .int 0)]) (by decide +kernel) (by decide) rfl ?_
  exact tt_mono h (fun r S' q => ⟨hm.tr q.1, q.2⟩)
set_option maxRecDepth 100000 in
theorem v_Stream_begin_18 {G : pG} (a0 : Nat) (a1 : Nat) (x2 : Int32) (x3 : Int32) (S : TS) (Q : Option Value → TS → Prop)
    (h : ((8 ≤ x3 → te S a0 = some (.inr 8) ∧ ∃ b2 : Nat, tR S a0 0 = some b2 ∧ ∃ n4 : Nat, te S b2 = some (.inl (.int, n4)) ∧ vp_in 13 n4 ∧ ∀ S6 : TS, S6 = sI S b2 (upd (tI S b2) 13 0) → vp_in 14 n4 ∧ ∀ S7 : TS, S7 = sI S6 b2 (upd (tI S6 b2) 14 0) → CP G J_Int_reverseBytes [.int x2] S7 (fun r => ∃ r8 : Int32, r = some (.int r8) ∧ vp_in 15 n4 ∧ ∀ S9 : TS, S9 = sI S7 b2 (upd (tI S7 b2) 15 r8) → Q none S9)) ∧ (¬ (8 ≤ x3) → ∀ y10 : Int32, y10 = (4 : Int32) * x3 → te S a0 = some (.inr 8) ∧ ∃ b12 : Nat, tR S a0 0 = some b12 ∧ te S a1 = some (.inr 0) ∧ CP G J_Bytes_at [.ref a1, .int y10] S (fun r => ∃ r15 : Int32, r = some (.int r15) ∧ CP G J_Bytes_at [.ref a1, .int (y10 + (1 : Int32))] S (fun r => ∃ r16 : Int32, r = some (.int r16) ∧ CP G J_Bytes_at [.ref a1, .int (y10 + (2 : Int32))] S (fun r => ∃ r17 : Int32, r = some (.int r17) ∧ CP G J_Bytes_at [.ref a1, .int (y10 + (3 : Int32))] S (fun r => ∃ r18 : Int32, r = some (.int r18) ∧ ∃ n19 : Nat, te S b12 = some (.inl (.int, n19)) ∧ vp_in ((4 : Int32) + x3) n19 ∧ ∀ S21 : TS, S21 = sI S b12 (upd (tI S b12) ((4 : Int32) + x3).toNatClampNeg (((r15 ||| (r16 <<< ((8 : Int32) &&& 31))) ||| (r17 <<< ((16 : Int32) &&& 31))) ||| (r18 <<< ((24 : Int32) &&& 31)))) → ∀ y22 : Int32, y22 = x3 + 1 → T0 G J_Stream_begin 18 [(0, .ref a0), (1, .ref a1), (2, .int x2), (3, .int y22)] [] S21 Q))))))) :
    T0 G J_Stream_begin 18 [(0, .ref a0), (1, .ref a1), (2, .int x2), (3, .int x3)] [] S Q := by
  unfold T0
  have hm : Sm0 S S := Sm0.rf S
  refine tt_iload_n (k0 := 3) (by decide +kernel) rfl ?_
  refine tt_bipush (n := 8) (v := 8) (by decide +kernel) (by decide) ?_
  refine tt_icmp_ge (off := 64) 85 (by decide +kernel) (by decide) (fun c => ?_) (fun c => ?_)
  · have h := h.1 c
    refine tt_aload_n (k0 := 0) (by decide +kernel) rfl ?_
    obtain ⟨f1, h⟩ := h
    obtain ⟨b2, f3, h⟩ := h
    refine tt_getR (k := 0) (by decide +kernel) KC_8 (by decide) w_49 (fun _ => rfl) f1 f3 ?_
    refine tt_bipush (n := 13) (v := 13) (by decide +kernel) (by decide) ?_
    refine tt_iconst (n := 0) (v := 0) (by decide +kernel) (by decide) ?_
    obtain ⟨n4, f5, h⟩ := h
    obtain ⟨g2, h⟩ := h
    refine tt_iast (by decide +kernel) f5 g2 ?_
    show T G J_Stream_begin 93 [(0, .ref a0), (1, .ref a1), (2, .int x2), (3, .int x3)] [] (sI S b2 (upd (tI S b2) 13 0)) _
    generalize eS6 : sI S b2 (upd (tI S b2) 13 0) = S6
    have h := h S6 eS6.symm
    have hm : Sm0 S S6 := by rw [← eS6]; exact hm.I
    have f1 : te S6 a0 = some (.inr 8) := by rw [← eS6, te_sI]; exact f1
    have f3 : tR S6 a0 0 = some b2 := by rw [← eS6, tR_sI]; exact f3
    have f5 : te S6 b2 = some (.inl (.int, n4)) := by rw [← eS6, te_sI]; exact f5
    refine tt_aload_n (k0 := 0) (by decide +kernel) rfl ?_
    refine tt_getR (k := 0) (by decide +kernel) KC_8 (by decide) w_49 (fun _ => rfl) f1 f3 ?_
    refine tt_bipush (n := 14) (v := 14) (by decide +kernel) (by decide) ?_
    refine tt_iconst (n := 0) (v := 0) (by decide +kernel) (by decide) ?_
    obtain ⟨g2, h⟩ := h
    refine tt_iast (by decide +kernel) f5 g2 ?_
    show T G J_Stream_begin 101 [(0, .ref a0), (1, .ref a1), (2, .int x2), (3, .int x3)] [] (sI S6 b2 (upd (tI S6 b2) 14 0)) _
    generalize eS7 : sI S6 b2 (upd (tI S6 b2) 14 0) = S7
    have h := h S7 eS7.symm
    have hm : Sm0 S S7 := by rw [← eS7]; exact hm.I
    have f1 : te S7 a0 = some (.inr 8) := by rw [← eS7, te_sI]; exact f1
    have f3 : tR S7 a0 0 = some b2 := by rw [← eS7, tR_sI]; exact f3
    have f5 : te S7 b2 = some (.inl (.int, n4)) := by rw [← eS7, te_sI]; exact f5
    refine tt_aload_n (k0 := 0) (by decide +kernel) rfl ?_
    refine tt_getR (k := 0) (by decide +kernel) KC_8 (by decide) w_49 (fun _ => rfl) f1 f3 ?_
    refine tt_bipush (n := 15) (v := 15) (by decide +kernel) (by decide) ?_
    refine tt_iload_n (k0 := 2) (by decide +kernel) rfl ?_
    refine tt_callS (As := [.int x2]) (rest := [.int 15, .ref b2]) (by decide +kernel) LK_Int_reverseBytes w_508 w_509 (by decide) (by decide) rfl rfl (Nat.le_of_ble_eq_true rfl) (ct_mono h (fun r Sb h => ?_))
    obtain ⟨eb, h⟩ := h
    obtain ⟨r8, rfl, h⟩ := h
    rw [eb]
    show T G J_Stream_begin 111 [(0, .ref a0), (1, .ref a1), (2, .int x2), (3, .int x3)] [.int r8, .int 15, .ref b2] S7 _
    obtain ⟨g2, h⟩ := h
    refine tt_iast (by decide +kernel) f5 g2 ?_
    show T G J_Stream_begin 112 [(0, .ref a0), (1, .ref a1), (2, .int x2), (3, .int x3)] [] (sI S7 b2 (upd (tI S7 b2) 15 r8)) _
    generalize eS9 : sI S7 b2 (upd (tI S7 b2) 15 r8) = S9
    have h := h S9 eS9.symm
    have hm : Sm0 S S9 := by rw [← eS9]; exact hm.I
    have f1 : te S9 a0 = some (.inr 8) := by rw [← eS9, te_sI]; exact f1
    have f3 : tR S9 a0 0 = some b2 := by rw [← eS9, tR_sI]; exact f3
    have f5 : te S9 b2 = some (.inl (.int, n4)) := by rw [← eS9, te_sI]; exact f5
    exact tt_vret (by decide +kernel) rfl ⟨hm, h⟩
  · have h := h.2 c
    refine tt_iconst (n := 4) (v := 4) (by decide +kernel) (by decide) ?_
    refine tt_iload_n (k0 := 3) (by decide +kernel) rfl ?_
    refine tt_imul (by decide +kernel) ?_
    refine tt_topi (fun y10 ey10 => ?_)
    have h := h y10 ey10
    refine tt_istore (k0 := 4) (lv' := [(0, .ref a0), (1, .ref a1), (2, .int x2), (3, .int x3), (4, .int y10)]) (by decide +kernel) (by decide) rfl ?_
    refine tt_aload_n (k0 := 0) (by decide +kernel) rfl ?_
    obtain ⟨f11, h⟩ := h
    obtain ⟨b12, f13, h⟩ := h
    refine tt_getR (k := 0) (by decide +kernel) KC_8 (by decide) w_49 (fun _ => rfl) f11 f13 ?_
    refine tt_iconst (n := 4) (v := 4) (by decide +kernel) (by decide) ?_
    refine tt_iload_n (k0 := 3) (by decide +kernel) rfl ?_
    refine tt_iadd (by decide +kernel) ?_
    refine tt_aload_n (k0 := 1) (by decide +kernel) rfl ?_
    refine tt_iload (k0 := 4) (by decide +kernel) rfl ?_
    obtain ⟨f14, h⟩ := h
    refine tt_callV (As := [.int y10]) (rest := [.int ((4 : Int32) + x3), .ref b12]) (ci := 0) (r0 := (R_0, F_0, 2)) (by decide +kernel) LK_Bytes_at w_507 w_327 w_328 (by decide) (by decide) rfl rfl (Nat.le_of_ble_eq_true rfl) rfl rfl f14 (ct_mono h (fun r Sb h => ?_))
    obtain ⟨eb, h⟩ := h
    obtain ⟨r15, rfl, h⟩ := h
    rw [eb]
    show T G J_Stream_begin 42 [(0, .ref a0), (1, .ref a1), (2, .int x2), (3, .int x3), (4, .int y10)] [.int r15, .int ((4 : Int32) + x3), .ref b12] S _
    refine tt_aload_n (k0 := 1) (by decide +kernel) rfl ?_
    refine tt_iload (k0 := 4) (by decide +kernel) rfl ?_
    refine tt_iconst (n := 1) (v := 1) (by decide +kernel) (by decide) ?_
    refine tt_iadd (by decide +kernel) ?_
    refine tt_callV (As := [.int (y10 + (1 : Int32))]) (rest := [.int r15, .int ((4 : Int32) + x3), .ref b12]) (ci := 0) (r0 := (R_0, F_0, 2)) (by decide +kernel) LK_Bytes_at w_507 w_327 w_328 (by decide) (by decide) rfl rfl (Nat.le_of_ble_eq_true rfl) rfl rfl f14 (ct_mono h (fun r Sb h => ?_))
    obtain ⟨eb, h⟩ := h
    obtain ⟨r16, rfl, h⟩ := h
    rw [eb]
    show T G J_Stream_begin 50 [(0, .ref a0), (1, .ref a1), (2, .int x2), (3, .int x3), (4, .int y10)] [.int r16, .int r15, .int ((4 : Int32) + x3), .ref b12] S _
    refine tt_bipush (n := 8) (v := 8) (by decide +kernel) (by decide) ?_
    refine tt_ishl (by decide +kernel) ?_
    refine tt_ior (by decide +kernel) ?_
    refine tt_aload_n (k0 := 1) (by decide +kernel) rfl ?_
    refine tt_iload (k0 := 4) (by decide +kernel) rfl ?_
    refine tt_iconst (n := 2) (v := 2) (by decide +kernel) (by decide) ?_
    refine tt_iadd (by decide +kernel) ?_
    refine tt_callV (As := [.int (y10 + (2 : Int32))]) (rest := [.int (r15 ||| (r16 <<< ((8 : Int32) &&& 31))), .int ((4 : Int32) + x3), .ref b12]) (ci := 0) (r0 := (R_0, F_0, 2)) (by decide +kernel) LK_Bytes_at w_507 w_327 w_328 (by decide) (by decide) rfl rfl (Nat.le_of_ble_eq_true rfl) rfl rfl f14 (ct_mono h (fun r Sb h => ?_))
    obtain ⟨eb, h⟩ := h
    obtain ⟨r17, rfl, h⟩ := h
    rw [eb]
    show T G J_Stream_begin 62 [(0, .ref a0), (1, .ref a1), (2, .int x2), (3, .int x3), (4, .int y10)] [.int r17, .int (r15 ||| (r16 <<< ((8 : Int32) &&& 31))), .int ((4 : Int32) + x3), .ref b12] S _
    refine tt_bipush (n := 16) (v := 16) (by decide +kernel) (by decide) ?_
    refine tt_ishl (by decide +kernel) ?_
    refine tt_ior (by decide +kernel) ?_
    refine tt_aload_n (k0 := 1) (by decide +kernel) rfl ?_
    refine tt_iload (k0 := 4) (by decide +kernel) rfl ?_
    refine tt_iconst (n := 3) (v := 3) (by decide +kernel) (by decide) ?_
    refine tt_iadd (by decide +kernel) ?_
    refine tt_callV (As := [.int (y10 + (3 : Int32))]) (rest := [.int ((r15 ||| (r16 <<< ((8 : Int32) &&& 31))) ||| (r17 <<< ((16 : Int32) &&& 31))), .int ((4 : Int32) + x3), .ref b12]) (ci := 0) (r0 := (R_0, F_0, 2)) (by decide +kernel) LK_Bytes_at w_507 w_327 w_328 (by decide) (by decide) rfl rfl (Nat.le_of_ble_eq_true rfl) rfl rfl f14 (ct_mono h (fun r Sb h => ?_))
    obtain ⟨eb, h⟩ := h
    obtain ⟨r18, rfl, h⟩ := h
    rw [eb]
    show T G J_Stream_begin 74 [(0, .ref a0), (1, .ref a1), (2, .int x2), (3, .int x3), (4, .int y10)] [.int r18, .int ((r15 ||| (r16 <<< ((8 : Int32) &&& 31))) ||| (r17 <<< ((16 : Int32) &&& 31))), .int ((4 : Int32) + x3), .ref b12] S _
    refine tt_bipush (n := 24) (v := 24) (by decide +kernel) (by decide) ?_
    refine tt_ishl (by decide +kernel) ?_
    refine tt_ior (by decide +kernel) ?_
    obtain ⟨n19, f20, h⟩ := h
    obtain ⟨g2, h⟩ := h
    refine tt_iast (by decide +kernel) f20 g2 ?_
    generalize eS21 : sI S b12 (upd (tI S b12) ((4 : Int32) + x3).toNatClampNeg (((r15 ||| (r16 <<< ((8 : Int32) &&& 31))) ||| (r17 <<< ((16 : Int32) &&& 31))) ||| (r18 <<< ((24 : Int32) &&& 31)))) = S21
    have h := h S21 eS21.symm
    have hm : Sm0 S S21 := by rw [← eS21]; exact hm.I
    have f11 : te S21 a0 = some (.inr 8) := by rw [← eS21, te_sI]; exact f11
    have f13 : tR S21 a0 0 = some b12 := by rw [← eS21, tR_sI]; exact f13
    have f14 : te S21 a1 = some (.inr 0) := by rw [← eS21, te_sI]; exact f14
    have f20 : te S21 b12 = some (.inl (.int, n19)) := by rw [← eS21, te_sI]; exact f20
    obtain ⟨y22, ey22⟩ : ∃ y : Int32, y = x3 + 1 := ⟨_, rfl⟩
    have h := h y22 ey22
    refine tt_iinc (i := 3) (n := 1) (v := y22) (lv' := [(0, .ref a0), (1, .ref a1), (2, .int x2), (3, .int y22), (4, .int y10)]) (by decide +kernel) (by decide) rfl ey22.symm rfl ?_
    refine tt_goto (off := -64) (tgt := 18) (by decide +kernel) (by decide) ?_
    refine tt_lv [(0, .ref a0), (1, .ref a1), (2, .int x2), (3, .int y22)] (by simp) ?_
    exact tt_mono h (fun r S' q => ⟨hm.tr q.1, q.2⟩)
set_option maxRecDepth 100000 in
theorem v_Int_reverseBytes {G : pG} (x0 : Int32) (S : TS) (Q : Option Value → Prop)
    (h : Q (some (.int ((((x0 <<< ((24 : Int32) &&& 31)) ||| ((x0 &&& (65280 : Int32)) <<< ((8 : Int32) &&& 31))) ||| ((ushr x0 8) &&& (65280 : Int32))) ||| (ushr x0 24))))) :
    CP G J_Int_reverseBytes [.int x0] S Q := by
  unfold CP
  refine ct_of (by decide +kernel) (Nat.le_of_ble_eq_true rfl) (lv := [(0, .int x0)]) rfl ?_
  refine tt_iload_n (k0 := 0) (by decide +kernel) rfl ?_
  refine tt_bipush (n := 24) (v := 24) (by decide +kernel) (by decide) ?_
  refine tt_ishl (by decide +kernel) ?_
  refine tt_iload_n (k0 := 0) (by decide +kernel) rfl ?_
  refine tt_ldc_w (v := 65280) (by decide +kernel) w_511 ?_
  refine tt_iand (by decide +kernel) ?_
  refine tt_bipush (n := 8) (v := 8) (by decide +kernel) (by decide) ?_
  refine tt_ishl (by decide +kernel) ?_
  refine tt_ior (by decide +kernel) ?_
  refine tt_iload_n (k0 := 0) (by decide +kernel) rfl ?_
  refine tt_bipush (n := 8) (v := 8) (by decide +kernel) (by decide) ?_
  refine tt_iushr (by decide +kernel) ?_
  refine tt_ldc_w (v := 65280) (by decide +kernel) w_511 ?_
  refine tt_iand (by decide +kernel) ?_
  refine tt_ior (by decide +kernel) ?_
  refine tt_iload_n (k0 := 0) (by decide +kernel) rfl ?_
  refine tt_bipush (n := 24) (v := 24) (by decide +kernel) (by decide) ?_
  refine tt_iushr (by decide +kernel) ?_
  refine tt_ior (by decide +kernel) ?_
  exact tt_iret (by decide +kernel) rfl ⟨rfl, h⟩
set_option maxRecDepth 100000 in
theorem v_Stream_make {G : pG} (a0 : Nat) (x1 : Int32) (S : TS) (Q : Option Value → TS → Prop)
    (h : te S a0 = some (.inr 8) ∧ ∃ b2 : Nat, tR S a0 0 = some b2 ∧ ∃ n4 : Nat, te S b2 = some (.inl (.int, n4)) ∧ vp_in 12 n4 ∧ ∀ S6 : TS, S6 = sI S b2 (upd (tI S b2) 12 x1) → ∃ b7 : Nat, tR S6 a0 1 = some b7 ∧ ∃ n9 : Nat, te S6 b7 = some (.inl (.int, n9)) ∧ ¬ (0 : Int32) < 0 ∧ ¬ (0 : Int32) < 0 ∧ ¬ (nI n9) < 0 ∧ (0 : Int32).toNatClampNeg + (nI n9).toNatClampNeg ≤ n4 ∧ (0 : Int32).toNatClampNeg + (nI n9).toNatClampNeg ≤ n9 ∧ ∀ S11 : TS, S11 = sI S6 b7 (va_cpy (tI S6 b2) (tI S6 b7) (0 : Int32).toNatClampNeg (0 : Int32).toNatClampNeg (nI n9).toNatClampNeg) → T0 G J_Stream_make 28 [(0, .ref a0), (1, .int x1), (2, .int 0)] [] S11 Q) :
    C0 G J_Stream_make [.ref a0, .int x1] S Q := by
  unfold C0
  refine ct_of (by decide +kernel) (Nat.le_of_ble_eq_true rfl) (lv := [(0, .ref a0), (1, .int x1)]) rfl ?_
  have hm : Sm0 S S := Sm0.rf S
  refine tt_aload_n (k0 := 0) (by decide +kernel) rfl ?_
  obtain ⟨f1, h⟩ := h
  obtain ⟨b2, f3, h⟩ := h
  refine tt_getR (k := 0) (by decide +kernel) KC_8 (by decide) w_49 (fun _ => rfl) f1 f3 ?_
  refine tt_bipush (n := 12) (v := 12) (by decide +kernel) (by decide) ?_
  refine tt_iload_n (k0 := 1) (by decide +kernel) rfl ?_
  obtain ⟨n4, f5, h⟩ := h
  obtain ⟨g2, h⟩ := h
  refine tt_iast (by decide +kernel) f5 g2 ?_
  show T G J_Stream_make 8 [(0, .ref a0), (1, .int x1)] [] (sI S b2 (upd (tI S b2) 12 x1)) _
  generalize eS6 : sI S b2 (upd (tI S b2) 12 x1) = S6
  have h := h S6 eS6.symm
  have hm : Sm0 S S6 := by rw [← eS6]; exact hm.I
  have f1 : te S6 a0 = some (.inr 8) := by rw [← eS6, te_sI]; exact f1
  have f3 : tR S6 a0 0 = some b2 := by rw [← eS6, tR_sI]; exact f3
  have f5 : te S6 b2 = some (.inl (.int, n4)) := by rw [← eS6, te_sI]; exact f5
  refine tt_aload_n (k0 := 0) (by decide +kernel) rfl ?_
  refine tt_getR (k := 0) (by decide +kernel) KC_8 (by decide) w_49 (fun _ => rfl) f1 f3 ?_
  refine tt_iconst (n := 0) (v := 0) (by decide +kernel) (by decide) ?_
  refine tt_aload_n (k0 := 0) (by decide +kernel) rfl ?_
  obtain ⟨b7, f8, h⟩ := h
  refine tt_getR (k := 1) (by decide +kernel) KC_8 (by decide) w_50 (fun _ => rfl) f1 f8 ?_
  refine tt_iconst (n := 0) (v := 0) (by decide +kernel) (by decide) ?_
  refine tt_aload_n (k0 := 0) (by decide +kernel) rfl ?_
  refine tt_getR (k := 1) (by decide +kernel) KC_8 (by decide) w_50 (fun _ => rfl) f1 f8 ?_
  obtain ⟨n9, f10, h⟩ := h
  refine tt_alen (by decide +kernel) f10 ?_
  obtain ⟨p1, p2, p3, p4, p5, h⟩ := h
  refine tt_acopyi (by decide +kernel) w_506 w_363 w_362 w_13 (by decide) (Nat.le_of_ble_eq_true rfl) f5 f10 p1 p2 p3 p4 p5 ?_
  generalize eS11 : sI S6 b7 (va_cpy (tI S6 b2) (tI S6 b7) (0 : Int32).toNatClampNeg (0 : Int32).toNatClampNeg (nI n9).toNatClampNeg) = S11
  have h := h S11 eS11.symm
  have hm : Sm0 S S11 := by rw [← eS11]; exact hm.I
  have f1 : te S11 a0 = some (.inr 8) := by rw [← eS11, te_sI]; exact f1
  have f3 : tR S11 a0 0 = some b2 := by rw [← eS11, tR_sI]; exact f3
  have f5 : te S11 b2 = some (.inl (.int, n4)) := by rw [← eS11, te_sI]; exact f5
  have f8 : tR S11 a0 1 = some b7 := by rw [← eS11, tR_sI]; exact f8
  have f10 : te S11 b7 = some (.inl (.int, n9)) := by rw [← eS11, te_sI]; exact f10
  refine tt_iconst (n := 0) (v := 0) (by decide +kernel) (by decide) ?_
  refine tt_istore_n (k0 := 2) (lv' := [(0, .ref a0), (1, .int x1), (2, .int 0)]) (by decide +kernel) (by decide) rfl ?_
  exact tt_mono h (fun r S' q => ⟨hm.tr q.1, q.2⟩)
set_option maxRecDepth 100000 in
theorem v_Stream_make_28 {G : pG} (a0 : Nat) (x1 : Int32) (x2 : Int32) (S : TS) (Q : Option Value → TS → Prop)
    (h : ((10 ≤ x2 → T0 G J_Stream_make 105 [(0, .ref a0), (1, .int x1), (2, .int 0)] [] S Q) ∧ (¬ (10 ≤ x2) → T0 G J_Stream_make 36 [(0, .ref a0), (1, .int x1), (2, .int x2), (3, .int 0)] [] S Q))) :
    T0 G J_Stream_make 28 [(0, .ref a0), (1, .int x1), (2, .int x2)] [] S Q := by
  unfold T0
  have hm : Sm0 S S := Sm0.rf S
  refine tt_iload_n (k0 := 2) (by decide +kernel) rfl ?_
  refine tt_bipush (n := 10) (v := 10) (by decide +kernel) (by decide) ?_
  refine tt_icmp_ge (off := 72) 103 (by decide +kernel) (by decide) (fun c => ?_) (fun c => ?_)
  · have h := h.1 c
    refine tt_iconst (n := 0) (v := 0) (by decide +kernel) (by decide) ?_
    refine tt_istore_n (k0 := 2) (lv' := [(0, .ref a0), (1, .int x1), (2, .int 0)]) (by decide +kernel) (by decide) rfl ?_
    exact tt_mono h (fun r S' q => ⟨hm.tr q.1, q.2⟩)
  · have h := h.2 c
    refine tt_iconst (n := 0) (v := 0) (by decide +kernel) (by decide) ?_
    refine tt_istore_n (k0 := 3) (lv' := [(0, .ref a0), (1, .int x1), (2, .int x2), (3, .int 0)]) (by decide +kernel) (by decide) rfl ?_
    exact tt_mono h (fun r S' q => ⟨hm.tr q.1, q.2⟩)
set_option maxRecDepth 100000 in
theorem v_Stream_make_105 {G : pG} (a0 : Nat) (x1 : Int32) (x2 : Int32) (S : TS) (Q : Option Value → TS → Prop)
    (h : te S a0 = some (.inr 8) ∧ ∃ b2 : Nat, tR S a0 1 = some b2 ∧ ∃ n4 : Nat, te S b2 = some (.inl (.int, n4)) ∧ ((nI n4 ≤ x2 → Q none S) ∧ (¬ (nI n4 ≤ x2) → vp_in x2 n4 ∧ ∃ b6 : Nat, tR S a0 0 = some b6 ∧ ∃ n8 : Nat, te S b6 = some (.inl (.int, n8)) ∧ vp_in x2 n8 ∧ vp_in x2 n4 ∧ ∀ S10 : TS, S10 = sI S b2 (upd (tI S b2) x2.toNatClampNeg ((tI S b2 x2.toNatClampNeg) + (tI S b6 x2.toNatClampNeg))) → ∀ y11 : Int32, y11 = x2 + 1 → T0 G J_Stream_make 105 [(0, .ref a0), (1, .int x1), (2, .int y11)] [] S10 Q))) :
    T0 G J_Stream_make 105 [(0, .ref a0), (1, .int x1), (2, .int x2)] [] S Q := by
  unfold T0
  have hm : Sm0 S S := Sm0.rf S
  refine tt_iload_n (k0 := 2) (by decide +kernel) rfl ?_
  refine tt_aload_n (k0 := 0) (by decide +kernel) rfl ?_
  obtain ⟨f1, h⟩ := h
  obtain ⟨b2, f3, h⟩ := h
  refine tt_getR (k := 1) (by decide +kernel) KC_8 (by decide) w_50 (fun _ => rfl) f1 f3 ?_
  obtain ⟨n4, f5, h⟩ := h
  refine tt_alen (by decide +kernel) f5 ?_
  refine tt_icmp_ge (off := 24) 135 (by decide +kernel) (by decide) (fun c => ?_) (fun c => ?_)
  · have h := h.1 c
    exact tt_vret (by decide +kernel) rfl ⟨hm, h⟩
  · have h := h.2 c
    refine tt_aload_n (k0 := 0) (by decide +kernel) rfl ?_
    refine tt_getR (k := 1) (by decide +kernel) KC_8 (by decide) w_50 (fun _ => rfl) f1 f3 ?_
    refine tt_iload_n (k0 := 2) (by decide +kernel) rfl ?_
    refine tt_dup2_11 (by decide +kernel) rfl rfl ?_
    obtain ⟨g2, h⟩ := h
    refine tt_iald (by decide +kernel) f5 g2 ?_
    refine tt_aload_n (k0 := 0) (by decide +kernel) rfl ?_
    obtain ⟨b6, f7, h⟩ := h
    refine tt_getR (k := 0) (by decide +kernel) KC_8 (by decide) w_49 (fun _ => rfl) f1 f7 ?_
    refine tt_iload_n (k0 := 2) (by decide +kernel) rfl ?_
    obtain ⟨n8, f9, h⟩ := h
    obtain ⟨g2, h⟩ := h
    refine tt_iald (by decide +kernel) f9 g2 ?_
    refine tt_iadd (by decide +kernel) ?_
    obtain ⟨g2, h⟩ := h
    refine tt_iast (by decide +kernel) f5 g2 ?_
    generalize eS10 : sI S b2 (upd (tI S b2) x2.toNatClampNeg ((tI S b2 x2.toNatClampNeg) + (tI S b6 x2.toNatClampNeg))) = S10
    have h := h S10 eS10.symm
    have hm : Sm0 S S10 := by rw [← eS10]; exact hm.I
    have f1 : te S10 a0 = some (.inr 8) := by rw [← eS10, te_sI]; exact f1
    have f3 : tR S10 a0 1 = some b2 := by rw [← eS10, tR_sI]; exact f3
    have f5 : te S10 b2 = some (.inl (.int, n4)) := by rw [← eS10, te_sI]; exact f5
    have f7 : tR S10 a0 0 = some b6 := by rw [← eS10, tR_sI]; exact f7
    have f9 : te S10 b6 = some (.inl (.int, n8)) := by rw [← eS10, te_sI]; exact f9
    obtain ⟨y11, ey11⟩ : ∃ y : Int32, y = x2 + 1 := ⟨_, rfl⟩
    have h := h y11 ey11
    refine tt_iinc (i := 2) (n := 1) (v := y11) (lv' := [(0, .ref a0), (1, .int x1), (2, .int y11)]) (by decide +kernel) (by decide) rfl ey11.symm rfl ?_
    refine tt_goto (off := -27) (tgt := 105) (by decide +kernel) (by decide) ?_
    exact tt_mono h (fun r S' q => ⟨hm.tr q.1, q.2⟩)
set_option maxRecDepth 100000 in
theorem v_Stream_make_36 {G : pG} (a0 : Nat) (x1 : Int32) (x2 : Int32) (x3 : Int32) (S : TS) (Q : Option Value → TS → Prop)
    (h : ((8 ≤ x3 → ∀ y1 : Int32, y1 = x2 + 1 → T0 G J_Stream_make 28 [(0, .ref a0), (1, .int x1), (2, .int y1)] [] S Q) ∧ (¬ (8 ≤ x3) → ∀ y2 : Int32, y2 = ushr x3 2 → ∀ y3 : Int32, y3 = x3 &&& (3 : Int32) → te S a0 = some (.inr 8) ∧ C0 G J_Stream_quarter [.ref a0, .int y3, .int ((4 : Int32) + ((y3 + y2) &&& (3 : Int32))), .int ((8 : Int32) + ((y3 + ((2 : Int32) * y2)) &&& (3 : Int32))), .int ((12 : Int32) + ((y3 + ((3 : Int32) * y2)) &&& (3 : Int32)))] S (fun r S5 => r = none ∧ ∀ y6 : Int32, y6 = x3 + 1 → T0 G J_Stream_make 36 [(0, .ref a0), (1, .int x1), (2, .int x2), (3, .int y6)] [] S5 Q)))) :
    T0 G J_Stream_make 36 [(0, .ref a0), (1, .int x1), (2, .int x2), (3, .int x3)] [] S Q := by
  unfold T0
  have hm : Sm0 S S := Sm0.rf S
  refine tt_iload_n (k0 := 3) (by decide +kernel) rfl ?_
  refine tt_bipush (n := 8) (v := 8) (by decide +kernel) (by decide) ?_
  refine tt_icmp_ge (off := 58) 97 (by decide +kernel) (by decide) (fun c => ?_) (fun c => ?_)
  · have h := h.1 c
    obtain ⟨y1, ey1⟩ : ∃ y : Int32, y = x2 + 1 := ⟨_, rfl⟩
    have h := h y1 ey1
    refine tt_iinc (i := 2) (n := 1) (v := y1) (lv' := [(0, .ref a0), (1, .int x1), (2, .int y1), (3, .int x3)]) (by decide +kernel) (by decide) rfl ey1.symm rfl ?_
    refine tt_goto (off := -72) (tgt := 28) (by decide +kernel) (by decide) ?_
    refine tt_lv [(0, .ref a0), (1, .int x1), (2, .int y1)] (by simp) ?_
    exact tt_mono h (fun r S' q => ⟨hm.tr q.1, q.2⟩)
  · have h := h.2 c
    refine tt_iload_n (k0 := 3) (by decide +kernel) rfl ?_
    refine tt_iconst (n := 2) (v := 2) (by decide +kernel) (by decide) ?_
    refine tt_iushr (by decide +kernel) ?_
    refine tt_topi (fun y2 ey2 => ?_)
    have h := h y2 ey2
    refine tt_istore (k0 := 4) (lv' := [(0, .ref a0), (1, .int x1), (2, .int x2), (3, .int x3), (4, .int y2)]) (by decide +kernel) (by decide) rfl ?_
    refine tt_iload_n (k0 := 3) (by decide +kernel) rfl ?_
    refine tt_iconst (n := 3) (v := 3) (by decide +kernel) (by decide) ?_
    refine tt_iand (by decide +kernel) ?_
    refine tt_topi (fun y3 ey3 => ?_)
    have h := h y3 ey3
    refine tt_istore (k0 := 5) (lv' := [(0, .ref a0), (1, .int x1), (2, .int x2), (3, .int x3), (4, .int y2), (5, .int y3)]) (by decide +kernel) (by decide) rfl ?_
    refine tt_aload_n (k0 := 0) (by decide +kernel) rfl ?_
    refine tt_iload (k0 := 5) (by decide +kernel) rfl ?_
    refine tt_iconst (n := 4) (v := 4) (by decide +kernel) (by decide) ?_
    refine tt_iload (k0 := 5) (by decide +kernel) rfl ?_
    refine tt_iload (k0 := 4) (by decide +kernel) rfl ?_
    refine tt_iadd (by decide +kernel) ?_
    refine tt_iconst (n := 3) (v := 3) (by decide +kernel) (by decide) ?_
    refine tt_iand (by decide +kernel) ?_
    refine tt_iadd (by decide +kernel) ?_
    refine tt_bipush (n := 8) (v := 8) (by decide +kernel) (by decide) ?_
    refine tt_iload (k0 := 5) (by decide +kernel) rfl ?_
    refine tt_iconst (n := 2) (v := 2) (by decide +kernel) (by decide) ?_
    refine tt_iload (k0 := 4) (by decide +kernel) rfl ?_
    refine tt_imul (by decide +kernel) ?_
    refine tt_iadd (by decide +kernel) ?_
    refine tt_iconst (n := 3) (v := 3) (by decide +kernel) (by decide) ?_
    refine tt_iand (by decide +kernel) ?_
    refine tt_iadd (by decide +kernel) ?_
    refine tt_bipush (n := 12) (v := 12) (by decide +kernel) (by decide) ?_
    refine tt_iload (k0 := 5) (by decide +kernel) rfl ?_
    refine tt_iconst (n := 3) (v := 3) (by decide +kernel) (by decide) ?_
    refine tt_iload (k0 := 4) (by decide +kernel) rfl ?_
    refine tt_imul (by decide +kernel) ?_
    refine tt_iadd (by decide +kernel) ?_
    refine tt_iconst (n := 3) (v := 3) (by decide +kernel) (by decide) ?_
    refine tt_iand (by decide +kernel) ?_
    refine tt_iadd (by decide +kernel) ?_
    obtain ⟨f4, h⟩ := h
    refine tt_callV (As := [.int y3, .int ((4 : Int32) + ((y3 + y2) &&& (3 : Int32))), .int ((8 : Int32) + ((y3 + ((2 : Int32) * y2)) &&& (3 : Int32))), .int ((12 : Int32) + ((y3 + ((3 : Int32) * y2)) &&& (3 : Int32)))]) (rest := []) (ci := 8) (r0 := (R_8, F_8, 2)) (by decide +kernel) LK_Stream_quarter w_520 w_522 (in_p (n := 2) 6 rfl) (by decide) (by decide) rfl rfl (Nat.le_of_ble_eq_true rfl) rfl rfl f4 (ct_mono h (fun r S5 h => ?_))
    obtain ⟨hm2, h⟩ := h
    obtain ⟨rfl, h⟩ := h
    show T G J_Stream_make 91 [(0, .ref a0), (1, .int x1), (2, .int x2), (3, .int x3), (4, .int y2), (5, .int y3)] [] S5 _
    have hm := hm.tr hm2
    have f4 : te S5 a0 = some (.inr 8) := by rw [hm2.1]; exact f4
    obtain ⟨y6, ey6⟩ : ∃ y : Int32, y = x3 + 1 := ⟨_, rfl⟩
    have h := h y6 ey6
    refine tt_iinc (i := 3) (n := 1) (v := y6) (lv' := [(0, .ref a0), (1, .int x1), (2, .int x2), (3, .int y6), (4, .int y2), (5, .int y3)]) (by decide +kernel) (by decide) rfl ey6.symm rfl ?_
    refine tt_goto (off := -58) (tgt := 36) (by decide +kernel) (by decide) ?_
    refine tt_lv [(0, .ref a0), (1, .int x1), (2, .int x2), (3, .int y6)] (by simp) ?_
    exact tt_mono h (fun r S' q => ⟨hm.tr q.1, q.2⟩)
set_option maxRecDepth 100000 in
theorem v_Stream_quarter {G : pG} (a0 : Nat) (x1 : Int32) (x2 : Int32) (x3 : Int32) (x4 : Int32) (S : TS) (Q : Option Value → TS → Prop)
    (h : te S a0 = some (.inr 8) ∧ ∃ b2 : Nat, tR S a0 1 = some b2 ∧ ∃ n4 : Nat, te S b2 = some (.inl (.int, n4)) ∧ vp_in x1 n4 ∧ ∀ y6 : Int32, y6 = tI S b2 x1.toNatClampNeg → vp_in x2 n4 ∧ ∀ y7 : Int32, y7 = tI S b2 x2.toNatClampNeg → vp_in x3 n4 ∧ ∀ y8 : Int32, y8 = tI S b2 x3.toNatClampNeg → vp_in x4 n4 ∧ ∀ y9 : Int32, y9 = tI S b2 x4.toNatClampNeg → ∀ y10 : Int32, y10 = y6 + y7 → CP G J_Int_rotateLeft [.int (y9 ^^^ y10), .int 16] S (fun r => ∃ r11 : Int32, r = some (.int r11) ∧ ∀ y12 : Int32, y12 = y8 + r11 → CP G J_Int_rotateLeft [.int (y7 ^^^ y12), .int 12] S (fun r => ∃ r13 : Int32, r = some (.int r13) ∧ ∀ y14 : Int32, y14 = y10 + r13 → CP G J_Int_rotateLeft [.int (r11 ^^^ y14), .int 8] S (fun r => ∃ r15 : Int32, r = some (.int r15) ∧ ∀ y16 : Int32, y16 = y12 + r15 → CP G J_Int_rotateLeft [.int (r13 ^^^ y16), .int 7] S (fun r => ∃ r17 : Int32, r = some (.int r17) ∧ vp_in x1 n4 ∧ ∀ S18 : TS, S18 = sI S b2 (upd (tI S b2) x1.toNatClampNeg y14) → vp_in x2 n4 ∧ ∀ S19 : TS, S19 = sI S18 b2 (upd (tI S18 b2) x2.toNatClampNeg r17) → vp_in x3 n4 ∧ ∀ S20 : TS, S20 = sI S19 b2 (upd (tI S19 b2) x3.toNatClampNeg y16) → vp_in x4 n4 ∧ ∀ S21 : TS, S21 = sI S20 b2 (upd (tI S20 b2) x4.toNatClampNeg r15) → Q none S21))))) :
    C0 G J_Stream_quarter [.ref a0, .int x1, .int x2, .int x3, .int x4] S Q := by
  unfold C0
  refine ct_of (by decide +kernel) (Nat.le_of_ble_eq_true rfl) (lv := [(0, .ref a0), (1, .int x1), (2, .int x2), (3, .int x3), (4, .int x4)]) rfl ?_
  have hm : Sm0 S S := Sm0.rf S
  refine tt_aload_n (k0 := 0) (by decide +kernel) rfl ?_
  obtain ⟨f1, h⟩ := h
  obtain ⟨b2, f3, h⟩ := h
  refine tt_getR (k := 1) (by decide +kernel) KC_8 (by decide) w_50 (fun _ => rfl) f1 f3 ?_
  refine tt_iload_n (k0 := 1) (by decide +kernel) rfl ?_
  obtain ⟨n4, f5, h⟩ := h
  obtain ⟨g2, h⟩ := h
  refine tt_iald (by decide +kernel) f5 g2 ?_
  refine tt_topi (fun y6 ey6 => ?_)
  have h := h y6 ey6
  refine tt_istore (k0 := 5) (lv' := [(0, .ref a0), (1, .int x1), (2, .int x2), (3, .int x3), (4, .int x4), (5, .int y6)]) (by decide +kernel) (by decide) rfl ?_
  refine tt_aload_n (k0 := 0) (by decide +kernel) rfl ?_
  refine tt_getR (k := 1) (by decide +kernel) KC_8 (by decide) w_50 (fun _ => rfl) f1 f3 ?_
  refine tt_iload_n (k0 := 2) (by decide +kernel) rfl ?_
  obtain ⟨g2, h⟩ := h
  refine tt_iald (by decide +kernel) f5 g2 ?_
  refine tt_topi (fun y7 ey7 => ?_)
  have h := h y7 ey7
  refine tt_istore (k0 := 6) (lv' := [(0, .ref a0), (1, .int x1), (2, .int x2), (3, .int x3), (4, .int x4), (5, .int y6), (6, .int y7)]) (by decide +kernel) (by decide) rfl ?_
  refine tt_aload_n (k0 := 0) (by decide +kernel) rfl ?_
  refine tt_getR (k := 1) (by decide +kernel) KC_8 (by decide) w_50 (fun _ => rfl) f1 f3 ?_
  refine tt_iload_n (k0 := 3) (by decide +kernel) rfl ?_
  obtain ⟨g2, h⟩ := h
  refine tt_iald (by decide +kernel) f5 g2 ?_
  refine tt_topi (fun y8 ey8 => ?_)
  have h := h y8 ey8
  refine tt_istore (k0 := 7) (lv' := [(0, .ref a0), (1, .int x1), (2, .int x2), (3, .int x3), (4, .int x4), (5, .int y6), (6, .int y7), (7, .int y8)]) (by decide +kernel) (by decide) rfl ?_
  refine tt_aload_n (k0 := 0) (by decide +kernel) rfl ?_
  refine tt_getR (k := 1) (by decide +kernel) KC_8 (by decide) w_50 (fun _ => rfl) f1 f3 ?_
  refine tt_iload (k0 := 4) (by decide +kernel) rfl ?_
  obtain ⟨g2, h⟩ := h
  refine tt_iald (by decide +kernel) f5 g2 ?_
  refine tt_topi (fun y9 ey9 => ?_)
  have h := h y9 ey9
  refine tt_istore (k0 := 8) (lv' := [(0, .ref a0), (1, .int x1), (2, .int x2), (3, .int x3), (4, .int x4), (5, .int y6), (6, .int y7), (7, .int y8), (8, .int y9)]) (by decide +kernel) (by decide) rfl ?_
  refine tt_iload (k0 := 5) (by decide +kernel) rfl ?_
  refine tt_iload (k0 := 6) (by decide +kernel) rfl ?_
  refine tt_iadd (by decide +kernel) ?_
  refine tt_topi (fun y10 ey10 => ?_)
  have h := h y10 ey10
  refine tt_istore (k0 := 5) (lv' := [(0, .ref a0), (1, .int x1), (2, .int x2), (3, .int x3), (4, .int x4), (5, .int y10), (6, .int y7), (7, .int y8), (8, .int y9)]) (by decide +kernel) (by decide) rfl ?_
  refine tt_iload (k0 := 8) (by decide +kernel) rfl ?_
  refine tt_iload (k0 := 5) (by decide +kernel) rfl ?_
  refine tt_ixor (by decide +kernel) ?_
  refine tt_bipush (n := 16) (v := 16) (by decide +kernel) (by decide) ?_
  refine tt_callS (As := [.int (y9 ^^^ y10), .int 16]) (rest := []) (by decide +kernel) LK_Int_rotateLeft w_524 w_525 (by decide) (by decide) rfl rfl (Nat.le_of_ble_eq_true rfl) (ct_mono h (fun r Sb h => ?_))
  obtain ⟨eb, h⟩ := h
  obtain ⟨r11, rfl, h⟩ := h
  rw [eb]
  show T G J_Stream_quarter 50 [(0, .ref a0), (1, .int x1), (2, .int x2), (3, .int x3), (4, .int x4), (5, .int y10), (6, .int y7), (7, .int y8), (8, .int y9)] [.int r11] S _
  refine tt_istore (k0 := 8) (lv' := [(0, .ref a0), (1, .int x1), (2, .int x2), (3, .int x3), (4, .int x4), (5, .int y10), (6, .int y7), (7, .int y8), (8, .int r11)]) (by decide +kernel) (by decide) rfl ?_
  refine tt_iload (k0 := 7) (by decide +kernel) rfl ?_
  refine tt_iload (k0 := 8) (by decide +kernel) rfl ?_
  refine tt_iadd (by decide +kernel) ?_
  refine tt_topi (fun y12 ey12 => ?_)
  have h := h y12 ey12
  refine tt_istore (k0 := 7) (lv' := [(0, .ref a0), (1, .int x1), (2, .int x2), (3, .int x3), (4, .int x4), (5, .int y10), (6, .int y7), (7, .int y12), (8, .int r11)]) (by decide +kernel) (by decide) rfl ?_
  refine tt_iload (k0 := 6) (by decide +kernel) rfl ?_
  refine tt_iload (k0 := 7) (by decide +kernel) rfl ?_
  refine tt_ixor (by decide +kernel) ?_
  refine tt_bipush (n := 12) (v := 12) (by decide +kernel) (by decide) ?_
  refine tt_callS (As := [.int (y7 ^^^ y12), .int 12]) (rest := []) (by decide +kernel) LK_Int_rotateLeft w_524 w_525 (by decide) (by decide) rfl rfl (Nat.le_of_ble_eq_true rfl) (ct_mono h (fun r Sb h => ?_))
  obtain ⟨eb, h⟩ := h
  obtain ⟨r13, rfl, h⟩ := h
  rw [eb]
  show T G J_Stream_quarter 69 [(0, .ref a0), (1, .int x1), (2, .int x2), (3, .int x3), (4, .int x4), (5, .int y10), (6, .int y7), (7, .int y12), (8, .int r11)] [.int r13] S _
  refine tt_istore (k0 := 6) (lv' := [(0, .ref a0), (1, .int x1), (2, .int x2), (3, .int x3), (4, .int x4), (5, .int y10), (6, .int r13), (7, .int y12), (8, .int r11)]) (by decide +kernel) (by decide) rfl ?_
  refine tt_iload (k0 := 5) (by decide +kernel) rfl ?_
  refine tt_iload (k0 := 6) (by decide +kernel) rfl ?_
  refine tt_iadd (by decide +kernel) ?_
  refine tt_topi (fun y14 ey14 => ?_)
  have h := h y14 ey14
  refine tt_istore (k0 := 5) (lv' := [(0, .ref a0), (1, .int x1), (2, .int x2), (3, .int x3), (4, .int x4), (5, .int y14), (6, .int r13), (7, .int y12), (8, .int r11)]) (by decide +kernel) (by decide) rfl ?_
  refine tt_iload (k0 := 8) (by decide +kernel) rfl ?_
  refine tt_iload (k0 := 5) (by decide +kernel) rfl ?_
  refine tt_ixor (by decide +kernel) ?_
  refine tt_bipush (n := 8) (v := 8) (by decide +kernel) (by decide) ?_
  refine tt_callS (As := [.int (r11 ^^^ y14), .int 8]) (rest := []) (by decide +kernel) LK_Int_rotateLeft w_524 w_525 (by decide) (by decide) rfl rfl (Nat.le_of_ble_eq_true rfl) (ct_mono h (fun r Sb h => ?_))
  obtain ⟨eb, h⟩ := h
  obtain ⟨r15, rfl, h⟩ := h
  rw [eb]
  show T G J_Stream_quarter 88 [(0, .ref a0), (1, .int x1), (2, .int x2), (3, .int x3), (4, .int x4), (5, .int y14), (6, .int r13), (7, .int y12), (8, .int r11)] [.int r15] S _
  refine tt_istore (k0 := 8) (lv' := [(0, .ref a0), (1, .int x1), (2, .int x2), (3, .int x3), (4, .int x4), (5, .int y14), (6, .int r13), (7, .int y12), (8, .int r15)]) (by decide +kernel) (by decide) rfl ?_
  refine tt_iload (k0 := 7) (by decide +kernel) rfl ?_
  refine tt_iload (k0 := 8) (by decide +kernel) rfl ?_
  refine tt_iadd (by decide +kernel) ?_
  refine tt_topi (fun y16 ey16 => ?_)
  have h := h y16 ey16
  refine tt_istore (k0 := 7) (lv' := [(0, .ref a0), (1, .int x1), (2, .int x2), (3, .int x3), (4, .int x4), (5, .int y14), (6, .int r13), (7, .int y16), (8, .int r15)]) (by decide +kernel) (by decide) rfl ?_
  refine tt_iload (k0 := 6) (by decide +kernel) rfl ?_
  refine tt_iload (k0 := 7) (by decide +kernel) rfl ?_
  refine tt_ixor (by decide +kernel) ?_
  refine tt_bipush (n := 7) (v := 7) (by decide +kernel) (by decide) ?_
  refine tt_callS (As := [.int (r13 ^^^ y16), .int 7]) (rest := []) (by decide +kernel) LK_Int_rotateLeft w_524 w_525 (by decide) (by decide) rfl rfl (Nat.le_of_ble_eq_true rfl) (ct_mono h (fun r Sb h => ?_))
  obtain ⟨eb, h⟩ := h
  obtain ⟨r17, rfl, h⟩ := h
  rw [eb]
  show T G J_Stream_quarter 107 [(0, .ref a0), (1, .int x1), (2, .int x2), (3, .int x3), (4, .int x4), (5, .int y14), (6, .int r13), (7, .int y16), (8, .int r15)] [.int r17] S _
  refine tt_istore (k0 := 6) (lv' := [(0, .ref a0), (1, .int x1), (2, .int x2), (3, .int x3), (4, .int x4), (5, .int y14), (6, .int r17), (7, .int y16), (8, .int r15)]) (by decide +kernel) (by decide) rfl ?_
  refine tt_aload_n (k0 := 0) (by decide +kernel) rfl ?_
  refine tt_getR (k := 1) (by decide +kernel) KC_8 (by decide) w_50 (fun _ => rfl) f1 f3 ?_
  refine tt_iload_n (k0 := 1) (by decide +kernel) rfl ?_
  refine tt_iload (k0 := 5) (by decide +kernel) rfl ?_
  obtain ⟨g2, h⟩ := h
  refine tt_iast (by decide +kernel) f5 g2 ?_
  generalize eS18 : sI S b2 (upd (tI S b2) x1.toNatClampNeg y14) = S18
  have h := h S18 eS18.symm
  have hm : Sm0 S S18 := by rw [← eS18]; exact hm.I
  have f1 : te S18 a0 = some (.inr 8) := by rw [← eS18, te_sI]; exact f1
  have f3 : tR S18 a0 1 = some b2 := by rw [← eS18, tR_sI]; exact f3
  have f5 : te S18 b2 = some (.inl (.int, n4)) := by rw [← eS18, te_sI]; exact f5
  refine tt_aload_n (k0 := 0) (by decide +kernel) rfl ?_
  refine tt_getR (k := 1) (by decide +kernel) KC_8 (by decide) w_50 (fun _ => rfl) f1 f3 ?_
  refine tt_iload_n (k0 := 2) (by decide +kernel) rfl ?_
  refine tt_iload (k0 := 6) (by decide +kernel) rfl ?_
  obtain ⟨g2, h⟩ := h
  refine tt_iast (by decide +kernel) f5 g2 ?_
  generalize eS19 : sI S18 b2 (upd (tI S18 b2) x2.toNatClampNeg r17) = S19
  have h := h S19 eS19.symm
  have hm : Sm0 S S19 := by rw [← eS19]; exact hm.I
  have f1 : te S19 a0 = some (.inr 8) := by rw [← eS19, te_sI]; exact f1
  have f3 : tR S19 a0 1 = some b2 := by rw [← eS19, tR_sI]; exact f3
  have f5 : te S19 b2 = some (.inl (.int, n4)) := by rw [← eS19, te_sI]; exact f5
  refine tt_aload_n (k0 := 0) (by decide +kernel) rfl ?_
  refine tt_getR (k := 1) (by decide +kernel) KC_8 (by decide) w_50 (fun _ => rfl) f1 f3 ?_
  refine tt_iload_n (k0 := 3) (by decide +kernel) rfl ?_
  refine tt_iload (k0 := 7) (by decide +kernel) rfl ?_
  obtain ⟨g2, h⟩ := h
  refine tt_iast (by decide +kernel) f5 g2 ?_
  generalize eS20 : sI S19 b2 (upd (tI S19 b2) x3.toNatClampNeg y16) = S20
  have h := h S20 eS20.symm
  have hm : Sm0 S S20 := by rw [← eS20]; exact hm.I
  have f1 : te S20 a0 = some (.inr 8) := by rw [← eS20, te_sI]; exact f1
  have f3 : tR S20 a0 1 = some b2 := by rw [← eS20, tR_sI]; exact f3
  have f5 : te S20 b2 = some (.inl (.int, n4)) := by rw [← eS20, te_sI]; exact f5
  refine tt_aload_n (k0 := 0) (by decide +kernel) rfl ?_
  refine tt_getR (k := 1) (by decide +kernel) KC_8 (by decide) w_50 (fun _ => rfl) f1 f3 ?_
  refine tt_iload (k0 := 4) (by decide +kernel) rfl ?_
  refine tt_iload (k0 := 8) (by decide +kernel) rfl ?_
  obtain ⟨g2, h⟩ := h
  refine tt_iast (by decide +kernel) f5 g2 ?_
  generalize eS21 : sI S20 b2 (upd (tI S20 b2) x4.toNatClampNeg r15) = S21
  have h := h S21 eS21.symm
  have hm : Sm0 S S21 := by rw [← eS21]; exact hm.I
  have f1 : te S21 a0 = some (.inr 8) := by rw [← eS21, te_sI]; exact f1
  have f3 : tR S21 a0 1 = some b2 := by rw [← eS21, tR_sI]; exact f3
  have f5 : te S21 b2 = some (.inl (.int, n4)) := by rw [← eS21, te_sI]; exact f5
  exact tt_vret (by decide +kernel) rfl ⟨hm, h⟩
set_option maxRecDepth 100000 in
theorem v_Int_rotateLeft {G : pG} (x0 : Int32) (x1 : Int32) (S : TS) (Q : Option Value → Prop)
    (h : Q (some (.int ((x0 <<< (x1 &&& 31)) ||| (ushr x0 (-x1)))))) :
    CP G J_Int_rotateLeft [.int x0, .int x1] S Q := by
  unfold CP
  refine ct_of (by decide +kernel) (Nat.le_of_ble_eq_true rfl) (lv := [(0, .int x0), (1, .int x1)]) rfl ?_
  refine tt_iload_n (k0 := 0) (by decide +kernel) rfl ?_
  refine tt_iload_n (k0 := 1) (by decide +kernel) rfl ?_
  refine tt_ishl (by decide +kernel) ?_
  refine tt_iload_n (k0 := 0) (by decide +kernel) rfl ?_
  refine tt_iload_n (k0 := 1) (by decide +kernel) rfl ?_
  refine tt_ineg (by decide +kernel) ?_
  refine tt_iushr (by decide +kernel) ?_
  refine tt_ior (by decide +kernel) ?_
  exact tt_iret (by decide +kernel) rfl ⟨rfl, h⟩
set_option maxRecDepth 100000 in
theorem v_Stream_byteAt {G : pG} (a0 : Nat) (x1 : Int32) (S : TS) (Q : Option Value → Prop)
    (h : te S a0 = some (.inr 8) ∧ ∃ b2 : Nat, tR S a0 1 = some b2 ∧ ∃ n4 : Nat, te S b2 = some (.inl (.int, n4)) ∧ vp_in ((ushr x1 2) &&& (15 : Int32)) n4 ∧ Q (some (.int ((ushr (tI S b2 ((ushr x1 2) &&& (15 : Int32)).toNatClampNeg) ((8 : Int32) * (x1 &&& (3 : Int32)))) &&& (255 : Int32))))) :
    CP G J_Stream_byteAt [.ref a0, .int x1] S Q := by
  unfold CP
  refine ct_of (by decide +kernel) (Nat.le_of_ble_eq_true rfl) (lv := [(0, .ref a0), (1, .int x1)]) rfl ?_
  refine tt_aload_n (k0 := 0) (by decide +kernel) rfl ?_
  obtain ⟨f1, h⟩ := h
  obtain ⟨b2, f3, h⟩ := h
  refine tt_getR (k := 1) (by decide +kernel) KC_8 (by decide) w_50 (fun _ => rfl) f1 f3 ?_
  refine tt_iload_n (k0 := 1) (by decide +kernel) rfl ?_
  refine tt_iconst (n := 2) (v := 2) (by decide +kernel) (by decide) ?_
  refine tt_iushr (by decide +kernel) ?_
  refine tt_bipush (n := 15) (v := 15) (by decide +kernel) (by decide) ?_
  refine tt_iand (by decide +kernel) ?_
  obtain ⟨n4, f5, h⟩ := h
  obtain ⟨g2, h⟩ := h
  refine tt_iald (by decide +kernel) f5 g2 ?_
  refine tt_bipush (n := 8) (v := 8) (by decide +kernel) (by decide) ?_
  refine tt_iload_n (k0 := 1) (by decide +kernel) rfl ?_
  refine tt_iconst (n := 3) (v := 3) (by decide +kernel) (by decide) ?_
  refine tt_iand (by decide +kernel) ?_
  refine tt_imul (by decide +kernel) ?_
  refine tt_iushr (by decide +kernel) ?_
  refine tt_sipush (n := 255) (v := 255) (by decide +kernel) (by decide) ?_
  refine tt_iand (by decide +kernel) ?_
  exact tt_iret (by decide +kernel) rfl ⟨rfl, h⟩
set_option maxRecDepth 100000 in
theorem v_Poly_makeTag {G : pG} (a0 : Nat) (a1 : Nat) (a2 : Nat) (x3 : Int32) (a4 : Nat) (S : TS) (Q : Option Value → TS → Prop)
    (h : te S a0 = some (.inr 3) ∧ C0 G J_Poly_layText [.ref a0, .ref a2, .int x3] S (fun r S2 => r = none ∧ C0 G J_Poly_begin [.ref a0, .ref a1] S2 (fun r S3 => r = none ∧ T0 G J_Poly_makeTag 14 [(0, .ref a0), (1, .ref a1), (2, .ref a2), (3, .int x3), (4, .ref a4), (5, .int 0)] [] S3 Q))) :
    C0 G J_Poly_makeTag [.ref a0, .ref a1, .ref a2, .int x3, .ref a4] S Q := by
  unfold C0
  refine ct_of (by decide +kernel) (Nat.le_of_ble_eq_true rfl) (lv := [(0, .ref a0), (1, .ref a1), (2, .ref a2), (3, .int x3), (4, .ref a4)]) rfl ?_
  have hm : Sm0 S S := Sm0.rf S
  refine tt_aload_n (k0 := 0) (by decide +kernel) rfl ?_
  refine tt_aload_n (k0 := 2) (by decide +kernel) rfl ?_
  refine tt_iload_n (k0 := 3) (by decide +kernel) rfl ?_
  obtain ⟨f1, h⟩ := h
  refine tt_callV (As := [.ref a2, .int x3]) (rest := []) (ci := 3) (r0 := (R_3, F_3, 5)) (by decide +kernel) LK_Poly_layText w_537 w_539 (in_p (n := 5) 7 rfl) (by decide) (by decide) rfl rfl (Nat.le_of_ble_eq_true rfl) rfl rfl f1 (ct_mono h (fun r S2 h => ?_))
  obtain ⟨hm2, h⟩ := h
  obtain ⟨rfl, h⟩ := h
  show T G J_Poly_makeTag 6 [(0, .ref a0), (1, .ref a1), (2, .ref a2), (3, .int x3), (4, .ref a4)] [] S2 _
  have hm := hm.tr hm2
  have f1 : te S2 a0 = some (.inr 3) := by rw [hm2.1]; exact f1
  refine tt_aload_n (k0 := 0) (by decide +kernel) rfl ?_
  refine tt_aload_n (k0 := 1) (by decide +kernel) rfl ?_
  refine tt_callV (As := [.ref a1]) (rest := []) (ci := 3) (r0 := (R_3, F_3, 5)) (by decide +kernel) LK_Poly_begin w_551 w_553 (in_p (n := 5) 9 rfl) (by decide) (by decide) rfl rfl (Nat.le_of_ble_eq_true rfl) rfl rfl f1 (ct_mono h (fun r S3 h => ?_))
  obtain ⟨hm2, h⟩ := h
  obtain ⟨rfl, h⟩ := h
  show T G J_Poly_makeTag 11 [(0, .ref a0), (1, .ref a1), (2, .ref a2), (3, .int x3), (4, .ref a4)] [] S3 _
  have hm := hm.tr hm2
  have f1 : te S3 a0 = some (.inr 3) := by rw [hm2.1]; exact f1
  refine tt_iconst (n := 0) (v := 0) (by decide +kernel) (by decide) ?_
  refine tt_istore (k0 := 5) (lv' := [(0, .ref a0), (1, .ref a1), (2, .ref a2), (3, .int x3), (4, .ref a4), (5, .int 0)]) (by decide +kernel) (by decide) rfl ?_
  exact tt_mono h (fun r S' q => ⟨hm.tr q.1, q.2⟩)
set_option maxRecDepth 100000 in
theorem v_Poly_makeTag_14 {G : pG} (a0 : Nat) (a1 : Nat) (a2 : Nat) (x3 : Int32) (a4 : Nat) (x5 : Int32) (S : TS) (Q : Option Value → TS → Prop)
    (h : te S a0 = some (.inr 3) ∧ ∃ b2 : Nat, tR S a0 4 = some b2 ∧ te S b2 = some (.inr 0) ∧ CP G J_Bytes_size [.ref b2] S (fun r => ∃ r5 : Int32, r = some (.int r5) ∧ ((r5 ≤ x5 → C0 G J_Poly_finish [.ref a0, .ref a1, .ref a4] S (fun r S6 => r = none ∧ Q none S6)) ∧ (¬ (r5 ≤ x5) → C0 G J_Poly_takeBlock [.ref a0, .int x5] S (fun r S7 => r = none ∧ ∀ y8 : Int32, y8 = x5 + 16 → T0 G J_Poly_makeTag 14 [(0, .ref a0), (1, .ref a1), (2, .ref a2), (3, .int x3), (4, .ref a4), (5, .int y8)] [] S7 Q))))) :
    T0 G J_Poly_makeTag 14 [(0, .ref a0), (1, .ref a1), (2, .ref a2), (3, .int x3), (4, .ref a4), (5, .int x5)] [] S Q := by
  unfold T0
  have hm : Sm0 S S := Sm0.rf S
  refine tt_iload (k0 := 5) (by decide +kernel) rfl ?_
  refine tt_aload_n (k0 := 0) (by decide +kernel) rfl ?_
  obtain ⟨f1, h⟩ := h
  obtain ⟨b2, f3, h⟩ := h
  refine tt_getR (k := 4) (by decide +kernel) KC_3 (by decide) w_68 (fun _ => rfl) f1 f3 ?_
  obtain ⟨f4, h⟩ := h
  refine tt_callV (As := []) (rest := [.int x5]) (ci := 0) (r0 := (R_0, F_0, 2)) (by decide +kernel) LK_Bytes_size w_547 w_299 w_300 (by decide) (by decide) rfl rfl (Nat.le_of_ble_eq_true rfl) rfl rfl f4 (ct_mono h (fun r Sb h => ?_))
  obtain ⟨eb, h⟩ := h
  obtain ⟨r5, rfl, h⟩ := h
  rw [eb]
  show T G J_Poly_makeTag 23 [(0, .ref a0), (1, .ref a1), (2, .ref a2), (3, .int x3), (4, .ref a4), (5, .int x5)] [.int r5, .int x5] S _
  refine tt_icmp_ge (off := 15) 38 (by decide +kernel) (by decide) (fun c => ?_) (fun c => ?_)
  · have h := h.1 c
    refine tt_aload_n (k0 := 0) (by decide +kernel) rfl ?_
    refine tt_aload_n (k0 := 1) (by decide +kernel) rfl ?_
    refine tt_aload (k0 := 4) (by decide +kernel) rfl ?_
    refine tt_callV (As := [.ref a1, .ref a4]) (rest := []) (ci := 3) (r0 := (R_3, F_3, 5)) (by decide +kernel) LK_Poly_finish w_582 w_584 (in_p (n := 5) 13 rfl) (by decide) (by decide) rfl rfl (Nat.le_of_ble_eq_true rfl) rfl rfl f1 (ct_mono h (fun r S6 h => ?_))
    obtain ⟨hm2, h⟩ := h
    obtain ⟨rfl, h⟩ := h
    show T G J_Poly_makeTag 45 [(0, .ref a0), (1, .ref a1), (2, .ref a2), (3, .int x3), (4, .ref a4), (5, .int x5)] [] S6 _
    have hm := hm.tr hm2
    have f1 : te S6 a0 = some (.inr 3) := by rw [hm2.1]; exact f1
    have f3 : tR S6 a0 4 = some b2 := by rw [hm2.R]; exact f3
    have f4 : te S6 b2 = some (.inr 0) := by rw [hm2.1]; exact f4
    exact tt_vret (by decide +kernel) rfl ⟨hm, h⟩
  · have h := h.2 c
    refine tt_aload_n (k0 := 0) (by decide +kernel) rfl ?_
    refine tt_iload (k0 := 5) (by decide +kernel) rfl ?_
    refine tt_callV (As := [.int x5]) (rest := []) (ci := 3) (r0 := (R_3, F_3, 5)) (by decide +kernel) LK_Poly_takeBlock w_567 w_569 (in_p (n := 5) 11 rfl) (by decide) (by decide) rfl rfl (Nat.le_of_ble_eq_true rfl) rfl rfl f1 (ct_mono h (fun r S7 h => ?_))
    obtain ⟨hm2, h⟩ := h
    obtain ⟨rfl, h⟩ := h
    show T G J_Poly_makeTag 32 [(0, .ref a0), (1, .ref a1), (2, .ref a2), (3, .int x3), (4, .ref a4), (5, .int x5)] [] S7 _
    have hm := hm.tr hm2
    have f1 : te S7 a0 = some (.inr 3) := by rw [hm2.1]; exact f1
    have f3 : tR S7 a0 4 = some b2 := by rw [hm2.R]; exact f3
    have f4 : te S7 b2 = some (.inr 0) := by rw [hm2.1]; exact f4
    obtain ⟨y8, ey8⟩ : ∃ y : Int32, y = x5 + 16 := ⟨_, rfl⟩
    have h := h y8 ey8
    refine tt_iinc (i := 5) (n := 16) (v := y8) (lv' := [(0, .ref a0), (1, .ref a1), (2, .ref a2), (3, .int x3), (4, .ref a4), (5, .int y8)]) (by decide +kernel) (by decide) rfl ey8.symm rfl ?_
    refine tt_goto (off := -21) (tgt := 14) (by decide +kernel) (by decide) ?_
    exact tt_mono h (fun r S' q => ⟨hm.tr q.1, q.2⟩)
set_option maxRecDepth 100000 in
theorem v_Poly_layText {G : pG} (a0 : Nat) (a1 : Nat) (x2 : Int32) (S : TS) (Q : Option Value → TS → Prop)
    (h : te S a0 = some (.inr 3) ∧ ∃ b2 : Nat, tR S a0 4 = some b2 ∧ te S b2 = some (.inr 0) ∧ C0 G J_Bytes_clear [.ref b2] S (fun r S5 => r = none ∧ C0 G J_Bytes_putPart [.ref b2, .ref a1, .int 0, .int 3] S5 (fun r S6 => r = none ∧ C0 G J_Poly_fillBlock [.ref a0] S6 (fun r S7 => r = none ∧ C0 G J_Bytes_putPart [.ref b2, .ref a1, .int 3, .int (x2 - (3 : Int32))] S7 (fun r S8 => r = none ∧ C0 G J_Poly_fillBlock [.ref a0] S8 (fun r S9 => r = none ∧ CP G J_Int_reverseBytes [.int 3] S9 (fun r => ∃ r10 : Int32, r = some (.int r10) ∧ C0 G J_Bytes_putNumber [.ref b2, .int r10] S9 (fun r S11 => r = none ∧ C0 G J_Bytes_putNumber [.ref b2, .int 0] S11 (fun r S12 => r = none ∧ CP G J_Int_reverseBytes [.int (x2 - (3 : Int32))] S12 (fun r => ∃ r13 : Int32, r = some (.int r13) ∧ C0 G J_Bytes_putNumber [.ref b2, .int r13] S12 (fun r S14 => r = none ∧ C0 G J_Bytes_putNumber [.ref b2, .int 0] S14 (fun r S15 => r = none ∧ Q none S15)))))))))))) :
    C0 G J_Poly_layText [.ref a0, .ref a1, .int x2] S Q := by
  unfold C0
  refine ct_of (by decide +kernel) (Nat.le_of_ble_eq_true rfl) (lv := [(0, .ref a0), (1, .ref a1), (2, .int x2)]) rfl ?_
  have hm : Sm0 S S := Sm0.rf S
  refine tt_aload_n (k0 := 0) (by decide +kernel) rfl ?_
  obtain ⟨f1, h⟩ := h
  obtain ⟨b2, f3, h⟩ := h
  refine tt_getR (k := 4) (by decide +kernel) KC_3 (by decide) w_68 (fun _ => rfl) f1 f3 ?_
  obtain ⟨f4, h⟩ := h
  refine tt_callV (As := []) (rest := []) (ci := 0) (r0 := (R_0, F_0, 2)) (by decide +kernel) LK_Bytes_clear w_541 w_392 w_393 (by decide) (by decide) rfl rfl (Nat.le_of_ble_eq_true rfl) rfl rfl f4 (ct_mono h (fun r S5 h => ?_))
  obtain ⟨hm2, h⟩ := h
  obtain ⟨rfl, h⟩ := h
  show T G J_Poly_layText 7 [(0, .ref a0), (1, .ref a1), (2, .int x2)] [] S5 _
  have hm := hm.tr hm2
  have f1 : te S5 a0 = some (.inr 3) := by rw [hm2.1]; exact f1
  have f3 : tR S5 a0 4 = some b2 := by rw [hm2.R]; exact f3
  have f4 : te S5 b2 = some (.inr 0) := by rw [hm2.1]; exact f4
  refine tt_aload_n (k0 := 0) (by decide +kernel) rfl ?_
  refine tt_getR (k := 4) (by decide +kernel) KC_3 (by decide) w_68 (fun _ => rfl) f1 f3 ?_
  refine tt_aload_n (k0 := 1) (by decide +kernel) rfl ?_
  refine tt_iconst (n := 0) (v := 0) (by decide +kernel) (by decide) ?_
  refine tt_iconst (n := 3) (v := 3) (by decide +kernel) (by decide) ?_
  refine tt_callV (As := [.ref a1, .int 0, .int 3]) (rest := []) (ci := 0) (r0 := (R_0, F_0, 2)) (by decide +kernel) LK_Bytes_putPart w_542 w_358 w_359 (by decide) (by decide) rfl rfl (Nat.le_of_ble_eq_true rfl) rfl rfl f4 (ct_mono h (fun r S6 h => ?_))
  obtain ⟨hm2, h⟩ := h
  obtain ⟨rfl, h⟩ := h
  show T G J_Poly_layText 17 [(0, .ref a0), (1, .ref a1), (2, .int x2)] [] S6 _
  have hm := hm.tr hm2
  have f1 : te S6 a0 = some (.inr 3) := by rw [hm2.1]; exact f1
  have f3 : tR S6 a0 4 = some b2 := by rw [hm2.R]; exact f3
  have f4 : te S6 b2 = some (.inr 0) := by rw [hm2.1]; exact f4
  refine tt_aload_n (k0 := 0) (by decide +kernel) rfl ?_
  refine tt_callV (As := []) (rest := []) (ci := 3) (r0 := (R_3, F_3, 5)) (by decide +kernel) LK_Poly_fillBlock w_543 w_545 (in_p (n := 5) 8 rfl) (by decide) (by decide) rfl rfl (Nat.le_of_ble_eq_true rfl) rfl rfl f1 (ct_mono h (fun r S7 h => ?_))
  obtain ⟨hm2, h⟩ := h
  obtain ⟨rfl, h⟩ := h
  show T G J_Poly_layText 21 [(0, .ref a0), (1, .ref a1), (2, .int x2)] [] S7 _
  have hm := hm.tr hm2
  have f1 : te S7 a0 = some (.inr 3) := by rw [hm2.1]; exact f1
  have f3 : tR S7 a0 4 = some b2 := by rw [hm2.R]; exact f3
  have f4 : te S7 b2 = some (.inr 0) := by rw [hm2.1]; exact f4
  refine tt_aload_n (k0 := 0) (by decide +kernel) rfl ?_
  refine tt_getR (k := 4) (by decide +kernel) KC_3 (by decide) w_68 (fun _ => rfl) f1 f3 ?_
  refine tt_aload_n (k0 := 1) (by decide +kernel) rfl ?_
  refine tt_iconst (n := 3) (v := 3) (by decide +kernel) (by decide) ?_
  refine tt_iload_n (k0 := 2) (by decide +kernel) rfl ?_
  refine tt_iconst (n := 3) (v := 3) (by decide +kernel) (by decide) ?_
  refine tt_isub (by decide +kernel) ?_
  refine tt_callV (As := [.ref a1, .int 3, .int (x2 - (3 : Int32))]) (rest := []) (ci := 0) (r0 := (R_0, F_0, 2)) (by decide +kernel) LK_Bytes_putPart w_542 w_358 w_359 (by decide) (by decide) rfl rfl (Nat.le_of_ble_eq_true rfl) rfl rfl f4 (ct_mono h (fun r S8 h => ?_))
  obtain ⟨hm2, h⟩ := h
  obtain ⟨rfl, h⟩ := h
  show T G J_Poly_layText 33 [(0, .ref a0), (1, .ref a1), (2, .int x2)] [] S8 _
  have hm := hm.tr hm2
  have f1 : te S8 a0 = some (.inr 3) := by rw [hm2.1]; exact f1
  have f3 : tR S8 a0 4 = some b2 := by rw [hm2.R]; exact f3
  have f4 : te S8 b2 = some (.inr 0) := by rw [hm2.1]; exact f4
  refine tt_aload_n (k0 := 0) (by decide +kernel) rfl ?_
  refine tt_callV (As := []) (rest := []) (ci := 3) (r0 := (R_3, F_3, 5)) (by decide +kernel) LK_Poly_fillBlock w_543 w_545 (in_p (n := 5) 8 rfl) (by decide) (by decide) rfl rfl (Nat.le_of_ble_eq_true rfl) rfl rfl f1 (ct_mono h (fun r S9 h => ?_))
  obtain ⟨hm2, h⟩ := h
  obtain ⟨rfl, h⟩ := h
  show T G J_Poly_layText 37 [(0, .ref a0), (1, .ref a1), (2, .int x2)] [] S9 _
  have hm := hm.tr hm2
  have f1 : te S9 a0 = some (.inr 3) := by rw [hm2.1]; exact f1
  have f3 : tR S9 a0 4 = some b2 := by rw [hm2.R]; exact f3
  have f4 : te S9 b2 = some (.inr 0) := by rw [hm2.1]; exact f4
  refine tt_aload_n (k0 := 0) (by decide +kernel) rfl ?_
  refine tt_getR (k := 4) (by decide +kernel) KC_3 (by decide) w_68 (fun _ => rfl) f1 f3 ?_
  refine tt_iconst (n := 3) (v := 3) (by decide +kernel) (by decide) ?_
  refine tt_callS (As := [.int 3]) (rest := [.ref b2]) (by decide +kernel) LK_Int_reverseBytes w_549 w_509 (by decide) (by decide) rfl rfl (Nat.le_of_ble_eq_true rfl) (ct_mono h (fun r Sb h => ?_))
  obtain ⟨eb, h⟩ := h
  obtain ⟨r10, rfl, h⟩ := h
  rw [eb]
  show T G J_Poly_layText 45 [(0, .ref a0), (1, .ref a1), (2, .int x2)] [.int r10, .ref b2] S9 _
  refine tt_callV (As := [.int r10]) (rest := []) (ci := 0) (r0 := (R_0, F_0, 2)) (by decide +kernel) LK_Bytes_putNumber w_550 w_303 w_304 (by decide) (by decide) rfl rfl (Nat.le_of_ble_eq_true rfl) rfl rfl f4 (ct_mono h (fun r S11 h => ?_))
  obtain ⟨hm2, h⟩ := h
  obtain ⟨rfl, h⟩ := h
  show T G J_Poly_layText 48 [(0, .ref a0), (1, .ref a1), (2, .int x2)] [] S11 _
  have hm := hm.tr hm2
  have f1 : te S11 a0 = some (.inr 3) := by rw [hm2.1]; exact f1
  have f3 : tR S11 a0 4 = some b2 := by rw [hm2.R]; exact f3
  have f4 : te S11 b2 = some (.inr 0) := by rw [hm2.1]; exact f4
  refine tt_aload_n (k0 := 0) (by decide +kernel) rfl ?_
  refine tt_getR (k := 4) (by decide +kernel) KC_3 (by decide) w_68 (fun _ => rfl) f1 f3 ?_
  refine tt_iconst (n := 0) (v := 0) (by decide +kernel) (by decide) ?_
  refine tt_callV (As := [.int 0]) (rest := []) (ci := 0) (r0 := (R_0, F_0, 2)) (by decide +kernel) LK_Bytes_putNumber w_550 w_303 w_304 (by decide) (by decide) rfl rfl (Nat.le_of_ble_eq_true rfl) rfl rfl f4 (ct_mono h (fun r S12 h => ?_))
  obtain ⟨hm2, h⟩ := h
  obtain ⟨rfl, h⟩ := h
  show T G J_Poly_layText 56 [(0, .ref a0), (1, .ref a1), (2, .int x2)] [] S12 _
  have hm := hm.tr hm2
  have f1 : te S12 a0 = some (.inr 3) := by rw [hm2.1]; exact f1
  have f3 : tR S12 a0 4 = some b2 := by rw [hm2.R]; exact f3
  have f4 : te S12 b2 = some (.inr 0) := by rw [hm2.1]; exact f4
  refine tt_aload_n (k0 := 0) (by decide +kernel) rfl ?_
  refine tt_getR (k := 4) (by decide +kernel) KC_3 (by decide) w_68 (fun _ => rfl) f1 f3 ?_
  refine tt_iload_n (k0 := 2) (by decide +kernel) rfl ?_
  refine tt_iconst (n := 3) (v := 3) (by decide +kernel) (by decide) ?_
  refine tt_isub (by decide +kernel) ?_
  refine tt_callS (As := [.int (x2 - (3 : Int32))]) (rest := [.ref b2]) (by decide +kernel) LK_Int_reverseBytes w_549 w_509 (by decide) (by decide) rfl rfl (Nat.le_of_ble_eq_true rfl) (ct_mono h (fun r Sb h => ?_))
  obtain ⟨eb, h⟩ := h
  obtain ⟨r13, rfl, h⟩ := h
  rw [eb]
  show T G J_Poly_layText 66 [(0, .ref a0), (1, .ref a1), (2, .int x2)] [.int r13, .ref b2] S12 _
  refine tt_callV (As := [.int r13]) (rest := []) (ci := 0) (r0 := (R_0, F_0, 2)) (by decide +kernel) LK_Bytes_putNumber w_550 w_303 w_304 (by decide) (by decide) rfl rfl (Nat.le_of_ble_eq_true rfl) rfl rfl f4 (ct_mono h (fun r S14 h => ?_))
  obtain ⟨hm2, h⟩ := h
  obtain ⟨rfl, h⟩ := h
  show T G J_Poly_layText 69 [(0, .ref a0), (1, .ref a1), (2, .int x2)] [] S14 _
  have hm := hm.tr hm2
  have f1 : te S14 a0 = some (.inr 3) := by rw [hm2.1]; exact f1
  have f3 : tR S14 a0 4 = some b2 := by rw [hm2.R]; exact f3
  have f4 : te S14 b2 = some (.inr 0) := by rw [hm2.1]; exact f4
  refine tt_aload_n (k0 := 0) (by decide +kernel) rfl ?_
  refine tt_getR (k := 4) (by decide +kernel) KC_3 (by decide) w_68 (fun _ => rfl) f1 f3 ?_
  refine tt_iconst (n := 0) (v := 0) (by decide +kernel) (by decide) ?_
  refine tt_callV (As := [.int 0]) (rest := []) (ci := 0) (r0 := (R_0, F_0, 2)) (by decide +kernel) LK_Bytes_putNumber w_550 w_303 w_304 (by decide) (by decide) rfl rfl (Nat.le_of_ble_eq_true rfl) rfl rfl f4 (ct_mono h (fun r S15 h => ?_))
  obtain ⟨hm2, h⟩ := h
  obtain ⟨rfl, h⟩ := h
  show T G J_Poly_layText 77 [(0, .ref a0), (1, .ref a1), (2, .int x2)] [] S15 _
  have hm := hm.tr hm2
  have f1 : te S15 a0 = some (.inr 3) := by rw [hm2.1]; exact f1
  have f3 : tR S15 a0 4 = some b2 := by rw [hm2.R]; exact f3
  have f4 : te S15 b2 = some (.inr 0) := by rw [hm2.1]; exact f4
  exact tt_vret (by decide +kernel) rfl ⟨hm, h⟩
set_option maxRecDepth 100000 in
theorem v_Poly_fillBlock {G : pG} (a0 : Nat) (S : TS) (Q : Option Value → TS → Prop)
    (h : te S a0 = some (.inr 3) ∧ ∃ b2 : Nat, tR S a0 4 = some b2 ∧ te S b2 = some (.inr 0) ∧ CP G J_Bytes_size [.ref b2] S (fun r => ∃ r5 : Int32, r = some (.int r5) ∧ ∀ y6 : Int32, y6 = (-r5) &&& (15 : Int32) → T0 G J_Poly_fillBlock 14 [(0, .ref a0), (1, .int y6), (2, .int 0)] [] S Q)) :
    C0 G J_Poly_fillBlock [.ref a0] S Q := by
  unfold C0
  refine ct_of (by decide +kernel) (Nat.le_of_ble_eq_true rfl) (lv := [(0, .ref a0)]) rfl ?_
  have hm : Sm0 S S := Sm0.rf S
  refine tt_aload_n (k0 := 0) (by decide +kernel) rfl ?_
  obtain ⟨f1, h⟩ := h
  obtain ⟨b2, f3, h⟩ := h
  refine tt_getR (k := 4) (by decide +kernel) KC_3 (by decide) w_68 (fun _ => rfl) f1 f3 ?_
  obtain ⟨f4, h⟩ := h
  refine tt_callV (As := []) (rest := []) (ci := 0) (r0 := (R_0, F_0, 2)) (by decide +kernel) LK_Bytes_size w_547 w_299 w_300 (by decide) (by decide) rfl rfl (Nat.le_of_ble_eq_true rfl) rfl rfl f4 (ct_mono h (fun r Sb h => ?_))
  obtain ⟨eb, h⟩ := h
  obtain ⟨r5, rfl, h⟩ := h
  rw [eb]
  show T G J_Poly_fillBlock 7 [(0, .ref a0)] [.int r5] S _
  refine tt_ineg (by decide +kernel) ?_
  refine tt_bipush (n := 15) (v := 15) (by decide +kernel) (by decide) ?_
  refine tt_iand (by decide +kernel) ?_
  refine tt_topi (fun y6 ey6 => ?_)
  have h := h y6 ey6
  refine tt_istore_n (k0 := 1) (lv' := [(0, .ref a0), (1, .int y6)]) (by decide +kernel) (by decide) rfl ?_
  refine tt_iconst (n := 0) (v := 0) (by decide +kernel) (by decide) ?_
  refine tt_istore_n (k0 := 2) (lv' := [(0, .ref a0), (1, .int y6), (2, .int 0)]) (by decide +kernel) (by decide) rfl ?_
  exact tt_mono h (fun r S' q => ⟨hm.tr q.1, q.2⟩)
set_option maxRecDepth 100000 in
theorem v_Poly_fillBlock_14 {G : pG} (a0 : Nat) (x1 : Int32) (x2 : Int32) (S : TS) (Q : Option Value → TS → Prop)
    (h : ((x1 ≤ x2 → Q none S) ∧ (¬ (x1 ≤ x2) → te S a0 = some (.inr 3) ∧ ∃ b2 : Nat, tR S a0 4 = some b2 ∧ te S b2 = some (.inr 0) ∧ C0 G J_Bytes_put [.ref b2, .int 0] S (fun r S5 => r = none ∧ ∀ y6 : Int32, y6 = x2 + 1 → T0 G J_Poly_fillBlock 14 [(0, .ref a0), (1, .int x1), (2, .int y6)] [] S5 Q)))) :
    T0 G J_Poly_fillBlock 14 [(0, .ref a0), (1, .int x1), (2, .int x2)] [] S Q := by
  unfold T0
  have hm : Sm0 S S := Sm0.rf S
  refine tt_iload_n (k0 := 2) (by decide +kernel) rfl ?_
  refine tt_iload_n (k0 := 1) (by decide +kernel) rfl ?_
  refine tt_icmp_ge (off := 17) 33 (by decide +kernel) (by decide) (fun c => ?_) (fun c => ?_)
  · have h := h.1 c
    exact tt_vret (by decide +kernel) rfl ⟨hm, h⟩
  · have h := h.2 c
    refine tt_aload_n (k0 := 0) (by decide +kernel) rfl ?_
    obtain ⟨f1, h⟩ := h
    obtain ⟨b2, f3, h⟩ := h
    refine tt_getR (k := 4) (by decide +kernel) KC_3 (by decide) w_68 (fun _ => rfl) f1 f3 ?_
    refine tt_iconst (n := 0) (v := 0) (by decide +kernel) (by decide) ?_
    obtain ⟨f4, h⟩ := h
    refine tt_callV (As := [.int 0]) (rest := []) (ci := 0) (r0 := (R_0, F_0, 2)) (by decide +kernel) LK_Bytes_put w_548 w_239 w_240 (by decide) (by decide) rfl rfl (Nat.le_of_ble_eq_true rfl) rfl rfl f4 (ct_mono h (fun r S5 h => ?_))
    obtain ⟨hm2, h⟩ := h
    obtain ⟨rfl, h⟩ := h
    show T G J_Poly_fillBlock 27 [(0, .ref a0), (1, .int x1), (2, .int x2)] [] S5 _
    have hm := hm.tr hm2
    have f1 : te S5 a0 = some (.inr 3) := by rw [hm2.1]; exact f1
    have f3 : tR S5 a0 4 = some b2 := by rw [hm2.R]; exact f3
    have f4 : te S5 b2 = some (.inr 0) := by rw [hm2.1]; exact f4
    obtain ⟨y6, ey6⟩ : ∃ y : Int32, y = x2 + 1 := ⟨_, rfl⟩
    have h := h y6 ey6
    refine tt_iinc (i := 2) (n := 1) (v := y6) (lv' := [(0, .ref a0), (1, .int x1), (2, .int y6)]) (by decide +kernel) (by decide) rfl ey6.symm rfl ?_
    refine tt_goto (off := -16) (tgt := 14) (by decide +kernel) (by decide) ?_
    exact tt_mono h (fun r S' q => ⟨hm.tr q.1, q.2⟩)
set_option maxRecDepth 100000 in
theorem v_Poly_begin {G : pG} (a0 : Nat) (a1 : Nat) (S : TS) (Q : Option Value → TS → Prop)
    (h : te S a0 = some (.inr 3) ∧ ∃ b2 : Nat, tR S a0 3 = some b2 ∧ te S a1 = some (.inr 8) ∧ CP G J_Stream_word [.ref a1, .int 0] S (fun r => ∃ r5 : Int32, r = some (.int r5) ∧ ∃ n6 : Nat, te S b2 = some (.inl (.int, n6)) ∧ vp_in 0 n6 ∧ ∀ S8 : TS, S8 = sI S b2 (upd (tI S b2) 0 (r5 &&& (268435455 : Int32))) → T0 G J_Poly_begin 16 [(0, .ref a0), (1, .ref a1), (2, .int 1)] [] S8 Q)) :
    C0 G J_Poly_begin [.ref a0, .ref a1] S Q := by
  unfold C0
  refine ct_of (by decide +kernel) (Nat.le_of_ble_eq_true rfl) (lv := [(0, .ref a0), (1, .ref a1)]) rfl ?_
  have hm : Sm0 S S := Sm0.rf S
  refine tt_aload_n (k0 := 0) (by decide +kernel) rfl ?_
  obtain ⟨f1, h⟩ := h
  obtain ⟨b2, f3, h⟩ := h
  refine tt_getR (k := 3) (by decide +kernel) KC_3 (by decide) w_67 (fun _ => rfl) f1 f3 ?_
  refine tt_iconst (n := 0) (v := 0) (by decide +kernel) (by decide) ?_
  refine tt_aload_n (k0 := 1) (by decide +kernel) rfl ?_
  refine tt_iconst (n := 0) (v := 0) (by decide +kernel) (by decide) ?_
  obtain ⟨f4, h⟩ := h
  refine tt_callV (As := [.int 0]) (rest := [.int 0, .ref b2]) (ci := 8) (r0 := (R_8, F_8, 2)) (by decide +kernel) LK_Stream_word w_555 w_556 w_557 (by decide) (by decide) rfl rfl (Nat.le_of_ble_eq_true rfl) rfl rfl f4 (ct_mono h (fun r Sb h => ?_))
  obtain ⟨eb, h⟩ := h
  obtain ⟨r5, rfl, h⟩ := h
  rw [eb]
  show T G J_Poly_begin 10 [(0, .ref a0), (1, .ref a1)] [.int r5, .int 0, .ref b2] S _
  refine tt_ldc (v := 268435455) (by decide +kernel) w_559 ?_
  refine tt_iand (by decide +kernel) ?_
  obtain ⟨n6, f7, h⟩ := h
  obtain ⟨g2, h⟩ := h
  refine tt_iast (by decide +kernel) f7 g2 ?_
  show T G J_Poly_begin 14 [(0, .ref a0), (1, .ref a1)] [] (sI S b2 (upd (tI S b2) 0 (r5 &&& (268435455 : Int32)))) _
  generalize eS8 : sI S b2 (upd (tI S b2) 0 (r5 &&& (268435455 : Int32))) = S8
  have h := h S8 eS8.symm
  have hm : Sm0 S S8 := by rw [← eS8]; exact hm.I
  have f1 : te S8 a0 = some (.inr 3) := by rw [← eS8, te_sI]; exact f1
  have f3 : tR S8 a0 3 = some b2 := by rw [← eS8, tR_sI]; exact f3
  have f4 : te S8 a1 = some (.inr 8) := by rw [← eS8, te_sI]; exact f4
  have f7 : te S8 b2 = some (.inl (.int, n6)) := by rw [← eS8, te_sI]; exact f7
  refine tt_iconst (n := 1) (v := 1) (by decide +kernel) (by decide) ?_
  refine tt_istore_n (k0 := 2) (lv' := [(0, .ref a0), (1, .ref a1), (2, .int 1)]) (by decide +kernel) (by decide) rfl ?_
  exact tt_mono h (fun r S' q => ⟨hm.tr q.1, q.2⟩)
set_option maxRecDepth 100000 in
theorem v_Poly_begin_16 {G : pG} (a0 : Nat) (a1 : Nat) (x2 : Int32) (S : TS) (Q : Option Value → TS → Prop)
    (h : ((4 ≤ x2 → T0 G J_Poly_begin 43 [(0, .ref a0), (1, .ref a1), (2, .int 0)] [] S Q) ∧ (¬ (4 ≤ x2) → te S a0 = some (.inr 3) ∧ ∃ b2 : Nat, tR S a0 3 = some b2 ∧ te S a1 = some (.inr 8) ∧ CP G J_Stream_word [.ref a1, .int x2] S (fun r => ∃ r5 : Int32, r = some (.int r5) ∧ ∃ n6 : Nat, te S b2 = some (.inl (.int, n6)) ∧ vp_in x2 n6 ∧ ∀ S8 : TS, S8 = sI S b2 (upd (tI S b2) x2.toNatClampNeg (r5 &&& (268435452 : Int32))) → ∀ y9 : Int32, y9 = x2 + 1 → T0 G J_Poly_begin 16 [(0, .ref a0), (1, .ref a1), (2, .int y9)] [] S8 Q)))) :
    T0 G J_Poly_begin 16 [(0, .ref a0), (1, .ref a1), (2, .int x2)] [] S Q := by
  unfold T0
  have hm : Sm0 S S := Sm0.rf S
  refine tt_iload_n (k0 := 2) (by decide +kernel) rfl ?_
  refine tt_iconst (n := 4) (v := 4) (by decide +kernel) (by decide) ?_
  refine tt_icmp_ge (off := 23) 41 (by decide +kernel) (by decide) (fun c => ?_) (fun c => ?_)
  · have h := h.1 c
    refine tt_iconst (n := 0) (v := 0) (by decide +kernel) (by decide) ?_
    refine tt_istore_n (k0 := 2) (lv' := [(0, .ref a0), (1, .ref a1), (2, .int 0)]) (by decide +kernel) (by decide) rfl ?_
    exact tt_mono h (fun r S' q => ⟨hm.tr q.1, q.2⟩)
  · have h := h.2 c
    refine tt_aload_n (k0 := 0) (by decide +kernel) rfl ?_
    obtain ⟨f1, h⟩ := h
    obtain ⟨b2, f3, h⟩ := h
    refine tt_getR (k := 3) (by decide +kernel) KC_3 (by decide) w_67 (fun _ => rfl) f1 f3 ?_
    refine tt_iload_n (k0 := 2) (by decide +kernel) rfl ?_
    refine tt_aload_n (k0 := 1) (by decide +kernel) rfl ?_
    refine tt_iload_n (k0 := 2) (by decide +kernel) rfl ?_
    obtain ⟨f4, h⟩ := h
    refine tt_callV (As := [.int x2]) (rest := [.int x2, .ref b2]) (ci := 8) (r0 := (R_8, F_8, 2)) (by decide +kernel) LK_Stream_word w_555 w_556 w_557 (by decide) (by decide) rfl rfl (Nat.le_of_ble_eq_true rfl) rfl rfl f4 (ct_mono h (fun r Sb h => ?_))
    obtain ⟨eb, h⟩ := h
    obtain ⟨r5, rfl, h⟩ := h
    rw [eb]
    show T G J_Poly_begin 31 [(0, .ref a0), (1, .ref a1), (2, .int x2)] [.int r5, .int x2, .ref b2] S _
    refine tt_ldc (v := 268435452) (by decide +kernel) w_560 ?_
    refine tt_iand (by decide +kernel) ?_
    obtain ⟨n6, f7, h⟩ := h
    obtain ⟨g2, h⟩ := h
    refine tt_iast (by decide +kernel) f7 g2 ?_
    generalize eS8 : sI S b2 (upd (tI S b2) x2.toNatClampNeg (r5 &&& (268435452 : Int32))) = S8
    have h := h S8 eS8.symm
    have hm : Sm0 S S8 := by rw [← eS8]; exact hm.I
    have f1 : te S8 a0 = some (.inr 3) := by rw [← eS8, te_sI]; exact f1
    have f3 : tR S8 a0 3 = some b2 := by rw [← eS8, tR_sI]; exact f3
    have f4 : te S8 a1 = some (.inr 8) := by rw [← eS8, te_sI]; exact f4
    have f7 : te S8 b2 = some (.inl (.int, n6)) := by rw [← eS8, te_sI]; exact f7
    obtain ⟨y9, ey9⟩ : ∃ y : Int32, y = x2 + 1 := ⟨_, rfl⟩
    have h := h y9 ey9
    refine tt_iinc (i := 2) (n := 1) (v := y9) (lv' := [(0, .ref a0), (1, .ref a1), (2, .int y9)]) (by decide +kernel) (by decide) rfl ey9.symm rfl ?_
    refine tt_goto (off := -22) (tgt := 16) (by decide +kernel) (by decide) ?_
    exact tt_mono h (fun r S' q => ⟨hm.tr q.1, q.2⟩)
set_option maxRecDepth 100000 in
theorem v_Poly_begin_43 {G : pG} (a0 : Nat) (a1 : Nat) (x2 : Int32) (S : TS) (Q : Option Value → TS → Prop)
    (h : ((5 ≤ x2 → Q none S) ∧ (¬ (5 ≤ x2) → te S a0 = some (.inr 3) ∧ ∃ b2 : Nat, tR S a0 0 = some b2 ∧ CP G J_Poly_limbOfWords [.ref a0, .int x2] S (fun r => ∃ q4 : Int64, r = some (.long q4) ∧ ∃ n5 : Nat, te S b2 = some (.inl (.long, n5)) ∧ vp_in x2 n5 ∧ ∀ S7 : TS, S7 = sL S b2 (vp_updL (tL S b2) x2.toNatClampNeg q4) → ∃ b8 : Nat, tR S7 a0 1 = some b8 ∧ ∃ n10 : Nat, te S7 b8 = some (.inl (.long, n10)) ∧ vp_in x2 n10 ∧ ∀ S12 : TS, S12 = sL S7 b8 (vp_updL (tL S7 b8) x2.toNatClampNeg 0) → ∀ y13 : Int32, y13 = x2 + 1 → T0 G J_Poly_begin 43 [(0, .ref a0), (1, .ref a1), (2, .int y13)] [] S12 Q)))) :
    T0 G J_Poly_begin 43 [(0, .ref a0), (1, .ref a1), (2, .int x2)] [] S Q := by
  unfold T0
  have hm : Sm0 S S := Sm0.rf S
  refine tt_iload_n (k0 := 2) (by decide +kernel) rfl ?_
  refine tt_iconst (n := 5) (v := 5) (by decide +kernel) (by decide) ?_
  refine tt_icmp_ge (off := 27) 72 (by decide +kernel) (by decide) (fun c => ?_) (fun c => ?_)
  · have h := h.1 c
    exact tt_vret (by decide +kernel) rfl ⟨hm, h⟩
  · have h := h.2 c
    refine tt_aload_n (k0 := 0) (by decide +kernel) rfl ?_
    obtain ⟨f1, h⟩ := h
    obtain ⟨b2, f3, h⟩ := h
    refine tt_getR (k := 0) (by decide +kernel) KC_3 (by decide) w_64 (fun _ => rfl) f1 f3 ?_
    refine tt_iload_n (k0 := 2) (by decide +kernel) rfl ?_
    refine tt_aload_n (k0 := 0) (by decide +kernel) rfl ?_
    refine tt_iload_n (k0 := 2) (by decide +kernel) rfl ?_
    refine tt_callV (As := [.int x2]) (rest := [.int x2, .ref b2]) (ci := 3) (r0 := (R_3, F_3, 5)) (by decide +kernel) LK_Poly_limbOfWords w_561 w_563 (in_p (n := 5) 10 rfl) (by decide) (by decide) rfl rfl (Nat.le_of_ble_eq_true rfl) rfl rfl f1 (ct_mono h (fun r Sb h => ?_))
    obtain ⟨eb, h⟩ := h
    obtain ⟨q4, rfl, h⟩ := h
    rw [eb]
    show T G J_Poly_begin 58 [(0, .ref a0), (1, .ref a1), (2, .int x2)] [.long q4, .int x2, .ref b2] S _
    obtain ⟨n5, f6, h⟩ := h
    obtain ⟨g2, h⟩ := h
    refine tt_last (by decide +kernel) f6 g2 ?_
    generalize eS7 : sL S b2 (vp_updL (tL S b2) x2.toNatClampNeg q4) = S7
    have h := h S7 eS7.symm
    have hm : Sm0 S S7 := by rw [← eS7]; exact hm.L
    have f1 : te S7 a0 = some (.inr 3) := by rw [← eS7, te_sL]; exact f1
    have f3 : tR S7 a0 0 = some b2 := by rw [← eS7, tR_sL]; exact f3
    have f6 : te S7 b2 = some (.inl (.long, n5)) := by rw [← eS7, te_sL]; exact f6
    refine tt_aload_n (k0 := 0) (by decide +kernel) rfl ?_
    obtain ⟨b8, f9, h⟩ := h
    refine tt_getR (k := 1) (by decide +kernel) KC_3 (by decide) w_65 (fun _ => rfl) f1 f9 ?_
    refine tt_iload_n (k0 := 2) (by decide +kernel) rfl ?_
    refine tt_lconst (n := 0) (v := 0) (by decide +kernel) (by decide) ?_
    obtain ⟨n10, f11, h⟩ := h
    obtain ⟨g2, h⟩ := h
    refine tt_last (by decide +kernel) f11 g2 ?_
    generalize eS12 : sL S7 b8 (vp_updL (tL S7 b8) x2.toNatClampNeg 0) = S12
    have h := h S12 eS12.symm
    have hm : Sm0 S S12 := by rw [← eS12]; exact hm.L
    have f1 : te S12 a0 = some (.inr 3) := by rw [← eS12, te_sL]; exact f1
    have f3 : tR S12 a0 0 = some b2 := by rw [← eS12, tR_sL]; exact f3
    have f6 : te S12 b2 = some (.inl (.long, n5)) := by rw [← eS12, te_sL]; exact f6
    have f9 : tR S12 a0 1 = some b8 := by rw [← eS12, tR_sL]; exact f9
    have f11 : te S12 b8 = some (.inl (.long, n10)) := by rw [← eS12, te_sL]; exact f11
    obtain ⟨y13, ey13⟩ : ∃ y : Int32, y = x2 + 1 := ⟨_, rfl⟩
    have h := h y13 ey13
    refine tt_iinc (i := 2) (n := 1) (v := y13) (lv' := [(0, .ref a0), (1, .ref a1), (2, .int y13)]) (by decide +kernel) (by decide) rfl ey13.symm rfl ?_
    refine tt_goto (off := -26) (tgt := 43) (by decide +kernel) (by decide) ?_
    exact tt_mono h (fun r S' q => ⟨hm.tr q.1, q.2⟩)
set_option maxRecDepth 100000 in
theorem v_Stream_word {G : pG} (a0 : Nat) (x1 : Int32) (S : TS) (Q : Option Value → Prop)
    (h : te S a0 = some (.inr 8) ∧ ∃ b2 : Nat, tR S a0 1 = some b2 ∧ ∃ n4 : Nat, te S b2 = some (.inl (.int, n4)) ∧ vp_in (x1 &&& (15 : Int32)) n4 ∧ Q (some (.int (tI S b2 (x1 &&& (15 : Int32)).toNatClampNeg)))) :
    CP G J_Stream_word [.ref a0, .int x1] S Q := by
  unfold CP
  refine ct_of (by decide +kernel) (Nat.le_of_ble_eq_true rfl) (lv := [(0, .ref a0), (1, .int x1)]) rfl ?_
  refine tt_aload_n (k0 := 0) (by decide +kernel) rfl ?_
  obtain ⟨f1, h⟩ := h
  obtain ⟨b2, f3, h⟩ := h
  refine tt_getR (k := 1) (by decide +kernel) KC_8 (by decide) w_50 (fun _ => rfl) f1 f3 ?_
  refine tt_iload_n (k0 := 1) (by decide +kernel) rfl ?_
  refine tt_bipush (n := 15) (v := 15) (by decide +kernel) (by decide) ?_
  refine tt_iand (by decide +kernel) ?_
  obtain ⟨n4, f5, h⟩ := h
  obtain ⟨g2, h⟩ := h
  refine tt_iald (by decide +kernel) f5 g2 ?_
  exact tt_iret (by decide +kernel) rfl ⟨rfl, h⟩
set_option maxRecDepth 100000 in
theorem v_Poly_limbOfWords {G : pG} (a0 : Nat) (x1 : Int32) (S : TS) (Q : Option Value → Prop)
    (h : ((¬ x1 = 0 → ((4 ≤ x1 → te S a0 = some (.inr 3) ∧ ∃ b2 : Nat, tR S a0 3 = some b2 ∧ ∃ n4 : Nat, te S b2 = some (.inl (.int, n4)) ∧ vp_in (x1 - (1 : Int32)) n4 ∧ ∀ y6 : Int64, y6 = (0 <<< (((32 : Int32).toInt64) &&& 63)) ||| (((tI S b2 (x1 - (1 : Int32)).toNatClampNeg : Int32).toInt64) &&& (4294967295 : Int64)) → Q (some (.long ((lushr y6 ((32 : Int32) - ((6 : Int32) * x1))) &&& (67108863 : Int64))))) ∧ (¬ (4 ≤ x1) → te S a0 = some (.inr 3) ∧ ∃ b8 : Nat, tR S a0 3 = some b8 ∧ ∃ n10 : Nat, te S b8 = some (.inl (.int, n10)) ∧ vp_in x1 n10 ∧ ∀ y12 : Int64, y12 = ((tI S b8 x1.toNatClampNeg : Int32).toInt64) &&& (4294967295 : Int64) → vp_in (x1 - (1 : Int32)) n10 ∧ ∀ y13 : Int64, y13 = (y12 <<< (((32 : Int32).toInt64) &&& 63)) ||| (((tI S b8 (x1 - (1 : Int32)).toNatClampNeg : Int32).toInt64) &&& (4294967295 : Int64)) → Q (some (.long ((lushr y13 ((32 : Int32) - ((6 : Int32) * x1))) &&& (67108863 : Int64))))))) ∧ (x1 = 0 → te S a0 = some (.inr 3) ∧ ∃ b15 : Nat, tR S a0 3 = some b15 ∧ ∃ n17 : Nat, te S b15 = some (.inl (.int, n17)) ∧ vp_in 0 n17 ∧ Q (some (.long (((tI S b15 0 : Int32).toInt64) &&& (67108863 : Int64))))))) :
    CP G J_Poly_limbOfWords [.ref a0, .int x1] S Q := by
  unfold CP
  refine ct_of (by decide +kernel) (Nat.le_of_ble_eq_true rfl) (lv := [(0, .ref a0), (1, .int x1)]) rfl ?_
  refine tt_iload_n (k0 := 1) (by decide +kernel) rfl ?_
  refine tt_if_ne (off := 15) 16 (by decide +kernel) (by decide) (fun c => ?_) (fun c => ?_)
  · have h := h.1 c
    refine tt_iload_n (k0 := 1) (by decide +kernel) rfl ?_
    refine tt_iconst (n := 4) (v := 4) (by decide +kernel) (by decide) ?_
    refine tt_icmp_ge (off := 17) 35 (by decide +kernel) (by decide) (fun c => ?_) (fun c => ?_)
    · have h := h.1 c
      refine tt_lconst (n := 0) (v := 0) (by decide +kernel) (by decide) ?_
      refine tt_lstore_n (k0 := 2) (lv' := [(0, .ref a0), (1, .int x1), (2, .long 0)]) (by decide +kernel) (by decide) rfl ?_
      refine tt_lload_n (k0 := 2) (by decide +kernel) rfl ?_
      refine tt_bipush (n := 32) (v := 32) (by decide +kernel) (by decide) ?_
      refine tt_lshl (by decide +kernel) ?_
      refine tt_aload_n (k0 := 0) (by decide +kernel) rfl ?_
      obtain ⟨f1, h⟩ := h
      obtain ⟨b2, f3, h⟩ := h
      refine tt_getR (k := 3) (by decide +kernel) KC_3 (by decide) w_67 (fun _ => rfl) f1 f3 ?_
      refine tt_iload_n (k0 := 1) (by decide +kernel) rfl ?_
      refine tt_iconst (n := 1) (v := 1) (by decide +kernel) (by decide) ?_
      refine tt_isub (by decide +kernel) ?_
      obtain ⟨n4, f5, h⟩ := h
      obtain ⟨g2, h⟩ := h
      refine tt_iald (by decide +kernel) f5 g2 ?_
      refine tt_i2l (by decide +kernel) ?_
      refine tt_ldc2 (v := 4294967295) (by decide +kernel) w_566 ?_
      refine tt_land (by decide +kernel) ?_
      refine tt_lor (by decide +kernel) ?_
      refine tt_topl (fun y6 ey6 => ?_)
      have h := h y6 ey6
      refine tt_lstore (k0 := 4) (lv' := [(0, .ref a0), (1, .int x1), (2, .long 0), (4, .long y6)]) (by decide +kernel) (by decide) rfl ?_
      refine tt_lload (k0 := 4) (by decide +kernel) rfl ?_
      refine tt_bipush (n := 32) (v := 32) (by decide +kernel) (by decide) ?_
      refine tt_bipush (n := 6) (v := 6) (by decide +kernel) (by decide) ?_
      refine tt_iload_n (k0 := 1) (by decide +kernel) rfl ?_
      refine tt_imul (by decide +kernel) ?_
      refine tt_isub (by decide +kernel) ?_
      refine tt_lushr (by decide +kernel) ?_
      refine tt_ldc2 (v := 67108863) (by decide +kernel) w_565 ?_
      refine tt_land (by decide +kernel) ?_
      exact tt_lret (by decide +kernel) rfl ⟨rfl, h⟩
    · have h := h.2 c
      refine tt_aload_n (k0 := 0) (by decide +kernel) rfl ?_
      obtain ⟨f7, h⟩ := h
      obtain ⟨b8, f9, h⟩ := h
      refine tt_getR (k := 3) (by decide +kernel) KC_3 (by decide) w_67 (fun _ => rfl) f7 f9 ?_
      refine tt_iload_n (k0 := 1) (by decide +kernel) rfl ?_
      obtain ⟨n10, f11, h⟩ := h
      obtain ⟨g2, h⟩ := h
      refine tt_iald (by decide +kernel) f11 g2 ?_
      refine tt_i2l (by decide +kernel) ?_
      refine tt_ldc2 (v := 4294967295) (by decide +kernel) w_566 ?_
      refine tt_land (by decide +kernel) ?_
      refine tt_goto (off := 4) (tgt := 36) (by decide +kernel) (by decide) ?_
      refine tt_topl (fun y12 ey12 => ?_)
      have h := h y12 ey12
      refine tt_lstore_n (k0 := 2) (lv' := [(0, .ref a0), (1, .int x1), (2, .long y12)]) (by decide +kernel) (by decide) rfl ?_
      refine tt_lload_n (k0 := 2) (by decide +kernel) rfl ?_
      refine tt_bipush (n := 32) (v := 32) (by decide +kernel) (by decide) ?_
      refine tt_lshl (by decide +kernel) ?_
      refine tt_aload_n (k0 := 0) (by decide +kernel) rfl ?_
      refine tt_getR (k := 3) (by decide +kernel) KC_3 (by decide) w_67 (fun _ => rfl) f7 f9 ?_
      refine tt_iload_n (k0 := 1) (by decide +kernel) rfl ?_
      refine tt_iconst (n := 1) (v := 1) (by decide +kernel) (by decide) ?_
      refine tt_isub (by decide +kernel) ?_
      obtain ⟨g2, h⟩ := h
      refine tt_iald (by decide +kernel) f11 g2 ?_
      refine tt_i2l (by decide +kernel) ?_
      refine tt_ldc2 (v := 4294967295) (by decide +kernel) w_566 ?_
      refine tt_land (by decide +kernel) ?_
      refine tt_lor (by decide +kernel) ?_
      refine tt_topl (fun y13 ey13 => ?_)
      have h := h y13 ey13
      refine tt_lstore (k0 := 4) (lv' := [(0, .ref a0), (1, .int x1), (2, .long y12), (4, .long y13)]) (by decide +kernel) (by decide) rfl ?_
      refine tt_lload (k0 := 4) (by decide +kernel) rfl ?_
      refine tt_bipush (n := 32) (v := 32) (by decide +kernel) (by decide) ?_
      refine tt_bipush (n := 6) (v := 6) (by decide +kernel) (by decide) ?_
      refine tt_iload_n (k0 := 1) (by decide +kernel) rfl ?_
      refine tt_imul (by decide +kernel) ?_
      refine tt_isub (by decide +kernel) ?_
      refine tt_lushr (by decide +kernel) ?_
      refine tt_ldc2 (v := 67108863) (by decide +kernel) w_565 ?_
      refine tt_land (by decide +kernel) ?_
      exact tt_lret (by decide +kernel) rfl ⟨rfl, h⟩
  · have h := h.2 c
    refine tt_aload_n (k0 := 0) (by decide +kernel) rfl ?_
    obtain ⟨f14, h⟩ := h
    obtain ⟨b15, f16, h⟩ := h
    refine tt_getR (k := 3) (by decide +kernel) KC_3 (by decide) w_67 (fun _ => rfl) f14 f16 ?_
    refine tt_iconst (n := 0) (v := 0) (by decide +kernel) (by decide) ?_
    obtain ⟨n17, f18, h⟩ := h
    obtain ⟨g2, h⟩ := h
    refine tt_iald (by decide +kernel) f18 g2 ?_
    show T G J_Poly_limbOfWords 10 [(0, .ref a0), (1, .int x1)] [.int (tI S b15 0)] S _
    refine tt_i2l (by decide +kernel) ?_
    refine tt_ldc2 (v := 67108863) (by decide +kernel) w_565 ?_
    refine tt_land (by decide +kernel) ?_
    exact tt_lret (by decide +kernel) rfl ⟨rfl, h⟩
set_option maxRecDepth 100000 in
theorem v_Poly_takeBlock {G : pG} (a0 : Nat) (x1 : Int32) (S : TS) (Q : Option Value → TS → Prop)
    (h : T0 G J_Poly_takeBlock 2 [(0, .ref a0), (1, .int x1), (2, .int 0)] [] S Q) :
    C0 G J_Poly_takeBlock [.ref a0, .int x1] S Q := by
  unfold C0
  refine ct_of (by decide +kernel) (Nat.le_of_ble_eq_true rfl) (lv := [(0, .ref a0), (1, .int x1)]) rfl ?_
  have hm : Sm0 S S := Sm0.rf S
  refine tt_iconst (n := 0) (v := 0) (by decide +kernel) (by decide) ?_
  refine tt_istore_n (k0 := 2) (lv' := [(0, .ref a0), (1, .int x1), (2, .int 0)]) (by decide +kernel) (by decide) rfl ?_
  exact tt_mono h (fun r S' q => ⟨hm.tr q.1, q.2⟩)
set_option maxRecDepth 100000 in
theorem v_Poly_takeBlock_2 {G : pG} (a0 : Nat) (x1 : Int32) (x2 : Int32) (S : TS) (Q : Option Value → TS → Prop)
    (h : ((4 ≤ x2 → T0 G J_Poly_takeBlock 36 [(0, .ref a0), (1, .int x1), (2, .int 0)] [] S Q) ∧ (¬ (4 ≤ x2) → te S a0 = some (.inr 3) ∧ ∃ b2 : Nat, tR S a0 3 = some b2 ∧ ∃ b4 : Nat, tR S a0 4 = some b4 ∧ te S b4 = some (.inr 0) ∧ CP G J_Bytes_numberAt [.ref b4, .int (x1 + ((4 : Int32) * x2))] S (fun r => ∃ r7 : Int32, r = some (.int r7) ∧ CP G J_Int_reverseBytes [.int r7] S (fun r => ∃ r8 : Int32, r = some (.int r8) ∧ ∃ n9 : Nat, te S b2 = some (.inl (.int, n9)) ∧ vp_in x2 n9 ∧ ∀ S11 : TS, S11 = sI S b2 (upd (tI S b2) x2.toNatClampNeg r8) → ∀ y12 : Int32, y12 = x2 + 1 → T0 G J_Poly_takeBlock 2 [(0, .ref a0), (1, .int x1), (2, .int y12)] [] S11 Q))))) :
    T0 G J_Poly_takeBlock 2 [(0, .ref a0), (1, .int x1), (2, .int x2)] [] S Q := by
  unfold T0
  have hm : Sm0 S S := Sm0.rf S
  refine tt_iload_n (k0 := 2) (by decide +kernel) rfl ?_
  refine tt_iconst (n := 4) (v := 4) (by decide +kernel) (by decide) ?_
  refine tt_icmp_ge (off := 30) 34 (by decide +kernel) (by decide) (fun c => ?_) (fun c => ?_)
  · have h := h.1 c
    refine tt_iconst (n := 0) (v := 0) (by decide +kernel) (by decide) ?_
    refine tt_istore_n (k0 := 2) (lv' := [(0, .ref a0), (1, .int x1), (2, .int 0)]) (by decide +kernel) (by decide) rfl ?_
    exact tt_mono h (fun r S' q => ⟨hm.tr q.1, q.2⟩)
  · have h := h.2 c
    refine tt_aload_n (k0 := 0) (by decide +kernel) rfl ?_
    obtain ⟨f1, h⟩ := h
    obtain ⟨b2, f3, h⟩ := h
    refine tt_getR (k := 3) (by decide +kernel) KC_3 (by decide) w_67 (fun _ => rfl) f1 f3 ?_
    refine tt_iload_n (k0 := 2) (by decide +kernel) rfl ?_
    refine tt_aload_n (k0 := 0) (by decide +kernel) rfl ?_
    obtain ⟨b4, f5, h⟩ := h
    refine tt_getR (k := 4) (by decide +kernel) KC_3 (by decide) w_68 (fun _ => rfl) f1 f5 ?_
    refine tt_iload_n (k0 := 1) (by decide +kernel) rfl ?_
    refine tt_iconst (n := 4) (v := 4) (by decide +kernel) (by decide) ?_
    refine tt_iload_n (k0 := 2) (by decide +kernel) rfl ?_
    refine tt_imul (by decide +kernel) ?_
    refine tt_iadd (by decide +kernel) ?_
    obtain ⟨f6, h⟩ := h
    refine tt_callV (As := [.int (x1 + ((4 : Int32) * x2))]) (rest := [.int x2, .ref b2]) (ci := 0) (r0 := (R_0, F_0, 2)) (by decide +kernel) LK_Bytes_numberAt w_571 w_379 w_380 (by decide) (by decide) rfl rfl (Nat.le_of_ble_eq_true rfl) rfl rfl f6 (ct_mono h (fun r Sb h => ?_))
    obtain ⟨eb, h⟩ := h
    obtain ⟨r7, rfl, h⟩ := h
    rw [eb]
    show T G J_Poly_takeBlock 24 [(0, .ref a0), (1, .int x1), (2, .int x2)] [.int r7, .int x2, .ref b2] S _
    refine tt_callS (As := [.int r7]) (rest := [.int x2, .ref b2]) (by decide +kernel) LK_Int_reverseBytes w_549 w_509 (by decide) (by decide) rfl rfl (Nat.le_of_ble_eq_true rfl) (ct_mono h (fun r Sb h => ?_))
    obtain ⟨eb, h⟩ := h
    obtain ⟨r8, rfl, h⟩ := h
    rw [eb]
    show T G J_Poly_takeBlock 27 [(0, .ref a0), (1, .int x1), (2, .int x2)] [.int r8, .int x2, .ref b2] S _
    obtain ⟨n9, f10, h⟩ := h
    obtain ⟨g2, h⟩ := h
    refine tt_iast (by decide +kernel) f10 g2 ?_
    generalize eS11 : sI S b2 (upd (tI S b2) x2.toNatClampNeg r8) = S11
    have h := h S11 eS11.symm
    have hm : Sm0 S S11 := by rw [← eS11]; exact hm.I
    have f1 : te S11 a0 = some (.inr 3) := by rw [← eS11, te_sI]; exact f1
    have f3 : tR S11 a0 3 = some b2 := by rw [← eS11, tR_sI]; exact f3
    have f5 : tR S11 a0 4 = some b4 := by rw [← eS11, tR_sI]; exact f5
    have f6 : te S11 b4 = some (.inr 0) := by rw [← eS11, te_sI]; exact f6
    have f10 : te S11 b2 = some (.inl (.int, n9)) := by rw [← eS11, te_sI]; exact f10
    obtain ⟨y12, ey12⟩ : ∃ y : Int32, y = x2 + 1 := ⟨_, rfl⟩
    have h := h y12 ey12
    refine tt_iinc (i := 2) (n := 1) (v := y12) (lv' := [(0, .ref a0), (1, .int x1), (2, .int y12)]) (by decide +kernel) (by decide) rfl ey12.symm rfl ?_
    refine tt_goto (off := -29) (tgt := 2) (by decide +kernel) (by decide) ?_
    exact tt_mono h (fun r S' q => ⟨hm.tr q.1, q.2⟩)
set_option maxRecDepth 100000 in
theorem v_Poly_takeBlock_36 {G : pG} (a0 : Nat) (x1 : Int32) (x2 : Int32) (S : TS) (Q : Option Value → TS → Prop)
    (h : ((5 ≤ x2 → te S a0 = some (.inr 3) ∧ ∃ b2 : Nat, tR S a0 1 = some b2 ∧ ∃ n4 : Nat, te S b2 = some (.inl (.long, n4)) ∧ vp_in 4 n4 ∧ vp_in 4 n4 ∧ ∀ S6 : TS, S6 = sL S b2 (vp_updL (tL S b2) 4 ((tL S b2 4) + (16777216 : Int64))) → T0 G J_Poly_takeBlock 75 [(0, .ref a0), (1, .int x1), (2, .int 0)] [] S6 Q) ∧ (¬ (5 ≤ x2) → te S a0 = some (.inr 3) ∧ ∃ b8 : Nat, tR S a0 1 = some b8 ∧ ∃ n10 : Nat, te S b8 = some (.inl (.long, n10)) ∧ vp_in x2 n10 ∧ CP G J_Poly_limbOfWords [.ref a0, .int x2] S (fun r => ∃ q12 : Int64, r = some (.long q12) ∧ vp_in x2 n10 ∧ ∀ S13 : TS, S13 = sL S b8 (vp_updL (tL S b8) x2.toNatClampNeg ((tL S b8 x2.toNatClampNeg) + q12)) → ∀ y14 : Int32, y14 = x2 + 1 → T0 G J_Poly_takeBlock 36 [(0, .ref a0), (1, .int x1), (2, .int y14)] [] S13 Q)))) :
    T0 G J_Poly_takeBlock 36 [(0, .ref a0), (1, .int x1), (2, .int x2)] [] S Q := by
  unfold T0
  have hm : Sm0 S S := Sm0.rf S
  refine tt_iload_n (k0 := 2) (by decide +kernel) rfl ?_
  refine tt_iconst (n := 5) (v := 5) (by decide +kernel) (by decide) ?_
  refine tt_icmp_ge (off := 23) 61 (by decide +kernel) (by decide) (fun c => ?_) (fun c => ?_)
  · have h := h.1 c
    refine tt_aload_n (k0 := 0) (by decide +kernel) rfl ?_
    obtain ⟨f1, h⟩ := h
    obtain ⟨b2, f3, h⟩ := h
    refine tt_getR (k := 1) (by decide +kernel) KC_3 (by decide) w_65 (fun _ => rfl) f1 f3 ?_
    refine tt_iconst (n := 4) (v := 4) (by decide +kernel) (by decide) ?_
    refine tt_dup2_11 (by decide +kernel) rfl rfl ?_
    obtain ⟨n4, f5, h⟩ := h
    obtain ⟨g2, h⟩ := h
    refine tt_lald (by decide +kernel) f5 g2 ?_
    show T G J_Poly_takeBlock 68 [(0, .ref a0), (1, .int x1), (2, .int x2)] [.long (tL S b2 4), .int 4, .ref b2] S _
    refine tt_ldc2 (v := 16777216) (by decide +kernel) w_572 ?_
    refine tt_ladd (by decide +kernel) ?_
    obtain ⟨g2, h⟩ := h
    refine tt_last (by decide +kernel) f5 g2 ?_
    show T G J_Poly_takeBlock 73 [(0, .ref a0), (1, .int x1), (2, .int x2)] [] (sL S b2 (vp_updL (tL S b2) 4 ((tL S b2 4) + (16777216 : Int64)))) _
    generalize eS6 : sL S b2 (vp_updL (tL S b2) 4 ((tL S b2 4) + (16777216 : Int64))) = S6
    have h := h S6 eS6.symm
    have hm : Sm0 S S6 := by rw [← eS6]; exact hm.L
    have f1 : te S6 a0 = some (.inr 3) := by rw [← eS6, te_sL]; exact f1
    have f3 : tR S6 a0 1 = some b2 := by rw [← eS6, tR_sL]; exact f3
    have f5 : te S6 b2 = some (.inl (.long, n4)) := by rw [← eS6, te_sL]; exact f5
    refine tt_iconst (n := 0) (v := 0) (by decide +kernel) (by decide) ?_
    refine tt_istore_n (k0 := 2) (lv' := [(0, .ref a0), (1, .int x1), (2, .int 0)]) (by decide +kernel) (by decide) rfl ?_
    exact tt_mono h (fun r S' q => ⟨hm.tr q.1, q.2⟩)
  · have h := h.2 c
    refine tt_aload_n (k0 := 0) (by decide +kernel) rfl ?_
    obtain ⟨f7, h⟩ := h
    obtain ⟨b8, f9, h⟩ := h
    refine tt_getR (k := 1) (by decide +kernel) KC_3 (by decide) w_65 (fun _ => rfl) f7 f9 ?_
    refine tt_iload_n (k0 := 2) (by decide +kernel) rfl ?_
    refine tt_dup2_11 (by decide +kernel) rfl rfl ?_
    obtain ⟨n10, f11, h⟩ := h
    obtain ⟨g2, h⟩ := h
    refine tt_lald (by decide +kernel) f11 g2 ?_
    refine tt_aload_n (k0 := 0) (by decide +kernel) rfl ?_
    refine tt_iload_n (k0 := 2) (by decide +kernel) rfl ?_
    refine tt_callV (As := [.int x2]) (rest := [.long (tL S b8 x2.toNatClampNeg), .int x2, .ref b8]) (ci := 3) (r0 := (R_3, F_3, 5)) (by decide +kernel) LK_Poly_limbOfWords w_561 w_563 (in_p (n := 5) 10 rfl) (by decide) (by decide) rfl rfl (Nat.le_of_ble_eq_true rfl) rfl rfl f7 (ct_mono h (fun r Sb h => ?_))
    obtain ⟨eb, h⟩ := h
    obtain ⟨q12, rfl, h⟩ := h
    rw [eb]
    show T G J_Poly_takeBlock 53 [(0, .ref a0), (1, .int x1), (2, .int x2)] [.long q12, .long (tL S b8 x2.toNatClampNeg), .int x2, .ref b8] S _
    refine tt_ladd (by decide +kernel) ?_
    obtain ⟨g2, h⟩ := h
    refine tt_last (by decide +kernel) f11 g2 ?_
    generalize eS13 : sL S b8 (vp_updL (tL S b8) x2.toNatClampNeg ((tL S b8 x2.toNatClampNeg) + q12)) = S13
    have h := h S13 eS13.symm
    have hm : Sm0 S S13 := by rw [← eS13]; exact hm.L
    have f7 : te S13 a0 = some (.inr 3) := by rw [← eS13, te_sL]; exact f7
    have f9 : tR S13 a0 1 = some b8 := by rw [← eS13, tR_sL]; exact f9
    have f11 : te S13 b8 = some (.inl (.long, n10)) := by rw [← eS13, te_sL]; exact f11
    obtain ⟨y14, ey14⟩ : ∃ y : Int32, y = x2 + 1 := ⟨_, rfl⟩
    have h := h y14 ey14
    refine tt_iinc (i := 2) (n := 1) (v := y14) (lv' := [(0, .ref a0), (1, .int x1), (2, .int y14)]) (by decide +kernel) (by decide) rfl ey14.symm rfl ?_
    refine tt_goto (off := -22) (tgt := 36) (by decide +kernel) (by decide) ?_
    exact tt_mono h (fun r S' q => ⟨hm.tr q.1, q.2⟩)
set_option maxRecDepth 100000 in
theorem v_Poly_takeBlock_75 {G : pG} (a0 : Nat) (x1 : Int32) (x2 : Int32) (S : TS) (Q : Option Value → TS → Prop)
    (h : ((5 ≤ x2 → te S a0 = some (.inr 3) ∧ ∃ b2 : Nat, tR S a0 2 = some b2 ∧ ∃ b4 : Nat, tR S a0 1 = some b4 ∧ ∃ n6 : Nat, te S b2 = some (.inl (.long, n6)) ∧ ∃ n8 : Nat, te S b4 = some (.inl (.long, n8)) ∧ ¬ (0 : Int32) < 0 ∧ ¬ (0 : Int32) < 0 ∧ ¬ (5 : Int32) < 0 ∧ (0 : Int32).toNatClampNeg + (5 : Int32).toNatClampNeg ≤ n6 ∧ (0 : Int32).toNatClampNeg + (5 : Int32).toNatClampNeg ≤ n8 ∧ ∀ S10 : TS, S10 = sL S b4 (va_cpy (tL S b2) (tL S b4) (0 : Int32).toNatClampNeg (0 : Int32).toNatClampNeg (5 : Int32).toNatClampNeg) → C0 G J_Poly_reduce [.ref a0] S10 (fun r S11 => r = none ∧ Q none S11)) ∧ (¬ (5 ≤ x2) → te S a0 = some (.inr 3) ∧ ∃ b13 : Nat, tR S a0 2 = some b13 ∧ ∃ n15 : Nat, te S b13 = some (.inl (.long, n15)) ∧ vp_in x2 n15 ∧ ∀ S17 : TS, S17 = sL S b13 (vp_updL (tL S b13) x2.toNatClampNeg 0) → T0 G J_Poly_takeBlock 89 [(0, .ref a0), (1, .int x1), (2, .int x2), (3, .int 0)] [] S17 Q))) :
    T0 G J_Poly_takeBlock 75 [(0, .ref a0), (1, .int x1), (2, .int x2)] [] S Q := by
  unfold T0
  have hm : Sm0 S S := Sm0.rf S
  refine tt_iload_n (k0 := 2) (by decide +kernel) rfl ?_
  refine tt_iconst (n := 5) (v := 5) (by decide +kernel) (by decide) ?_
  refine tt_icmp_ge (off := 75) 152 (by decide +kernel) (by decide) (fun c => ?_) (fun c => ?_)
  · have h := h.1 c
    refine tt_aload_n (k0 := 0) (by decide +kernel) rfl ?_
    obtain ⟨f1, h⟩ := h
    obtain ⟨b2, f3, h⟩ := h
    refine tt_getR (k := 2) (by decide +kernel) KC_3 (by decide) w_66 (fun _ => rfl) f1 f3 ?_
    refine tt_iconst (n := 0) (v := 0) (by decide +kernel) (by decide) ?_
    refine tt_aload_n (k0 := 0) (by decide +kernel) rfl ?_
    obtain ⟨b4, f5, h⟩ := h
    refine tt_getR (k := 1) (by decide +kernel) KC_3 (by decide) w_65 (fun _ => rfl) f1 f5 ?_
    refine tt_iconst (n := 0) (v := 0) (by decide +kernel) (by decide) ?_
    refine tt_iconst (n := 5) (v := 5) (by decide +kernel) (by decide) ?_
    obtain ⟨n6, f7, h⟩ := h
    obtain ⟨n8, f9, h⟩ := h
    obtain ⟨p1, p2, p3, p4, p5, h⟩ := h
    refine tt_acopyl (by decide +kernel) w_574 w_363 w_362 w_13 (by decide) (Nat.le_of_ble_eq_true rfl) f7 f9 p1 p2 p3 p4 p5 ?_
    generalize eS10 : sL S b4 (va_cpy (tL S b2) (tL S b4) (0 : Int32).toNatClampNeg (0 : Int32).toNatClampNeg (5 : Int32).toNatClampNeg) = S10
    have h := h S10 eS10.symm
    have hm : Sm0 S S10 := by rw [← eS10]; exact hm.L
    have f1 : te S10 a0 = some (.inr 3) := by rw [← eS10, te_sL]; exact f1
    have f3 : tR S10 a0 2 = some b2 := by rw [← eS10, tR_sL]; exact f3
    have f5 : tR S10 a0 1 = some b4 := by rw [← eS10, tR_sL]; exact f5
    have f7 : te S10 b2 = some (.inl (.long, n6)) := by rw [← eS10, te_sL]; exact f7
    have f9 : te S10 b4 = some (.inl (.long, n8)) := by rw [← eS10, te_sL]; exact f9
    refine tt_aload_n (k0 := 0) (by decide +kernel) rfl ?_
    refine tt_callV (As := []) (rest := []) (ci := 3) (r0 := (R_3, F_3, 5)) (by decide +kernel) LK_Poly_reduce w_575 w_577 (in_p (n := 5) 12 rfl) (by decide) (by decide) rfl rfl (Nat.le_of_ble_eq_true rfl) rfl rfl f1 (ct_mono h (fun r S11 h => ?_))
    obtain ⟨hm2, h⟩ := h
    obtain ⟨rfl, h⟩ := h
    show T G J_Poly_takeBlock 170 [(0, .ref a0), (1, .int x1), (2, .int x2)] [] S11 _
    have hm := hm.tr hm2
    have f1 : te S11 a0 = some (.inr 3) := by rw [hm2.1]; exact f1
    have f3 : tR S11 a0 2 = some b2 := by rw [hm2.R]; exact f3
    have f5 : tR S11 a0 1 = some b4 := by rw [hm2.R]; exact f5
    have f7 : te S11 b2 = some (.inl (.long, n6)) := by rw [hm2.1]; exact f7
    have f9 : te S11 b4 = some (.inl (.long, n8)) := by rw [hm2.1]; exact f9
    exact tt_vret (by decide +kernel) rfl ⟨hm, h⟩
  · have h := h.2 c
    refine tt_aload_n (k0 := 0) (by decide +kernel) rfl ?_
    obtain ⟨f12, h⟩ := h
    obtain ⟨b13, f14, h⟩ := h
    refine tt_getR (k := 2) (by decide +kernel) KC_3 (by decide) w_66 (fun _ => rfl) f12 f14 ?_
    refine tt_iload_n (k0 := 2) (by decide +kernel) rfl ?_
    refine tt_lconst (n := 0) (v := 0) (by decide +kernel) (by decide) ?_
    obtain ⟨n15, f16, h⟩ := h
    obtain ⟨g2, h⟩ := h
    refine tt_last (by decide +kernel) f16 g2 ?_
    generalize eS17 : sL S b13 (vp_updL (tL S b13) x2.toNatClampNeg 0) = S17
    have h := h S17 eS17.symm
    have hm : Sm0 S S17 := by rw [← eS17]; exact hm.L
    have f12 : te S17 a0 = some (.inr 3) := by rw [← eS17, te_sL]; exact f12
    have f14 : tR S17 a0 2 = some b13 := by rw [← eS17, tR_sL]; exact f14
    have f16 : te S17 b13 = some (.inl (.long, n15)) := by rw [← eS17, te_sL]; exact f16
    refine tt_iconst (n := 0) (v := 0) (by decide +kernel) (by decide) ?_
    refine tt_istore_n (k0 := 3) (lv' := [(0, .ref a0), (1, .int x1), (2, .int x2), (3, .int 0)]) (by decide +kernel) (by decide) rfl ?_
    exact tt_mono h (fun r S' q => ⟨hm.tr q.1, q.2⟩)
set_option maxRecDepth 100000 in
theorem v_Poly_takeBlock_89 {G : pG} (a0 : Nat) (x1 : Int32) (x2 : Int32) (x3 : Int32) (S : TS) (Q : Option Value → TS → Prop)
    (h : ((5 ≤ x3 → ∀ y1 : Int32, y1 = x2 + 1 → T0 G J_Poly_takeBlock 75 [(0, .ref a0), (1, .int x1), (2, .int y1)] [] S Q) ∧ (¬ (5 ≤ x3) → te S a0 = some (.inr 3) ∧ ∃ b3 : Nat, tR S a0 2 = some b3 ∧ ∃ n5 : Nat, te S b3 = some (.inl (.long, n5)) ∧ vp_in x2 n5 ∧ ∃ b7 : Nat, tR S a0 1 = some b7 ∧ ∃ n9 : Nat, te S b7 = some (.inl (.long, n9)) ∧ vp_in x3 n9 ∧ ((x2 < x3 → ∃ b11 : Nat, tR S a0 0 = some b11 ∧ ∃ n13 : Nat, te S b11 = some (.inl (.long, n13)) ∧ vp_in ((x2 - x3) + (5 : Int32)) n13 ∧ vp_in x2 n5 ∧ ∀ S15 : TS, S15 = sL S b3 (vp_updL (tL S b3) x2.toNatClampNeg ((tL S b3 x2.toNatClampNeg) + ((tL S b7 x3.toNatClampNeg) * ((5 : Int64) * (tL S b11 ((x2 - x3) + (5 : Int32)).toNatClampNeg))))) → ∀ y16 : Int32, y16 = x3 + 1 → T0 G J_Poly_takeBlock 89 [(0, .ref a0), (1, .int x1), (2, .int x2), (3, .int y16)] [] S15 Q) ∧ (¬ (x2 < x3) → ∃ b17 : Nat, tR S a0 0 = some b17 ∧ ∃ n19 : Nat, te S b17 = some (.inl (.long, n19)) ∧ vp_in (x2 - x3) n19 ∧ vp_in x2 n5 ∧ ∀ S21 : TS, S21 = sL S b3 (vp_updL (tL S b3) x2.toNatClampNeg ((tL S b3 x2.toNatClampNeg) + ((tL S b7 x3.toNatClampNeg) * (tL S b17 (x2 - x3).toNatClampNeg)))) → ∀ y22 : Int32, y22 = x3 + 1 → T0 G J_Poly_takeBlock 89 [(0, .ref a0), (1, .int x1), (2, .int x2), (3, .int y22)] [] S21 Q))))) :
    T0 G J_Poly_takeBlock 89 [(0, .ref a0), (1, .int x1), (2, .int x2), (3, .int x3)] [] S Q := by
  unfold T0
  have hm : Sm0 S S := Sm0.rf S
  refine tt_iload_n (k0 := 3) (by decide +kernel) rfl ?_
  refine tt_iconst (n := 5) (v := 5) (by decide +kernel) (by decide) ?_
  refine tt_icmp_ge (off := 55) 146 (by decide +kernel) (by decide) (fun c => ?_) (fun c => ?_)
  · have h := h.1 c
    obtain ⟨y1, ey1⟩ : ∃ y : Int32, y = x2 + 1 := ⟨_, rfl⟩
    have h := h y1 ey1
    refine tt_iinc (i := 2) (n := 1) (v := y1) (lv' := [(0, .ref a0), (1, .int x1), (2, .int y1), (3, .int x3)]) (by decide +kernel) (by decide) rfl ey1.symm rfl ?_
    refine tt_goto (off := -74) (tgt := 75) (by decide +kernel) (by decide) ?_
    refine tt_lv [(0, .ref a0), (1, .int x1), (2, .int y1)] (by simp) ?_
    exact tt_mono h (fun r S' q => ⟨hm.tr q.1, q.2⟩)
  · have h := h.2 c
    refine tt_aload_n (k0 := 0) (by decide +kernel) rfl ?_
    obtain ⟨f2, h⟩ := h
    obtain ⟨b3, f4, h⟩ := h
    refine tt_getR (k := 2) (by decide +kernel) KC_3 (by decide) w_66 (fun _ => rfl) f2 f4 ?_
    refine tt_iload_n (k0 := 2) (by decide +kernel) rfl ?_
    refine tt_dup2_11 (by decide +kernel) rfl rfl ?_
    obtain ⟨n5, f6, h⟩ := h
    obtain ⟨g2, h⟩ := h
    refine tt_lald (by decide +kernel) f6 g2 ?_
    refine tt_aload_n (k0 := 0) (by decide +kernel) rfl ?_
    obtain ⟨b7, f8, h⟩ := h
    refine tt_getR (k := 1) (by decide +kernel) KC_3 (by decide) w_65 (fun _ => rfl) f2 f8 ?_
    refine tt_iload_n (k0 := 3) (by decide +kernel) rfl ?_
    obtain ⟨n9, f10, h⟩ := h
    obtain ⟨g2, h⟩ := h
    refine tt_lald (by decide +kernel) f10 g2 ?_
    refine tt_iload_n (k0 := 3) (by decide +kernel) rfl ?_
    refine tt_iload_n (k0 := 2) (by decide +kernel) rfl ?_
    refine tt_icmp_gt (off := 14) 123 (by decide +kernel) (by decide) (fun c => ?_) (fun c => ?_)
    · have h := h.1 c
      refine tt_ldc2 (v := 5) (by decide +kernel) w_573 ?_
      refine tt_aload_n (k0 := 0) (by decide +kernel) rfl ?_
      obtain ⟨b11, f12, h⟩ := h
      refine tt_getR (k := 0) (by decide +kernel) KC_3 (by decide) w_64 (fun _ => rfl) f2 f12 ?_
      refine tt_iload_n (k0 := 2) (by decide +kernel) rfl ?_
      refine tt_iload_n (k0 := 3) (by decide +kernel) rfl ?_
      refine tt_isub (by decide +kernel) ?_
      refine tt_iconst (n := 5) (v := 5) (by decide +kernel) (by decide) ?_
      refine tt_iadd (by decide +kernel) ?_
      obtain ⟨n13, f14, h⟩ := h
      obtain ⟨g2, h⟩ := h
      refine tt_lald (by decide +kernel) f14 g2 ?_
      refine tt_lmul (by decide +kernel) ?_
      refine tt_lmul (by decide +kernel) ?_
      refine tt_ladd (by decide +kernel) ?_
      obtain ⟨g2, h⟩ := h
      refine tt_last (by decide +kernel) f6 g2 ?_
      generalize eS15 : sL S b3 (vp_updL (tL S b3) x2.toNatClampNeg ((tL S b3 x2.toNatClampNeg) + ((tL S b7 x3.toNatClampNeg) * ((5 : Int64) * (tL S b11 ((x2 - x3) + (5 : Int32)).toNatClampNeg))))) = S15
      have h := h S15 eS15.symm
      have hm : Sm0 S S15 := by rw [← eS15]; exact hm.L
      have f2 : te S15 a0 = some (.inr 3) := by rw [← eS15, te_sL]; exact f2
      have f4 : tR S15 a0 2 = some b3 := by rw [← eS15, tR_sL]; exact f4
      have f6 : te S15 b3 = some (.inl (.long, n5)) := by rw [← eS15, te_sL]; exact f6
      have f8 : tR S15 a0 1 = some b7 := by rw [← eS15, tR_sL]; exact f8
      have f10 : te S15 b7 = some (.inl (.long, n9)) := by rw [← eS15, te_sL]; exact f10
      have f12 : tR S15 a0 0 = some b11 := by rw [← eS15, tR_sL]; exact f12
      have f14 : te S15 b11 = some (.inl (.long, n13)) := by rw [← eS15, te_sL]; exact f14
      obtain ⟨y16, ey16⟩ : ∃ y : Int32, y = x3 + 1 := ⟨_, rfl⟩
      have h := h y16 ey16
      refine tt_iinc (i := 3) (n := 1) (v := y16) (lv' := [(0, .ref a0), (1, .int x1), (2, .int x2), (3, .int y16)]) (by decide +kernel) (by decide) rfl ey16.symm rfl ?_
      refine tt_goto (off := -54) (tgt := 89) (by decide +kernel) (by decide) ?_
      exact tt_mono h (fun r S' q => ⟨hm.tr q.1, q.2⟩)
    · have h := h.2 c
      refine tt_aload_n (k0 := 0) (by decide +kernel) rfl ?_
      obtain ⟨b17, f18, h⟩ := h
      refine tt_getR (k := 0) (by decide +kernel) KC_3 (by decide) w_64 (fun _ => rfl) f2 f18 ?_
      refine tt_iload_n (k0 := 2) (by decide +kernel) rfl ?_
      refine tt_iload_n (k0 := 3) (by decide +kernel) rfl ?_
      refine tt_isub (by decide +kernel) ?_
      obtain ⟨n19, f20, h⟩ := h
      obtain ⟨g2, h⟩ := h
      refine tt_lald (by decide +kernel) f20 g2 ?_
      refine tt_goto (off := 17) (tgt := 137) (by decide +kernel) (by decide) ?_
      refine tt_lmul (by decide +kernel) ?_
      refine tt_ladd (by decide +kernel) ?_
      obtain ⟨g2, h⟩ := h
      refine tt_last (by decide +kernel) f6 g2 ?_
      generalize eS21 : sL S b3 (vp_updL (tL S b3) x2.toNatClampNeg ((tL S b3 x2.toNatClampNeg) + ((tL S b7 x3.toNatClampNeg) * (tL S b17 (x2 - x3).toNatClampNeg)))) = S21
      have h := h S21 eS21.symm
      have hm : Sm0 S S21 := by rw [← eS21]; exact hm.L
      have f2 : te S21 a0 = some (.inr 3) := by rw [← eS21, te_sL]; exact f2
      have f4 : tR S21 a0 2 = some b3 := by rw [← eS21, tR_sL]; exact f4
      have f6 : te S21 b3 = some (.inl (.long, n5)) := by rw [← eS21, te_sL]; exact f6
      have f8 : tR S21 a0 1 = some b7 := by rw [← eS21, tR_sL]; exact f8
      have f10 : te S21 b7 = some (.inl (.long, n9)) := by rw [← eS21, te_sL]; exact f10
      have f18 : tR S21 a0 0 = some b17 := by rw [← eS21, tR_sL]; exact f18
      have f20 : te S21 b17 = some (.inl (.long, n19)) := by rw [← eS21, te_sL]; exact f20
      obtain ⟨y22, ey22⟩ : ∃ y : Int32, y = x3 + 1 := ⟨_, rfl⟩
      have h := h y22 ey22
      refine tt_iinc (i := 3) (n := 1) (v := y22) (lv' := [(0, .ref a0), (1, .int x1), (2, .int x2), (3, .int y22)]) (by decide +kernel) (by decide) rfl ey22.symm rfl ?_
      refine tt_goto (off := -54) (tgt := 89) (by decide +kernel) (by decide) ?_
      exact tt_mono h (fun r S' q => ⟨hm.tr q.1, q.2⟩)
set_option maxRecDepth 100000 in
theorem v_Poly_reduce {G : pG} (a0 : Nat) (S : TS) (Q : Option Value → TS → Prop)
    (h : te S a0 = some (.inr 3) ∧ ∃ b2 : Nat, tR S a0 1 = some b2 ∧ C0 G J_Poly_carry [.ref b2] S (fun r S4 => ∃ q5 : Int64, r = some (.long q5) ∧ ∃ n6 : Nat, te S4 b2 = some (.inl (.long, n6)) ∧ vp_in 0 n6 ∧ vp_in 0 n6 ∧ ∀ S8 : TS, S8 = sL S4 b2 (vp_updL (tL S4 b2) 0 ((tL S4 b2 0) + ((5 : Int64) * q5))) → vp_in 1 n6 ∧ vp_in 0 n6 ∧ vp_in 1 n6 ∧ ∀ S9 : TS, S9 = sL S8 b2 (vp_updL (tL S8 b2) 1 ((tL S8 b2 1) + (lushr (tL S8 b2 0) 26))) → vp_in 0 n6 ∧ vp_in 0 n6 ∧ ∀ S10 : TS, S10 = sL S9 b2 (vp_updL (tL S9 b2) 0 ((tL S9 b2 0) &&& (67108863 : Int64))) → Q none S10)) :
    C0 G J_Poly_reduce [.ref a0] S Q := by
  unfold C0
  refine ct_of (by decide +kernel) (Nat.le_of_ble_eq_true rfl) (lv := [(0, .ref a0)]) rfl ?_
  have hm : Sm0 S S := Sm0.rf S
  refine tt_aload_n (k0 := 0) (by decide +kernel) rfl ?_
  obtain ⟨f1, h⟩ := h
  obtain ⟨b2, f3, h⟩ := h
  refine tt_getR (k := 1) (by decide +kernel) KC_3 (by decide) w_65 (fun _ => rfl) f1 f3 ?_
  refine tt_callS (As := [.ref b2]) (rest := []) (by decide +kernel) LK_Poly_carry w_579 w_580 (by decide) (by decide) rfl rfl (Nat.le_of_ble_eq_true rfl) (ct_mono h (fun r S4 h => ?_))
  obtain ⟨hm2, h⟩ := h
  obtain ⟨q5, rfl, h⟩ := h
  show T G J_Poly_reduce 7 [(0, .ref a0)] [.long q5] S4 _
  have hm := hm.tr hm2
  have f1 : te S4 a0 = some (.inr 3) := by rw [hm2.1]; exact f1
  have f3 : tR S4 a0 1 = some b2 := by rw [hm2.R]; exact f3
  refine tt_lstore_n (k0 := 1) (lv' := [(0, .ref a0), (1, .long q5)]) (by decide +kernel) (by decide) rfl ?_
  refine tt_aload_n (k0 := 0) (by decide +kernel) rfl ?_
  refine tt_getR (k := 1) (by decide +kernel) KC_3 (by decide) w_65 (fun _ => rfl) f1 f3 ?_
  refine tt_iconst (n := 0) (v := 0) (by decide +kernel) (by decide) ?_
  refine tt_dup2_11 (by decide +kernel) rfl rfl ?_
  obtain ⟨n6, f7, h⟩ := h
  obtain ⟨g2, h⟩ := h
  refine tt_lald (by decide +kernel) f7 g2 ?_
  show T G J_Poly_reduce 15 [(0, .ref a0), (1, .long q5)] [.long (tL S4 b2 0), .int 0, .ref b2] S4 _
  refine tt_ldc2 (v := 5) (by decide +kernel) w_573 ?_
  refine tt_lload_n (k0 := 1) (by decide +kernel) rfl ?_
  refine tt_lmul (by decide +kernel) ?_
  refine tt_ladd (by decide +kernel) ?_
  obtain ⟨g2, h⟩ := h
  refine tt_last (by decide +kernel) f7 g2 ?_
  show T G J_Poly_reduce 22 [(0, .ref a0), (1, .long q5)] [] (sL S4 b2 (vp_updL (tL S4 b2) 0 ((tL S4 b2 0) + ((5 : Int64) * q5)))) _
  generalize eS8 : sL S4 b2 (vp_updL (tL S4 b2) 0 ((tL S4 b2 0) + ((5 : Int64) * q5))) = S8
  have h := h S8 eS8.symm
  have hm : Sm0 S S8 := by rw [← eS8]; exact hm.L
  have f1 : te S8 a0 = some (.inr 3) := by rw [← eS8, te_sL]; exact f1
  have f3 : tR S8 a0 1 = some b2 := by rw [← eS8, tR_sL]; exact f3
  have f7 : te S8 b2 = some (.inl (.long, n6)) := by rw [← eS8, te_sL]; exact f7
  refine tt_aload_n (k0 := 0) (by decide +kernel) rfl ?_
  refine tt_getR (k := 1) (by decide +kernel) KC_3 (by decide) w_65 (fun _ => rfl) f1 f3 ?_
  refine tt_iconst (n := 1) (v := 1) (by decide +kernel) (by decide) ?_
  refine tt_dup2_11 (by decide +kernel) rfl rfl ?_
  obtain ⟨g2, h⟩ := h
  refine tt_lald (by decide +kernel) f7 g2 ?_
  show T G J_Poly_reduce 29 [(0, .ref a0), (1, .long q5)] [.long (tL S8 b2 1), .int 1, .ref b2] S8 _
  refine tt_aload_n (k0 := 0) (by decide +kernel) rfl ?_
  refine tt_getR (k := 1) (by decide +kernel) KC_3 (by decide) w_65 (fun _ => rfl) f1 f3 ?_
  refine tt_iconst (n := 0) (v := 0) (by decide +kernel) (by decide) ?_
  obtain ⟨g2, h⟩ := h
  refine tt_lald (by decide +kernel) f7 g2 ?_
  show T G J_Poly_reduce 35 [(0, .ref a0), (1, .long q5)] [.long (tL S8 b2 0), .long (tL S8 b2 1), .int 1, .ref b2] S8 _
  refine tt_bipush (n := 26) (v := 26) (by decide +kernel) (by decide) ?_
  refine tt_lushr (by decide +kernel) ?_
  refine tt_ladd (by decide +kernel) ?_
  obtain ⟨g2, h⟩ := h
  refine tt_last (by decide +kernel) f7 g2 ?_
  show T G J_Poly_reduce 40 [(0, .ref a0), (1, .long q5)] [] (sL S8 b2 (vp_updL (tL S8 b2) 1 ((tL S8 b2 1) + (lushr (tL S8 b2 0) 26)))) _
  generalize eS9 : sL S8 b2 (vp_updL (tL S8 b2) 1 ((tL S8 b2 1) + (lushr (tL S8 b2 0) 26))) = S9
  have h := h S9 eS9.symm
  have hm : Sm0 S S9 := by rw [← eS9]; exact hm.L
  have f1 : te S9 a0 = some (.inr 3) := by rw [← eS9, te_sL]; exact f1
  have f3 : tR S9 a0 1 = some b2 := by rw [← eS9, tR_sL]; exact f3
  have f7 : te S9 b2 = some (.inl (.long, n6)) := by rw [← eS9, te_sL]; exact f7
  refine tt_aload_n (k0 := 0) (by decide +kernel) rfl ?_
  refine tt_getR (k := 1) (by decide +kernel) KC_3 (by decide) w_65 (fun _ => rfl) f1 f3 ?_
  refine tt_iconst (n := 0) (v := 0) (by decide +kernel) (by decide) ?_
  refine tt_dup2_11 (by decide +kernel) rfl rfl ?_
  obtain ⟨g2, h⟩ := h
  refine tt_lald (by decide +kernel) f7 g2 ?_
  show T G J_Poly_reduce 47 [(0, .ref a0), (1, .long q5)] [.long (tL S9 b2 0), .int 0, .ref b2] S9 _
  refine tt_ldc2 (v := 67108863) (by decide +kernel) w_565 ?_
  refine tt_land (by decide +kernel) ?_
  obtain ⟨g2, h⟩ := h
  refine tt_last (by decide +kernel) f7 g2 ?_
  show T G J_Poly_reduce 52 [(0, .ref a0), (1, .long q5)] [] (sL S9 b2 (vp_updL (tL S9 b2) 0 ((tL S9 b2 0) &&& (67108863 : Int64)))) _
  generalize eS10 : sL S9 b2 (vp_updL (tL S9 b2) 0 ((tL S9 b2 0) &&& (67108863 : Int64))) = S10
  have h := h S10 eS10.symm
  have hm : Sm0 S S10 := by rw [← eS10]; exact hm.L
  have f1 : te S10 a0 = some (.inr 3) := by rw [← eS10, te_sL]; exact f1
  have f3 : tR S10 a0 1 = some b2 := by rw [← eS10, tR_sL]; exact f3
  have f7 : te S10 b2 = some (.inl (.long, n6)) := by rw [← eS10, te_sL]; exact f7
  exact tt_vret (by decide +kernel) rfl ⟨hm, h⟩
set_option maxRecDepth 100000 in
theorem v_Poly_carry {G : pG} (a0 : Nat) (S : TS) (Q : Option Value → TS → Prop)
    (h : T0 G J_Poly_carry 4 [(0, .ref a0), (1, .long 0), (3, .int 0)] [] S Q) :
    C0 G J_Poly_carry [.ref a0] S Q := by
  unfold C0
  refine ct_of (by decide +kernel) (Nat.le_of_ble_eq_true rfl) (lv := [(0, .ref a0)]) rfl ?_
  have hm : Sm0 S S := Sm0.rf S
  refine tt_lconst (n := 0) (v := 0) (by decide +kernel) (by decide) ?_
  refine tt_lstore_n (k0 := 1) (lv' := [(0, .ref a0), (1, .long 0)]) (by decide +kernel) (by decide) rfl ?_
  refine tt_iconst (n := 0) (v := 0) (by decide +kernel) (by decide) ?_
  refine tt_istore_n (k0 := 3) (lv' := [(0, .ref a0), (1, .long 0), (3, .int 0)]) (by decide +kernel) (by decide) rfl ?_
  exact tt_mono h (fun r S' q => ⟨hm.tr q.1, q.2⟩)
set_option maxRecDepth 100000 in
theorem v_Poly_carry_4 {G : pG} (a0 : Nat) (l1 : Int64) (x3 : Int32) (S : TS) (Q : Option Value → TS → Prop)
    (h : ((5 ≤ x3 → Q (some (.long l1)) S) ∧ (¬ (5 ≤ x3) → ∃ n1 : Nat, te S a0 = some (.inl (.long, n1)) ∧ vp_in x3 n1 ∧ vp_in x3 n1 ∧ ∀ S3 : TS, S3 = sL S a0 (vp_updL (tL S a0) x3.toNatClampNeg ((tL S a0 x3.toNatClampNeg) + l1)) → vp_in x3 n1 ∧ ∀ y4 : Int64, y4 = lushr (tL S3 a0 x3.toNatClampNeg) 26 → vp_in x3 n1 ∧ vp_in x3 n1 ∧ ∀ S5 : TS, S5 = sL S3 a0 (vp_updL (tL S3 a0) x3.toNatClampNeg ((tL S3 a0 x3.toNatClampNeg) &&& (67108863 : Int64))) → ∀ y6 : Int32, y6 = x3 + 1 → T0 G J_Poly_carry 4 [(0, .ref a0), (1, .long y4), (3, .int y6)] [] S5 Q))) :
    T0 G J_Poly_carry 4 [(0, .ref a0), (1, .long l1), (3, .int x3)] [] S Q := by
  unfold T0
  have hm : Sm0 S S := Sm0.rf S
  refine tt_iload_n (k0 := 3) (by decide +kernel) rfl ?_
  refine tt_iconst (n := 5) (v := 5) (by decide +kernel) (by decide) ?_
  refine tt_icmp_ge (off := 32) 38 (by decide +kernel) (by decide) (fun c => ?_) (fun c => ?_)
  · have h := h.1 c
    refine tt_lload_n (k0 := 1) (by decide +kernel) rfl ?_
    exact tt_lret (by decide +kernel) rfl ⟨hm, h⟩
  · have h := h.2 c
    refine tt_aload_n (k0 := 0) (by decide +kernel) rfl ?_
    refine tt_iload_n (k0 := 3) (by decide +kernel) rfl ?_
    refine tt_dup2_11 (by decide +kernel) rfl rfl ?_
    obtain ⟨n1, f2, h⟩ := h
    obtain ⟨g2, h⟩ := h
    refine tt_lald (by decide +kernel) f2 g2 ?_
    refine tt_lload_n (k0 := 1) (by decide +kernel) rfl ?_
    refine tt_ladd (by decide +kernel) ?_
    obtain ⟨g2, h⟩ := h
    refine tt_last (by decide +kernel) f2 g2 ?_
    generalize eS3 : sL S a0 (vp_updL (tL S a0) x3.toNatClampNeg ((tL S a0 x3.toNatClampNeg) + l1)) = S3
    have h := h S3 eS3.symm
    have hm : Sm0 S S3 := by rw [← eS3]; exact hm.L
    have f2 : te S3 a0 = some (.inl (.long, n1)) := by rw [← eS3, te_sL]; exact f2
    refine tt_aload_n (k0 := 0) (by decide +kernel) rfl ?_
    refine tt_iload_n (k0 := 3) (by decide +kernel) rfl ?_
    obtain ⟨g2, h⟩ := h
    refine tt_lald (by decide +kernel) f2 g2 ?_
    refine tt_bipush (n := 26) (v := 26) (by decide +kernel) (by decide) ?_
    refine tt_lushr (by decide +kernel) ?_
    refine tt_topl (fun y4 ey4 => ?_)
    have h := h y4 ey4
    refine tt_lstore_n (k0 := 1) (lv' := [(0, .ref a0), (1, .long y4), (3, .int x3)]) (by decide +kernel) (by decide) rfl ?_
    refine tt_aload_n (k0 := 0) (by decide +kernel) rfl ?_
    refine tt_iload_n (k0 := 3) (by decide +kernel) rfl ?_
    refine tt_dup2_11 (by decide +kernel) rfl rfl ?_
    obtain ⟨g2, h⟩ := h
    refine tt_lald (by decide +kernel) f2 g2 ?_
    refine tt_ldc2 (v := 67108863) (by decide +kernel) w_565 ?_
    refine tt_land (by decide +kernel) ?_
    obtain ⟨g2, h⟩ := h
    refine tt_last (by decide +kernel) f2 g2 ?_
    generalize eS5 : sL S3 a0 (vp_updL (tL S3 a0) x3.toNatClampNeg ((tL S3 a0 x3.toNatClampNeg) &&& (67108863 : Int64))) = S5
    have h := h S5 eS5.symm
    have hm : Sm0 S S5 := by rw [← eS5]; exact hm.L
    have f2 : te S5 a0 = some (.inl (.long, n1)) := by rw [← eS5, te_sL]; exact f2
    obtain ⟨y6, ey6⟩ : ∃ y : Int32, y = x3 + 1 := ⟨_, rfl⟩
    have h := h y6 ey6
    refine tt_iinc (i := 3) (n := 1) (v := y6) (lv' := [(0, .ref a0), (1, .long y4), (3, .int y6)]) (by decide +kernel) (by decide) rfl ey6.symm rfl ?_
    refine tt_goto (off := -31) (tgt := 4) (by decide +kernel) (by decide) ?_
    exact tt_mono h (fun r S' q => ⟨hm.tr q.1, q.2⟩)
set_option maxRecDepth 100000 in
theorem v_Poly_finish {G : pG} (a0 : Nat) (a1 : Nat) (a2 : Nat) (S : TS) (Q : Option Value → TS → Prop)
    (h : te S a0 = some (.inr 3) ∧ C0 G J_Poly_reduce [.ref a0] S (fun r S2 => r = none ∧ ∃ b3 : Nat, tR S2 a0 1 = some b3 ∧ ∃ b5 : Nat, tR S2 a0 2 = some b5 ∧ ∃ n7 : Nat, te S2 b3 = some (.inl (.long, n7)) ∧ ∃ n9 : Nat, te S2 b5 = some (.inl (.long, n9)) ∧ ¬ (0 : Int32) < 0 ∧ ¬ (0 : Int32) < 0 ∧ ¬ (5 : Int32) < 0 ∧ (0 : Int32).toNatClampNeg + (5 : Int32).toNatClampNeg ≤ n7 ∧ (0 : Int32).toNatClampNeg + (5 : Int32).toNatClampNeg ≤ n9 ∧ ∀ S11 : TS, S11 = sL S2 b5 (va_cpy (tL S2 b3) (tL S2 b5) (0 : Int32).toNatClampNeg (0 : Int32).toNatClampNeg (5 : Int32).toNatClampNeg) → vp_in 0 n9 ∧ vp_in 0 n9 ∧ ∀ S12 : TS, S12 = sL S11 b5 (vp_updL (tL S11 b5) 0 ((tL S11 b5 0) + (5 : Int64))) → C0 G J_Poly_carry [.ref b5] S12 (fun r S13 => ∃ q14 : Int64, r = some (.long q14) ∧ ((lg_cmp q14 0 = 0 → te S13 a2 = some (.inr 0) ∧ C0 G J_Bytes_clear [.ref a2] S13 (fun r S16 => r = none ∧ T0 G J_Poly_finish 65 [(0, .ref a0), (1, .ref a1), (2, .ref a2), (3, .long 0), (5, .int 0)] [] S16 Q)) ∧ (¬ (lg_cmp q14 0 = 0) → ¬ (0 : Int32) < 0 ∧ ¬ (0 : Int32) < 0 ∧ ¬ (5 : Int32) < 0 ∧ (0 : Int32).toNatClampNeg + (5 : Int32).toNatClampNeg ≤ n9 ∧ (0 : Int32).toNatClampNeg + (5 : Int32).toNatClampNeg ≤ n7 ∧ ∀ S17 : TS, S17 = sL S13 b3 (va_cpy (tL S13 b5) (tL S13 b3) (0 : Int32).toNatClampNeg (0 : Int32).toNatClampNeg (5 : Int32).toNatClampNeg) → te S17 a2 = some (.inr 0) ∧ C0 G J_Bytes_clear [.ref a2] S17 (fun r S19 => r = none ∧ T0 G J_Poly_finish 65 [(0, .ref a0), (1, .ref a1), (2, .ref a2), (3, .long 0), (5, .int 0)] [] S19 Q)))))) :
    C0 G J_Poly_finish [.ref a0, .ref a1, .ref a2] S Q := by
  unfold C0
  refine ct_of (by decide +kernel) (Nat.le_of_ble_eq_true rfl) (lv := [(0, .ref a0), (1, .ref a1), (2, .ref a2)]) rfl ?_
  have hm : Sm0 S S := Sm0.rf S
  refine tt_aload_n (k0 := 0) (by decide +kernel) rfl ?_
  obtain ⟨f1, h⟩ := h
  refine tt_callV (As := []) (rest := []) (ci := 3) (r0 := (R_3, F_3, 5)) (by decide +kernel) LK_Poly_reduce w_575 w_577 (in_p (n := 5) 12 rfl) (by decide) (by decide) rfl rfl (Nat.le_of_ble_eq_true rfl) rfl rfl f1 (ct_mono h (fun r S2 h => ?_))
  obtain ⟨hm2, h⟩ := h
  obtain ⟨rfl, h⟩ := h
  show T G J_Poly_finish 4 [(0, .ref a0), (1, .ref a1), (2, .ref a2)] [] S2 _
  have hm := hm.tr hm2
  have f1 : te S2 a0 = some (.inr 3) := by rw [hm2.1]; exact f1
  refine tt_aload_n (k0 := 0) (by decide +kernel) rfl ?_
  obtain ⟨b3, f4, h⟩ := h
  refine tt_getR (k := 1) (by decide +kernel) KC_3 (by decide) w_65 (fun _ => rfl) f1 f4 ?_
  refine tt_iconst (n := 0) (v := 0) (by decide +kernel) (by decide) ?_
  refine tt_aload_n (k0 := 0) (by decide +kernel) rfl ?_
  obtain ⟨b5, f6, h⟩ := h
  refine tt_getR (k := 2) (by decide +kernel) KC_3 (by decide) w_66 (fun _ => rfl) f1 f6 ?_
  refine tt_iconst (n := 0) (v := 0) (by decide +kernel) (by decide) ?_
  refine tt_iconst (n := 5) (v := 5) (by decide +kernel) (by decide) ?_
  obtain ⟨n7, f8, h⟩ := h
  obtain ⟨n9, f10, h⟩ := h
  obtain ⟨p1, p2, p3, p4, p5, h⟩ := h
  refine tt_acopyl (by decide +kernel) w_574 w_363 w_362 w_13 (by decide) (Nat.le_of_ble_eq_true rfl) f8 f10 p1 p2 p3 p4 p5 ?_
  generalize eS11 : sL S2 b5 (va_cpy (tL S2 b3) (tL S2 b5) (0 : Int32).toNatClampNeg (0 : Int32).toNatClampNeg (5 : Int32).toNatClampNeg) = S11
  have h := h S11 eS11.symm
  have hm : Sm0 S S11 := by rw [← eS11]; exact hm.L
  have f1 : te S11 a0 = some (.inr 3) := by rw [← eS11, te_sL]; exact f1
  have f4 : tR S11 a0 1 = some b3 := by rw [← eS11, tR_sL]; exact f4
  have f6 : tR S11 a0 2 = some b5 := by rw [← eS11, tR_sL]; exact f6
  have f8 : te S11 b3 = some (.inl (.long, n7)) := by rw [← eS11, te_sL]; exact f8
  have f10 : te S11 b5 = some (.inl (.long, n9)) := by rw [← eS11, te_sL]; exact f10
  refine tt_aload_n (k0 := 0) (by decide +kernel) rfl ?_
  refine tt_getR (k := 2) (by decide +kernel) KC_3 (by decide) w_66 (fun _ => rfl) f1 f6 ?_
  refine tt_iconst (n := 0) (v := 0) (by decide +kernel) (by decide) ?_
  refine tt_dup2_11 (by decide +kernel) rfl rfl ?_
  obtain ⟨g2, h⟩ := h
  refine tt_lald (by decide +kernel) f10 g2 ?_
  show T G J_Poly_finish 25 [(0, .ref a0), (1, .ref a1), (2, .ref a2)] [.long (tL S11 b5 0), .int 0, .ref b5] S11 _
  refine tt_ldc2 (v := 5) (by decide +kernel) w_573 ?_
  refine tt_ladd (by decide +kernel) ?_
  obtain ⟨g2, h⟩ := h
  refine tt_last (by decide +kernel) f10 g2 ?_
  show T G J_Poly_finish 30 [(0, .ref a0), (1, .ref a1), (2, .ref a2)] [] (sL S11 b5 (vp_updL (tL S11 b5) 0 ((tL S11 b5 0) + (5 : Int64)))) _
  generalize eS12 : sL S11 b5 (vp_updL (tL S11 b5) 0 ((tL S11 b5 0) + (5 : Int64))) = S12
  have h := h S12 eS12.symm
  have hm : Sm0 S S12 := by rw [← eS12]; exact hm.L
  have f1 : te S12 a0 = some (.inr 3) := by rw [← eS12, te_sL]; exact f1
  have f4 : tR S12 a0 1 = some b3 := by rw [← eS12, tR_sL]; exact f4
  have f6 : tR S12 a0 2 = some b5 := by rw [← eS12, tR_sL]; exact f6
  have f8 : te S12 b3 = some (.inl (.long, n7)) := by rw [← eS12, te_sL]; exact f8
  have f10 : te S12 b5 = some (.inl (.long, n9)) := by rw [← eS12, te_sL]; exact f10
  refine tt_aload_n (k0 := 0) (by decide +kernel) rfl ?_
  refine tt_getR (k := 2) (by decide +kernel) KC_3 (by decide) w_66 (fun _ => rfl) f1 f6 ?_
  refine tt_callS (As := [.ref b5]) (rest := []) (by decide +kernel) LK_Poly_carry w_579 w_580 (by decide) (by decide) rfl rfl (Nat.le_of_ble_eq_true rfl) (ct_mono h (fun r S13 h => ?_))
  obtain ⟨hm2, h⟩ := h
  obtain ⟨q14, rfl, h⟩ := h
  show T G J_Poly_finish 37 [(0, .ref a0), (1, .ref a1), (2, .ref a2)] [.long q14] S13 _
  have hm := hm.tr hm2
  have f1 : te S13 a0 = some (.inr 3) := by rw [hm2.1]; exact f1
  have f4 : tR S13 a0 1 = some b3 := by rw [hm2.R]; exact f4
  have f6 : tR S13 a0 2 = some b5 := by rw [hm2.R]; exact f6
  have f8 : te S13 b3 = some (.inl (.long, n7)) := by rw [hm2.1]; exact f8
  have f10 : te S13 b5 = some (.inl (.long, n9)) := by rw [hm2.1]; exact f10
  refine tt_lconst (n := 0) (v := 0) (by decide +kernel) (by decide) ?_
  refine tt_lcmp (by decide +kernel) ?_
  refine tt_if_eq (off := 17) 56 (by decide +kernel) (by decide) (fun c => ?_) (fun c => ?_)
  · have h := h.1 c
    refine tt_aload_n (k0 := 2) (by decide +kernel) rfl ?_
    obtain ⟨f15, h⟩ := h
    refine tt_callV (As := []) (rest := []) (ci := 0) (r0 := (R_0, F_0, 2)) (by decide +kernel) LK_Bytes_clear w_541 w_392 w_393 (by decide) (by decide) rfl rfl (Nat.le_of_ble_eq_true rfl) rfl rfl f15 (ct_mono h (fun r S16 h => ?_))
    obtain ⟨hm2, h⟩ := h
    obtain ⟨rfl, h⟩ := h
    show T G J_Poly_finish 60 [(0, .ref a0), (1, .ref a1), (2, .ref a2)] [] S16 _
    have hm := hm.tr hm2
    have f1 : te S16 a0 = some (.inr 3) := by rw [hm2.1]; exact f1
    have f4 : tR S16 a0 1 = some b3 := by rw [hm2.R]; exact f4
    have f6 : tR S16 a0 2 = some b5 := by rw [hm2.R]; exact f6
    have f8 : te S16 b3 = some (.inl (.long, n7)) := by rw [hm2.1]; exact f8
    have f10 : te S16 b5 = some (.inl (.long, n9)) := by rw [hm2.1]; exact f10
    have f15 : te S16 a2 = some (.inr 0) := by rw [hm2.1]; exact f15
    refine tt_lconst (n := 0) (v := 0) (by decide +kernel) (by decide) ?_
    refine tt_lstore_n (k0 := 3) (lv' := [(0, .ref a0), (1, .ref a1), (2, .ref a2), (3, .long 0)]) (by decide +kernel) (by decide) rfl ?_
    refine tt_iconst (n := 0) (v := 0) (by decide +kernel) (by decide) ?_
    refine tt_istore (k0 := 5) (lv' := [(0, .ref a0), (1, .ref a1), (2, .ref a2), (3, .long 0), (5, .int 0)]) (by decide +kernel) (by decide) rfl ?_
    exact tt_mono h (fun r S' q => ⟨hm.tr q.1, q.2⟩)
  · have h := h.2 c
    refine tt_aload_n (k0 := 0) (by decide +kernel) rfl ?_
    refine tt_getR (k := 2) (by decide +kernel) KC_3 (by decide) w_66 (fun _ => rfl) f1 f6 ?_
    refine tt_iconst (n := 0) (v := 0) (by decide +kernel) (by decide) ?_
    refine tt_aload_n (k0 := 0) (by decide +kernel) rfl ?_
    refine tt_getR (k := 1) (by decide +kernel) KC_3 (by decide) w_65 (fun _ => rfl) f1 f4 ?_
    refine tt_iconst (n := 0) (v := 0) (by decide +kernel) (by decide) ?_
    refine tt_iconst (n := 5) (v := 5) (by decide +kernel) (by decide) ?_
    obtain ⟨p1, p2, p3, p4, p5, h⟩ := h
    refine tt_acopyl (by decide +kernel) w_574 w_363 w_362 w_13 (by decide) (Nat.le_of_ble_eq_true rfl) f10 f8 p1 p2 p3 p4 p5 ?_
    generalize eS17 : sL S13 b3 (va_cpy (tL S13 b5) (tL S13 b3) (0 : Int32).toNatClampNeg (0 : Int32).toNatClampNeg (5 : Int32).toNatClampNeg) = S17
    have h := h S17 eS17.symm
    have hm : Sm0 S S17 := by rw [← eS17]; exact hm.L
    have f1 : te S17 a0 = some (.inr 3) := by rw [← eS17, te_sL]; exact f1
    have f4 : tR S17 a0 1 = some b3 := by rw [← eS17, tR_sL]; exact f4
    have f6 : tR S17 a0 2 = some b5 := by rw [← eS17, tR_sL]; exact f6
    have f8 : te S17 b3 = some (.inl (.long, n7)) := by rw [← eS17, te_sL]; exact f8
    have f10 : te S17 b5 = some (.inl (.long, n9)) := by rw [← eS17, te_sL]; exact f10
    refine tt_aload_n (k0 := 2) (by decide +kernel) rfl ?_
    obtain ⟨f18, h⟩ := h
    refine tt_callV (As := []) (rest := []) (ci := 0) (r0 := (R_0, F_0, 2)) (by decide +kernel) LK_Bytes_clear w_541 w_392 w_393 (by decide) (by decide) rfl rfl (Nat.le_of_ble_eq_true rfl) rfl rfl f18 (ct_mono h (fun r S19 h => ?_))
    obtain ⟨hm2, h⟩ := h
    obtain ⟨rfl, h⟩ := h
    show T G J_Poly_finish 60 [(0, .ref a0), (1, .ref a1), (2, .ref a2)] [] S19 _
    have hm := hm.tr hm2
    have f1 : te S19 a0 = some (.inr 3) := by rw [hm2.1]; exact f1
    have f4 : tR S19 a0 1 = some b3 := by rw [hm2.R]; exact f4
    have f6 : tR S19 a0 2 = some b5 := by rw [hm2.R]; exact f6
    have f8 : te S19 b3 = some (.inl (.long, n7)) := by rw [hm2.1]; exact f8
    have f10 : te S19 b5 = some (.inl (.long, n9)) := by rw [hm2.1]; exact f10
    have f18 : te S19 a2 = some (.inr 0) := by rw [hm2.1]; exact f18
    refine tt_lconst (n := 0) (v := 0) (by decide +kernel) (by decide) ?_
    refine tt_lstore_n (k0 := 3) (lv' := [(0, .ref a0), (1, .ref a1), (2, .ref a2), (3, .long 0)]) (by decide +kernel) (by decide) rfl ?_
    refine tt_iconst (n := 0) (v := 0) (by decide +kernel) (by decide) ?_
    refine tt_istore (k0 := 5) (lv' := [(0, .ref a0), (1, .ref a1), (2, .ref a2), (3, .long 0), (5, .int 0)]) (by decide +kernel) (by decide) rfl ?_
    exact tt_mono h (fun r S' q => ⟨hm.tr q.1, q.2⟩)
set_option maxRecDepth 100000 in
theorem v_Poly_finish_65 {G : pG} (a0 : Nat) (a1 : Nat) (a2 : Nat) (l3 : Int64) (x5 : Int32) (S : TS) (Q : Option Value → TS → Prop)
    (h : ((4 ≤ x5 → Q none S) ∧ (¬ (4 ≤ x5) → te S a0 = some (.inr 3) ∧ ∃ b2 : Nat, tR S a0 1 = some b2 ∧ ∃ n4 : Nat, te S b2 = some (.inl (.long, n4)) ∧ vp_in x5 n4 ∧ vp_in (x5 + (1 : Int32)) n4 ∧ ∀ y6 : Int64, y6 = ((lushr (tL S b2 x5.toNatClampNeg) ((6 : Int32) * x5)) ||| ((tL S b2 (x5 + (1 : Int32)).toNatClampNeg) <<< ((((26 : Int32) - ((6 : Int32) * x5) : Int32).toInt64) &&& 63))) &&& (4294967295 : Int64) → te S a1 = some (.inr 8) ∧ CP G J_Stream_word [.ref a1, .int ((4 : Int32) + x5)] S (fun r => ∃ r8 : Int32, r = some (.int r8) ∧ ∀ y9 : Int64, y9 = l3 + (y6 + (((r8 : Int32).toInt64) &&& (4294967295 : Int64))) → CP G J_Int_reverseBytes [.int ((y9 : Int64).toInt32)] S (fun r => ∃ r10 : Int32, r = some (.int r10) ∧ te S a2 = some (.inr 0) ∧ C0 G J_Bytes_putNumber [.ref a2, .int r10] S (fun r S12 => r = none ∧ ∀ y13 : Int64, y13 = lushr y9 32 → ∀ y14 : Int32, y14 = x5 + 1 → T0 G J_Poly_finish 65 [(0, .ref a0), (1, .ref a1), (2, .ref a2), (3, .long y13), (5, .int y14)] [] S12 Q)))))) :
    T0 G J_Poly_finish 65 [(0, .ref a0), (1, .ref a1), (2, .ref a2), (3, .long l3), (5, .int x5)] [] S Q := by
  unfold T0
  have hm : Sm0 S S := Sm0.rf S
  refine tt_iload (k0 := 5) (by decide +kernel) rfl ?_
  refine tt_iconst (n := 4) (v := 4) (by decide +kernel) (by decide) ?_
  refine tt_icmp_ge (off := 80) 148 (by decide +kernel) (by decide) (fun c => ?_) (fun c => ?_)
  · have h := h.1 c
    exact tt_vret (by decide +kernel) rfl ⟨hm, h⟩
  · have h := h.2 c
    refine tt_aload_n (k0 := 0) (by decide +kernel) rfl ?_
    obtain ⟨f1, h⟩ := h
    obtain ⟨b2, f3, h⟩ := h
    refine tt_getR (k := 1) (by decide +kernel) KC_3 (by decide) w_65 (fun _ => rfl) f1 f3 ?_
    refine tt_iload (k0 := 5) (by decide +kernel) rfl ?_
    obtain ⟨n4, f5, h⟩ := h
    obtain ⟨g2, h⟩ := h
    refine tt_lald (by decide +kernel) f5 g2 ?_
    refine tt_bipush (n := 6) (v := 6) (by decide +kernel) (by decide) ?_
    refine tt_iload (k0 := 5) (by decide +kernel) rfl ?_
    refine tt_imul (by decide +kernel) ?_
    refine tt_lushr (by decide +kernel) ?_
    refine tt_aload_n (k0 := 0) (by decide +kernel) rfl ?_
    refine tt_getR (k := 1) (by decide +kernel) KC_3 (by decide) w_65 (fun _ => rfl) f1 f3 ?_
    refine tt_iload (k0 := 5) (by decide +kernel) rfl ?_
    refine tt_iconst (n := 1) (v := 1) (by decide +kernel) (by decide) ?_
    refine tt_iadd (by decide +kernel) ?_
    obtain ⟨g2, h⟩ := h
    refine tt_lald (by decide +kernel) f5 g2 ?_
    refine tt_bipush (n := 26) (v := 26) (by decide +kernel) (by decide) ?_
    refine tt_bipush (n := 6) (v := 6) (by decide +kernel) (by decide) ?_
    refine tt_iload (k0 := 5) (by decide +kernel) rfl ?_
    refine tt_imul (by decide +kernel) ?_
    refine tt_isub (by decide +kernel) ?_
    refine tt_lshl (by decide +kernel) ?_
    refine tt_lor (by decide +kernel) ?_
    refine tt_ldc2 (v := 4294967295) (by decide +kernel) w_566 ?_
    refine tt_land (by decide +kernel) ?_
    refine tt_topl (fun y6 ey6 => ?_)
    have h := h y6 ey6
    refine tt_lstore (k0 := 6) (lv' := [(0, .ref a0), (1, .ref a1), (2, .ref a2), (3, .long l3), (5, .int x5), (6, .long y6)]) (by decide +kernel) (by decide) rfl ?_
    refine tt_lload_n (k0 := 3) (by decide +kernel) rfl ?_
    refine tt_lload (k0 := 6) (by decide +kernel) rfl ?_
    refine tt_aload_n (k0 := 1) (by decide +kernel) rfl ?_
    refine tt_iconst (n := 4) (v := 4) (by decide +kernel) (by decide) ?_
    refine tt_iload (k0 := 5) (by decide +kernel) rfl ?_
    refine tt_iadd (by decide +kernel) ?_
    obtain ⟨f7, h⟩ := h
    refine tt_callV (As := [.int ((4 : Int32) + x5)]) (rest := [.long y6, .long l3]) (ci := 8) (r0 := (R_8, F_8, 2)) (by decide +kernel) LK_Stream_word w_555 w_556 w_557 (by decide) (by decide) rfl rfl (Nat.le_of_ble_eq_true rfl) rfl rfl f7 (ct_mono h (fun r Sb h => ?_))
    obtain ⟨eb, h⟩ := h
    obtain ⟨r8, rfl, h⟩ := h
    rw [eb]
    show T G J_Poly_finish 120 [(0, .ref a0), (1, .ref a1), (2, .ref a2), (3, .long l3), (5, .int x5), (6, .long y6)] [.int r8, .long y6, .long l3] S _
    refine tt_i2l (by decide +kernel) ?_
    refine tt_ldc2 (v := 4294967295) (by decide +kernel) w_566 ?_
    refine tt_land (by decide +kernel) ?_
    refine tt_ladd (by decide +kernel) ?_
    refine tt_ladd (by decide +kernel) ?_
    refine tt_topl (fun y9 ey9 => ?_)
    have h := h y9 ey9
    refine tt_lstore_n (k0 := 3) (lv' := [(0, .ref a0), (1, .ref a1), (2, .ref a2), (3, .long y9), (5, .int x5), (6, .long y6)]) (by decide +kernel) (by decide) rfl ?_
    refine tt_aload_n (k0 := 2) (by decide +kernel) rfl ?_
    refine tt_lload_n (k0 := 3) (by decide +kernel) rfl ?_
    refine tt_l2i (by decide +kernel) ?_
    refine tt_callS (As := [.int ((y9 : Int64).toInt32)]) (rest := [.ref a2]) (by decide +kernel) LK_Int_reverseBytes w_549 w_509 (by decide) (by decide) rfl rfl (Nat.le_of_ble_eq_true rfl) (ct_mono h (fun r Sb h => ?_))
    obtain ⟨eb, h⟩ := h
    obtain ⟨r10, rfl, h⟩ := h
    rw [eb]
    show T G J_Poly_finish 134 [(0, .ref a0), (1, .ref a1), (2, .ref a2), (3, .long y9), (5, .int x5), (6, .long y6)] [.int r10, .ref a2] S _
    obtain ⟨f11, h⟩ := h
    refine tt_callV (As := [.int r10]) (rest := []) (ci := 0) (r0 := (R_0, F_0, 2)) (by decide +kernel) LK_Bytes_putNumber w_550 w_303 w_304 (by decide) (by decide) rfl rfl (Nat.le_of_ble_eq_true rfl) rfl rfl f11 (ct_mono h (fun r S12 h => ?_))
    obtain ⟨hm2, h⟩ := h
    obtain ⟨rfl, h⟩ := h
    show T G J_Poly_finish 137 [(0, .ref a0), (1, .ref a1), (2, .ref a2), (3, .long y9), (5, .int x5), (6, .long y6)] [] S12 _
    have hm := hm.tr hm2
    have f1 : te S12 a0 = some (.inr 3) := by rw [hm2.1]; exact f1
    have f3 : tR S12 a0 1 = some b2 := by rw [hm2.R]; exact f3
    have f5 : te S12 b2 = some (.inl (.long, n4)) := by rw [hm2.1]; exact f5
    have f7 : te S12 a1 = some (.inr 8) := by rw [hm2.1]; exact f7
    have f11 : te S12 a2 = some (.inr 0) := by rw [hm2.1]; exact f11
    refine tt_lload_n (k0 := 3) (by decide +kernel) rfl ?_
    refine tt_bipush (n := 32) (v := 32) (by decide +kernel) (by decide) ?_
    refine tt_lushr (by decide +kernel) ?_
    refine tt_topl (fun y13 ey13 => ?_)
    have h := h y13 ey13
    refine tt_lstore_n (k0 := 3) (lv' := [(0, .ref a0), (1, .ref a1), (2, .ref a2), (3, .long y13), (5, .int x5), (6, .long y6)]) (by decide +kernel) (by decide) rfl ?_
    obtain ⟨y14, ey14⟩ : ∃ y : Int32, y = x5 + 1 := ⟨_, rfl⟩
    have h := h y14 ey14
    refine tt_iinc (i := 5) (n := 1) (v := y14) (lv' := [(0, .ref a0), (1, .ref a1), (2, .ref a2), (3, .long y13), (5, .int y14), (6, .long y6)]) (by decide +kernel) (by decide) rfl ey14.symm rfl ?_
    refine tt_goto (off := -80) (tgt := 65) (by decide +kernel) (by decide) ?_
    refine tt_lv [(0, .ref a0), (1, .ref a1), (2, .ref a2), (3, .long y13), (5, .int y14)] (by simp) ?_
    exact tt_mono h (fun r S' q => ⟨hm.tr q.1, q.2⟩)
set_option maxRecDepth 100000 in
theorem v_Hash_mac {G : pG} (a0 : Nat) (a1 : Nat) (a2 : Nat) (a3 : Nat) (S : TS) (Q : Option Value → TS → Prop)
    (h : te S a0 = some (.inr 2) ∧ C0 G J_Hash_layKey [.ref a0, .ref a1, .int 54] S (fun r S2 => r = none ∧ ∃ b3 : Nat, tR S2 a0 2 = some b3 ∧ te S2 b3 = some (.inr 0) ∧ C0 G J_Bytes_putAll [.ref b3, .ref a2] S2 (fun r S6 => r = none ∧ ∃ b7 : Nat, tR S6 a0 3 = some b7 ∧ C0 G J_Hash_finish [.ref a0, .ref b7] S6 (fun r S9 => r = none ∧ C0 G J_Hash_layKey [.ref a0, .ref a1, .int 92] S9 (fun r S10 => r = none ∧ C0 G J_Bytes_putAll [.ref b3, .ref b7] S10 (fun r S11 => r = none ∧ C0 G J_Hash_finish [.ref a0, .ref a3] S11 (fun r S12 => r = none ∧ Q none S12))))))) :
    C0 G J_Hash_mac [.ref a0, .ref a1, .ref a2, .ref a3] S Q := by
  unfold C0
  refine ct_of (by decide +kernel) (Nat.le_of_ble_eq_true rfl) (lv := [(0, .ref a0), (1, .ref a1), (2, .ref a2), (3, .ref a3)]) rfl ?_
  have hm : Sm0 S S := Sm0.rf S
  refine tt_aload_n (k0 := 0) (by decide +kernel) rfl ?_
  refine tt_aload_n (k0 := 1) (by decide +kernel) rfl ?_
  refine tt_bipush (n := 54) (v := 54) (by decide +kernel) (by decide) ?_
  obtain ⟨f1, h⟩ := h
  refine tt_callV (As := [.ref a1, .int 54]) (rest := []) (ci := 2) (r0 := (R_2, F_2, 4)) (by decide +kernel) LK_Hash_layKey w_624 w_626 (in_p (n := 4) 16 rfl) (by decide) (by decide) rfl rfl (Nat.le_of_ble_eq_true rfl) rfl rfl f1 (ct_mono h (fun r S2 h => ?_))
  obtain ⟨hm2, h⟩ := h
  obtain ⟨rfl, h⟩ := h
  show T G J_Hash_mac 7 [(0, .ref a0), (1, .ref a1), (2, .ref a2), (3, .ref a3)] [] S2 _
  have hm := hm.tr hm2
  have f1 : te S2 a0 = some (.inr 2) := by rw [hm2.1]; exact f1
  refine tt_aload_n (k0 := 0) (by decide +kernel) rfl ?_
  obtain ⟨b3, f4, h⟩ := h
  refine tt_getR (k := 2) (by decide +kernel) KC_2 (by decide) w_161 (fun _ => rfl) f1 f4 ?_
  refine tt_aload_n (k0 := 2) (by decide +kernel) rfl ?_
  obtain ⟨f5, h⟩ := h
  refine tt_callV (As := [.ref a2]) (rest := []) (ci := 0) (r0 := (R_0, F_0, 2)) (by decide +kernel) LK_Bytes_putAll w_629 w_447 w_448 (by decide) (by decide) rfl rfl (Nat.le_of_ble_eq_true rfl) rfl rfl f5 (ct_mono h (fun r S6 h => ?_))
  obtain ⟨hm2, h⟩ := h
  obtain ⟨rfl, h⟩ := h
  show T G J_Hash_mac 15 [(0, .ref a0), (1, .ref a1), (2, .ref a2), (3, .ref a3)] [] S6 _
  have hm := hm.tr hm2
  have f1 : te S6 a0 = some (.inr 2) := by rw [hm2.1]; exact f1
  have f4 : tR S6 a0 2 = some b3 := by rw [hm2.R]; exact f4
  have f5 : te S6 b3 = some (.inr 0) := by rw [hm2.1]; exact f5
  refine tt_aload_n (k0 := 0) (by decide +kernel) rfl ?_
  refine tt_aload_n (k0 := 0) (by decide +kernel) rfl ?_
  obtain ⟨b7, f8, h⟩ := h
  refine tt_getR (k := 3) (by decide +kernel) KC_2 (by decide) w_162 (fun _ => rfl) f1 f8 ?_
  refine tt_callV (As := [.ref b7]) (rest := []) (ci := 2) (r0 := (R_2, F_2, 4)) (by decide +kernel) LK_Hash_finish w_364 w_366 (in_p (n := 4) 1 rfl) (by decide) (by decide) rfl rfl (Nat.le_of_ble_eq_true rfl) rfl rfl f1 (ct_mono h (fun r S9 h => ?_))
  obtain ⟨hm2, h⟩ := h
  obtain ⟨rfl, h⟩ := h
  show T G J_Hash_mac 23 [(0, .ref a0), (1, .ref a1), (2, .ref a2), (3, .ref a3)] [] S9 _
  have hm := hm.tr hm2
  have f1 : te S9 a0 = some (.inr 2) := by rw [hm2.1]; exact f1
  have f4 : tR S9 a0 2 = some b3 := by rw [hm2.R]; exact f4
  have f5 : te S9 b3 = some (.inr 0) := by rw [hm2.1]; exact f5
  have f8 : tR S9 a0 3 = some b7 := by rw [hm2.R]; exact f8
  refine tt_aload_n (k0 := 0) (by decide +kernel) rfl ?_
  refine tt_aload_n (k0 := 1) (by decide +kernel) rfl ?_
  refine tt_bipush (n := 92) (v := 92) (by decide +kernel) (by decide) ?_
  refine tt_callV (As := [.ref a1, .int 92]) (rest := []) (ci := 2) (r0 := (R_2, F_2, 4)) (by decide +kernel) LK_Hash_layKey w_624 w_626 (in_p (n := 4) 16 rfl) (by decide) (by decide) rfl rfl (Nat.le_of_ble_eq_true rfl) rfl rfl f1 (ct_mono h (fun r S10 h => ?_))
  obtain ⟨hm2, h⟩ := h
  obtain ⟨rfl, h⟩ := h
  show T G J_Hash_mac 30 [(0, .ref a0), (1, .ref a1), (2, .ref a2), (3, .ref a3)] [] S10 _
  have hm := hm.tr hm2
  have f1 : te S10 a0 = some (.inr 2) := by rw [hm2.1]; exact f1
  have f4 : tR S10 a0 2 = some b3 := by rw [hm2.R]; exact f4
  have f5 : te S10 b3 = some (.inr 0) := by rw [hm2.1]; exact f5
  have f8 : tR S10 a0 3 = some b7 := by rw [hm2.R]; exact f8
  refine tt_aload_n (k0 := 0) (by decide +kernel) rfl ?_
  refine tt_getR (k := 2) (by decide +kernel) KC_2 (by decide) w_161 (fun _ => rfl) f1 f4 ?_
  refine tt_aload_n (k0 := 0) (by decide +kernel) rfl ?_
  refine tt_getR (k := 3) (by decide +kernel) KC_2 (by decide) w_162 (fun _ => rfl) f1 f8 ?_
  refine tt_callV (As := [.ref b7]) (rest := []) (ci := 0) (r0 := (R_0, F_0, 2)) (by decide +kernel) LK_Bytes_putAll w_629 w_447 w_448 (by decide) (by decide) rfl rfl (Nat.le_of_ble_eq_true rfl) rfl rfl f5 (ct_mono h (fun r S11 h => ?_))
  obtain ⟨hm2, h⟩ := h
  obtain ⟨rfl, h⟩ := h
  show T G J_Hash_mac 41 [(0, .ref a0), (1, .ref a1), (2, .ref a2), (3, .ref a3)] [] S11 _
  have hm := hm.tr hm2
  have f1 : te S11 a0 = some (.inr 2) := by rw [hm2.1]; exact f1
  have f4 : tR S11 a0 2 = some b3 := by rw [hm2.R]; exact f4
  have f5 : te S11 b3 = some (.inr 0) := by rw [hm2.1]; exact f5
  have f8 : tR S11 a0 3 = some b7 := by rw [hm2.R]; exact f8
  refine tt_aload_n (k0 := 0) (by decide +kernel) rfl ?_
  refine tt_aload_n (k0 := 3) (by decide +kernel) rfl ?_
  refine tt_callV (As := [.ref a3]) (rest := []) (ci := 2) (r0 := (R_2, F_2, 4)) (by decide +kernel) LK_Hash_finish w_364 w_366 (in_p (n := 4) 1 rfl) (by decide) (by decide) rfl rfl (Nat.le_of_ble_eq_true rfl) rfl rfl f1 (ct_mono h (fun r S12 h => ?_))
  obtain ⟨hm2, h⟩ := h
  obtain ⟨rfl, h⟩ := h
  show T G J_Hash_mac 46 [(0, .ref a0), (1, .ref a1), (2, .ref a2), (3, .ref a3)] [] S12 _
  have hm := hm.tr hm2
  have f1 : te S12 a0 = some (.inr 2) := by rw [hm2.1]; exact f1
  have f4 : tR S12 a0 2 = some b3 := by rw [hm2.R]; exact f4
  have f5 : te S12 b3 = some (.inr 0) := by rw [hm2.1]; exact f5
  have f8 : tR S12 a0 3 = some b7 := by rw [hm2.R]; exact f8
  exact tt_vret (by decide +kernel) rfl ⟨hm, h⟩
set_option maxRecDepth 100000 in
theorem v_Hash_layKey {G : pG} (a0 : Nat) (a1 : Nat) (x2 : Int32) (S : TS) (Q : Option Value → TS → Prop)
    (h : te S a0 = some (.inr 2) ∧ ∃ b2 : Nat, tR S a0 2 = some b2 ∧ te S b2 = some (.inr 0) ∧ C0 G J_Bytes_clear [.ref b2] S (fun r S5 => r = none ∧ T0 G J_Hash_layKey 9 [(0, .ref a0), (1, .ref a1), (2, .int x2), (3, .int 0)] [] S5 Q)) :
    C0 G J_Hash_layKey [.ref a0, .ref a1, .int x2] S Q := by
  unfold C0
  refine ct_of (by decide +kernel) (Nat.le_of_ble_eq_true rfl) (lv := [(0, .ref a0), (1, .ref a1), (2, .int x2)]) rfl ?_
  have hm : Sm0 S S := Sm0.rf S
  refine tt_aload_n (k0 := 0) (by decide +kernel) rfl ?_
  obtain ⟨f1, h⟩ := h
  obtain ⟨b2, f3, h⟩ := h
  refine tt_getR (k := 2) (by decide +kernel) KC_2 (by decide) w_161 (fun _ => rfl) f1 f3 ?_
  obtain ⟨f4, h⟩ := h
  refine tt_callV (As := []) (rest := []) (ci := 0) (r0 := (R_0, F_0, 2)) (by decide +kernel) LK_Bytes_clear w_391 w_392 w_393 (by decide) (by decide) rfl rfl (Nat.le_of_ble_eq_true rfl) rfl rfl f4 (ct_mono h (fun r S5 h => ?_))
  obtain ⟨hm2, h⟩ := h
  obtain ⟨rfl, h⟩ := h
  show T G J_Hash_layKey 7 [(0, .ref a0), (1, .ref a1), (2, .int x2)] [] S5 _
  have hm := hm.tr hm2
  have f1 : te S5 a0 = some (.inr 2) := by rw [hm2.1]; exact f1
  have f3 : tR S5 a0 2 = some b2 := by rw [hm2.R]; exact f3
  have f4 : te S5 b2 = some (.inr 0) := by rw [hm2.1]; exact f4
  refine tt_iconst (n := 0) (v := 0) (by decide +kernel) (by decide) ?_
  refine tt_istore_n (k0 := 3) (lv' := [(0, .ref a0), (1, .ref a1), (2, .int x2), (3, .int 0)]) (by decide +kernel) (by decide) rfl ?_
  exact tt_mono h (fun r S' q => ⟨hm.tr q.1, q.2⟩)
set_option maxRecDepth 100000 in
theorem v_Hash_layKey_9 {G : pG} (a0 : Nat) (a1 : Nat) (x2 : Int32) (x3 : Int32) (S : TS) (Q : Option Value → TS → Prop)
    (h : ((64 ≤ x3 → Q none S) ∧ (¬ (64 ≤ x3) → te S a0 = some (.inr 2) ∧ ∃ b2 : Nat, tR S a0 2 = some b2 ∧ te S a1 = some (.inr 0) ∧ CP G J_Bytes_at [.ref a1, .int x3] S (fun r => ∃ r5 : Int32, r = some (.int r5) ∧ te S b2 = some (.inr 0) ∧ C0 G J_Bytes_put [.ref b2, .int (r5 ^^^ x2)] S (fun r S7 => r = none ∧ ∀ y8 : Int32, y8 = x3 + 1 → T0 G J_Hash_layKey 9 [(0, .ref a0), (1, .ref a1), (2, .int x2), (3, .int y8)] [] S7 Q))))) :
    T0 G J_Hash_layKey 9 [(0, .ref a0), (1, .ref a1), (2, .int x2), (3, .int x3)] [] S Q := by
  unfold T0
  have hm : Sm0 S S := Sm0.rf S
  refine tt_iload_n (k0 := 3) (by decide +kernel) rfl ?_
  refine tt_bipush (n := 64) (v := 64) (by decide +kernel) (by decide) ?_
  refine tt_icmp_ge (off := 23) 35 (by decide +kernel) (by decide) (fun c => ?_) (fun c => ?_)
  · have h := h.1 c
    exact tt_vret (by decide +kernel) rfl ⟨hm, h⟩
  · have h := h.2 c
    refine tt_aload_n (k0 := 0) (by decide +kernel) rfl ?_
    obtain ⟨f1, h⟩ := h
    obtain ⟨b2, f3, h⟩ := h
    refine tt_getR (k := 2) (by decide +kernel) KC_2 (by decide) w_161 (fun _ => rfl) f1 f3 ?_
    refine tt_aload_n (k0 := 1) (by decide +kernel) rfl ?_
    refine tt_iload_n (k0 := 3) (by decide +kernel) rfl ?_
    obtain ⟨f4, h⟩ := h
    refine tt_callV (As := [.int x3]) (rest := [.ref b2]) (ci := 0) (r0 := (R_0, F_0, 2)) (by decide +kernel) LK_Bytes_at w_628 w_327 w_328 (by decide) (by decide) rfl rfl (Nat.le_of_ble_eq_true rfl) rfl rfl f4 (ct_mono h (fun r Sb h => ?_))
    obtain ⟨eb, h⟩ := h
    obtain ⟨r5, rfl, h⟩ := h
    rw [eb]
    show T G J_Hash_layKey 24 [(0, .ref a0), (1, .ref a1), (2, .int x2), (3, .int x3)] [.int r5, .ref b2] S _
    refine tt_iload_n (k0 := 2) (by decide +kernel) rfl ?_
    refine tt_ixor (by decide +kernel) ?_
    obtain ⟨f6, h⟩ := h
    refine tt_callV (As := [.int (r5 ^^^ x2)]) (rest := []) (ci := 0) (r0 := (R_0, F_0, 2)) (by decide +kernel) LK_Bytes_put w_369 w_239 w_240 (by decide) (by decide) rfl rfl (Nat.le_of_ble_eq_true rfl) rfl rfl f6 (ct_mono h (fun r S7 h => ?_))
    obtain ⟨hm2, h⟩ := h
    obtain ⟨rfl, h⟩ := h
    show T G J_Hash_layKey 29 [(0, .ref a0), (1, .ref a1), (2, .int x2), (3, .int x3)] [] S7 _
    have hm := hm.tr hm2
    have f1 : te S7 a0 = some (.inr 2) := by rw [hm2.1]; exact f1
    have f3 : tR S7 a0 2 = some b2 := by rw [hm2.R]; exact f3
    have f4 : te S7 a1 = some (.inr 0) := by rw [hm2.1]; exact f4
    have f6 : te S7 b2 = some (.inr 0) := by rw [hm2.1]; exact f6
    obtain ⟨y8, ey8⟩ : ∃ y : Int32, y = x3 + 1 := ⟨_, rfl⟩
    have h := h y8 ey8
    refine tt_iinc (i := 3) (n := 1) (v := y8) (lv' := [(0, .ref a0), (1, .ref a1), (2, .int x2), (3, .int y8)]) (by decide +kernel) (by decide) rfl ey8.symm rfl ?_
    refine tt_goto (off := -23) (tgt := 9) (by decide +kernel) (by decide) ?_
    exact tt_mono h (fun r S' q => ⟨hm.tr q.1, q.2⟩)
