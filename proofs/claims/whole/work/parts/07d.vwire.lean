set_option maxRecDepth 100000 in
theorem v_S_init {G : pG} (a0 : Nat) (x1 : Int32) (S : TS) (Q : Option Value → TS → Prop)
    (h : ∀ S1 : TS, S1 = sN S (.inr 0) 2 → CT G J_Bytes_init [.ref (tz S), .int 200] S1 (fun r S2 => r = none ∧ te S2 a0 = some (.inr 10) ∧ ∀ S4 : TS, S4 = sR S2 a0 (va_up (tR S2 a0) 0 (some (tz S))) → ∀ S5 : TS, S5 = sN S4 (.inr 0) 2 → CT G J_Bytes_init [.ref (tz S4), .int 65] S5 (fun r S6 => r = none ∧ te S6 a0 = some (.inr 10) ∧ ∀ S8 : TS, S8 = sR S6 a0 (va_up (tR S6 a0) 1 (some (tz S4))) → ∀ S9 : TS, S9 = sN S8 (.inr 0) 2 → CT G J_Bytes_init [.ref (tz S8), .int 16] S9 (fun r S10 => r = none ∧ te S10 a0 = some (.inr 10) ∧ ∀ S12 : TS, S12 = sR S10 a0 (va_up (tR S10 a0) 2 (some (tz S8))) → ∀ S13 : TS, S13 = sN S12 (.inr 5) 3 → CT G J_Sealer_init [.ref (tz S12)] S13 (fun r S14 => r = none ∧ te S14 a0 = some (.inr 10) ∧ ∀ S16 : TS, S16 = sR S14 a0 (va_up (tR S14 a0) 3 (some (tz S12))) → ∀ S17 : TS, S17 = sN S16 (.inr 9) 2 → CT G J_Wire_init [.ref (tz S16)] S17 (fun r S18 => r = none ∧ te S18 a0 = some (.inr 10) ∧ ∀ S20 : TS, S20 = sR S18 a0 (va_up (tR S18 a0) 6 (some (tz S16))) → ∀ S21 : TS, S21 = sN S20 (.inr 9) 2 → CT G J_Wire_init [.ref (tz S20)] S21 (fun r S22 => r = none ∧ te S22 a0 = some (.inr 10) ∧ ∀ S24 : TS, S24 = sR S22 a0 (va_up (tR S22 a0) 7 (some (tz S20))) → ∀ S25 : TS, S25 = sN S24 (.inr 7) 3 → CT G J_Store_init [.ref (tz S24)] S25 (fun r S26 => r = none ∧ te S26 a0 = some (.inr 10) ∧ ∀ S28 : TS, S28 = sR S26 a0 (va_up (tR S26 a0) 8 (some (tz S24))) → ∀ S29 : TS, S29 = sN S28 (.inr 4) 3 → CT G J_Request_init [.ref (tz S28)] S29 (fun r S30 => r = none ∧ te S30 a0 = some (.inr 10) ∧ ∀ S32 : TS, S32 = sR S30 a0 (va_up (tR S30 a0) 9 (some (tz S28))) → ∀ S33 : TS, S33 = sN S32 (.inr 0) 2 → CT G J_Bytes_init [.ref (tz S32), .int 65] S33 (fun r S34 => r = none ∧ te S34 a0 = some (.inr 10) ∧ ∀ S36 : TS, S36 = sR S34 a0 (va_up (tR S34 a0) 10 (some (tz S32))) → ∀ S37 : TS, S37 = sN S36 (.inr 0) 2 → CT G J_Bytes_init [.ref (tz S36), .int 200] S37 (fun r S38 => r = none ∧ te S38 a0 = some (.inr 10) ∧ ∀ S40 : TS, S40 = sR S38 a0 (va_up (tR S38 a0) 11 (some (tz S36))) → ∀ S41 : TS, S41 = sN S40 (.inr 0) 2 → CT G J_Bytes_init [.ref (tz S40), .int 32] S41 (fun r S42 => r = none ∧ te S42 a0 = some (.inr 10) ∧ ∀ S44 : TS, S44 = sR S42 a0 (va_up (tR S42 a0) 12 (some (tz S40))) → ∀ S45 : TS, S45 = sN S44 (.inr 0) 2 → CT G J_Bytes_init [.ref (tz S44), .int 65] S45 (fun r S46 => r = none ∧ te S46 a0 = some (.inr 10) ∧ ∀ S48 : TS, S48 = sR S46 a0 (va_up (tR S46 a0) 13 (some (tz S44))) → ∀ S49 : TS, S49 = sN S48 (.inr 0) 2 → CT G J_Bytes_init [.ref (tz S48), .int 32] S49 (fun r S50 => r = none ∧ te S50 a0 = some (.inr 10) ∧ ∀ S52 : TS, S52 = sR S50 a0 (va_up (tR S50 a0) 14 (some (tz S48))) → ∀ S53 : TS, S53 = sN S52 (.inr 6) 13 → CT G J_Side_init [.ref (tz S52), .int 0, .int x1] S53 (fun r S54 => r = none ∧ te S54 a0 = some (.inr 10) ∧ ∀ S56 : TS, S56 = sR S54 a0 (va_up (tR S54 a0) 4 (some (tz S52))) → ∀ S57 : TS, S57 = sN S56 (.inr 6) 13 → CT G J_Side_init [.ref (tz S56), .int 1, .int x1] S57 (fun r S58 => r = none ∧ te S58 a0 = some (.inr 10) ∧ ∀ S60 : TS, S60 = sR S58 a0 (va_up (tR S58 a0) 5 (some (tz S56))) → te S60 a0 = some (.inr 10) ∧ ∃ b62 : Nat, tR S60 a0 2 = some b62 ∧ te S60 b62 = some (.inr 0) ∧ C0 G J_Bytes_put [.ref b62, .int 110] S60 (fun r S65 => r = none ∧ Q none S65))))))))))))))))) :
    CT G J_S_init [.ref a0, .int x1] S Q := by
  refine ct_of (by decide +kernel) (Nat.le_of_ble_eq_true rfl) (lv := [(0, .ref a0), (1, .int x1)]) rfl ?_
  refine tt_aload_n (k0 := 0) (by decide +kernel) rfl ?_
  refine tt_objInit (by decide +kernel) w_20 w_21 w_22 (by decide) (Nat.le_of_ble_eq_true rfl) ?_
  refine tt_aload_n (k0 := 0) (by decide +kernel) rfl ?_
  refine tt_new (by decide +kernel) KC_0 w_23 w_24 w_2 OK_0 ?_
  generalize eS1 : sN S (.inr 0) 2 = S1
  have h := h S1 eS1.symm
  refine tt_dup (by decide +kernel) rfl ?_
  refine tt_sipush (n := 200) (v := 200) (by decide +kernel) (by decide) ?_
  refine tt_callI (As := [.int 200]) (rest := [.ref (tz S), .ref a0]) (by decide +kernel) LK_Bytes_init rfl w_25 w_26 rfl (by decide) (by decide) rfl rfl (Nat.le_of_ble_eq_true rfl) (ct_mono h (fun r S2 h => ?_))
  obtain ⟨rfl, h⟩ := h
  show T G J_S_init 15 [(0, .ref a0), (1, .int x1)] [.ref (tz S), .ref a0] S2 _
  obtain ⟨f3, h⟩ := h
  refine tt_putFR (k := 0) (by decide +kernel) KC_10 (by decide) w_242 rfl rfl rfl (Or.inl ⟨_, rfl⟩) f3 ?_
  generalize eS4 : sR S2 a0 (va_up (tR S2 a0) 0 (some (tz S))) = S4
  have h := h S4 eS4.symm
  refine tt_aload_n (k0 := 0) (by decide +kernel) rfl ?_
  refine tt_new (by decide +kernel) KC_0 w_23 w_24 w_2 OK_0 ?_
  generalize eS5 : sN S4 (.inr 0) 2 = S5
  have h := h S5 eS5.symm
  refine tt_dup (by decide +kernel) rfl ?_
  refine tt_bipush (n := 65) (v := 65) (by decide +kernel) (by decide) ?_
  refine tt_callI (As := [.int 65]) (rest := [.ref (tz S4), .ref a0]) (by decide +kernel) LK_Bytes_init rfl w_25 w_26 rfl (by decide) (by decide) rfl rfl (Nat.le_of_ble_eq_true rfl) (ct_mono h (fun r S6 h => ?_))
  obtain ⟨rfl, h⟩ := h
  show T G J_S_init 28 [(0, .ref a0), (1, .int x1)] [.ref (tz S4), .ref a0] S6 _
  obtain ⟨f7, h⟩ := h
  refine tt_putFR (k := 1) (by decide +kernel) KC_10 (by decide) w_243 rfl rfl rfl (Or.inl ⟨_, rfl⟩) f7 ?_
  generalize eS8 : sR S6 a0 (va_up (tR S6 a0) 1 (some (tz S4))) = S8
  have h := h S8 eS8.symm
  refine tt_aload_n (k0 := 0) (by decide +kernel) rfl ?_
  refine tt_new (by decide +kernel) KC_0 w_23 w_24 w_2 OK_0 ?_
  generalize eS9 : sN S8 (.inr 0) 2 = S9
  have h := h S9 eS9.symm
  refine tt_dup (by decide +kernel) rfl ?_
  refine tt_bipush (n := 16) (v := 16) (by decide +kernel) (by decide) ?_
  refine tt_callI (As := [.int 16]) (rest := [.ref (tz S8), .ref a0]) (by decide +kernel) LK_Bytes_init rfl w_25 w_26 rfl (by decide) (by decide) rfl rfl (Nat.le_of_ble_eq_true rfl) (ct_mono h (fun r S10 h => ?_))
  obtain ⟨rfl, h⟩ := h
  show T G J_S_init 41 [(0, .ref a0), (1, .int x1)] [.ref (tz S8), .ref a0] S10 _
  obtain ⟨f11, h⟩ := h
  refine tt_putFR (k := 2) (by decide +kernel) KC_10 (by decide) w_244 rfl rfl rfl (Or.inl ⟨_, rfl⟩) f11 ?_
  generalize eS12 : sR S10 a0 (va_up (tR S10 a0) 2 (some (tz S8))) = S12
  have h := h S12 eS12.symm
  refine tt_aload_n (k0 := 0) (by decide +kernel) rfl ?_
  refine tt_new (by decide +kernel) KC_5 w_37 w_38 w_3 OK_5 ?_
  generalize eS13 : sN S12 (.inr 5) 3 = S13
  have h := h S13 eS13.symm
  refine tt_dup (by decide +kernel) rfl ?_
  refine tt_callIN (idx := 26) (host := "SealedWire") (As := []) (rest := [.ref (tz S12), .ref a0]) (by decide +kernel) LK_Sealer_init rfl (by simp [pNest]) w_40 rfl (by decide) (by decide) rfl rfl (Nat.le_of_ble_eq_true rfl) (ct_mono h (fun r S14 h => ?_))
  obtain ⟨rfl, h⟩ := h
  show T G J_S_init 52 [(0, .ref a0), (1, .int x1)] [.ref (tz S12), .ref a0] S14 _
  obtain ⟨f15, h⟩ := h
  refine tt_putFR (k := 3) (by decide +kernel) KC_10 (by decide) w_245 rfl rfl rfl (Or.inl ⟨_, rfl⟩) f15 ?_
  generalize eS16 : sR S14 a0 (va_up (tR S14 a0) 3 (some (tz S12))) = S16
  have h := h S16 eS16.symm
  refine tt_aload_n (k0 := 0) (by decide +kernel) rfl ?_
  refine tt_new (by decide +kernel) KC_9 w_93 w_94 w_6 OK_9 ?_
  generalize eS17 : sN S16 (.inr 9) 2 = S17
  have h := h S17 eS17.symm
  refine tt_dup (by decide +kernel) rfl ?_
  refine tt_callI (As := []) (rest := [.ref (tz S16), .ref a0]) (by decide +kernel) LK_Wire_init rfl w_95 w_96 rfl (by decide) (by decide) rfl rfl (Nat.le_of_ble_eq_true rfl) (ct_mono h (fun r S18 h => ?_))
  obtain ⟨rfl, h⟩ := h
  show T G J_S_init 63 [(0, .ref a0), (1, .int x1)] [.ref (tz S16), .ref a0] S18 _
  obtain ⟨f19, h⟩ := h
  refine tt_putFR (k := 6) (by decide +kernel) KC_10 (by decide) w_248 rfl rfl rfl (Or.inl ⟨_, rfl⟩) f19 ?_
  generalize eS20 : sR S18 a0 (va_up (tR S18 a0) 6 (some (tz S16))) = S20
  have h := h S20 eS20.symm
  refine tt_aload_n (k0 := 0) (by decide +kernel) rfl ?_
  refine tt_new (by decide +kernel) KC_9 w_93 w_94 w_6 OK_9 ?_
  generalize eS21 : sN S20 (.inr 9) 2 = S21
  have h := h S21 eS21.symm
  refine tt_dup (by decide +kernel) rfl ?_
  refine tt_callI (As := []) (rest := [.ref (tz S20), .ref a0]) (by decide +kernel) LK_Wire_init rfl w_95 w_96 rfl (by decide) (by decide) rfl rfl (Nat.le_of_ble_eq_true rfl) (ct_mono h (fun r S22 h => ?_))
  obtain ⟨rfl, h⟩ := h
  show T G J_S_init 74 [(0, .ref a0), (1, .int x1)] [.ref (tz S20), .ref a0] S22 _
  obtain ⟨f23, h⟩ := h
  refine tt_putFR (k := 7) (by decide +kernel) KC_10 (by decide) w_249 rfl rfl rfl (Or.inl ⟨_, rfl⟩) f23 ?_
  generalize eS24 : sR S22 a0 (va_up (tR S22 a0) 7 (some (tz S20))) = S24
  have h := h S24 eS24.symm
  refine tt_aload_n (k0 := 0) (by decide +kernel) rfl ?_
  refine tt_new (by decide +kernel) KC_7 w_109 w_110 w_7 OK_7 ?_
  generalize eS25 : sN S24 (.inr 7) 3 = S25
  have h := h S25 eS25.symm
  refine tt_dup (by decide +kernel) rfl ?_
  refine tt_callI (As := []) (rest := [.ref (tz S24), .ref a0]) (by decide +kernel) LK_Store_init rfl w_111 w_112 rfl (by decide) (by decide) rfl rfl (Nat.le_of_ble_eq_true rfl) (ct_mono h (fun r S26 h => ?_))
  obtain ⟨rfl, h⟩ := h
  show T G J_S_init 85 [(0, .ref a0), (1, .int x1)] [.ref (tz S24), .ref a0] S26 _
  obtain ⟨f27, h⟩ := h
  refine tt_putFR (k := 8) (by decide +kernel) KC_10 (by decide) w_250 rfl rfl rfl (Or.inl ⟨_, rfl⟩) f27 ?_
  generalize eS28 : sR S26 a0 (va_up (tR S26 a0) 8 (some (tz S24))) = S28
  have h := h S28 eS28.symm
  refine tt_aload_n (k0 := 0) (by decide +kernel) rfl ?_
  refine tt_new (by decide +kernel) KC_4 w_127 w_128 w_8 OK_4 ?_
  generalize eS29 : sN S28 (.inr 4) 3 = S29
  have h := h S29 eS29.symm
  refine tt_dup (by decide +kernel) rfl ?_
  refine tt_callIN (idx := 50) (host := "SealedWire") (As := []) (rest := [.ref (tz S28), .ref a0]) (by decide +kernel) LK_Request_init rfl (by simp [pNest]) w_130 rfl (by decide) (by decide) rfl rfl (Nat.le_of_ble_eq_true rfl) (ct_mono h (fun r S30 h => ?_))
  obtain ⟨rfl, h⟩ := h
  show T G J_S_init 96 [(0, .ref a0), (1, .int x1)] [.ref (tz S28), .ref a0] S30 _
  obtain ⟨f31, h⟩ := h
  refine tt_putFR (k := 9) (by decide +kernel) KC_10 (by decide) w_251 rfl rfl rfl (Or.inl ⟨_, rfl⟩) f31 ?_
  generalize eS32 : sR S30 a0 (va_up (tR S30 a0) 9 (some (tz S28))) = S32
  have h := h S32 eS32.symm
  refine tt_aload_n (k0 := 0) (by decide +kernel) rfl ?_
  refine tt_new (by decide +kernel) KC_0 w_23 w_24 w_2 OK_0 ?_
  generalize eS33 : sN S32 (.inr 0) 2 = S33
  have h := h S33 eS33.symm
  refine tt_dup (by decide +kernel) rfl ?_
  refine tt_bipush (n := 65) (v := 65) (by decide +kernel) (by decide) ?_
  refine tt_callI (As := [.int 65]) (rest := [.ref (tz S32), .ref a0]) (by decide +kernel) LK_Bytes_init rfl w_25 w_26 rfl (by decide) (by decide) rfl rfl (Nat.le_of_ble_eq_true rfl) (ct_mono h (fun r S34 h => ?_))
  obtain ⟨rfl, h⟩ := h
  show T G J_S_init 109 [(0, .ref a0), (1, .int x1)] [.ref (tz S32), .ref a0] S34 _
  obtain ⟨f35, h⟩ := h
  refine tt_putFR (k := 10) (by decide +kernel) KC_10 (by decide) w_252 rfl rfl rfl (Or.inl ⟨_, rfl⟩) f35 ?_
  generalize eS36 : sR S34 a0 (va_up (tR S34 a0) 10 (some (tz S32))) = S36
  have h := h S36 eS36.symm
  refine tt_aload_n (k0 := 0) (by decide +kernel) rfl ?_
  refine tt_new (by decide +kernel) KC_0 w_23 w_24 w_2 OK_0 ?_
  generalize eS37 : sN S36 (.inr 0) 2 = S37
  have h := h S37 eS37.symm
  refine tt_dup (by decide +kernel) rfl ?_
  refine tt_sipush (n := 200) (v := 200) (by decide +kernel) (by decide) ?_
  refine tt_callI (As := [.int 200]) (rest := [.ref (tz S36), .ref a0]) (by decide +kernel) LK_Bytes_init rfl w_25 w_26 rfl (by decide) (by decide) rfl rfl (Nat.le_of_ble_eq_true rfl) (ct_mono h (fun r S38 h => ?_))
  obtain ⟨rfl, h⟩ := h
  show T G J_S_init 123 [(0, .ref a0), (1, .int x1)] [.ref (tz S36), .ref a0] S38 _
  obtain ⟨f39, h⟩ := h
  refine tt_putFR (k := 11) (by decide +kernel) KC_10 (by decide) w_253 rfl rfl rfl (Or.inl ⟨_, rfl⟩) f39 ?_
  generalize eS40 : sR S38 a0 (va_up (tR S38 a0) 11 (some (tz S36))) = S40
  have h := h S40 eS40.symm
  refine tt_aload_n (k0 := 0) (by decide +kernel) rfl ?_
  refine tt_new (by decide +kernel) KC_0 w_23 w_24 w_2 OK_0 ?_
  generalize eS41 : sN S40 (.inr 0) 2 = S41
  have h := h S41 eS41.symm
  refine tt_dup (by decide +kernel) rfl ?_
  refine tt_bipush (n := 32) (v := 32) (by decide +kernel) (by decide) ?_
  refine tt_callI (As := [.int 32]) (rest := [.ref (tz S40), .ref a0]) (by decide +kernel) LK_Bytes_init rfl w_25 w_26 rfl (by decide) (by decide) rfl rfl (Nat.le_of_ble_eq_true rfl) (ct_mono h (fun r S42 h => ?_))
  obtain ⟨rfl, h⟩ := h
  show T G J_S_init 136 [(0, .ref a0), (1, .int x1)] [.ref (tz S40), .ref a0] S42 _
  obtain ⟨f43, h⟩ := h
  refine tt_putFR (k := 12) (by decide +kernel) KC_10 (by decide) w_254 rfl rfl rfl (Or.inl ⟨_, rfl⟩) f43 ?_
  generalize eS44 : sR S42 a0 (va_up (tR S42 a0) 12 (some (tz S40))) = S44
  have h := h S44 eS44.symm
  refine tt_aload_n (k0 := 0) (by decide +kernel) rfl ?_
  refine tt_new (by decide +kernel) KC_0 w_23 w_24 w_2 OK_0 ?_
  generalize eS45 : sN S44 (.inr 0) 2 = S45
  have h := h S45 eS45.symm
  refine tt_dup (by decide +kernel) rfl ?_
  refine tt_bipush (n := 65) (v := 65) (by decide +kernel) (by decide) ?_
  refine tt_callI (As := [.int 65]) (rest := [.ref (tz S44), .ref a0]) (by decide +kernel) LK_Bytes_init rfl w_25 w_26 rfl (by decide) (by decide) rfl rfl (Nat.le_of_ble_eq_true rfl) (ct_mono h (fun r S46 h => ?_))
  obtain ⟨rfl, h⟩ := h
  show T G J_S_init 149 [(0, .ref a0), (1, .int x1)] [.ref (tz S44), .ref a0] S46 _
  obtain ⟨f47, h⟩ := h
  refine tt_putFR (k := 13) (by decide +kernel) KC_10 (by decide) w_255 rfl rfl rfl (Or.inl ⟨_, rfl⟩) f47 ?_
  generalize eS48 : sR S46 a0 (va_up (tR S46 a0) 13 (some (tz S44))) = S48
  have h := h S48 eS48.symm
  refine tt_aload_n (k0 := 0) (by decide +kernel) rfl ?_
  refine tt_new (by decide +kernel) KC_0 w_23 w_24 w_2 OK_0 ?_
  generalize eS49 : sN S48 (.inr 0) 2 = S49
  have h := h S49 eS49.symm
  refine tt_dup (by decide +kernel) rfl ?_
  refine tt_bipush (n := 32) (v := 32) (by decide +kernel) (by decide) ?_
  refine tt_callI (As := [.int 32]) (rest := [.ref (tz S48), .ref a0]) (by decide +kernel) LK_Bytes_init rfl w_25 w_26 rfl (by decide) (by decide) rfl rfl (Nat.le_of_ble_eq_true rfl) (ct_mono h (fun r S50 h => ?_))
  obtain ⟨rfl, h⟩ := h
  show T G J_S_init 162 [(0, .ref a0), (1, .int x1)] [.ref (tz S48), .ref a0] S50 _
  obtain ⟨f51, h⟩ := h
  refine tt_putFR (k := 14) (by decide +kernel) KC_10 (by decide) w_256 rfl rfl rfl (Or.inl ⟨_, rfl⟩) f51 ?_
  generalize eS52 : sR S50 a0 (va_up (tR S50 a0) 14 (some (tz S48))) = S52
  have h := h S52 eS52.symm
  refine tt_aload_n (k0 := 0) (by decide +kernel) rfl ?_
  refine tt_new (by decide +kernel) KC_6 w_145 w_146 w_9 OK_6 ?_
  generalize eS53 : sN S52 (.inr 6) 13 = S53
  have h := h S53 eS53.symm
  refine tt_dup (by decide +kernel) rfl ?_
  refine tt_iconst (n := 0) (v := 0) (by decide +kernel) (by decide) ?_
  refine tt_iload_n (k0 := 1) (by decide +kernel) rfl ?_
  refine tt_callI (As := [.int 0, .int x1]) (rest := [.ref (tz S52), .ref a0]) (by decide +kernel) LK_Side_init rfl w_147 w_148 rfl (by decide) (by decide) rfl rfl (Nat.le_of_ble_eq_true rfl) (ct_mono h (fun r S54 h => ?_))
  obtain ⟨rfl, h⟩ := h
  show T G J_S_init 175 [(0, .ref a0), (1, .int x1)] [.ref (tz S52), .ref a0] S54 _
  obtain ⟨f55, h⟩ := h
  refine tt_putFR (k := 4) (by decide +kernel) KC_10 (by decide) w_246 rfl rfl rfl (Or.inl ⟨_, rfl⟩) f55 ?_
  generalize eS56 : sR S54 a0 (va_up (tR S54 a0) 4 (some (tz S52))) = S56
  have h := h S56 eS56.symm
  refine tt_aload_n (k0 := 0) (by decide +kernel) rfl ?_
  refine tt_new (by decide +kernel) KC_6 w_145 w_146 w_9 OK_6 ?_
  generalize eS57 : sN S56 (.inr 6) 13 = S57
  have h := h S57 eS57.symm
  refine tt_dup (by decide +kernel) rfl ?_
  refine tt_iconst (n := 1) (v := 1) (by decide +kernel) (by decide) ?_
  refine tt_iload_n (k0 := 1) (by decide +kernel) rfl ?_
  refine tt_callI (As := [.int 1, .int x1]) (rest := [.ref (tz S56), .ref a0]) (by decide +kernel) LK_Side_init rfl w_147 w_148 rfl (by decide) (by decide) rfl rfl (Nat.le_of_ble_eq_true rfl) (ct_mono h (fun r S58 h => ?_))
  obtain ⟨rfl, h⟩ := h
  show T G J_S_init 188 [(0, .ref a0), (1, .int x1)] [.ref (tz S56), .ref a0] S58 _
  obtain ⟨f59, h⟩ := h
  refine tt_putFR (k := 5) (by decide +kernel) KC_10 (by decide) w_247 rfl rfl rfl (Or.inl ⟨_, rfl⟩) f59 ?_
  generalize eS60 : sR S58 a0 (va_up (tR S58 a0) 5 (some (tz S56))) = S60
  have h := h S60 eS60.symm
  refine tt_aload_n (k0 := 0) (by decide +kernel) rfl ?_
  obtain ⟨f61, h⟩ := h
  obtain ⟨b62, f63, h⟩ := h
  refine tt_getR (k := 2) (by decide +kernel) KC_10 (by decide) w_244 (fun _ => rfl) f61 f63 ?_
  refine tt_bipush (n := 110) (v := 110) (by decide +kernel) (by decide) ?_
  obtain ⟨f64, h⟩ := h
  refine tt_callV (As := [.int 110]) (rest := []) (ci := 0) (r0 := (R_0, F_0, 2)) (by decide +kernel) LK_Bytes_put w_238 w_239 w_240 (by decide) (by decide) rfl rfl (Nat.le_of_ble_eq_true rfl) rfl rfl f64 (ct_mono h (fun r S65 h => ?_))
  obtain ⟨hm2, h⟩ := h
  obtain ⟨rfl, h⟩ := h
  show T G J_S_init 200 [(0, .ref a0), (1, .int x1)] [] S65 _
  exact tt_vret (by decide +kernel) rfl h
set_option maxRecDepth 100000 in
theorem v_S_feed {G : pG} (a0 : Nat) (x1 : Int32) (x2 : Int32) (x3 : Int32) (x4 : Int32) (x5 : Int32) (S : TS) (Q : Option Value → TS → Prop)
    (h : te S a0 = some (.inr 10) ∧ ∃ b2 : Nat, tR S a0 0 = some b2 ∧ te S b2 = some (.inr 0) ∧ CP G J_Bytes_size [.ref b2] S (fun r => ∃ r5 : Int32, r = some (.int r5) ∧ ((r5 + (20 : Int32) ≤ 200 → C0 G J_Bytes_putNumber [.ref b2, .int x1] S (fun r S6 => r = none ∧ C0 G J_Bytes_putNumber [.ref b2, .int x2] S6 (fun r S7 => r = none ∧ C0 G J_Bytes_putNumber [.ref b2, .int x3] S7 (fun r S8 => r = none ∧ C0 G J_Bytes_putNumber [.ref b2, .int x4] S8 (fun r S9 => r = none ∧ C0 G J_Bytes_putNumber [.ref b2, .int x5] S9 (fun r S10 => r = none ∧ CP G J_Bytes_size [.ref b2] S10 (fun r => ∃ r11 : Int32, r = some (.int r11) ∧ Q (some (.int r11)) S10))))))) ∧ (¬ (r5 + (20 : Int32) ≤ 200) → Q (some (.int ((-3)))) S)))) :
    C0 G J_S_feed [.ref a0, .int x1, .int x2, .int x3, .int x4, .int x5] S Q := by
  unfold C0
  refine ct_of (by decide +kernel) (Nat.le_of_ble_eq_true rfl) (lv := [(0, .ref a0), (1, .int x1), (2, .int x2), (3, .int x3), (4, .int x4), (5, .int x5)]) rfl ?_
  have hm : Sm0 S S := Sm0.rf S
  refine tt_aload_n (k0 := 0) (by decide +kernel) rfl ?_
  obtain ⟨f1, h⟩ := h
  obtain ⟨b2, f3, h⟩ := h
  refine tt_getR (k := 0) (by decide +kernel) KC_10 (by decide) w_242 (fun _ => rfl) f1 f3 ?_
  obtain ⟨f4, h⟩ := h
  refine tt_callV (As := []) (rest := []) (ci := 0) (r0 := (R_0, F_0, 2)) (by decide +kernel) LK_Bytes_size w_298 w_299 w_300 (by decide) (by decide) rfl rfl (Nat.le_of_ble_eq_true rfl) rfl rfl f4 (ct_mono h (fun r Sb h => ?_))
  obtain ⟨eb, h⟩ := h
  obtain ⟨r5, rfl, h⟩ := h
  rw [eb]
  show T G J_S_feed 7 [(0, .ref a0), (1, .int x1), (2, .int x2), (3, .int x3), (4, .int x4), (5, .int x5)] [.int r5] S _
  refine tt_bipush (n := 20) (v := 20) (by decide +kernel) (by decide) ?_
  refine tt_iadd (by decide +kernel) ?_
  refine tt_sipush (n := 200) (v := 200) (by decide +kernel) (by decide) ?_
  refine tt_icmp_le (off := 6) 19 (by decide +kernel) (by decide) (fun c => ?_) (fun c => ?_)
  · have h := h.1 c
    refine tt_aload_n (k0 := 0) (by decide +kernel) rfl ?_
    refine tt_getR (k := 0) (by decide +kernel) KC_10 (by decide) w_242 (fun _ => rfl) f1 f3 ?_
    refine tt_iload_n (k0 := 1) (by decide +kernel) rfl ?_
    refine tt_callV (As := [.int x1]) (rest := []) (ci := 0) (r0 := (R_0, F_0, 2)) (by decide +kernel) LK_Bytes_putNumber w_302 w_303 w_304 (by decide) (by decide) rfl rfl (Nat.le_of_ble_eq_true rfl) rfl rfl f4 (ct_mono h (fun r S6 h => ?_))
    obtain ⟨hm2, h⟩ := h
    obtain ⟨rfl, h⟩ := h
    show T G J_S_feed 27 [(0, .ref a0), (1, .int x1), (2, .int x2), (3, .int x3), (4, .int x4), (5, .int x5)] [] S6 _
    have hm := hm.tr hm2
    have f1 : te S6 a0 = some (.inr 10) := by rw [hm2.1]; exact f1
    have f3 : tR S6 a0 0 = some b2 := by rw [hm2.R]; exact f3
    have f4 : te S6 b2 = some (.inr 0) := by rw [hm2.1]; exact f4
    refine tt_aload_n (k0 := 0) (by decide +kernel) rfl ?_
    refine tt_getR (k := 0) (by decide +kernel) KC_10 (by decide) w_242 (fun _ => rfl) f1 f3 ?_
    refine tt_iload_n (k0 := 2) (by decide +kernel) rfl ?_
    refine tt_callV (As := [.int x2]) (rest := []) (ci := 0) (r0 := (R_0, F_0, 2)) (by decide +kernel) LK_Bytes_putNumber w_302 w_303 w_304 (by decide) (by decide) rfl rfl (Nat.le_of_ble_eq_true rfl) rfl rfl f4 (ct_mono h (fun r S7 h => ?_))
    obtain ⟨hm2, h⟩ := h
    obtain ⟨rfl, h⟩ := h
    show T G J_S_feed 35 [(0, .ref a0), (1, .int x1), (2, .int x2), (3, .int x3), (4, .int x4), (5, .int x5)] [] S7 _
    have hm := hm.tr hm2
    have f1 : te S7 a0 = some (.inr 10) := by rw [hm2.1]; exact f1
    have f3 : tR S7 a0 0 = some b2 := by rw [hm2.R]; exact f3
    have f4 : te S7 b2 = some (.inr 0) := by rw [hm2.1]; exact f4
    refine tt_aload_n (k0 := 0) (by decide +kernel) rfl ?_
    refine tt_getR (k := 0) (by decide +kernel) KC_10 (by decide) w_242 (fun _ => rfl) f1 f3 ?_
    refine tt_iload_n (k0 := 3) (by decide +kernel) rfl ?_
    refine tt_callV (As := [.int x3]) (rest := []) (ci := 0) (r0 := (R_0, F_0, 2)) (by decide +kernel) LK_Bytes_putNumber w_302 w_303 w_304 (by decide) (by decide) rfl rfl (Nat.le_of_ble_eq_true rfl) rfl rfl f4 (ct_mono h (fun r S8 h => ?_))
    obtain ⟨hm2, h⟩ := h
    obtain ⟨rfl, h⟩ := h
    show T G J_S_feed 43 [(0, .ref a0), (1, .int x1), (2, .int x2), (3, .int x3), (4, .int x4), (5, .int x5)] [] S8 _
    have hm := hm.tr hm2
    have f1 : te S8 a0 = some (.inr 10) := by rw [hm2.1]; exact f1
    have f3 : tR S8 a0 0 = some b2 := by rw [hm2.R]; exact f3
    have f4 : te S8 b2 = some (.inr 0) := by rw [hm2.1]; exact f4
    refine tt_aload_n (k0 := 0) (by decide +kernel) rfl ?_
    refine tt_getR (k := 0) (by decide +kernel) KC_10 (by decide) w_242 (fun _ => rfl) f1 f3 ?_
    refine tt_iload (k0 := 4) (by decide +kernel) rfl ?_
    refine tt_callV (As := [.int x4]) (rest := []) (ci := 0) (r0 := (R_0, F_0, 2)) (by decide +kernel) LK_Bytes_putNumber w_302 w_303 w_304 (by decide) (by decide) rfl rfl (Nat.le_of_ble_eq_true rfl) rfl rfl f4 (ct_mono h (fun r S9 h => ?_))
    obtain ⟨hm2, h⟩ := h
    obtain ⟨rfl, h⟩ := h
    show T G J_S_feed 52 [(0, .ref a0), (1, .int x1), (2, .int x2), (3, .int x3), (4, .int x4), (5, .int x5)] [] S9 _
    have hm := hm.tr hm2
    have f1 : te S9 a0 = some (.inr 10) := by rw [hm2.1]; exact f1
    have f3 : tR S9 a0 0 = some b2 := by rw [hm2.R]; exact f3
    have f4 : te S9 b2 = some (.inr 0) := by rw [hm2.1]; exact f4
    refine tt_aload_n (k0 := 0) (by decide +kernel) rfl ?_
    refine tt_getR (k := 0) (by decide +kernel) KC_10 (by decide) w_242 (fun _ => rfl) f1 f3 ?_
    refine tt_iload (k0 := 5) (by decide +kernel) rfl ?_
    refine tt_callV (As := [.int x5]) (rest := []) (ci := 0) (r0 := (R_0, F_0, 2)) (by decide +kernel) LK_Bytes_putNumber w_302 w_303 w_304 (by decide) (by decide) rfl rfl (Nat.le_of_ble_eq_true rfl) rfl rfl f4 (ct_mono h (fun r S10 h => ?_))
    obtain ⟨hm2, h⟩ := h
    obtain ⟨rfl, h⟩ := h
    show T G J_S_feed 61 [(0, .ref a0), (1, .int x1), (2, .int x2), (3, .int x3), (4, .int x4), (5, .int x5)] [] S10 _
    have hm := hm.tr hm2
    have f1 : te S10 a0 = some (.inr 10) := by rw [hm2.1]; exact f1
    have f3 : tR S10 a0 0 = some b2 := by rw [hm2.R]; exact f3
    have f4 : te S10 b2 = some (.inr 0) := by rw [hm2.1]; exact f4
    refine tt_aload_n (k0 := 0) (by decide +kernel) rfl ?_
    refine tt_getR (k := 0) (by decide +kernel) KC_10 (by decide) w_242 (fun _ => rfl) f1 f3 ?_
    refine tt_callV (As := []) (rest := []) (ci := 0) (r0 := (R_0, F_0, 2)) (by decide +kernel) LK_Bytes_size w_298 w_299 w_300 (by decide) (by decide) rfl rfl (Nat.le_of_ble_eq_true rfl) rfl rfl f4 (ct_mono h (fun r Sb h => ?_))
    obtain ⟨eb, h⟩ := h
    obtain ⟨r11, rfl, h⟩ := h
    rw [eb]
    show T G J_S_feed 68 [(0, .ref a0), (1, .int x1), (2, .int x2), (3, .int x3), (4, .int x4), (5, .int x5)] [.int r11] S10 _
    exact tt_iret (by decide +kernel) rfl ⟨hm, h⟩
  · have h := h.2 c
    refine tt_bipush (n := -3) (v := -3) (by decide +kernel) (by decide) ?_
    exact tt_iret (by decide +kernel) rfl ⟨hm, h⟩
set_option maxRecDepth 100000 in
theorem v_S_end {G : pG} (a0 : Nat) (x1 : Int32) (S : TS) (Q : Option Value → TS → Prop)
    (h : ((x1 < 0 → Q (some (.int ((-1)))) S) ∧ (¬ (x1 < 0) → te S a0 = some (.inr 10) ∧ ∃ b2 : Nat, tR S a0 0 = some b2 ∧ te S b2 = some (.inr 0) ∧ CP G J_Bytes_size [.ref b2] S (fun r => ∃ r5 : Int32, r = some (.int r5) ∧ ((x1 ≤ r5 → C0 G J_Bytes_cut [.ref b2, .int x1] S (fun r S6 => r = none ∧ Q (some (.int x1)) S6)) ∧ (¬ (x1 ≤ r5) → Q (some (.int ((-1)))) S)))))) :
    C0 G J_S_end [.ref a0, .int x1] S Q := by
  unfold C0
  refine ct_of (by decide +kernel) (Nat.le_of_ble_eq_true rfl) (lv := [(0, .ref a0), (1, .int x1)]) rfl ?_
  have hm : Sm0 S S := Sm0.rf S
  refine tt_iload_n (k0 := 1) (by decide +kernel) rfl ?_
  refine tt_if_lt (off := 14) 15 (by decide +kernel) (by decide) (fun c => ?_) (fun c => ?_)
  · have h := h.1 c
    refine tt_iconst (n := -1) (v := -1) (by decide +kernel) (by decide) ?_
    exact tt_iret (by decide +kernel) rfl ⟨hm, h⟩
  · have h := h.2 c
    refine tt_iload_n (k0 := 1) (by decide +kernel) rfl ?_
    refine tt_aload_n (k0 := 0) (by decide +kernel) rfl ?_
    obtain ⟨f1, h⟩ := h
    obtain ⟨b2, f3, h⟩ := h
    refine tt_getR (k := 0) (by decide +kernel) KC_10 (by decide) w_242 (fun _ => rfl) f1 f3 ?_
    obtain ⟨f4, h⟩ := h
    refine tt_callV (As := []) (rest := [.int x1]) (ci := 0) (r0 := (R_0, F_0, 2)) (by decide +kernel) LK_Bytes_size w_298 w_299 w_300 (by decide) (by decide) rfl rfl (Nat.le_of_ble_eq_true rfl) rfl rfl f4 (ct_mono h (fun r Sb h => ?_))
    obtain ⟨eb, h⟩ := h
    obtain ⟨r5, rfl, h⟩ := h
    rw [eb]
    show T G J_S_end 12 [(0, .ref a0), (1, .int x1)] [.int r5, .int x1] S _
    refine tt_icmp_le (off := 5) 17 (by decide +kernel) (by decide) (fun c => ?_) (fun c => ?_)
    · have h := h.1 c
      refine tt_aload_n (k0 := 0) (by decide +kernel) rfl ?_
      refine tt_getR (k := 0) (by decide +kernel) KC_10 (by decide) w_242 (fun _ => rfl) f1 f3 ?_
      refine tt_iload_n (k0 := 1) (by decide +kernel) rfl ?_
      refine tt_callV (As := [.int x1]) (rest := []) (ci := 0) (r0 := (R_0, F_0, 2)) (by decide +kernel) LK_Bytes_cut w_311 w_312 w_313 (by decide) (by decide) rfl rfl (Nat.le_of_ble_eq_true rfl) rfl rfl f4 (ct_mono h (fun r S6 h => ?_))
      obtain ⟨hm2, h⟩ := h
      obtain ⟨rfl, h⟩ := h
      show T G J_S_end 25 [(0, .ref a0), (1, .int x1)] [] S6 _
      have hm := hm.tr hm2
      have f1 : te S6 a0 = some (.inr 10) := by rw [hm2.1]; exact f1
      have f3 : tR S6 a0 0 = some b2 := by rw [hm2.R]; exact f3
      have f4 : te S6 b2 = some (.inr 0) := by rw [hm2.1]; exact f4
      refine tt_iload_n (k0 := 1) (by decide +kernel) rfl ?_
      exact tt_iret (by decide +kernel) rfl ⟨hm, h⟩
    · have h := h.2 c
      refine tt_iconst (n := -1) (v := -1) (by decide +kernel) (by decide) ?_
      exact tt_iret (by decide +kernel) rfl ⟨hm, h⟩
set_option maxRecDepth 100000 in
theorem v_S_octet {G : pG} (a0 : Nat) (x1 : Int32) (S : TS) (Q : Option Value → Prop)
    (h : te S a0 = some (.inr 10) ∧ ∃ b2 : Nat, tR S a0 1 = some b2 ∧ CP G J_S_byteOrSize [.ref b2, .int x1] S (fun r => ∃ r4 : Int32, r = some (.int r4) ∧ Q (some (.int r4)))) :
    CP G J_S_octet [.ref a0, .int x1] S Q := by
  unfold CP
  refine ct_of (by decide +kernel) (Nat.le_of_ble_eq_true rfl) (lv := [(0, .ref a0), (1, .int x1)]) rfl ?_
  refine tt_aload_n (k0 := 0) (by decide +kernel) rfl ?_
  obtain ⟨f1, h⟩ := h
  obtain ⟨b2, f3, h⟩ := h
  refine tt_getR (k := 1) (by decide +kernel) KC_10 (by decide) w_243 (fun _ => rfl) f1 f3 ?_
  refine tt_iload_n (k0 := 1) (by decide +kernel) rfl ?_
  refine tt_callS (As := [.ref b2, .int x1]) (rest := []) (by decide +kernel) LK_S_byteOrSize w_319 w_320 (by decide) (by decide) rfl rfl (Nat.le_of_ble_eq_true rfl) (ct_mono h (fun r Sb h => ?_))
  obtain ⟨eb, h⟩ := h
  obtain ⟨r4, rfl, h⟩ := h
  rw [eb]
  show T G J_S_octet 8 [(0, .ref a0), (1, .int x1)] [.int r4] S _
  exact tt_iret (by decide +kernel) rfl ⟨rfl, h⟩
set_option maxRecDepth 100000 in
theorem v_S_byteOrSize {G : pG} (a0 : Nat) (x1 : Int32) (S : TS) (Q : Option Value → Prop)
    (h : ((¬ x1 = (-1) → te S a0 = some (.inr 0) ∧ CP G J_Bytes_has [.ref a0, .int x1] S (fun r => ∃ r2 : Int32, r = some (.int r2) ∧ ((r2 = 0 → Q (some (.int ((-2))))) ∧ (¬ (r2 = 0) → CP G J_Bytes_at [.ref a0, .int x1] S (fun r => ∃ r3 : Int32, r = some (.int r3) ∧ Q (some (.int r3))))))) ∧ (x1 = (-1) → te S a0 = some (.inr 0) ∧ CP G J_Bytes_size [.ref a0] S (fun r => ∃ r5 : Int32, r = some (.int r5) ∧ Q (some (.int r5)))))) :
    CP G J_S_byteOrSize [.ref a0, .int x1] S Q := by
  unfold CP
  refine ct_of (by decide +kernel) (Nat.le_of_ble_eq_true rfl) (lv := [(0, .ref a0), (1, .int x1)]) rfl ?_
  refine tt_iload_n (k0 := 1) (by decide +kernel) rfl ?_
  refine tt_iconst (n := -1) (v := -1) (by decide +kernel) (by decide) ?_
  refine tt_icmp_ne (off := 8) 10 (by decide +kernel) (by decide) (fun c => ?_) (fun c => ?_)
  · have h := h.1 c
    refine tt_aload_n (k0 := 0) (by decide +kernel) rfl ?_
    refine tt_iload_n (k0 := 1) (by decide +kernel) rfl ?_
    obtain ⟨f1, h⟩ := h
    refine tt_callV (As := [.int x1]) (rest := []) (ci := 0) (r0 := (R_0, F_0, 2)) (by decide +kernel) LK_Bytes_has w_322 w_323 w_324 (by decide) (by decide) rfl rfl (Nat.le_of_ble_eq_true rfl) rfl rfl f1 (ct_mono h (fun r Sb h => ?_))
    obtain ⟨eb, h⟩ := h
    obtain ⟨r2, rfl, h⟩ := h
    rw [eb]
    show T G J_S_byteOrSize 15 [(0, .ref a0), (1, .int x1)] [.int r2] S _
    refine tt_if_eq (off := 11) 26 (by decide +kernel) (by decide) (fun c => ?_) (fun c => ?_)
    · have h := h.1 c
      refine tt_bipush (n := -2) (v := -2) (by decide +kernel) (by decide) ?_
      exact tt_iret (by decide +kernel) rfl ⟨rfl, h⟩
    · have h := h.2 c
      refine tt_aload_n (k0 := 0) (by decide +kernel) rfl ?_
      refine tt_iload_n (k0 := 1) (by decide +kernel) rfl ?_
      refine tt_callV (As := [.int x1]) (rest := []) (ci := 0) (r0 := (R_0, F_0, 2)) (by decide +kernel) LK_Bytes_at w_326 w_327 w_328 (by decide) (by decide) rfl rfl (Nat.le_of_ble_eq_true rfl) rfl rfl f1 (ct_mono h (fun r Sb h => ?_))
      obtain ⟨eb, h⟩ := h
      obtain ⟨r3, rfl, h⟩ := h
      rw [eb]
      show T G J_S_byteOrSize 23 [(0, .ref a0), (1, .int x1)] [.int r3] S _
      refine tt_goto (off := 5) (tgt := 28) (by decide +kernel) (by decide) ?_
      exact tt_iret (by decide +kernel) rfl ⟨rfl, h⟩
  · have h := h.2 c
    refine tt_aload_n (k0 := 0) (by decide +kernel) rfl ?_
    obtain ⟨f4, h⟩ := h
    refine tt_callV (As := []) (rest := []) (ci := 0) (r0 := (R_0, F_0, 2)) (by decide +kernel) LK_Bytes_size w_298 w_299 w_300 (by decide) (by decide) rfl rfl (Nat.le_of_ble_eq_true rfl) rfl rfl f4 (ct_mono h (fun r Sb h => ?_))
    obtain ⟨eb, h⟩ := h
    obtain ⟨r5, rfl, h⟩ := h
    rw [eb]
    show T G J_S_byteOrSize 9 [(0, .ref a0), (1, .int x1)] [.int r5] S _
    exact tt_iret (by decide +kernel) rfl ⟨rfl, h⟩
set_option maxRecDepth 100000 in
theorem v_S_key {G : pG} (a0 : Nat) (x1 : Int32) (x2 : Int32) (S : TS) (Q : Option Value → TS → Prop)
    (h : CP G J_S_isSide [.int x1] S (fun r => ∃ r1 : Int32, r = some (.int r1) ∧ ((r1 = 0 → te S a0 = some (.inr 10) ∧ ∃ b3 : Nat, tR S a0 0 = some b3 ∧ te S b3 = some (.inr 0) ∧ C0 G J_Bytes_clear [.ref b3] S (fun r S6 => r = none ∧ Q (some (.int ((-1)))) S6)) ∧ (¬ (r1 = 0) → CP G J_Side_isKeyNumber [.int x2] S (fun r => ∃ r7 : Int32, r = some (.int r7) ∧ ((r7 = 0 → te S a0 = some (.inr 10) ∧ ∃ b9 : Nat, tR S a0 0 = some b9 ∧ te S b9 = some (.inr 0) ∧ C0 G J_Bytes_clear [.ref b9] S (fun r S12 => r = none ∧ Q (some (.int ((-1)))) S12)) ∧ (¬ (r7 = 0) → te S a0 = some (.inr 10) ∧ CP G J_S_sideOf [.ref a0, .int x1] S (fun r => ∃ b14 : Nat, r = some (.ref b14) ∧ ∃ b15 : Nat, tR S a0 0 = some b15 ∧ te S b14 = some (.inr 6) ∧ C0 G J_Side_setKey [.ref b14, .int x2, .ref b15] S (fun r S18 => r = none ∧ te S18 b15 = some (.inr 0) ∧ C0 G J_Bytes_clear [.ref b15] S18 (fun r S20 => r = none ∧ Q (some (.int 0)) S20)))))))))) :
    C0 G J_S_key [.ref a0, .int x1, .int x2] S Q := by
  unfold C0
  refine ct_of (by decide +kernel) (Nat.le_of_ble_eq_true rfl) (lv := [(0, .ref a0), (1, .int x1), (2, .int x2)]) rfl ?_
  have hm : Sm0 S S := Sm0.rf S
  refine tt_iconst (n := -1) (v := -1) (by decide +kernel) (by decide) ?_
  refine tt_istore_n (k0 := 3) (lv' := [(0, .ref a0), (1, .int x1), (2, .int x2), (3, .int ((-1)))]) (by decide +kernel) (by decide) rfl ?_
  refine tt_iload_n (k0 := 1) (by decide +kernel) rfl ?_
  refine tt_callS (As := [.int x1]) (rest := []) (by decide +kernel) LK_S_isSide w_334 w_335 (by decide) (by decide) rfl rfl (Nat.le_of_ble_eq_true rfl) (ct_mono h (fun r Sb h => ?_))
  obtain ⟨eb, h⟩ := h
  obtain ⟨r1, rfl, h⟩ := h
  rw [eb]
  show T G J_S_key 6 [(0, .ref a0), (1, .int x1), (2, .int x2), (3, .int ((-1)))] [.int r1] S _
  refine tt_if_eq (off := 25) 31 (by decide +kernel) (by decide) (fun c => ?_) (fun c => ?_)
  · have h := h.1 c
    refine tt_aload_n (k0 := 0) (by decide +kernel) rfl ?_
    obtain ⟨f2, h⟩ := h
    obtain ⟨b3, f4, h⟩ := h
    refine tt_getR (k := 0) (by decide +kernel) KC_10 (by decide) w_242 (fun _ => rfl) f2 f4 ?_
    obtain ⟨f5, h⟩ := h
    refine tt_callV (As := []) (rest := []) (ci := 0) (r0 := (R_0, F_0, 2)) (by decide +kernel) LK_Bytes_clear w_395 w_392 w_393 (by decide) (by decide) rfl rfl (Nat.le_of_ble_eq_true rfl) rfl rfl f5 (ct_mono h (fun r S6 h => ?_))
    obtain ⟨hm2, h⟩ := h
    obtain ⟨rfl, h⟩ := h
    show T G J_S_key 38 [(0, .ref a0), (1, .int x1), (2, .int x2), (3, .int ((-1)))] [] S6 _
    have hm := hm.tr hm2
    have f2 : te S6 a0 = some (.inr 10) := by rw [hm2.1]; exact f2
    have f4 : tR S6 a0 0 = some b3 := by rw [hm2.R]; exact f4
    have f5 : te S6 b3 = some (.inr 0) := by rw [hm2.1]; exact f5
    refine tt_iload_n (k0 := 3) (by decide +kernel) rfl ?_
    exact tt_iret (by decide +kernel) rfl ⟨hm, h⟩
  · have h := h.2 c
    refine tt_iload_n (k0 := 2) (by decide +kernel) rfl ?_
    refine tt_callS (As := [.int x2]) (rest := []) (by decide +kernel) LK_Side_isKeyNumber w_337 w_338 (by decide) (by decide) rfl rfl (Nat.le_of_ble_eq_true rfl) (ct_mono h (fun r Sb h => ?_))
    obtain ⟨eb, h⟩ := h
    obtain ⟨r7, rfl, h⟩ := h
    rw [eb]
    show T G J_S_key 13 [(0, .ref a0), (1, .int x1), (2, .int x2), (3, .int ((-1)))] [.int r7] S _
    refine tt_if_eq (off := 18) 31 (by decide +kernel) (by decide) (fun c => ?_) (fun c => ?_)
    · have h := h.1 c
      refine tt_aload_n (k0 := 0) (by decide +kernel) rfl ?_
      obtain ⟨f8, h⟩ := h
      obtain ⟨b9, f10, h⟩ := h
      refine tt_getR (k := 0) (by decide +kernel) KC_10 (by decide) w_242 (fun _ => rfl) f8 f10 ?_
      obtain ⟨f11, h⟩ := h
      refine tt_callV (As := []) (rest := []) (ci := 0) (r0 := (R_0, F_0, 2)) (by decide +kernel) LK_Bytes_clear w_395 w_392 w_393 (by decide) (by decide) rfl rfl (Nat.le_of_ble_eq_true rfl) rfl rfl f11 (ct_mono h (fun r S12 h => ?_))
      obtain ⟨hm2, h⟩ := h
      obtain ⟨rfl, h⟩ := h
      show T G J_S_key 38 [(0, .ref a0), (1, .int x1), (2, .int x2), (3, .int ((-1)))] [] S12 _
      have hm := hm.tr hm2
      have f8 : te S12 a0 = some (.inr 10) := by rw [hm2.1]; exact f8
      have f10 : tR S12 a0 0 = some b9 := by rw [hm2.R]; exact f10
      have f11 : te S12 b9 = some (.inr 0) := by rw [hm2.1]; exact f11
      refine tt_iload_n (k0 := 3) (by decide +kernel) rfl ?_
      exact tt_iret (by decide +kernel) rfl ⟨hm, h⟩
    · have h := h.2 c
      refine tt_aload_n (k0 := 0) (by decide +kernel) rfl ?_
      refine tt_iload_n (k0 := 1) (by decide +kernel) rfl ?_
      obtain ⟨f13, h⟩ := h
      refine tt_callV (As := [.int x1]) (rest := []) (ci := 10) (r0 := (R_10, F_10, 17)) (by decide +kernel) LK_S_sideOf w_340 w_342 (in_p (n := 17) 0 rfl) (by decide) (by decide) rfl rfl (Nat.le_of_ble_eq_true rfl) rfl rfl f13 (ct_mono h (fun r Sb h => ?_))
      obtain ⟨eb, h⟩ := h
      obtain ⟨b14, rfl, h⟩ := h
      rw [eb]
      show T G J_S_key 21 [(0, .ref a0), (1, .int x1), (2, .int x2), (3, .int ((-1)))] [.ref b14] S _
      refine tt_iload_n (k0 := 2) (by decide +kernel) rfl ?_
      refine tt_aload_n (k0 := 0) (by decide +kernel) rfl ?_
      obtain ⟨b15, f16, h⟩ := h
      refine tt_getR (k := 0) (by decide +kernel) KC_10 (by decide) w_242 (fun _ => rfl) f13 f16 ?_
      obtain ⟨f17, h⟩ := h
      refine tt_callV (As := [.int x2, .ref b15]) (rest := []) (ci := 6) (r0 := (R_6, F_6, 13)) (by decide +kernel) LK_Side_setKey w_344 w_345 w_346 (by decide) (by decide) rfl rfl (Nat.le_of_ble_eq_true rfl) rfl rfl f17 (ct_mono h (fun r S18 h => ?_))
      obtain ⟨hm2, h⟩ := h
      obtain ⟨rfl, h⟩ := h
      show T G J_S_key 29 [(0, .ref a0), (1, .int x1), (2, .int x2), (3, .int ((-1)))] [] S18 _
      have hm := hm.tr hm2
      have f13 : te S18 a0 = some (.inr 10) := by rw [hm2.1]; exact f13
      have f16 : tR S18 a0 0 = some b15 := by rw [hm2.R]; exact f16
      have f17 : te S18 b14 = some (.inr 6) := by rw [hm2.1]; exact f17
      refine tt_iconst (n := 0) (v := 0) (by decide +kernel) (by decide) ?_
      refine tt_istore_n (k0 := 3) (lv' := [(0, .ref a0), (1, .int x1), (2, .int x2), (3, .int 0)]) (by decide +kernel) (by decide) rfl ?_
      refine tt_aload_n (k0 := 0) (by decide +kernel) rfl ?_
      refine tt_getR (k := 0) (by decide +kernel) KC_10 (by decide) w_242 (fun _ => rfl) f13 f16 ?_
      obtain ⟨f19, h⟩ := h
      refine tt_callV (As := []) (rest := []) (ci := 0) (r0 := (R_0, F_0, 2)) (by decide +kernel) LK_Bytes_clear w_395 w_392 w_393 (by decide) (by decide) rfl rfl (Nat.le_of_ble_eq_true rfl) rfl rfl f19 (ct_mono h (fun r S20 h => ?_))
      obtain ⟨hm2, h⟩ := h
      obtain ⟨rfl, h⟩ := h
      show T G J_S_key 38 [(0, .ref a0), (1, .int x1), (2, .int x2), (3, .int 0)] [] S20 _
      have hm := hm.tr hm2
      have f13 : te S20 a0 = some (.inr 10) := by rw [hm2.1]; exact f13
      have f16 : tR S20 a0 0 = some b15 := by rw [hm2.R]; exact f16
      have f17 : te S20 b14 = some (.inr 6) := by rw [hm2.1]; exact f17
      have f19 : te S20 b15 = some (.inr 0) := by rw [hm2.1]; exact f19
      refine tt_iload_n (k0 := 3) (by decide +kernel) rfl ?_
      exact tt_iret (by decide +kernel) rfl ⟨hm, h⟩
set_option maxRecDepth 100000 in
theorem v_S_isSide {G : pG} (x0 : Int32) (S : TS) (Q : Option Value → Prop)
    (h : ((x0 = 0 → Q (some (.int 1))) ∧ (¬ (x0 = 0) → ((¬ x0 = 1 → Q (some (.int 0))) ∧ (x0 = 1 → Q (some (.int 1))))))) :
    CP G J_S_isSide [.int x0] S Q := by
  unfold CP
  refine ct_of (by decide +kernel) (Nat.le_of_ble_eq_true rfl) (lv := [(0, .int x0)]) rfl ?_
  refine tt_iload_n (k0 := 0) (by decide +kernel) rfl ?_
  refine tt_if_eq (off := 8) 9 (by decide +kernel) (by decide) (fun c => ?_) (fun c => ?_)
  · have h := h.1 c
    refine tt_iconst (n := 1) (v := 1) (by decide +kernel) (by decide) ?_
    refine tt_goto (off := 4) (tgt := 14) (by decide +kernel) (by decide) ?_
    exact tt_zret (by decide +kernel) rfl rfl ⟨rfl, h⟩
  · have h := h.2 c
    refine tt_iload_n (k0 := 0) (by decide +kernel) rfl ?_
    refine tt_iconst (n := 1) (v := 1) (by decide +kernel) (by decide) ?_
    refine tt_icmp_ne (off := 7) 13 (by decide +kernel) (by decide) (fun c => ?_) (fun c => ?_)
    · have h := h.1 c
      refine tt_iconst (n := 0) (v := 0) (by decide +kernel) (by decide) ?_
      exact tt_zret (by decide +kernel) rfl rfl ⟨rfl, h⟩
    · have h := h.2 c
      refine tt_iconst (n := 1) (v := 1) (by decide +kernel) (by decide) ?_
      refine tt_goto (off := 4) (tgt := 14) (by decide +kernel) (by decide) ?_
      exact tt_zret (by decide +kernel) rfl rfl ⟨rfl, h⟩
set_option maxRecDepth 100000 in
theorem v_S_sideOf {G : pG} (a0 : Nat) (x1 : Int32) (S : TS) (Q : Option Value → Prop)
    (h : ((¬ x1 = 0 → te S a0 = some (.inr 10) ∧ ∃ b2 : Nat, tR S a0 5 = some b2 ∧ Q (some (.ref b2))) ∧ (x1 = 0 → te S a0 = some (.inr 10) ∧ ∃ b5 : Nat, tR S a0 4 = some b5 ∧ Q (some (.ref b5))))) :
    CP G J_S_sideOf [.ref a0, .int x1] S Q := by
  unfold CP
  refine ct_of (by decide +kernel) (Nat.le_of_ble_eq_true rfl) (lv := [(0, .ref a0), (1, .int x1)]) rfl ?_
  refine tt_iload_n (k0 := 1) (by decide +kernel) rfl ?_
  refine tt_if_ne (off := 10) 11 (by decide +kernel) (by decide) (fun c => ?_) (fun c => ?_)
  · have h := h.1 c
    refine tt_aload_n (k0 := 0) (by decide +kernel) rfl ?_
    obtain ⟨f1, h⟩ := h
    obtain ⟨b2, f3, h⟩ := h
    refine tt_getR (k := 5) (by decide +kernel) KC_10 (by decide) w_247 (fun _ => rfl) f1 f3 ?_
    exact tt_aret (by decide +kernel) rfl ⟨rfl, h⟩
  · have h := h.2 c
    refine tt_aload_n (k0 := 0) (by decide +kernel) rfl ?_
    obtain ⟨f4, h⟩ := h
    obtain ⟨b5, f6, h⟩ := h
    refine tt_getR (k := 4) (by decide +kernel) KC_10 (by decide) w_246 (fun _ => rfl) f4 f6 ?_
    refine tt_goto (off := 7) (tgt := 15) (by decide +kernel) (by decide) ?_
    exact tt_aret (by decide +kernel) rfl ⟨rfl, h⟩
set_option maxRecDepth 100000 in
theorem v_S_forget {G : pG} (a0 : Nat) (x1 : Int32) (x2 : Int32) (S : TS) (Q : Option Value → TS → Prop)
    (h : CP G J_S_isSide [.int x1] S (fun r => ∃ r1 : Int32, r = some (.int r1) ∧ ((r1 = 0 → Q (some (.int ((-1)))) S) ∧ (¬ (r1 = 0) → CP G J_Side_isKeyNumber [.int x2] S (fun r => ∃ r2 : Int32, r = some (.int r2) ∧ ((¬ r2 = 0 → te S a0 = some (.inr 10) ∧ CP G J_S_sideOf [.ref a0, .int x1] S (fun r => ∃ b4 : Nat, r = some (.ref b4) ∧ te S b4 = some (.inr 6) ∧ CP G J_Side_hasKey [.ref b4, .int x2] S (fun r => ∃ r6 : Int32, r = some (.int r6) ∧ ((¬ r6 = 0 → CP G J_S_sideOf [.ref a0, .int x1] S (fun r => ∃ b7 : Nat, r = some (.ref b7) ∧ te S b7 = some (.inr 6) ∧ C0 G J_Side_loseKey [.ref b7, .int x2] S (fun r S9 => r = none ∧ Q (some (.int 0)) S9))) ∧ (r6 = 0 → Q (some (.int ((-2)))) S))))) ∧ (r2 = 0 → Q (some (.int ((-1)))) S))))))) :
    C0 G J_S_forget [.ref a0, .int x1, .int x2] S Q := by
  unfold C0
  refine ct_of (by decide +kernel) (Nat.le_of_ble_eq_true rfl) (lv := [(0, .ref a0), (1, .int x1), (2, .int x2)]) rfl ?_
  have hm : Sm0 S S := Sm0.rf S
  refine tt_iload_n (k0 := 1) (by decide +kernel) rfl ?_
  refine tt_callS (As := [.int x1]) (rest := []) (by decide +kernel) LK_S_isSide w_334 w_335 (by decide) (by decide) rfl rfl (Nat.le_of_ble_eq_true rfl) (ct_mono h (fun r Sb h => ?_))
  obtain ⟨eb, h⟩ := h
  obtain ⟨r1, rfl, h⟩ := h
  rw [eb]
  show T G J_S_forget 4 [(0, .ref a0), (1, .int x1), (2, .int x2)] [.int r1] S _
  refine tt_if_eq (off := 10) 14 (by decide +kernel) (by decide) (fun c => ?_) (fun c => ?_)
  · have h := h.1 c
    refine tt_iconst (n := -1) (v := -1) (by decide +kernel) (by decide) ?_
    exact tt_iret (by decide +kernel) rfl ⟨hm, h⟩
  · have h := h.2 c
    refine tt_iload_n (k0 := 2) (by decide +kernel) rfl ?_
    refine tt_callS (As := [.int x2]) (rest := []) (by decide +kernel) LK_Side_isKeyNumber w_337 w_338 (by decide) (by decide) rfl rfl (Nat.le_of_ble_eq_true rfl) (ct_mono h (fun r Sb h => ?_))
    obtain ⟨eb, h⟩ := h
    obtain ⟨r2, rfl, h⟩ := h
    rw [eb]
    show T G J_S_forget 11 [(0, .ref a0), (1, .int x1), (2, .int x2)] [.int r2] S _
    refine tt_if_ne (off := 5) 16 (by decide +kernel) (by decide) (fun c => ?_) (fun c => ?_)
    · have h := h.1 c
      refine tt_aload_n (k0 := 0) (by decide +kernel) rfl ?_
      refine tt_iload_n (k0 := 1) (by decide +kernel) rfl ?_
      obtain ⟨f3, h⟩ := h
      refine tt_callV (As := [.int x1]) (rest := []) (ci := 10) (r0 := (R_10, F_10, 17)) (by decide +kernel) LK_S_sideOf w_340 w_342 (in_p (n := 17) 0 rfl) (by decide) (by decide) rfl rfl (Nat.le_of_ble_eq_true rfl) rfl rfl f3 (ct_mono h (fun r Sb h => ?_))
      obtain ⟨eb, h⟩ := h
      obtain ⟨b4, rfl, h⟩ := h
      rw [eb]
      show T G J_S_forget 21 [(0, .ref a0), (1, .int x1), (2, .int x2)] [.ref b4] S _
      refine tt_iload_n (k0 := 2) (by decide +kernel) rfl ?_
      obtain ⟨f5, h⟩ := h
      refine tt_callV (As := [.int x2]) (rest := []) (ci := 6) (r0 := (R_6, F_6, 13)) (by decide +kernel) LK_Side_hasKey w_400 w_401 w_402 (by decide) (by decide) rfl rfl (Nat.le_of_ble_eq_true rfl) rfl rfl f5 (ct_mono h (fun r Sb h => ?_))
      obtain ⟨eb, h⟩ := h
      obtain ⟨r6, rfl, h⟩ := h
      rw [eb]
      show T G J_S_forget 25 [(0, .ref a0), (1, .int x1), (2, .int x2)] [.int r6] S _
      refine tt_if_ne (off := 6) 31 (by decide +kernel) (by decide) (fun c => ?_) (fun c => ?_)
      · have h := h.1 c
        refine tt_aload_n (k0 := 0) (by decide +kernel) rfl ?_
        refine tt_iload_n (k0 := 1) (by decide +kernel) rfl ?_
        refine tt_callV (As := [.int x1]) (rest := []) (ci := 10) (r0 := (R_10, F_10, 17)) (by decide +kernel) LK_S_sideOf w_340 w_342 (in_p (n := 17) 0 rfl) (by decide) (by decide) rfl rfl (Nat.le_of_ble_eq_true rfl) rfl rfl f3 (ct_mono h (fun r Sb h => ?_))
        obtain ⟨eb, h⟩ := h
        obtain ⟨b7, rfl, h⟩ := h
        rw [eb]
        show T G J_S_forget 36 [(0, .ref a0), (1, .int x1), (2, .int x2)] [.ref b7] S _
        refine tt_iload_n (k0 := 2) (by decide +kernel) rfl ?_
        obtain ⟨f8, h⟩ := h
        refine tt_callV (As := [.int x2]) (rest := []) (ci := 6) (r0 := (R_6, F_6, 13)) (by decide +kernel) LK_Side_loseKey w_405 w_406 w_407 (by decide) (by decide) rfl rfl (Nat.le_of_ble_eq_true rfl) rfl rfl f8 (ct_mono h (fun r S9 h => ?_))
        obtain ⟨hm2, h⟩ := h
        obtain ⟨rfl, h⟩ := h
        show T G J_S_forget 40 [(0, .ref a0), (1, .int x1), (2, .int x2)] [] S9 _
        have hm := hm.tr hm2
        have f3 : te S9 a0 = some (.inr 10) := by rw [hm2.1]; exact f3
        have f5 : te S9 b4 = some (.inr 6) := by rw [hm2.1]; exact f5
        have f8 : te S9 b7 = some (.inr 6) := by rw [hm2.1]; exact f8
        refine tt_iconst (n := 0) (v := 0) (by decide +kernel) (by decide) ?_
        exact tt_iret (by decide +kernel) rfl ⟨hm, h⟩
      · have h := h.2 c
        refine tt_bipush (n := -2) (v := -2) (by decide +kernel) (by decide) ?_
        exact tt_iret (by decide +kernel) rfl ⟨hm, h⟩
    · have h := h.2 c
      refine tt_iconst (n := -1) (v := -1) (by decide +kernel) (by decide) ?_
      exact tt_iret (by decide +kernel) rfl ⟨hm, h⟩
set_option maxRecDepth 100000 in
theorem v_S_greet {G : pG} (a0 : Nat) (x1 : Int32) (S : TS) (Q : Option Value → TS → Prop)
    (h : CP G J_Side_isKeyNumber [.int x1] S (fun r => ∃ r1 : Int32, r = some (.int r1) ∧ ((¬ r1 = 0 → te S a0 = some (.inr 10) ∧ ∃ b3 : Nat, tR S a0 4 = some b3 ∧ te S b3 = some (.inr 6) ∧ CP G J_Side_hasKey [.ref b3, .int x1] S (fun r => ∃ r6 : Int32, r = some (.int r6) ∧ ((¬ r6 = 0 → CP G J_Side_is [.ref b3, .int 0] S (fun r => ∃ r7 : Int32, r = some (.int r7) ∧ ((¬ r7 = 0 → ∃ b8 : Nat, tR S a0 6 = some b8 ∧ te S b8 = some (.inr 9) ∧ CP G J_Wire_isFull [.ref b8] S (fun r => ∃ r11 : Int32, r = some (.int r11) ∧ ((r11 = 0 → ∃ b12 : Nat, tR S a0 12 = some b12 ∧ C0 G J_Side_makeRandom [.ref b3, .ref b12] S (fun r S14 => r = none ∧ C0 G J_Side_keepGreeting [.ref b3, .ref b12, .int x1] S14 (fun r S15 => r = none ∧ C0 G J_Wire_draft [.ref b8] S15 (fun r S16 => ∃ b17 : Nat, r = some (.ref b17) ∧ te S16 b17 = some (.inr 0) ∧ C0 G J_Bytes_putHead [.ref b17, .int 1, .int 33] S16 (fun r S19 => r = none ∧ CP G J_Side_greeting [.ref b3] S19 (fun r => ∃ b20 : Nat, r = some (.ref b20) ∧ C0 G J_Bytes_putAll [.ref b17, .ref b20] S19 (fun r S21 => r = none ∧ C0 G J_Wire_send [.ref b8] S21 (fun r S22 => r = none ∧ C0 G J_Side_become [.ref b3, .int 1] S22 (fun r S23 => r = none ∧ Q (some (.int 0)) S23))))))))) ∧ (¬ (r11 = 0) → Q (some (.int ((-3)))) S)))) ∧ (r7 = 0 → Q (some (.int ((-5)))) S)))) ∧ (r6 = 0 → Q (some (.int ((-2)))) S)))) ∧ (r1 = 0 → Q (some (.int ((-1)))) S)))) :
    C0 G J_S_greet [.ref a0, .int x1] S Q := by
  unfold C0
  refine ct_of (by decide +kernel) (Nat.le_of_ble_eq_true rfl) (lv := [(0, .ref a0), (1, .int x1)]) rfl ?_
  have hm : Sm0 S S := Sm0.rf S
  refine tt_iload_n (k0 := 1) (by decide +kernel) rfl ?_
  refine tt_callS (As := [.int x1]) (rest := []) (by decide +kernel) LK_Side_isKeyNumber w_337 w_338 (by decide) (by decide) rfl rfl (Nat.le_of_ble_eq_true rfl) (ct_mono h (fun r Sb h => ?_))
  obtain ⟨eb, h⟩ := h
  obtain ⟨r1, rfl, h⟩ := h
  rw [eb]
  show T G J_S_greet 4 [(0, .ref a0), (1, .int x1)] [.int r1] S _
  refine tt_if_ne (off := 5) 9 (by decide +kernel) (by decide) (fun c => ?_) (fun c => ?_)
  · have h := h.1 c
    refine tt_aload_n (k0 := 0) (by decide +kernel) rfl ?_
    obtain ⟨f2, h⟩ := h
    obtain ⟨b3, f4, h⟩ := h
    refine tt_getR (k := 4) (by decide +kernel) KC_10 (by decide) w_246 (fun _ => rfl) f2 f4 ?_
    refine tt_iload_n (k0 := 1) (by decide +kernel) rfl ?_
    obtain ⟨f5, h⟩ := h
    refine tt_callV (As := [.int x1]) (rest := []) (ci := 6) (r0 := (R_6, F_6, 13)) (by decide +kernel) LK_Side_hasKey w_400 w_401 w_402 (by decide) (by decide) rfl rfl (Nat.le_of_ble_eq_true rfl) rfl rfl f5 (ct_mono h (fun r Sb h => ?_))
    obtain ⟨eb, h⟩ := h
    obtain ⟨r6, rfl, h⟩ := h
    rw [eb]
    show T G J_S_greet 17 [(0, .ref a0), (1, .int x1)] [.int r6] S _
    refine tt_if_ne (off := 6) 23 (by decide +kernel) (by decide) (fun c => ?_) (fun c => ?_)
    · have h := h.1 c
      refine tt_aload_n (k0 := 0) (by decide +kernel) rfl ?_
      refine tt_getR (k := 4) (by decide +kernel) KC_10 (by decide) w_246 (fun _ => rfl) f2 f4 ?_
      refine tt_iconst (n := 0) (v := 0) (by decide +kernel) (by decide) ?_
      refine tt_callV (As := [.int 0]) (rest := []) (ci := 6) (r0 := (R_6, F_6, 13)) (by decide +kernel) LK_Side_is w_414 w_415 w_416 (by decide) (by decide) rfl rfl (Nat.le_of_ble_eq_true rfl) rfl rfl f5 (ct_mono h (fun r Sb h => ?_))
      obtain ⟨eb, h⟩ := h
      obtain ⟨r7, rfl, h⟩ := h
      rw [eb]
      show T G J_S_greet 31 [(0, .ref a0), (1, .int x1)] [.int r7] S _
      refine tt_if_ne (off := 6) 37 (by decide +kernel) (by decide) (fun c => ?_) (fun c => ?_)
      · have h := h.1 c
        refine tt_aload_n (k0 := 0) (by decide +kernel) rfl ?_
        obtain ⟨b8, f9, h⟩ := h
        refine tt_getR (k := 6) (by decide +kernel) KC_10 (by decide) w_248 (fun _ => rfl) f2 f9 ?_
        obtain ⟨f10, h⟩ := h
        refine tt_callV (As := []) (rest := []) (ci := 9) (r0 := (R_9, F_9, 2)) (by decide +kernel) LK_Wire_isFull w_418 w_419 w_420 (by decide) (by decide) rfl rfl (Nat.le_of_ble_eq_true rfl) rfl rfl f10 (ct_mono h (fun r Sb h => ?_))
        obtain ⟨eb, h⟩ := h
        obtain ⟨r11, rfl, h⟩ := h
        rw [eb]
        show T G J_S_greet 44 [(0, .ref a0), (1, .int x1)] [.int r11] S _
        refine tt_if_eq (off := 6) 50 (by decide +kernel) (by decide) (fun c => ?_) (fun c => ?_)
        · have h := h.1 c
          refine tt_aload_n (k0 := 0) (by decide +kernel) rfl ?_
          refine tt_getR (k := 4) (by decide +kernel) KC_10 (by decide) w_246 (fun _ => rfl) f2 f4 ?_
          refine tt_aload_n (k0 := 0) (by decide +kernel) rfl ?_
          obtain ⟨b12, f13, h⟩ := h
          refine tt_getR (k := 12) (by decide +kernel) KC_10 (by decide) w_254 (fun _ => rfl) f2 f13 ?_
          refine tt_callV (As := [.ref b12]) (rest := []) (ci := 6) (r0 := (R_6, F_6, 13)) (by decide +kernel) LK_Side_makeRandom w_422 w_423 w_424 (by decide) (by decide) rfl rfl (Nat.le_of_ble_eq_true rfl) rfl rfl f5 (ct_mono h (fun r S14 h => ?_))
          obtain ⟨hm2, h⟩ := h
          obtain ⟨rfl, h⟩ := h
          show T G J_S_greet 61 [(0, .ref a0), (1, .int x1)] [] S14 _
          have hm := hm.tr hm2
          have f2 : te S14 a0 = some (.inr 10) := by rw [hm2.1]; exact f2
          have f4 : tR S14 a0 4 = some b3 := by rw [hm2.R]; exact f4
          have f5 : te S14 b3 = some (.inr 6) := by rw [hm2.1]; exact f5
          have f9 : tR S14 a0 6 = some b8 := by rw [hm2.R]; exact f9
          have f10 : te S14 b8 = some (.inr 9) := by rw [hm2.1]; exact f10
          have f13 : tR S14 a0 12 = some b12 := by rw [hm2.R]; exact f13
          refine tt_aload_n (k0 := 0) (by decide +kernel) rfl ?_
          refine tt_getR (k := 4) (by decide +kernel) KC_10 (by decide) w_246 (fun _ => rfl) f2 f4 ?_
          refine tt_aload_n (k0 := 0) (by decide +kernel) rfl ?_
          refine tt_getR (k := 12) (by decide +kernel) KC_10 (by decide) w_254 (fun _ => rfl) f2 f13 ?_
          refine tt_iload_n (k0 := 1) (by decide +kernel) rfl ?_
          refine tt_callV (As := [.ref b12, .int x1]) (rest := []) (ci := 6) (r0 := (R_6, F_6, 13)) (by decide +kernel) LK_Side_keepGreeting w_428 w_429 w_430 (by decide) (by decide) rfl rfl (Nat.le_of_ble_eq_true rfl) rfl rfl f5 (ct_mono h (fun r S15 h => ?_))
          obtain ⟨hm2, h⟩ := h
          obtain ⟨rfl, h⟩ := h
          show T G J_S_greet 73 [(0, .ref a0), (1, .int x1)] [] S15 _
          have hm := hm.tr hm2
          have f2 : te S15 a0 = some (.inr 10) := by rw [hm2.1]; exact f2
          have f4 : tR S15 a0 4 = some b3 := by rw [hm2.R]; exact f4
          have f5 : te S15 b3 = some (.inr 6) := by rw [hm2.1]; exact f5
          have f9 : tR S15 a0 6 = some b8 := by rw [hm2.R]; exact f9
          have f10 : te S15 b8 = some (.inr 9) := by rw [hm2.1]; exact f10
          have f13 : tR S15 a0 12 = some b12 := by rw [hm2.R]; exact f13
          refine tt_aload_n (k0 := 0) (by decide +kernel) rfl ?_
          refine tt_getR (k := 6) (by decide +kernel) KC_10 (by decide) w_248 (fun _ => rfl) f2 f9 ?_
          refine tt_callV (As := []) (rest := []) (ci := 9) (r0 := (R_9, F_9, 2)) (by decide +kernel) LK_Wire_draft w_433 w_434 w_435 (by decide) (by decide) rfl rfl (Nat.le_of_ble_eq_true rfl) rfl rfl f10 (ct_mono h (fun r S16 h => ?_))
          obtain ⟨hm2, h⟩ := h
          obtain ⟨b17, rfl, h⟩ := h
          show T G J_S_greet 80 [(0, .ref a0), (1, .int x1)] [.ref b17] S16 _
          have hm := hm.tr hm2
          have f2 : te S16 a0 = some (.inr 10) := by rw [hm2.1]; exact f2
          have f4 : tR S16 a0 4 = some b3 := by rw [hm2.R]; exact f4
          have f5 : te S16 b3 = some (.inr 6) := by rw [hm2.1]; exact f5
          have f9 : tR S16 a0 6 = some b8 := by rw [hm2.R]; exact f9
          have f10 : te S16 b8 = some (.inr 9) := by rw [hm2.1]; exact f10
          have f13 : tR S16 a0 12 = some b12 := by rw [hm2.R]; exact f13
          refine tt_astore_n (k0 := 2) (lv' := [(0, .ref a0), (1, .int x1), (2, .ref b17)]) (by decide +kernel) (by decide) rfl ?_
          refine tt_aload_n (k0 := 2) (by decide +kernel) rfl ?_
          refine tt_iconst (n := 1) (v := 1) (by decide +kernel) (by decide) ?_
          refine tt_bipush (n := 33) (v := 33) (by decide +kernel) (by decide) ?_
          obtain ⟨f18, h⟩ := h
          refine tt_callV (As := [.int 1, .int 33]) (rest := []) (ci := 0) (r0 := (R_0, F_0, 2)) (by decide +kernel) LK_Bytes_putHead w_438 w_439 w_440 (by decide) (by decide) rfl rfl (Nat.le_of_ble_eq_true rfl) rfl rfl f18 (ct_mono h (fun r S19 h => ?_))
          obtain ⟨hm2, h⟩ := h
          obtain ⟨rfl, h⟩ := h
          show T G J_S_greet 88 [(0, .ref a0), (1, .int x1), (2, .ref b17)] [] S19 _
          have hm := hm.tr hm2
          have f2 : te S19 a0 = some (.inr 10) := by rw [hm2.1]; exact f2
          have f4 : tR S19 a0 4 = some b3 := by rw [hm2.R]; exact f4
          have f5 : te S19 b3 = some (.inr 6) := by rw [hm2.1]; exact f5
          have f9 : tR S19 a0 6 = some b8 := by rw [hm2.R]; exact f9
          have f10 : te S19 b8 = some (.inr 9) := by rw [hm2.1]; exact f10
          have f13 : tR S19 a0 12 = some b12 := by rw [hm2.R]; exact f13
          have f18 : te S19 b17 = some (.inr 0) := by rw [hm2.1]; exact f18
          refine tt_aload_n (k0 := 2) (by decide +kernel) rfl ?_
          refine tt_aload_n (k0 := 0) (by decide +kernel) rfl ?_
          refine tt_getR (k := 4) (by decide +kernel) KC_10 (by decide) w_246 (fun _ => rfl) f2 f4 ?_
          refine tt_callV (As := []) (rest := [.ref b17]) (ci := 6) (r0 := (R_6, F_6, 13)) (by decide +kernel) LK_Side_greeting w_442 w_443 w_444 (by decide) (by decide) rfl rfl (Nat.le_of_ble_eq_true rfl) rfl rfl f5 (ct_mono h (fun r Sb h => ?_))
          obtain ⟨eb, h⟩ := h
          obtain ⟨b20, rfl, h⟩ := h
          rw [eb]
          show T G J_S_greet 96 [(0, .ref a0), (1, .int x1), (2, .ref b17)] [.ref b20, .ref b17] S19 _
          refine tt_callV (As := [.ref b20]) (rest := []) (ci := 0) (r0 := (R_0, F_0, 2)) (by decide +kernel) LK_Bytes_putAll w_446 w_447 w_448 (by decide) (by decide) rfl rfl (Nat.le_of_ble_eq_true rfl) rfl rfl f18 (ct_mono h (fun r S21 h => ?_))
          obtain ⟨hm2, h⟩ := h
          obtain ⟨rfl, h⟩ := h
          show T G J_S_greet 99 [(0, .ref a0), (1, .int x1), (2, .ref b17)] [] S21 _
          have hm := hm.tr hm2
          have f2 : te S21 a0 = some (.inr 10) := by rw [hm2.1]; exact f2
          have f4 : tR S21 a0 4 = some b3 := by rw [hm2.R]; exact f4
          have f5 : te S21 b3 = some (.inr 6) := by rw [hm2.1]; exact f5
          have f9 : tR S21 a0 6 = some b8 := by rw [hm2.R]; exact f9
          have f10 : te S21 b8 = some (.inr 9) := by rw [hm2.1]; exact f10
          have f13 : tR S21 a0 12 = some b12 := by rw [hm2.R]; exact f13
          have f18 : te S21 b17 = some (.inr 0) := by rw [hm2.1]; exact f18
          refine tt_aload_n (k0 := 0) (by decide +kernel) rfl ?_
          refine tt_getR (k := 6) (by decide +kernel) KC_10 (by decide) w_248 (fun _ => rfl) f2 f9 ?_
          refine tt_callV (As := []) (rest := []) (ci := 9) (r0 := (R_9, F_9, 2)) (by decide +kernel) LK_Wire_send w_450 w_451 w_452 (by decide) (by decide) rfl rfl (Nat.le_of_ble_eq_true rfl) rfl rfl f10 (ct_mono h (fun r S22 h => ?_))
          obtain ⟨hm2, h⟩ := h
          obtain ⟨rfl, h⟩ := h
          show T G J_S_greet 106 [(0, .ref a0), (1, .int x1), (2, .ref b17)] [] S22 _
          have hm := hm.tr hm2
          have f2 : te S22 a0 = some (.inr 10) := by rw [hm2.1]; exact f2
          have f4 : tR S22 a0 4 = some b3 := by rw [hm2.R]; exact f4
          have f5 : te S22 b3 = some (.inr 6) := by rw [hm2.1]; exact f5
          have f9 : tR S22 a0 6 = some b8 := by rw [hm2.R]; exact f9
          have f10 : te S22 b8 = some (.inr 9) := by rw [hm2.1]; exact f10
          have f13 : tR S22 a0 12 = some b12 := by rw [hm2.R]; exact f13
          have f18 : te S22 b17 = some (.inr 0) := by rw [hm2.1]; exact f18
          refine tt_aload_n (k0 := 0) (by decide +kernel) rfl ?_
          refine tt_getR (k := 4) (by decide +kernel) KC_10 (by decide) w_246 (fun _ => rfl) f2 f4 ?_
          refine tt_iconst (n := 1) (v := 1) (by decide +kernel) (by decide) ?_
          refine tt_callV (As := [.int 1]) (rest := []) (ci := 6) (r0 := (R_6, F_6, 13)) (by decide +kernel) LK_Side_become w_454 w_455 w_456 (by decide) (by decide) rfl rfl (Nat.le_of_ble_eq_true rfl) rfl rfl f5 (ct_mono h (fun r S23 h => ?_))
          obtain ⟨hm2, h⟩ := h
          obtain ⟨rfl, h⟩ := h
          show T G J_S_greet 114 [(0, .ref a0), (1, .int x1), (2, .ref b17)] [] S23 _
          have hm := hm.tr hm2
          have f2 : te S23 a0 = some (.inr 10) := by rw [hm2.1]; exact f2
          have f4 : tR S23 a0 4 = some b3 := by rw [hm2.R]; exact f4
          have f5 : te S23 b3 = some (.inr 6) := by rw [hm2.1]; exact f5
          have f9 : tR S23 a0 6 = some b8 := by rw [hm2.R]; exact f9
          have f10 : te S23 b8 = some (.inr 9) := by rw [hm2.1]; exact f10
          have f13 : tR S23 a0 12 = some b12 := by rw [hm2.R]; exact f13
          have f18 : te S23 b17 = some (.inr 0) := by rw [hm2.1]; exact f18
          refine tt_iconst (n := 0) (v := 0) (by decide +kernel) (by decide) ?_
          exact tt_iret (by decide +kernel) rfl ⟨hm, h⟩
        · have h := h.2 c
          refine tt_bipush (n := -3) (v := -3) (by decide +kernel) (by decide) ?_
          exact tt_iret (by decide +kernel) rfl ⟨hm, h⟩
      · have h := h.2 c
        refine tt_bipush (n := -5) (v := -5) (by decide +kernel) (by decide) ?_
        exact tt_iret (by decide +kernel) rfl ⟨hm, h⟩
    · have h := h.2 c
      refine tt_bipush (n := -2) (v := -2) (by decide +kernel) (by decide) ?_
      exact tt_iret (by decide +kernel) rfl ⟨hm, h⟩
  · have h := h.2 c
    refine tt_iconst (n := -1) (v := -1) (by decide +kernel) (by decide) ?_
    exact tt_iret (by decide +kernel) rfl ⟨hm, h⟩
set_option maxRecDepth 100000 in
theorem v_S_idle {G : pG} (a0 : Nat) (x1 : Int32) (S : TS) (Q : Option Value → TS → Prop)
    (h : CP G J_S_isSide [.int x1] S (fun r => ∃ r1 : Int32, r = some (.int r1) ∧ ((¬ r1 = 0 → te S a0 = some (.inr 10) ∧ CP G J_S_sideOf [.ref a0, .int x1] S (fun r => ∃ b3 : Nat, r = some (.ref b3) ∧ te S b3 = some (.inr 6) ∧ C0 G J_Side_become [.ref b3, .int 0] S (fun r S5 => r = none ∧ Q (some (.int 0)) S5))) ∧ (r1 = 0 → Q (some (.int ((-1)))) S)))) :
    C0 G J_S_idle [.ref a0, .int x1] S Q := by
  unfold C0
  refine ct_of (by decide +kernel) (Nat.le_of_ble_eq_true rfl) (lv := [(0, .ref a0), (1, .int x1)]) rfl ?_
  have hm : Sm0 S S := Sm0.rf S
  refine tt_iload_n (k0 := 1) (by decide +kernel) rfl ?_
  refine tt_callS (As := [.int x1]) (rest := []) (by decide +kernel) LK_S_isSide w_334 w_335 (by decide) (by decide) rfl rfl (Nat.le_of_ble_eq_true rfl) (ct_mono h (fun r Sb h => ?_))
  obtain ⟨eb, h⟩ := h
  obtain ⟨r1, rfl, h⟩ := h
  rw [eb]
  show T G J_S_idle 4 [(0, .ref a0), (1, .int x1)] [.int r1] S _
  refine tt_if_ne (off := 5) 9 (by decide +kernel) (by decide) (fun c => ?_) (fun c => ?_)
  · have h := h.1 c
    refine tt_aload_n (k0 := 0) (by decide +kernel) rfl ?_
    refine tt_iload_n (k0 := 1) (by decide +kernel) rfl ?_
    obtain ⟨f2, h⟩ := h
    refine tt_callV (As := [.int x1]) (rest := []) (ci := 10) (r0 := (R_10, F_10, 17)) (by decide +kernel) LK_S_sideOf w_340 w_342 (in_p (n := 17) 0 rfl) (by decide) (by decide) rfl rfl (Nat.le_of_ble_eq_true rfl) rfl rfl f2 (ct_mono h (fun r Sb h => ?_))
    obtain ⟨eb, h⟩ := h
    obtain ⟨b3, rfl, h⟩ := h
    rw [eb]
    show T G J_S_idle 14 [(0, .ref a0), (1, .int x1)] [.ref b3] S _
    refine tt_iconst (n := 0) (v := 0) (by decide +kernel) (by decide) ?_
    obtain ⟨f4, h⟩ := h
    refine tt_callV (As := [.int 0]) (rest := []) (ci := 6) (r0 := (R_6, F_6, 13)) (by decide +kernel) LK_Side_become w_454 w_455 w_456 (by decide) (by decide) rfl rfl (Nat.le_of_ble_eq_true rfl) rfl rfl f4 (ct_mono h (fun r S5 h => ?_))
    obtain ⟨hm2, h⟩ := h
    obtain ⟨rfl, h⟩ := h
    show T G J_S_idle 18 [(0, .ref a0), (1, .int x1)] [] S5 _
    have hm := hm.tr hm2
    have f2 : te S5 a0 = some (.inr 10) := by rw [hm2.1]; exact f2
    have f4 : te S5 b3 = some (.inr 6) := by rw [hm2.1]; exact f4
    refine tt_iconst (n := 0) (v := 0) (by decide +kernel) (by decide) ?_
    exact tt_iret (by decide +kernel) rfl ⟨hm, h⟩
  · have h := h.2 c
    refine tt_iconst (n := -1) (v := -1) (by decide +kernel) (by decide) ?_
    exact tt_iret (by decide +kernel) rfl ⟨hm, h⟩
set_option maxRecDepth 100000 in
theorem v_S_name {G : pG} (a0 : Nat) (S : TS) (Q : Option Value → TS → Prop)
    (h : te S a0 = some (.inr 10) ∧ ∃ b2 : Nat, tR S a0 0 = some b2 ∧ te S b2 = some (.inr 0) ∧ CP G J_Bytes_size [.ref b2] S (fun r => ∃ r5 : Int32, r = some (.int r5) ∧ ((r5 < 1 → C0 G J_Bytes_clear [.ref b2] S (fun r S6 => r = none ∧ Q (some (.int ((-1)))) S6)) ∧ (¬ (r5 < 1) → CP G J_Bytes_size [.ref b2] S (fun r => ∃ r7 : Int32, r = some (.int r7) ∧ ((16 < r7 → C0 G J_Bytes_clear [.ref b2] S (fun r S8 => r = none ∧ Q (some (.int ((-1)))) S8)) ∧ (¬ (16 < r7) → ∃ b9 : Nat, tR S a0 2 = some b9 ∧ te S b9 = some (.inr 0) ∧ C0 G J_Bytes_become [.ref b9, .ref b2] S (fun r S12 => r = none ∧ CP G J_Bytes_size [.ref b2] S12 (fun r => ∃ r13 : Int32, r = some (.int r13) ∧ C0 G J_Bytes_clear [.ref b2] S12 (fun r S14 => r = none ∧ Q (some (.int r13)) S14)))))))))) :
    C0 G J_S_name [.ref a0] S Q := by
  unfold C0
  refine ct_of (by decide +kernel) (Nat.le_of_ble_eq_true rfl) (lv := [(0, .ref a0)]) rfl ?_
  have hm : Sm0 S S := Sm0.rf S
  refine tt_iconst (n := -1) (v := -1) (by decide +kernel) (by decide) ?_
  refine tt_istore_n (k0 := 1) (lv' := [(0, .ref a0), (1, .int ((-1)))]) (by decide +kernel) (by decide) rfl ?_
  refine tt_aload_n (k0 := 0) (by decide +kernel) rfl ?_
  obtain ⟨f1, h⟩ := h
  obtain ⟨b2, f3, h⟩ := h
  refine tt_getR (k := 0) (by decide +kernel) KC_10 (by decide) w_242 (fun _ => rfl) f1 f3 ?_
  obtain ⟨f4, h⟩ := h
  refine tt_callV (As := []) (rest := []) (ci := 0) (r0 := (R_0, F_0, 2)) (by decide +kernel) LK_Bytes_size w_298 w_299 w_300 (by decide) (by decide) rfl rfl (Nat.le_of_ble_eq_true rfl) rfl rfl f4 (ct_mono h (fun r Sb h => ?_))
  obtain ⟨eb, h⟩ := h
  obtain ⟨r5, rfl, h⟩ := h
  rw [eb]
  show T G J_S_name 9 [(0, .ref a0), (1, .int ((-1)))] [.int r5] S _
  refine tt_iconst (n := 1) (v := 1) (by decide +kernel) (by decide) ?_
  refine tt_icmp_lt (off := 34) 44 (by decide +kernel) (by decide) (fun c => ?_) (fun c => ?_)
  · have h := h.1 c
    refine tt_aload_n (k0 := 0) (by decide +kernel) rfl ?_
    refine tt_getR (k := 0) (by decide +kernel) KC_10 (by decide) w_242 (fun _ => rfl) f1 f3 ?_
    refine tt_callV (As := []) (rest := []) (ci := 0) (r0 := (R_0, F_0, 2)) (by decide +kernel) LK_Bytes_clear w_395 w_392 w_393 (by decide) (by decide) rfl rfl (Nat.le_of_ble_eq_true rfl) rfl rfl f4 (ct_mono h (fun r S6 h => ?_))
    obtain ⟨hm2, h⟩ := h
    obtain ⟨rfl, h⟩ := h
    show T G J_S_name 51 [(0, .ref a0), (1, .int ((-1)))] [] S6 _
    have hm := hm.tr hm2
    have f1 : te S6 a0 = some (.inr 10) := by rw [hm2.1]; exact f1
    have f3 : tR S6 a0 0 = some b2 := by rw [hm2.R]; exact f3
    have f4 : te S6 b2 = some (.inr 0) := by rw [hm2.1]; exact f4
    refine tt_iload_n (k0 := 1) (by decide +kernel) rfl ?_
    exact tt_iret (by decide +kernel) rfl ⟨hm, h⟩
  · have h := h.2 c
    refine tt_aload_n (k0 := 0) (by decide +kernel) rfl ?_
    refine tt_getR (k := 0) (by decide +kernel) KC_10 (by decide) w_242 (fun _ => rfl) f1 f3 ?_
    refine tt_callV (As := []) (rest := []) (ci := 0) (r0 := (R_0, F_0, 2)) (by decide +kernel) LK_Bytes_size w_298 w_299 w_300 (by decide) (by decide) rfl rfl (Nat.le_of_ble_eq_true rfl) rfl rfl f4 (ct_mono h (fun r Sb h => ?_))
    obtain ⟨eb, h⟩ := h
    obtain ⟨r7, rfl, h⟩ := h
    rw [eb]
    show T G J_S_name 20 [(0, .ref a0), (1, .int ((-1)))] [.int r7] S _
    refine tt_bipush (n := 16) (v := 16) (by decide +kernel) (by decide) ?_
    refine tt_icmp_gt (off := 22) 44 (by decide +kernel) (by decide) (fun c => ?_) (fun c => ?_)
    · have h := h.1 c
      refine tt_aload_n (k0 := 0) (by decide +kernel) rfl ?_
      refine tt_getR (k := 0) (by decide +kernel) KC_10 (by decide) w_242 (fun _ => rfl) f1 f3 ?_
      refine tt_callV (As := []) (rest := []) (ci := 0) (r0 := (R_0, F_0, 2)) (by decide +kernel) LK_Bytes_clear w_395 w_392 w_393 (by decide) (by decide) rfl rfl (Nat.le_of_ble_eq_true rfl) rfl rfl f4 (ct_mono h (fun r S8 h => ?_))
      obtain ⟨hm2, h⟩ := h
      obtain ⟨rfl, h⟩ := h
      show T G J_S_name 51 [(0, .ref a0), (1, .int ((-1)))] [] S8 _
      have hm := hm.tr hm2
      have f1 : te S8 a0 = some (.inr 10) := by rw [hm2.1]; exact f1
      have f3 : tR S8 a0 0 = some b2 := by rw [hm2.R]; exact f3
      have f4 : te S8 b2 = some (.inr 0) := by rw [hm2.1]; exact f4
      refine tt_iload_n (k0 := 1) (by decide +kernel) rfl ?_
      exact tt_iret (by decide +kernel) rfl ⟨hm, h⟩
    · have h := h.2 c
      refine tt_aload_n (k0 := 0) (by decide +kernel) rfl ?_
      obtain ⟨b9, f10, h⟩ := h
      refine tt_getR (k := 2) (by decide +kernel) KC_10 (by decide) w_244 (fun _ => rfl) f1 f10 ?_
      refine tt_aload_n (k0 := 0) (by decide +kernel) rfl ?_
      refine tt_getR (k := 0) (by decide +kernel) KC_10 (by decide) w_242 (fun _ => rfl) f1 f3 ?_
      obtain ⟨f11, h⟩ := h
      refine tt_callV (As := [.ref b2]) (rest := []) (ci := 0) (r0 := (R_0, F_0, 2)) (by decide +kernel) LK_Bytes_become w_466 w_354 w_355 (by decide) (by decide) rfl rfl (Nat.le_of_ble_eq_true rfl) rfl rfl f11 (ct_mono h (fun r S12 h => ?_))
      obtain ⟨hm2, h⟩ := h
      obtain ⟨rfl, h⟩ := h
      show T G J_S_name 36 [(0, .ref a0), (1, .int ((-1)))] [] S12 _
      have hm := hm.tr hm2
      have f1 : te S12 a0 = some (.inr 10) := by rw [hm2.1]; exact f1
      have f3 : tR S12 a0 0 = some b2 := by rw [hm2.R]; exact f3
      have f4 : te S12 b2 = some (.inr 0) := by rw [hm2.1]; exact f4
      have f10 : tR S12 a0 2 = some b9 := by rw [hm2.R]; exact f10
      have f11 : te S12 b9 = some (.inr 0) := by rw [hm2.1]; exact f11
      refine tt_aload_n (k0 := 0) (by decide +kernel) rfl ?_
      refine tt_getR (k := 0) (by decide +kernel) KC_10 (by decide) w_242 (fun _ => rfl) f1 f3 ?_
      refine tt_callV (As := []) (rest := []) (ci := 0) (r0 := (R_0, F_0, 2)) (by decide +kernel) LK_Bytes_size w_298 w_299 w_300 (by decide) (by decide) rfl rfl (Nat.le_of_ble_eq_true rfl) rfl rfl f4 (ct_mono h (fun r Sb h => ?_))
      obtain ⟨eb, h⟩ := h
      obtain ⟨r13, rfl, h⟩ := h
      rw [eb]
      show T G J_S_name 43 [(0, .ref a0), (1, .int ((-1)))] [.int r13] S12 _
      refine tt_istore_n (k0 := 1) (lv' := [(0, .ref a0), (1, .int r13)]) (by decide +kernel) (by decide) rfl ?_
      refine tt_aload_n (k0 := 0) (by decide +kernel) rfl ?_
      refine tt_getR (k := 0) (by decide +kernel) KC_10 (by decide) w_242 (fun _ => rfl) f1 f3 ?_
      refine tt_callV (As := []) (rest := []) (ci := 0) (r0 := (R_0, F_0, 2)) (by decide +kernel) LK_Bytes_clear w_395 w_392 w_393 (by decide) (by decide) rfl rfl (Nat.le_of_ble_eq_true rfl) rfl rfl f4 (ct_mono h (fun r S14 h => ?_))
      obtain ⟨hm2, h⟩ := h
      obtain ⟨rfl, h⟩ := h
      show T G J_S_name 51 [(0, .ref a0), (1, .int r13)] [] S14 _
      have hm := hm.tr hm2
      have f1 : te S14 a0 = some (.inr 10) := by rw [hm2.1]; exact f1
      have f3 : tR S14 a0 0 = some b2 := by rw [hm2.R]; exact f3
      have f4 : te S14 b2 = some (.inr 0) := by rw [hm2.1]; exact f4
      have f10 : tR S14 a0 2 = some b9 := by rw [hm2.R]; exact f10
      have f11 : te S14 b9 = some (.inr 0) := by rw [hm2.1]; exact f11
      refine tt_iload_n (k0 := 1) (by decide +kernel) rfl ?_
      exact tt_iret (by decide +kernel) rfl ⟨hm, h⟩
set_option maxRecDepth 100000 in
theorem v_S_request {G : pG} (a0 : Nat) (x1 : Int32) (S : TS) (Q : Option Value → TS → Prop)
    (h : te S a0 = some (.inr 10) ∧ C0 G J_S_sendRequest [.ref a0, .int x1] S (fun r S2 => ∃ r3 : Int32, r = some (.int r3) ∧ ∃ b4 : Nat, tR S2 a0 0 = some b4 ∧ te S2 b4 = some (.inr 0) ∧ C0 G J_Bytes_clear [.ref b4] S2 (fun r S7 => r = none ∧ Q (some (.int r3)) S7))) :
    C0 G J_S_request [.ref a0, .int x1] S Q := by
  unfold C0
  refine ct_of (by decide +kernel) (Nat.le_of_ble_eq_true rfl) (lv := [(0, .ref a0), (1, .int x1)]) rfl ?_
  have hm : Sm0 S S := Sm0.rf S
  refine tt_aload_n (k0 := 0) (by decide +kernel) rfl ?_
  refine tt_iload_n (k0 := 1) (by decide +kernel) rfl ?_
  obtain ⟨f1, h⟩ := h
  refine tt_callV (As := [.int x1]) (rest := []) (ci := 10) (r0 := (R_10, F_10, 17)) (by decide +kernel) LK_S_sendRequest w_471 w_473 (in_p (n := 17) 4 rfl) (by decide) (by decide) rfl rfl (Nat.le_of_ble_eq_true rfl) rfl rfl f1 (ct_mono h (fun r S2 h => ?_))
  obtain ⟨hm2, h⟩ := h
  obtain ⟨r3, rfl, h⟩ := h
  show T G J_S_request 5 [(0, .ref a0), (1, .int x1)] [.int r3] S2 _
  have hm := hm.tr hm2
  have f1 : te S2 a0 = some (.inr 10) := by rw [hm2.1]; exact f1
  refine tt_istore_n (k0 := 2) (lv' := [(0, .ref a0), (1, .int x1), (2, .int r3)]) (by decide +kernel) (by decide) rfl ?_
  refine tt_aload_n (k0 := 0) (by decide +kernel) rfl ?_
  obtain ⟨b4, f5, h⟩ := h
  refine tt_getR (k := 0) (by decide +kernel) KC_10 (by decide) w_242 (fun _ => rfl) f1 f5 ?_
  obtain ⟨f6, h⟩ := h
  refine tt_callV (As := []) (rest := []) (ci := 0) (r0 := (R_0, F_0, 2)) (by decide +kernel) LK_Bytes_clear w_395 w_392 w_393 (by decide) (by decide) rfl rfl (Nat.le_of_ble_eq_true rfl) rfl rfl f6 (ct_mono h (fun r S7 h => ?_))
  obtain ⟨hm2, h⟩ := h
  obtain ⟨rfl, h⟩ := h
  show T G J_S_request 13 [(0, .ref a0), (1, .int x1), (2, .int r3)] [] S7 _
  have hm := hm.tr hm2
  have f1 : te S7 a0 = some (.inr 10) := by rw [hm2.1]; exact f1
  have f5 : tR S7 a0 0 = some b4 := by rw [hm2.R]; exact f5
  have f6 : te S7 b4 = some (.inr 0) := by rw [hm2.1]; exact f6
  refine tt_iload_n (k0 := 2) (by decide +kernel) rfl ?_
  exact tt_iret (by decide +kernel) rfl ⟨hm, h⟩
set_option maxRecDepth 100000 in
theorem v_S_sendRequest {G : pG} (a0 : Nat) (x1 : Int32) (S : TS) (Q : Option Value → TS → Prop)
    (h : CP G J_Request_isOp [.int x1] S (fun r => ∃ r1 : Int32, r = some (.int r1) ∧ ((r1 = 0 → Q (some (.int ((-1)))) S) ∧ (¬ (r1 = 0) → te S a0 = some (.inr 10) ∧ ∃ b3 : Nat, tR S a0 0 = some b3 ∧ te S b3 = some (.inr 0) ∧ CP G J_Bytes_size [.ref b3] S (fun r => ∃ r6 : Int32, r = some (.int r6) ∧ CP G J_Request_mostBytes [.int x1] S (fun r => ∃ r7 : Int32, r = some (.int r7) ∧ ((r6 ≤ r7 → ∃ b8 : Nat, tR S a0 4 = some b8 ∧ te S b8 = some (.inr 6) ∧ CP G J_Side_is [.ref b8, .int 2] S (fun r => ∃ r11 : Int32, r = some (.int r11) ∧ ((¬ r11 = 0 → ∃ b12 : Nat, tR S a0 6 = some b12 ∧ te S b12 = some (.inr 9) ∧ CP G J_Wire_isFull [.ref b12] S (fun r => ∃ r15 : Int32, r = some (.int r15) ∧ ((r15 = 0 → ∃ b16 : Nat, tR S a0 11 = some b16 ∧ te S b16 = some (.inr 0) ∧ C0 G J_Bytes_clear [.ref b16] S (fun r S19 => r = none ∧ C0 G J_Bytes_put [.ref b16, .int 0] S19 (fun r S20 => r = none ∧ C0 G J_Bytes_put [.ref b16, .int x1] S20 (fun r S21 => r = none ∧ ∃ b22 : Nat, tR S21 a0 2 = some b22 ∧ te S21 b22 = some (.inr 0) ∧ CP G J_Bytes_size [.ref b22] S21 (fun r => ∃ r25 : Int32, r = some (.int r25) ∧ C0 G J_Bytes_put [.ref b16, .int r25] S21 (fun r S26 => r = none ∧ C0 G J_Bytes_putAll [.ref b16, .ref b22] S26 (fun r S27 => r = none ∧ C0 G J_Bytes_putAll [.ref b16, .ref b3] S27 (fun r S28 => r = none ∧ ∃ b29 : Nat, tR S28 a0 3 = some b29 ∧ CP G J_Side_direction [.ref b8, .int 0] S28 (fun r => ∃ b31 : Nat, r = some (.ref b31) ∧ te S28 b29 = some (.inr 5) ∧ C0 G J_Sealer_seal [.ref b29, .ref b31, .ref b16, .ref b12] S28 (fun r S33 => r = none ∧ Q (some (.int 0)) S33)))))))))) ∧ (¬ (r15 = 0) → Q (some (.int ((-3)))) S)))) ∧ (r11 = 0 → Q (some (.int ((-5)))) S)))) ∧ (¬ (r6 ≤ r7) → Q (some (.int ((-1)))) S)))))))) :
    C0 G J_S_sendRequest [.ref a0, .int x1] S Q := by
  unfold C0
  refine ct_of (by decide +kernel) (Nat.le_of_ble_eq_true rfl) (lv := [(0, .ref a0), (1, .int x1)]) rfl ?_
  have hm : Sm0 S S := Sm0.rf S
  refine tt_iload_n (k0 := 1) (by decide +kernel) rfl ?_
  refine tt_callS (As := [.int x1]) (rest := []) (by decide +kernel) LK_Request_isOp w_475 w_476 (by decide) (by decide) rfl rfl (Nat.le_of_ble_eq_true rfl) (ct_mono h (fun r Sb h => ?_))
  obtain ⟨eb, h⟩ := h
  obtain ⟨r1, rfl, h⟩ := h
  rw [eb]
  show T G J_S_sendRequest 4 [(0, .ref a0), (1, .int x1)] [.int r1] S _
  refine tt_if_eq (off := 17) 21 (by decide +kernel) (by decide) (fun c => ?_) (fun c => ?_)
  · have h := h.1 c
    refine tt_iconst (n := -1) (v := -1) (by decide +kernel) (by decide) ?_
    exact tt_iret (by decide +kernel) rfl ⟨hm, h⟩
  · have h := h.2 c
    refine tt_aload_n (k0 := 0) (by decide +kernel) rfl ?_
    obtain ⟨f2, h⟩ := h
    obtain ⟨b3, f4, h⟩ := h
    refine tt_getR (k := 0) (by decide +kernel) KC_10 (by decide) w_242 (fun _ => rfl) f2 f4 ?_
    obtain ⟨f5, h⟩ := h
    refine tt_callV (As := []) (rest := []) (ci := 0) (r0 := (R_0, F_0, 2)) (by decide +kernel) LK_Bytes_size w_298 w_299 w_300 (by decide) (by decide) rfl rfl (Nat.le_of_ble_eq_true rfl) rfl rfl f5 (ct_mono h (fun r Sb h => ?_))
    obtain ⟨eb, h⟩ := h
    obtain ⟨r6, rfl, h⟩ := h
    rw [eb]
    show T G J_S_sendRequest 14 [(0, .ref a0), (1, .int x1)] [.int r6] S _
    refine tt_iload_n (k0 := 1) (by decide +kernel) rfl ?_
    refine tt_callS (As := [.int x1]) (rest := [.int r6]) (by decide +kernel) LK_Request_mostBytes w_478 w_479 (by decide) (by decide) rfl rfl (Nat.le_of_ble_eq_true rfl) (ct_mono h (fun r Sb h => ?_))
    obtain ⟨eb, h⟩ := h
    obtain ⟨r7, rfl, h⟩ := h
    rw [eb]
    show T G J_S_sendRequest 18 [(0, .ref a0), (1, .int x1)] [.int r7, .int r6] S _
    refine tt_icmp_le (off := 5) 23 (by decide +kernel) (by decide) (fun c => ?_) (fun c => ?_)
    · have h := h.1 c
      refine tt_aload_n (k0 := 0) (by decide +kernel) rfl ?_
      obtain ⟨b8, f9, h⟩ := h
      refine tt_getR (k := 4) (by decide +kernel) KC_10 (by decide) w_246 (fun _ => rfl) f2 f9 ?_
      refine tt_iconst (n := 2) (v := 2) (by decide +kernel) (by decide) ?_
      obtain ⟨f10, h⟩ := h
      refine tt_callV (As := [.int 2]) (rest := []) (ci := 6) (r0 := (R_6, F_6, 13)) (by decide +kernel) LK_Side_is w_414 w_415 w_416 (by decide) (by decide) rfl rfl (Nat.le_of_ble_eq_true rfl) rfl rfl f10 (ct_mono h (fun r Sb h => ?_))
      obtain ⟨eb, h⟩ := h
      obtain ⟨r11, rfl, h⟩ := h
      rw [eb]
      show T G J_S_sendRequest 31 [(0, .ref a0), (1, .int x1)] [.int r11] S _
      refine tt_if_ne (off := 6) 37 (by decide +kernel) (by decide) (fun c => ?_) (fun c => ?_)
      · have h := h.1 c
        refine tt_aload_n (k0 := 0) (by decide +kernel) rfl ?_
        obtain ⟨b12, f13, h⟩ := h
        refine tt_getR (k := 6) (by decide +kernel) KC_10 (by decide) w_248 (fun _ => rfl) f2 f13 ?_
        obtain ⟨f14, h⟩ := h
        refine tt_callV (As := []) (rest := []) (ci := 9) (r0 := (R_9, F_9, 2)) (by decide +kernel) LK_Wire_isFull w_418 w_419 w_420 (by decide) (by decide) rfl rfl (Nat.le_of_ble_eq_true rfl) rfl rfl f14 (ct_mono h (fun r Sb h => ?_))
        obtain ⟨eb, h⟩ := h
        obtain ⟨r15, rfl, h⟩ := h
        rw [eb]
        show T G J_S_sendRequest 44 [(0, .ref a0), (1, .int x1)] [.int r15] S _
        refine tt_if_eq (off := 6) 50 (by decide +kernel) (by decide) (fun c => ?_) (fun c => ?_)
        · have h := h.1 c
          refine tt_aload_n (k0 := 0) (by decide +kernel) rfl ?_
          obtain ⟨b16, f17, h⟩ := h
          refine tt_getR (k := 11) (by decide +kernel) KC_10 (by decide) w_253 (fun _ => rfl) f2 f17 ?_
          obtain ⟨f18, h⟩ := h
          refine tt_callV (As := []) (rest := []) (ci := 0) (r0 := (R_0, F_0, 2)) (by decide +kernel) LK_Bytes_clear w_395 w_392 w_393 (by decide) (by decide) rfl rfl (Nat.le_of_ble_eq_true rfl) rfl rfl f18 (ct_mono h (fun r S19 h => ?_))
          obtain ⟨hm2, h⟩ := h
          obtain ⟨rfl, h⟩ := h
          show T G J_S_sendRequest 57 [(0, .ref a0), (1, .int x1)] [] S19 _
          have hm := hm.tr hm2
          have f2 : te S19 a0 = some (.inr 10) := by rw [hm2.1]; exact f2
          have f4 : tR S19 a0 0 = some b3 := by rw [hm2.R]; exact f4
          have f5 : te S19 b3 = some (.inr 0) := by rw [hm2.1]; exact f5
          have f9 : tR S19 a0 4 = some b8 := by rw [hm2.R]; exact f9
          have f10 : te S19 b8 = some (.inr 6) := by rw [hm2.1]; exact f10
          have f13 : tR S19 a0 6 = some b12 := by rw [hm2.R]; exact f13
          have f14 : te S19 b12 = some (.inr 9) := by rw [hm2.1]; exact f14
          have f17 : tR S19 a0 11 = some b16 := by rw [hm2.R]; exact f17
          have f18 : te S19 b16 = some (.inr 0) := by rw [hm2.1]; exact f18
          refine tt_aload_n (k0 := 0) (by decide +kernel) rfl ?_
          refine tt_getR (k := 11) (by decide +kernel) KC_10 (by decide) w_253 (fun _ => rfl) f2 f17 ?_
          refine tt_iconst (n := 0) (v := 0) (by decide +kernel) (by decide) ?_
          refine tt_callV (As := [.int 0]) (rest := []) (ci := 0) (r0 := (R_0, F_0, 2)) (by decide +kernel) LK_Bytes_put w_238 w_239 w_240 (by decide) (by decide) rfl rfl (Nat.le_of_ble_eq_true rfl) rfl rfl f18 (ct_mono h (fun r S20 h => ?_))
          obtain ⟨hm2, h⟩ := h
          obtain ⟨rfl, h⟩ := h
          show T G J_S_sendRequest 65 [(0, .ref a0), (1, .int x1)] [] S20 _
          have hm := hm.tr hm2
          have f2 : te S20 a0 = some (.inr 10) := by rw [hm2.1]; exact f2
          have f4 : tR S20 a0 0 = some b3 := by rw [hm2.R]; exact f4
          have f5 : te S20 b3 = some (.inr 0) := by rw [hm2.1]; exact f5
          have f9 : tR S20 a0 4 = some b8 := by rw [hm2.R]; exact f9
          have f10 : te S20 b8 = some (.inr 6) := by rw [hm2.1]; exact f10
          have f13 : tR S20 a0 6 = some b12 := by rw [hm2.R]; exact f13
          have f14 : te S20 b12 = some (.inr 9) := by rw [hm2.1]; exact f14
          have f17 : tR S20 a0 11 = some b16 := by rw [hm2.R]; exact f17
          have f18 : te S20 b16 = some (.inr 0) := by rw [hm2.1]; exact f18
          refine tt_aload_n (k0 := 0) (by decide +kernel) rfl ?_
          refine tt_getR (k := 11) (by decide +kernel) KC_10 (by decide) w_253 (fun _ => rfl) f2 f17 ?_
          refine tt_iload_n (k0 := 1) (by decide +kernel) rfl ?_
          refine tt_callV (As := [.int x1]) (rest := []) (ci := 0) (r0 := (R_0, F_0, 2)) (by decide +kernel) LK_Bytes_put w_238 w_239 w_240 (by decide) (by decide) rfl rfl (Nat.le_of_ble_eq_true rfl) rfl rfl f18 (ct_mono h (fun r S21 h => ?_))
          obtain ⟨hm2, h⟩ := h
          obtain ⟨rfl, h⟩ := h
          show T G J_S_sendRequest 73 [(0, .ref a0), (1, .int x1)] [] S21 _
          have hm := hm.tr hm2
          have f2 : te S21 a0 = some (.inr 10) := by rw [hm2.1]; exact f2
          have f4 : tR S21 a0 0 = some b3 := by rw [hm2.R]; exact f4
          have f5 : te S21 b3 = some (.inr 0) := by rw [hm2.1]; exact f5
          have f9 : tR S21 a0 4 = some b8 := by rw [hm2.R]; exact f9
          have f10 : te S21 b8 = some (.inr 6) := by rw [hm2.1]; exact f10
          have f13 : tR S21 a0 6 = some b12 := by rw [hm2.R]; exact f13
          have f14 : te S21 b12 = some (.inr 9) := by rw [hm2.1]; exact f14
          have f17 : tR S21 a0 11 = some b16 := by rw [hm2.R]; exact f17
          have f18 : te S21 b16 = some (.inr 0) := by rw [hm2.1]; exact f18
          refine tt_aload_n (k0 := 0) (by decide +kernel) rfl ?_
          refine tt_getR (k := 11) (by decide +kernel) KC_10 (by decide) w_253 (fun _ => rfl) f2 f17 ?_
          refine tt_aload_n (k0 := 0) (by decide +kernel) rfl ?_
          obtain ⟨b22, f23, h⟩ := h
          refine tt_getR (k := 2) (by decide +kernel) KC_10 (by decide) w_244 (fun _ => rfl) f2 f23 ?_
          obtain ⟨f24, h⟩ := h
          refine tt_callV (As := []) (rest := [.ref b16]) (ci := 0) (r0 := (R_0, F_0, 2)) (by decide +kernel) LK_Bytes_size w_298 w_299 w_300 (by decide) (by decide) rfl rfl (Nat.le_of_ble_eq_true rfl) rfl rfl f24 (ct_mono h (fun r Sb h => ?_))
          obtain ⟨eb, h⟩ := h
          obtain ⟨r25, rfl, h⟩ := h
          rw [eb]
          show T G J_S_sendRequest 84 [(0, .ref a0), (1, .int x1)] [.int r25, .ref b16] S21 _
          refine tt_callV (As := [.int r25]) (rest := []) (ci := 0) (r0 := (R_0, F_0, 2)) (by decide +kernel) LK_Bytes_put w_238 w_239 w_240 (by decide) (by decide) rfl rfl (Nat.le_of_ble_eq_true rfl) rfl rfl f18 (ct_mono h (fun r S26 h => ?_))
          obtain ⟨hm2, h⟩ := h
          obtain ⟨rfl, h⟩ := h
          show T G J_S_sendRequest 87 [(0, .ref a0), (1, .int x1)] [] S26 _
          have hm := hm.tr hm2
          have f2 : te S26 a0 = some (.inr 10) := by rw [hm2.1]; exact f2
          have f4 : tR S26 a0 0 = some b3 := by rw [hm2.R]; exact f4
          have f5 : te S26 b3 = some (.inr 0) := by rw [hm2.1]; exact f5
          have f9 : tR S26 a0 4 = some b8 := by rw [hm2.R]; exact f9
          have f10 : te S26 b8 = some (.inr 6) := by rw [hm2.1]; exact f10
          have f13 : tR S26 a0 6 = some b12 := by rw [hm2.R]; exact f13
          have f14 : te S26 b12 = some (.inr 9) := by rw [hm2.1]; exact f14
          have f17 : tR S26 a0 11 = some b16 := by rw [hm2.R]; exact f17
          have f18 : te S26 b16 = some (.inr 0) := by rw [hm2.1]; exact f18
          have f23 : tR S26 a0 2 = some b22 := by rw [hm2.R]; exact f23
          have f24 : te S26 b22 = some (.inr 0) := by rw [hm2.1]; exact f24
          refine tt_aload_n (k0 := 0) (by decide +kernel) rfl ?_
          refine tt_getR (k := 11) (by decide +kernel) KC_10 (by decide) w_253 (fun _ => rfl) f2 f17 ?_
          refine tt_aload_n (k0 := 0) (by decide +kernel) rfl ?_
          refine tt_getR (k := 2) (by decide +kernel) KC_10 (by decide) w_244 (fun _ => rfl) f2 f23 ?_
          refine tt_callV (As := [.ref b22]) (rest := []) (ci := 0) (r0 := (R_0, F_0, 2)) (by decide +kernel) LK_Bytes_putAll w_446 w_447 w_448 (by decide) (by decide) rfl rfl (Nat.le_of_ble_eq_true rfl) rfl rfl f18 (ct_mono h (fun r S27 h => ?_))
          obtain ⟨hm2, h⟩ := h
          obtain ⟨rfl, h⟩ := h
          show T G J_S_sendRequest 98 [(0, .ref a0), (1, .int x1)] [] S27 _
          have hm := hm.tr hm2
          have f2 : te S27 a0 = some (.inr 10) := by rw [hm2.1]; exact f2
          have f4 : tR S27 a0 0 = some b3 := by rw [hm2.R]; exact f4
          have f5 : te S27 b3 = some (.inr 0) := by rw [hm2.1]; exact f5
          have f9 : tR S27 a0 4 = some b8 := by rw [hm2.R]; exact f9
          have f10 : te S27 b8 = some (.inr 6) := by rw [hm2.1]; exact f10
          have f13 : tR S27 a0 6 = some b12 := by rw [hm2.R]; exact f13
          have f14 : te S27 b12 = some (.inr 9) := by rw [hm2.1]; exact f14
          have f17 : tR S27 a0 11 = some b16 := by rw [hm2.R]; exact f17
          have f18 : te S27 b16 = some (.inr 0) := by rw [hm2.1]; exact f18
          have f23 : tR S27 a0 2 = some b22 := by rw [hm2.R]; exact f23
          have f24 : te S27 b22 = some (.inr 0) := by rw [hm2.1]; exact f24
          refine tt_aload_n (k0 := 0) (by decide +kernel) rfl ?_
          refine tt_getR (k := 11) (by decide +kernel) KC_10 (by decide) w_253 (fun _ => rfl) f2 f17 ?_
          refine tt_aload_n (k0 := 0) (by decide +kernel) rfl ?_
          refine tt_getR (k := 0) (by decide +kernel) KC_10 (by decide) w_242 (fun _ => rfl) f2 f4 ?_
          refine tt_callV (As := [.ref b3]) (rest := []) (ci := 0) (r0 := (R_0, F_0, 2)) (by decide +kernel) LK_Bytes_putAll w_446 w_447 w_448 (by decide) (by decide) rfl rfl (Nat.le_of_ble_eq_true rfl) rfl rfl f18 (ct_mono h (fun r S28 h => ?_))
          obtain ⟨hm2, h⟩ := h
          obtain ⟨rfl, h⟩ := h
          show T G J_S_sendRequest 109 [(0, .ref a0), (1, .int x1)] [] S28 _
          have hm := hm.tr hm2
          have f2 : te S28 a0 = some (.inr 10) := by rw [hm2.1]; exact f2
          have f4 : tR S28 a0 0 = some b3 := by rw [hm2.R]; exact f4
          have f5 : te S28 b3 = some (.inr 0) := by rw [hm2.1]; exact f5
          have f9 : tR S28 a0 4 = some b8 := by rw [hm2.R]; exact f9
          have f10 : te S28 b8 = some (.inr 6) := by rw [hm2.1]; exact f10
          have f13 : tR S28 a0 6 = some b12 := by rw [hm2.R]; exact f13
          have f14 : te S28 b12 = some (.inr 9) := by rw [hm2.1]; exact f14
          have f17 : tR S28 a0 11 = some b16 := by rw [hm2.R]; exact f17
          have f18 : te S28 b16 = some (.inr 0) := by rw [hm2.1]; exact f18
          have f23 : tR S28 a0 2 = some b22 := by rw [hm2.R]; exact f23
          have f24 : te S28 b22 = some (.inr 0) := by rw [hm2.1]; exact f24
          refine tt_aload_n (k0 := 0) (by decide +kernel) rfl ?_
          obtain ⟨b29, f30, h⟩ := h
          refine tt_getR (k := 3) (by decide +kernel) KC_10 (by decide) w_245 (fun _ => rfl) f2 f30 ?_
          refine tt_aload_n (k0 := 0) (by decide +kernel) rfl ?_
          refine tt_getR (k := 4) (by decide +kernel) KC_10 (by decide) w_246 (fun _ => rfl) f2 f9 ?_
          refine tt_iconst (n := 0) (v := 0) (by decide +kernel) (by decide) ?_
          refine tt_callV (As := [.int 0]) (rest := [.ref b29]) (ci := 6) (r0 := (R_6, F_6, 13)) (by decide +kernel) LK_Side_direction w_481 w_482 w_483 (by decide) (by decide) rfl rfl (Nat.le_of_ble_eq_true rfl) rfl rfl f10 (ct_mono h (fun r Sb h => ?_))
          obtain ⟨eb, h⟩ := h
          obtain ⟨b31, rfl, h⟩ := h
          rw [eb]
          show T G J_S_sendRequest 121 [(0, .ref a0), (1, .int x1)] [.ref b31, .ref b29] S28 _
          refine tt_aload_n (k0 := 0) (by decide +kernel) rfl ?_
          refine tt_getR (k := 11) (by decide +kernel) KC_10 (by decide) w_253 (fun _ => rfl) f2 f17 ?_
          refine tt_aload_n (k0 := 0) (by decide +kernel) rfl ?_
          refine tt_getR (k := 6) (by decide +kernel) KC_10 (by decide) w_248 (fun _ => rfl) f2 f13 ?_
          obtain ⟨f32, h⟩ := h
          refine tt_callV (As := [.ref b31, .ref b16, .ref b12]) (rest := []) (ci := 5) (r0 := (R_5, F_5, 3)) (by decide +kernel) LK_Sealer_seal w_485 w_486 w_487 (by decide) (by decide) rfl rfl (Nat.le_of_ble_eq_true rfl) rfl rfl f32 (ct_mono h (fun r S33 h => ?_))
          obtain ⟨hm2, h⟩ := h
          obtain ⟨rfl, h⟩ := h
          show T G J_S_sendRequest 132 [(0, .ref a0), (1, .int x1)] [] S33 _
          have hm := hm.tr hm2
          have f2 : te S33 a0 = some (.inr 10) := by rw [hm2.1]; exact f2
          have f4 : tR S33 a0 0 = some b3 := by rw [hm2.R]; exact f4
          have f5 : te S33 b3 = some (.inr 0) := by rw [hm2.1]; exact f5
          have f9 : tR S33 a0 4 = some b8 := by rw [hm2.R]; exact f9
          have f10 : te S33 b8 = some (.inr 6) := by rw [hm2.1]; exact f10
          have f13 : tR S33 a0 6 = some b12 := by rw [hm2.R]; exact f13
          have f14 : te S33 b12 = some (.inr 9) := by rw [hm2.1]; exact f14
          have f17 : tR S33 a0 11 = some b16 := by rw [hm2.R]; exact f17
          have f18 : te S33 b16 = some (.inr 0) := by rw [hm2.1]; exact f18
          have f23 : tR S33 a0 2 = some b22 := by rw [hm2.R]; exact f23
          have f24 : te S33 b22 = some (.inr 0) := by rw [hm2.1]; exact f24
          have f30 : tR S33 a0 3 = some b29 := by rw [hm2.R]; exact f30
          have f32 : te S33 b29 = some (.inr 5) := by rw [hm2.1]; exact f32
          refine tt_iconst (n := 0) (v := 0) (by decide +kernel) (by decide) ?_
          exact tt_iret (by decide +kernel) rfl ⟨hm, h⟩
        · have h := h.2 c
          refine tt_bipush (n := -3) (v := -3) (by decide +kernel) (by decide) ?_
          exact tt_iret (by decide +kernel) rfl ⟨hm, h⟩
      · have h := h.2 c
        refine tt_bipush (n := -5) (v := -5) (by decide +kernel) (by decide) ?_
        exact tt_iret (by decide +kernel) rfl ⟨hm, h⟩
    · have h := h.2 c
      refine tt_iconst (n := -1) (v := -1) (by decide +kernel) (by decide) ?_
      exact tt_iret (by decide +kernel) rfl ⟨hm, h⟩
set_option maxRecDepth 100000 in
theorem v_S_renew {G : pG} (a0 : Nat) (x1 : Int32) (S : TS) (Q : Option Value → TS → Prop)
    (h : te S a0 = some (.inr 10) ∧ C0 G J_S_sendBare [.ref a0, .int x1, .int 1] S (fun r S2 => ∃ r3 : Int32, r = some (.int r3) ∧ ((¬ r3 = 0 → Q (some (.int r3)) S2) ∧ (r3 = 0 → CP G J_S_sideOf [.ref a0, .int x1] S2 (fun r => ∃ b4 : Nat, r = some (.ref b4) ∧ te S2 b4 = some (.inr 6) ∧ C0 G J_Side_makeKeyAnew [.ref b4, .int x1] S2 (fun r S6 => r = none ∧ Q (some (.int r3)) S6)))))) :
    C0 G J_S_renew [.ref a0, .int x1] S Q := by
  unfold C0
  refine ct_of (by decide +kernel) (Nat.le_of_ble_eq_true rfl) (lv := [(0, .ref a0), (1, .int x1)]) rfl ?_
  have hm : Sm0 S S := Sm0.rf S
  refine tt_aload_n (k0 := 0) (by decide +kernel) rfl ?_
  refine tt_iload_n (k0 := 1) (by decide +kernel) rfl ?_
  refine tt_iconst (n := 1) (v := 1) (by decide +kernel) (by decide) ?_
  obtain ⟨f1, h⟩ := h
  refine tt_callV (As := [.int x1, .int 1]) (rest := []) (ci := 10) (r0 := (R_10, F_10, 17)) (by decide +kernel) LK_S_sendBare w_596 w_598 (in_p (n := 17) 14 rfl) (by decide) (by decide) rfl rfl (Nat.le_of_ble_eq_true rfl) rfl rfl f1 (ct_mono h (fun r S2 h => ?_))
  obtain ⟨hm2, h⟩ := h
  obtain ⟨r3, rfl, h⟩ := h
  show T G J_S_renew 6 [(0, .ref a0), (1, .int x1)] [.int r3] S2 _
  have hm := hm.tr hm2
  have f1 : te S2 a0 = some (.inr 10) := by rw [hm2.1]; exact f1
  refine tt_istore_n (k0 := 2) (lv' := [(0, .ref a0), (1, .int x1), (2, .int r3)]) (by decide +kernel) (by decide) rfl ?_
  refine tt_iload_n (k0 := 2) (by decide +kernel) rfl ?_
  refine tt_if_ne (off := 12) 20 (by decide +kernel) (by decide) (fun c => ?_) (fun c => ?_)
  · have h := h.1 c
    refine tt_iload_n (k0 := 2) (by decide +kernel) rfl ?_
    exact tt_iret (by decide +kernel) rfl ⟨hm, h⟩
  · have h := h.2 c
    refine tt_aload_n (k0 := 0) (by decide +kernel) rfl ?_
    refine tt_iload_n (k0 := 1) (by decide +kernel) rfl ?_
    refine tt_callV (As := [.int x1]) (rest := []) (ci := 10) (r0 := (R_10, F_10, 17)) (by decide +kernel) LK_S_sideOf w_340 w_342 (in_p (n := 17) 0 rfl) (by decide) (by decide) rfl rfl (Nat.le_of_ble_eq_true rfl) rfl rfl f1 (ct_mono h (fun r Sb h => ?_))
    obtain ⟨eb, h⟩ := h
    obtain ⟨b4, rfl, h⟩ := h
    rw [eb]
    show T G J_S_renew 16 [(0, .ref a0), (1, .int x1), (2, .int r3)] [.ref b4] S2 _
    refine tt_iload_n (k0 := 1) (by decide +kernel) rfl ?_
    obtain ⟨f5, h⟩ := h
    refine tt_callV (As := [.int x1]) (rest := []) (ci := 6) (r0 := (R_6, F_6, 13)) (by decide +kernel) LK_Side_makeKeyAnew w_604 w_605 w_606 (by decide) (by decide) rfl rfl (Nat.le_of_ble_eq_true rfl) rfl rfl f5 (ct_mono h (fun r S6 h => ?_))
    obtain ⟨hm2, h⟩ := h
    obtain ⟨rfl, h⟩ := h
    show T G J_S_renew 20 [(0, .ref a0), (1, .int x1), (2, .int r3)] [] S6 _
    have hm := hm.tr hm2
    have f1 : te S6 a0 = some (.inr 10) := by rw [hm2.1]; exact f1
    have f5 : te S6 b4 = some (.inr 6) := by rw [hm2.1]; exact f5
    refine tt_iload_n (k0 := 2) (by decide +kernel) rfl ?_
    exact tt_iret (by decide +kernel) rfl ⟨hm, h⟩
set_option maxRecDepth 100000 in
theorem v_S_sendBare {G : pG} (a0 : Nat) (x1 : Int32) (x2 : Int32) (S : TS) (Q : Option Value → TS → Prop)
    (h : CP G J_S_isSide [.int x1] S (fun r => ∃ r1 : Int32, r = some (.int r1) ∧ ((¬ r1 = 0 → te S a0 = some (.inr 10) ∧ CP G J_S_sideOf [.ref a0, .int x1] S (fun r => ∃ b3 : Nat, r = some (.ref b3) ∧ CP G J_S_wireOf [.ref a0, .int x1] S (fun r => ∃ b4 : Nat, r = some (.ref b4) ∧ te S b3 = some (.inr 6) ∧ CP G J_Side_is [.ref b3, .int 2] S (fun r => ∃ r6 : Int32, r = some (.int r6) ∧ ((¬ r6 = 0 → te S b4 = some (.inr 9) ∧ CP G J_Wire_isFull [.ref b4] S (fun r => ∃ r8 : Int32, r = some (.int r8) ∧ ((r8 = 0 → ∃ b9 : Nat, tR S a0 11 = some b9 ∧ te S b9 = some (.inr 0) ∧ C0 G J_Bytes_clear [.ref b9] S (fun r S12 => r = none ∧ C0 G J_Bytes_put [.ref b9, .int x2] S12 (fun r S13 => r = none ∧ ∃ b14 : Nat, tR S13 a0 3 = some b14 ∧ CP G J_Side_direction [.ref b3, .int x1] S13 (fun r => ∃ b16 : Nat, r = some (.ref b16) ∧ te S13 b14 = some (.inr 5) ∧ C0 G J_Sealer_seal [.ref b14, .ref b16, .ref b9, .ref b4] S13 (fun r S18 => r = none ∧ Q (some (.int 0)) S18))))) ∧ (¬ (r8 = 0) → Q (some (.int ((-3)))) S)))) ∧ (r6 = 0 → Q (some (.int ((-5)))) S)))))) ∧ (r1 = 0 → Q (some (.int ((-1)))) S)))) :
    C0 G J_S_sendBare [.ref a0, .int x1, .int x2] S Q := by
  unfold C0
  refine ct_of (by decide +kernel) (Nat.le_of_ble_eq_true rfl) (lv := [(0, .ref a0), (1, .int x1), (2, .int x2)]) rfl ?_
  have hm : Sm0 S S := Sm0.rf S
  refine tt_iload_n (k0 := 1) (by decide +kernel) rfl ?_
  refine tt_callS (As := [.int x1]) (rest := []) (by decide +kernel) LK_S_isSide w_334 w_335 (by decide) (by decide) rfl rfl (Nat.le_of_ble_eq_true rfl) (ct_mono h (fun r Sb h => ?_))
  obtain ⟨eb, h⟩ := h
  obtain ⟨r1, rfl, h⟩ := h
  rw [eb]
  show T G J_S_sendBare 4 [(0, .ref a0), (1, .int x1), (2, .int x2)] [.int r1] S _
  refine tt_if_ne (off := 5) 9 (by decide +kernel) (by decide) (fun c => ?_) (fun c => ?_)
  · have h := h.1 c
    refine tt_aload_n (k0 := 0) (by decide +kernel) rfl ?_
    refine tt_iload_n (k0 := 1) (by decide +kernel) rfl ?_
    obtain ⟨f2, h⟩ := h
    refine tt_callV (As := [.int x1]) (rest := []) (ci := 10) (r0 := (R_10, F_10, 17)) (by decide +kernel) LK_S_sideOf w_340 w_342 (in_p (n := 17) 0 rfl) (by decide) (by decide) rfl rfl (Nat.le_of_ble_eq_true rfl) rfl rfl f2 (ct_mono h (fun r Sb h => ?_))
    obtain ⟨eb, h⟩ := h
    obtain ⟨b3, rfl, h⟩ := h
    rw [eb]
    show T G J_S_sendBare 14 [(0, .ref a0), (1, .int x1), (2, .int x2)] [.ref b3] S _
    refine tt_astore_n (k0 := 3) (lv' := [(0, .ref a0), (1, .int x1), (2, .int x2), (3, .ref b3)]) (by decide +kernel) (by decide) rfl ?_
    refine tt_aload_n (k0 := 0) (by decide +kernel) rfl ?_
    refine tt_iload_n (k0 := 1) (by decide +kernel) rfl ?_
    refine tt_callV (As := [.int x1]) (rest := []) (ci := 10) (r0 := (R_10, F_10, 17)) (by decide +kernel) LK_S_wireOf w_600 w_602 (in_p (n := 17) 15 rfl) (by decide) (by decide) rfl rfl (Nat.le_of_ble_eq_true rfl) rfl rfl f2 (ct_mono h (fun r Sb h => ?_))
    obtain ⟨eb, h⟩ := h
    obtain ⟨b4, rfl, h⟩ := h
    rw [eb]
    show T G J_S_sendBare 20 [(0, .ref a0), (1, .int x1), (2, .int x2), (3, .ref b3)] [.ref b4] S _
    refine tt_astore (k0 := 4) (lv' := [(0, .ref a0), (1, .int x1), (2, .int x2), (3, .ref b3), (4, .ref b4)]) (by decide +kernel) (by decide) rfl ?_
    refine tt_aload_n (k0 := 3) (by decide +kernel) rfl ?_
    refine tt_iconst (n := 2) (v := 2) (by decide +kernel) (by decide) ?_
    obtain ⟨f5, h⟩ := h
    refine tt_callV (As := [.int 2]) (rest := []) (ci := 6) (r0 := (R_6, F_6, 13)) (by decide +kernel) LK_Side_is w_414 w_415 w_416 (by decide) (by decide) rfl rfl (Nat.le_of_ble_eq_true rfl) rfl rfl f5 (ct_mono h (fun r Sb h => ?_))
    obtain ⟨eb, h⟩ := h
    obtain ⟨r6, rfl, h⟩ := h
    rw [eb]
    show T G J_S_sendBare 27 [(0, .ref a0), (1, .int x1), (2, .int x2), (3, .ref b3), (4, .ref b4)] [.int r6] S _
    refine tt_if_ne (off := 6) 33 (by decide +kernel) (by decide) (fun c => ?_) (fun c => ?_)
    · have h := h.1 c
      refine tt_aload (k0 := 4) (by decide +kernel) rfl ?_
      obtain ⟨f7, h⟩ := h
      refine tt_callV (As := []) (rest := []) (ci := 9) (r0 := (R_9, F_9, 2)) (by decide +kernel) LK_Wire_isFull w_418 w_419 w_420 (by decide) (by decide) rfl rfl (Nat.le_of_ble_eq_true rfl) rfl rfl f7 (ct_mono h (fun r Sb h => ?_))
      obtain ⟨eb, h⟩ := h
      obtain ⟨r8, rfl, h⟩ := h
      rw [eb]
      show T G J_S_sendBare 38 [(0, .ref a0), (1, .int x1), (2, .int x2), (3, .ref b3), (4, .ref b4)] [.int r8] S _
      refine tt_if_eq (off := 6) 44 (by decide +kernel) (by decide) (fun c => ?_) (fun c => ?_)
      · have h := h.1 c
        refine tt_aload_n (k0 := 0) (by decide +kernel) rfl ?_
        obtain ⟨b9, f10, h⟩ := h
        refine tt_getR (k := 11) (by decide +kernel) KC_10 (by decide) w_253 (fun _ => rfl) f2 f10 ?_
        obtain ⟨f11, h⟩ := h
        refine tt_callV (As := []) (rest := []) (ci := 0) (r0 := (R_0, F_0, 2)) (by decide +kernel) LK_Bytes_clear w_395 w_392 w_393 (by decide) (by decide) rfl rfl (Nat.le_of_ble_eq_true rfl) rfl rfl f11 (ct_mono h (fun r S12 h => ?_))
        obtain ⟨hm2, h⟩ := h
        obtain ⟨rfl, h⟩ := h
        show T G J_S_sendBare 51 [(0, .ref a0), (1, .int x1), (2, .int x2), (3, .ref b3), (4, .ref b4)] [] S12 _
        have hm := hm.tr hm2
        have f2 : te S12 a0 = some (.inr 10) := by rw [hm2.1]; exact f2
        have f5 : te S12 b3 = some (.inr 6) := by rw [hm2.1]; exact f5
        have f7 : te S12 b4 = some (.inr 9) := by rw [hm2.1]; exact f7
        have f10 : tR S12 a0 11 = some b9 := by rw [hm2.R]; exact f10
        have f11 : te S12 b9 = some (.inr 0) := by rw [hm2.1]; exact f11
        refine tt_aload_n (k0 := 0) (by decide +kernel) rfl ?_
        refine tt_getR (k := 11) (by decide +kernel) KC_10 (by decide) w_253 (fun _ => rfl) f2 f10 ?_
        refine tt_iload_n (k0 := 2) (by decide +kernel) rfl ?_
        refine tt_callV (As := [.int x2]) (rest := []) (ci := 0) (r0 := (R_0, F_0, 2)) (by decide +kernel) LK_Bytes_put w_238 w_239 w_240 (by decide) (by decide) rfl rfl (Nat.le_of_ble_eq_true rfl) rfl rfl f11 (ct_mono h (fun r S13 h => ?_))
        obtain ⟨hm2, h⟩ := h
        obtain ⟨rfl, h⟩ := h
        show T G J_S_sendBare 59 [(0, .ref a0), (1, .int x1), (2, .int x2), (3, .ref b3), (4, .ref b4)] [] S13 _
        have hm := hm.tr hm2
        have f2 : te S13 a0 = some (.inr 10) := by rw [hm2.1]; exact f2
        have f5 : te S13 b3 = some (.inr 6) := by rw [hm2.1]; exact f5
        have f7 : te S13 b4 = some (.inr 9) := by rw [hm2.1]; exact f7
        have f10 : tR S13 a0 11 = some b9 := by rw [hm2.R]; exact f10
        have f11 : te S13 b9 = some (.inr 0) := by rw [hm2.1]; exact f11
        refine tt_aload_n (k0 := 0) (by decide +kernel) rfl ?_
        obtain ⟨b14, f15, h⟩ := h
        refine tt_getR (k := 3) (by decide +kernel) KC_10 (by decide) w_245 (fun _ => rfl) f2 f15 ?_
        refine tt_aload_n (k0 := 3) (by decide +kernel) rfl ?_
        refine tt_iload_n (k0 := 1) (by decide +kernel) rfl ?_
        refine tt_callV (As := [.int x1]) (rest := [.ref b14]) (ci := 6) (r0 := (R_6, F_6, 13)) (by decide +kernel) LK_Side_direction w_481 w_482 w_483 (by decide) (by decide) rfl rfl (Nat.le_of_ble_eq_true rfl) rfl rfl f5 (ct_mono h (fun r Sb h => ?_))
        obtain ⟨eb, h⟩ := h
        obtain ⟨b16, rfl, h⟩ := h
        rw [eb]
        show T G J_S_sendBare 68 [(0, .ref a0), (1, .int x1), (2, .int x2), (3, .ref b3), (4, .ref b4)] [.ref b16, .ref b14] S13 _
        refine tt_aload_n (k0 := 0) (by decide +kernel) rfl ?_
        refine tt_getR (k := 11) (by decide +kernel) KC_10 (by decide) w_253 (fun _ => rfl) f2 f10 ?_
        refine tt_aload (k0 := 4) (by decide +kernel) rfl ?_
        obtain ⟨f17, h⟩ := h
        refine tt_callV (As := [.ref b16, .ref b9, .ref b4]) (rest := []) (ci := 5) (r0 := (R_5, F_5, 3)) (by decide +kernel) LK_Sealer_seal w_485 w_486 w_487 (by decide) (by decide) rfl rfl (Nat.le_of_ble_eq_true rfl) rfl rfl f17 (ct_mono h (fun r S18 h => ?_))
        obtain ⟨hm2, h⟩ := h
        obtain ⟨rfl, h⟩ := h
        show T G J_S_sendBare 77 [(0, .ref a0), (1, .int x1), (2, .int x2), (3, .ref b3), (4, .ref b4)] [] S18 _
        have hm := hm.tr hm2
        have f2 : te S18 a0 = some (.inr 10) := by rw [hm2.1]; exact f2
        have f5 : te S18 b3 = some (.inr 6) := by rw [hm2.1]; exact f5
        have f7 : te S18 b4 = some (.inr 9) := by rw [hm2.1]; exact f7
        have f10 : tR S18 a0 11 = some b9 := by rw [hm2.R]; exact f10
        have f11 : te S18 b9 = some (.inr 0) := by rw [hm2.1]; exact f11
        have f15 : tR S18 a0 3 = some b14 := by rw [hm2.R]; exact f15
        have f17 : te S18 b14 = some (.inr 5) := by rw [hm2.1]; exact f17
        refine tt_iconst (n := 0) (v := 0) (by decide +kernel) (by decide) ?_
        exact tt_iret (by decide +kernel) rfl ⟨hm, h⟩
      · have h := h.2 c
        refine tt_bipush (n := -3) (v := -3) (by decide +kernel) (by decide) ?_
        exact tt_iret (by decide +kernel) rfl ⟨hm, h⟩
    · have h := h.2 c
      refine tt_bipush (n := -5) (v := -5) (by decide +kernel) (by decide) ?_
      exact tt_iret (by decide +kernel) rfl ⟨hm, h⟩
  · have h := h.2 c
    refine tt_iconst (n := -1) (v := -1) (by decide +kernel) (by decide) ?_
    exact tt_iret (by decide +kernel) rfl ⟨hm, h⟩
set_option maxRecDepth 100000 in
theorem v_S_wireOf {G : pG} (a0 : Nat) (x1 : Int32) (S : TS) (Q : Option Value → Prop)
    (h : ((¬ x1 = 0 → te S a0 = some (.inr 10) ∧ ∃ b2 : Nat, tR S a0 7 = some b2 ∧ Q (some (.ref b2))) ∧ (x1 = 0 → te S a0 = some (.inr 10) ∧ ∃ b5 : Nat, tR S a0 6 = some b5 ∧ Q (some (.ref b5))))) :
    CP G J_S_wireOf [.ref a0, .int x1] S Q := by
  unfold CP
  refine ct_of (by decide +kernel) (Nat.le_of_ble_eq_true rfl) (lv := [(0, .ref a0), (1, .int x1)]) rfl ?_
  refine tt_iload_n (k0 := 1) (by decide +kernel) rfl ?_
  refine tt_if_ne (off := 10) 11 (by decide +kernel) (by decide) (fun c => ?_) (fun c => ?_)
  · have h := h.1 c
    refine tt_aload_n (k0 := 0) (by decide +kernel) rfl ?_
    obtain ⟨f1, h⟩ := h
    obtain ⟨b2, f3, h⟩ := h
    refine tt_getR (k := 7) (by decide +kernel) KC_10 (by decide) w_249 (fun _ => rfl) f1 f3 ?_
    exact tt_aret (by decide +kernel) rfl ⟨rfl, h⟩
  · have h := h.2 c
    refine tt_aload_n (k0 := 0) (by decide +kernel) rfl ?_
    obtain ⟨f4, h⟩ := h
    obtain ⟨b5, f6, h⟩ := h
    refine tt_getR (k := 6) (by decide +kernel) KC_10 (by decide) w_248 (fun _ => rfl) f4 f6 ?_
    refine tt_goto (off := 7) (tgt := 15) (by decide +kernel) (by decide) ?_
    exact tt_aret (by decide +kernel) rfl ⟨rfl, h⟩
set_option maxRecDepth 100000 in
theorem v_S_close {G : pG} (a0 : Nat) (x1 : Int32) (S : TS) (Q : Option Value → TS → Prop)
    (h : te S a0 = some (.inr 10) ∧ C0 G J_S_sendBare [.ref a0, .int x1, .int 2] S (fun r S2 => ∃ r3 : Int32, r = some (.int r3) ∧ ((¬ r3 = 0 → Q (some (.int r3)) S2) ∧ (r3 = 0 → CP G J_S_sideOf [.ref a0, .int x1] S2 (fun r => ∃ b4 : Nat, r = some (.ref b4) ∧ te S2 b4 = some (.inr 6) ∧ C0 G J_Side_become [.ref b4, .int 3] S2 (fun r S6 => r = none ∧ Q (some (.int r3)) S6)))))) :
    C0 G J_S_close [.ref a0, .int x1] S Q := by
  unfold C0
  refine ct_of (by decide +kernel) (Nat.le_of_ble_eq_true rfl) (lv := [(0, .ref a0), (1, .int x1)]) rfl ?_
  have hm : Sm0 S S := Sm0.rf S
  refine tt_aload_n (k0 := 0) (by decide +kernel) rfl ?_
  refine tt_iload_n (k0 := 1) (by decide +kernel) rfl ?_
  refine tt_iconst (n := 2) (v := 2) (by decide +kernel) (by decide) ?_
  obtain ⟨f1, h⟩ := h
  refine tt_callV (As := [.int x1, .int 2]) (rest := []) (ci := 10) (r0 := (R_10, F_10, 17)) (by decide +kernel) LK_S_sendBare w_596 w_598 (in_p (n := 17) 14 rfl) (by decide) (by decide) rfl rfl (Nat.le_of_ble_eq_true rfl) rfl rfl f1 (ct_mono h (fun r S2 h => ?_))
  obtain ⟨hm2, h⟩ := h
  obtain ⟨r3, rfl, h⟩ := h
  show T G J_S_close 6 [(0, .ref a0), (1, .int x1)] [.int r3] S2 _
  have hm := hm.tr hm2
  have f1 : te S2 a0 = some (.inr 10) := by rw [hm2.1]; exact f1
  refine tt_istore_n (k0 := 2) (lv' := [(0, .ref a0), (1, .int x1), (2, .int r3)]) (by decide +kernel) (by decide) rfl ?_
  refine tt_iload_n (k0 := 2) (by decide +kernel) rfl ?_
  refine tt_if_ne (off := 12) 20 (by decide +kernel) (by decide) (fun c => ?_) (fun c => ?_)
  · have h := h.1 c
    refine tt_iload_n (k0 := 2) (by decide +kernel) rfl ?_
    exact tt_iret (by decide +kernel) rfl ⟨hm, h⟩
  · have h := h.2 c
    refine tt_aload_n (k0 := 0) (by decide +kernel) rfl ?_
    refine tt_iload_n (k0 := 1) (by decide +kernel) rfl ?_
    refine tt_callV (As := [.int x1]) (rest := []) (ci := 10) (r0 := (R_10, F_10, 17)) (by decide +kernel) LK_S_sideOf w_340 w_342 (in_p (n := 17) 0 rfl) (by decide) (by decide) rfl rfl (Nat.le_of_ble_eq_true rfl) rfl rfl f1 (ct_mono h (fun r Sb h => ?_))
    obtain ⟨eb, h⟩ := h
    obtain ⟨b4, rfl, h⟩ := h
    rw [eb]
    show T G J_S_close 16 [(0, .ref a0), (1, .int x1), (2, .int r3)] [.ref b4] S2 _
    refine tt_iconst (n := 3) (v := 3) (by decide +kernel) (by decide) ?_
    obtain ⟨f5, h⟩ := h
    refine tt_callV (As := [.int 3]) (rest := []) (ci := 6) (r0 := (R_6, F_6, 13)) (by decide +kernel) LK_Side_become w_454 w_455 w_456 (by decide) (by decide) rfl rfl (Nat.le_of_ble_eq_true rfl) rfl rfl f5 (ct_mono h (fun r S6 h => ?_))
    obtain ⟨hm2, h⟩ := h
    obtain ⟨rfl, h⟩ := h
    show T G J_S_close 20 [(0, .ref a0), (1, .int x1), (2, .int r3)] [] S6 _
    have hm := hm.tr hm2
    have f1 : te S6 a0 = some (.inr 10) := by rw [hm2.1]; exact f1
    have f5 : te S6 b4 = some (.inr 6) := by rw [hm2.1]; exact f5
    refine tt_iload_n (k0 := 2) (by decide +kernel) rfl ?_
    exact tt_iret (by decide +kernel) rfl ⟨hm, h⟩
set_option maxRecDepth 100000 in
theorem v_S_receive {G : pG} (a0 : Nat) (x1 : Int32) (S : TS) (Q : Option Value → TS → Prop)
    (h : CP G J_S_isWire [.int x1] S (fun r => ∃ r1 : Int32, r = some (.int r1) ∧ ((¬ r1 = 0 → T1 G J_S_receive 9 [(0, .ref a0), (1, .int x1)] [] S Q) ∧ (r1 = 0 → Q (some (.int ((-1)))) S)))) :
    C1 G J_S_receive [.ref a0, .int x1] S Q := by
  unfold C1
  refine ct_of (by decide +kernel) (Nat.le_of_ble_eq_true rfl) (lv := [(0, .ref a0), (1, .int x1)]) rfl ?_
  have hm : Sm1 S S := Sm1.rf S
  refine tt_iload_n (k0 := 1) (by decide +kernel) rfl ?_
  refine tt_callS (As := [.int x1]) (rest := []) (by decide +kernel) LK_S_isWire w_638 w_639 (by decide) (by decide) rfl rfl (Nat.le_of_ble_eq_true rfl) (ct_mono h (fun r Sb h => ?_))
  obtain ⟨eb, h⟩ := h
  obtain ⟨r1, rfl, h⟩ := h
  rw [eb]
  show T G J_S_receive 4 [(0, .ref a0), (1, .int x1)] [.int r1] S _
  refine tt_if_ne (off := 5) 9 (by decide +kernel) (by decide) (fun c => ?_) (fun c => ?_)
  · have h := h.1 c
    exact tt_mono h (fun r S' q => ⟨hm.tr q.1, q.2⟩)
  · have h := h.2 c
    refine tt_iconst (n := -1) (v := -1) (by decide +kernel) (by decide) ?_
    exact tt_iret (by decide +kernel) rfl ⟨hm, h⟩
set_option maxRecDepth 100000 in
theorem v_S_receive_9 {G : pG} (a0 : Nat) (x1 : Int32) (S : TS) (Q : Option Value → TS → Prop)
    (h : te S a0 = some (.inr 10) ∧ CP G J_S_wireOf [.ref a0, .int x1] S (fun r => ∃ b2 : Nat, r = some (.ref b2) ∧ te S b2 = some (.inr 9) ∧ CP G J_Wire_has [.ref b2, .int 0] S (fun r => ∃ r4 : Int32, r = some (.int r4) ∧ ((¬ r4 = 0 → T1 G J_S_receive 26 [(0, .ref a0), (1, .int x1), (2, .ref b2)] [] S Q) ∧ (r4 = 0 → Q (some (.int ((-2)))) S))))) :
    T1 G J_S_receive 9 [(0, .ref a0), (1, .int x1)] [] S Q := by
  unfold T1
  have hm : Sm1 S S := Sm1.rf S
  refine tt_aload_n (k0 := 0) (by decide +kernel) rfl ?_
  refine tt_iload_n (k0 := 1) (by decide +kernel) rfl ?_
  obtain ⟨f1, h⟩ := h
  refine tt_callV (As := [.int x1]) (rest := []) (ci := 10) (r0 := (R_10, F_10, 17)) (by decide +kernel) LK_S_wireOf w_600 w_602 (in_p (n := 17) 15 rfl) (by decide) (by decide) rfl rfl (Nat.le_of_ble_eq_true rfl) rfl rfl f1 (ct_mono h (fun r Sb h => ?_))
  obtain ⟨eb, h⟩ := h
  obtain ⟨b2, rfl, h⟩ := h
  rw [eb]
  show T G J_S_receive 14 [(0, .ref a0), (1, .int x1)] [.ref b2] S _
  refine tt_astore_n (k0 := 2) (lv' := [(0, .ref a0), (1, .int x1), (2, .ref b2)]) (by decide +kernel) (by decide) rfl ?_
  refine tt_aload_n (k0 := 2) (by decide +kernel) rfl ?_
  refine tt_iconst (n := 0) (v := 0) (by decide +kernel) (by decide) ?_
  obtain ⟨f3, h⟩ := h
  refine tt_callV (As := [.int 0]) (rest := []) (ci := 9) (r0 := (R_9, F_9, 2)) (by decide +kernel) LK_Wire_has w_641 w_642 w_643 (by decide) (by decide) rfl rfl (Nat.le_of_ble_eq_true rfl) rfl rfl f3 (ct_mono h (fun r Sb h => ?_))
  obtain ⟨eb, h⟩ := h
  obtain ⟨r4, rfl, h⟩ := h
  rw [eb]
  show T G J_S_receive 20 [(0, .ref a0), (1, .int x1), (2, .ref b2)] [.int r4] S _
  refine tt_if_ne (off := 6) 26 (by decide +kernel) (by decide) (fun c => ?_) (fun c => ?_)
  · have h := h.1 c
    exact tt_mono h (fun r S' q => ⟨hm.tr q.1, q.2⟩)
  · have h := h.2 c
    refine tt_bipush (n := -2) (v := -2) (by decide +kernel) (by decide) ?_
    exact tt_iret (by decide +kernel) rfl ⟨hm, h⟩
set_option maxRecDepth 100000 in
theorem v_S_receive_26 {G : pG} (a0 : Nat) (x1 : Int32) (a2 : Nat) (S : TS) (Q : Option Value → TS → Prop)
    (h : ((¬ x1 = 0 → T1 G J_S_receive 37 [(0, .ref a0), (1, .int x1), (2, .ref a2)] [] S Q) ∧ (x1 = 0 → te S a0 = some (.inr 10) ∧ ∃ b2 : Nat, tR S a0 5 = some b2 ∧ te S a2 = some (.inr 9) ∧ CP G J_Wire_at [.ref a2, .int 0] S (fun r => ∃ b5 : Nat, r = some (.ref b5) ∧ te S b2 = some (.inr 6) ∧ CP G J_Side_listens [.ref b2] S (fun r => ∃ r7 : Int32, r = some (.int r7) ∧ ((r7 = 0 → T1 G J_S_receive 152 [(0, .ref a0), (1, .int x1), (2, .ref a2), (3, .ref b2), (4, .ref b5), (5, .int ((-4)))] [] S Q) ∧ (¬ (r7 = 0) → te S b5 = some (.inr 0) ∧ CP G J_Bytes_tellsItsLength [.ref b5] S (fun r => ∃ r9 : Int32, r = some (.int r9) ∧ ((r9 = 0 → T1 G J_S_receive 152 [(0, .ref a0), (1, .int x1), (2, .ref a2), (3, .ref b2), (4, .ref b5), (5, .int ((-4)))] [] S Q) ∧ (¬ (r9 = 0) → CP G J_Bytes_at [.ref b5, .int 0] S (fun r => ∃ r10 : Int32, r = some (.int r10) ∧ ((r10 = 1 → T1 G J_S_receive 104 [(0, .ref a0), (1, .int x1), (2, .ref a2), (3, .ref b2), (4, .ref b5), (5, .int ((-4)))] [] S Q) ∧ (r10 = 2 → T1 G J_S_receive 116 [(0, .ref a0), (1, .int x1), (2, .ref a2), (3, .ref b2), (4, .ref b5), (5, .int ((-4)))] [] S Q) ∧ (r10 = 3 → T1 G J_S_receive 128 [(0, .ref a0), (1, .int x1), (2, .ref a2), (3, .ref b2), (4, .ref b5), (5, .int ((-4)))] [] S Q) ∧ (r10 = 4 → T1 G J_S_receive 140 [(0, .ref a0), (1, .int x1), (2, .ref a2), (3, .ref b2), (4, .ref b5), (5, .int ((-4)))] [] S Q) ∧ (¬ r10 = 1 → ¬ r10 = 2 → ¬ r10 = 3 → ¬ r10 = 4 → T1 G J_S_receive 152 [(0, .ref a0), (1, .int x1), (2, .ref a2), (3, .ref b2), (4, .ref b5), (5, .int ((-4)))] [] S Q))))))))))))) :
    T1 G J_S_receive 26 [(0, .ref a0), (1, .int x1), (2, .ref a2)] [] S Q := by
  unfold T1
  have hm : Sm1 S S := Sm1.rf S
  refine tt_iload_n (k0 := 1) (by decide +kernel) rfl ?_
  refine tt_if_ne (off := 10) 37 (by decide +kernel) (by decide) (fun c => ?_) (fun c => ?_)
  · have h := h.1 c
    exact tt_mono h (fun r S' q => ⟨hm.tr q.1, q.2⟩)
  · have h := h.2 c
    refine tt_aload_n (k0 := 0) (by decide +kernel) rfl ?_
    obtain ⟨f1, h⟩ := h
    obtain ⟨b2, f3, h⟩ := h
    refine tt_getR (k := 5) (by decide +kernel) KC_10 (by decide) w_247 (fun _ => rfl) f1 f3 ?_
    refine tt_goto (off := 7) (tgt := 41) (by decide +kernel) (by decide) ?_
    refine tt_astore_n (k0 := 3) (lv' := [(0, .ref a0), (1, .int x1), (2, .ref a2), (3, .ref b2)]) (by decide +kernel) (by decide) rfl ?_
    refine tt_aload_n (k0 := 2) (by decide +kernel) rfl ?_
    refine tt_iconst (n := 0) (v := 0) (by decide +kernel) (by decide) ?_
    obtain ⟨f4, h⟩ := h
    refine tt_callV (As := [.int 0]) (rest := []) (ci := 9) (r0 := (R_9, F_9, 2)) (by decide +kernel) LK_Wire_at w_645 w_646 w_647 (by decide) (by decide) rfl rfl (Nat.le_of_ble_eq_true rfl) rfl rfl f4 (ct_mono h (fun r Sb h => ?_))
    obtain ⟨eb, h⟩ := h
    obtain ⟨b5, rfl, h⟩ := h
    rw [eb]
    show T G J_S_receive 47 [(0, .ref a0), (1, .int x1), (2, .ref a2), (3, .ref b2)] [.ref b5] S _
    refine tt_astore (k0 := 4) (lv' := [(0, .ref a0), (1, .int x1), (2, .ref a2), (3, .ref b2), (4, .ref b5)]) (by decide +kernel) (by decide) rfl ?_
    refine tt_bipush (n := -4) (v := -4) (by decide +kernel) (by decide) ?_
    refine tt_istore (k0 := 5) (lv' := [(0, .ref a0), (1, .int x1), (2, .ref a2), (3, .ref b2), (4, .ref b5), (5, .int ((-4)))]) (by decide +kernel) (by decide) rfl ?_
    refine tt_aload_n (k0 := 3) (by decide +kernel) rfl ?_
    obtain ⟨f6, h⟩ := h
    refine tt_callV (As := []) (rest := []) (ci := 6) (r0 := (R_6, F_6, 13)) (by decide +kernel) LK_Side_listens w_650 w_651 w_652 (by decide) (by decide) rfl rfl (Nat.le_of_ble_eq_true rfl) rfl rfl f6 (ct_mono h (fun r Sb h => ?_))
    obtain ⟨eb, h⟩ := h
    obtain ⟨r7, rfl, h⟩ := h
    rw [eb]
    show T G J_S_receive 57 [(0, .ref a0), (1, .int x1), (2, .ref a2), (3, .ref b2), (4, .ref b5), (5, .int ((-4)))] [.int r7] S _
    refine tt_if_eq (off := 95) 152 (by decide +kernel) (by decide) (fun c => ?_) (fun c => ?_)
    · have h := h.1 c
      exact tt_mono h (fun r S' q => ⟨hm.tr q.1, q.2⟩)
    · have h := h.2 c
      refine tt_aload (k0 := 4) (by decide +kernel) rfl ?_
      obtain ⟨f8, h⟩ := h
      refine tt_callV (As := []) (rest := []) (ci := 0) (r0 := (R_0, F_0, 2)) (by decide +kernel) LK_Bytes_tellsItsLength w_654 w_655 w_656 (by decide) (by decide) rfl rfl (Nat.le_of_ble_eq_true rfl) rfl rfl f8 (ct_mono h (fun r Sb h => ?_))
      obtain ⟨eb, h⟩ := h
      obtain ⟨r9, rfl, h⟩ := h
      rw [eb]
      show T G J_S_receive 65 [(0, .ref a0), (1, .int x1), (2, .ref a2), (3, .ref b2), (4, .ref b5), (5, .int ((-4)))] [.int r9] S _
      refine tt_if_eq (off := 87) 152 (by decide +kernel) (by decide) (fun c => ?_) (fun c => ?_)
      · have h := h.1 c
        exact tt_mono h (fun r S' q => ⟨hm.tr q.1, q.2⟩)
      · have h := h.2 c
        refine tt_aload (k0 := 4) (by decide +kernel) rfl ?_
        refine tt_iconst (n := 0) (v := 0) (by decide +kernel) (by decide) ?_
        refine tt_callV (As := [.int 0]) (rest := []) (ci := 0) (r0 := (R_0, F_0, 2)) (by decide +kernel) LK_Bytes_at w_326 w_327 w_328 (by decide) (by decide) rfl rfl (Nat.le_of_ble_eq_true rfl) rfl rfl f8 (ct_mono h (fun r Sb h => ?_))
        obtain ⟨eb, h⟩ := h
        obtain ⟨r10, rfl, h⟩ := h
        rw [eb]
        show T G J_S_receive 74 [(0, .ref a0), (1, .int x1), (2, .ref a2), (3, .ref b2), (4, .ref b5), (5, .int ((-4)))] [.int r10] S _
        by_cases n1 : r10 = 1
        · have h := h.1 n1
          refine tt_tableIn 104 (by decide +kernel : decode (jc J_S_receive) 74 = .ok (.tableswitch (78) (1) (4) #[30, 42, 54, 66], 30)) (by rw [n1]; decide) (by rw [n1]; decide) (off := 30) (by rw [n1]; decide +kernel) (by decide) ?_
          exact tt_mono h (fun r S' q => ⟨hm.tr q.1, q.2⟩)
        · by_cases n2 : r10 = 2
          · have h := h.2.1 n2
            refine tt_tableIn 116 (by decide +kernel : decode (jc J_S_receive) 74 = .ok (.tableswitch (78) (1) (4) #[30, 42, 54, 66], 30)) (by rw [n2]; decide) (by rw [n2]; decide) (off := 42) (by rw [n2]; decide +kernel) (by decide) ?_
            exact tt_mono h (fun r S' q => ⟨hm.tr q.1, q.2⟩)
          · by_cases n3 : r10 = 3
            · have h := h.2.2.1 n3
              refine tt_tableIn 128 (by decide +kernel : decode (jc J_S_receive) 74 = .ok (.tableswitch (78) (1) (4) #[30, 42, 54, 66], 30)) (by rw [n3]; decide) (by rw [n3]; decide) (off := 54) (by rw [n3]; decide +kernel) (by decide) ?_
              exact tt_mono h (fun r S' q => ⟨hm.tr q.1, q.2⟩)
            · by_cases n4 : r10 = 4
              · have h := h.2.2.2.1 n4
                refine tt_tableIn 140 (by decide +kernel : decode (jc J_S_receive) 74 = .ok (.tableswitch (78) (1) (4) #[30, 42, 54, 66], 30)) (by rw [n4]; decide) (by rw [n4]; decide) (off := 66) (by rw [n4]; decide +kernel) (by decide) ?_
                exact tt_mono h (fun r S' q => ⟨hm.tr q.1, q.2⟩)
              · have h := h.2.2.2.2 n1 n2 n3 n4
                refine tt_tableOut 152 (by decide +kernel : decode (jc J_S_receive) 74 = .ok (.tableswitch (78) (1) (4) #[30, 42, 54, 66], 30)) (by have m1 := lv_neT n1 (a := 1) rfl; have m2 := lv_neT n2 (a := 2) rfl; have m3 := lv_neT n3 (a := 3) rfl; have m4 := lv_neT n4 (a := 4) rfl; omega) (by decide) ?_
                exact tt_mono h (fun r S' q => ⟨hm.tr q.1, q.2⟩)
set_option maxRecDepth 100000 in
theorem v_S_receive_37 {G : pG} (a0 : Nat) (x1 : Int32) (a2 : Nat) (S : TS) (Q : Option Value → TS → Prop)
    (h : te S a0 = some (.inr 10) ∧ ∃ b2 : Nat, tR S a0 4 = some b2 ∧ te S a2 = some (.inr 9) ∧ CP G J_Wire_at [.ref a2, .int 0] S (fun r => ∃ b5 : Nat, r = some (.ref b5) ∧ te S b2 = some (.inr 6) ∧ CP G J_Side_listens [.ref b2] S (fun r => ∃ r7 : Int32, r = some (.int r7) ∧ ((r7 = 0 → T1 G J_S_receive 152 [(0, .ref a0), (1, .int x1), (2, .ref a2), (3, .ref b2), (4, .ref b5), (5, .int ((-4)))] [] S Q) ∧ (¬ (r7 = 0) → te S b5 = some (.inr 0) ∧ CP G J_Bytes_tellsItsLength [.ref b5] S (fun r => ∃ r9 : Int32, r = some (.int r9) ∧ ((r9 = 0 → T1 G J_S_receive 152 [(0, .ref a0), (1, .int x1), (2, .ref a2), (3, .ref b2), (4, .ref b5), (5, .int ((-4)))] [] S Q) ∧ (¬ (r9 = 0) → CP G J_Bytes_at [.ref b5, .int 0] S (fun r => ∃ r10 : Int32, r = some (.int r10) ∧ ((r10 = 1 → T1 G J_S_receive 104 [(0, .ref a0), (1, .int x1), (2, .ref a2), (3, .ref b2), (4, .ref b5), (5, .int ((-4)))] [] S Q) ∧ (r10 = 2 → T1 G J_S_receive 116 [(0, .ref a0), (1, .int x1), (2, .ref a2), (3, .ref b2), (4, .ref b5), (5, .int ((-4)))] [] S Q) ∧ (r10 = 3 → T1 G J_S_receive 128 [(0, .ref a0), (1, .int x1), (2, .ref a2), (3, .ref b2), (4, .ref b5), (5, .int ((-4)))] [] S Q) ∧ (r10 = 4 → T1 G J_S_receive 140 [(0, .ref a0), (1, .int x1), (2, .ref a2), (3, .ref b2), (4, .ref b5), (5, .int ((-4)))] [] S Q) ∧ (¬ r10 = 1 → ¬ r10 = 2 → ¬ r10 = 3 → ¬ r10 = 4 → T1 G J_S_receive 152 [(0, .ref a0), (1, .int x1), (2, .ref a2), (3, .ref b2), (4, .ref b5), (5, .int ((-4)))] [] S Q))))))))))) :
    T1 G J_S_receive 37 [(0, .ref a0), (1, .int x1), (2, .ref a2)] [] S Q := by
  unfold T1
  have hm : Sm1 S S := Sm1.rf S
  refine tt_aload_n (k0 := 0) (by decide +kernel) rfl ?_
  obtain ⟨f1, h⟩ := h
  obtain ⟨b2, f3, h⟩ := h
  refine tt_getR (k := 4) (by decide +kernel) KC_10 (by decide) w_246 (fun _ => rfl) f1 f3 ?_
  refine tt_astore_n (k0 := 3) (lv' := [(0, .ref a0), (1, .int x1), (2, .ref a2), (3, .ref b2)]) (by decide +kernel) (by decide) rfl ?_
  refine tt_aload_n (k0 := 2) (by decide +kernel) rfl ?_
  refine tt_iconst (n := 0) (v := 0) (by decide +kernel) (by decide) ?_
  obtain ⟨f4, h⟩ := h
  refine tt_callV (As := [.int 0]) (rest := []) (ci := 9) (r0 := (R_9, F_9, 2)) (by decide +kernel) LK_Wire_at w_645 w_646 w_647 (by decide) (by decide) rfl rfl (Nat.le_of_ble_eq_true rfl) rfl rfl f4 (ct_mono h (fun r Sb h => ?_))
  obtain ⟨eb, h⟩ := h
  obtain ⟨b5, rfl, h⟩ := h
  rw [eb]
  show T G J_S_receive 47 [(0, .ref a0), (1, .int x1), (2, .ref a2), (3, .ref b2)] [.ref b5] S _
  refine tt_astore (k0 := 4) (lv' := [(0, .ref a0), (1, .int x1), (2, .ref a2), (3, .ref b2), (4, .ref b5)]) (by decide +kernel) (by decide) rfl ?_
  refine tt_bipush (n := -4) (v := -4) (by decide +kernel) (by decide) ?_
  refine tt_istore (k0 := 5) (lv' := [(0, .ref a0), (1, .int x1), (2, .ref a2), (3, .ref b2), (4, .ref b5), (5, .int ((-4)))]) (by decide +kernel) (by decide) rfl ?_
  refine tt_aload_n (k0 := 3) (by decide +kernel) rfl ?_
  obtain ⟨f6, h⟩ := h
  refine tt_callV (As := []) (rest := []) (ci := 6) (r0 := (R_6, F_6, 13)) (by decide +kernel) LK_Side_listens w_650 w_651 w_652 (by decide) (by decide) rfl rfl (Nat.le_of_ble_eq_true rfl) rfl rfl f6 (ct_mono h (fun r Sb h => ?_))
  obtain ⟨eb, h⟩ := h
  obtain ⟨r7, rfl, h⟩ := h
  rw [eb]
  show T G J_S_receive 57 [(0, .ref a0), (1, .int x1), (2, .ref a2), (3, .ref b2), (4, .ref b5), (5, .int ((-4)))] [.int r7] S _
  refine tt_if_eq (off := 95) 152 (by decide +kernel) (by decide) (fun c => ?_) (fun c => ?_)
  · have h := h.1 c
    exact tt_mono h (fun r S' q => ⟨hm.tr q.1, q.2⟩)
  · have h := h.2 c
    refine tt_aload (k0 := 4) (by decide +kernel) rfl ?_
    obtain ⟨f8, h⟩ := h
    refine tt_callV (As := []) (rest := []) (ci := 0) (r0 := (R_0, F_0, 2)) (by decide +kernel) LK_Bytes_tellsItsLength w_654 w_655 w_656 (by decide) (by decide) rfl rfl (Nat.le_of_ble_eq_true rfl) rfl rfl f8 (ct_mono h (fun r Sb h => ?_))
    obtain ⟨eb, h⟩ := h
    obtain ⟨r9, rfl, h⟩ := h
    rw [eb]
    show T G J_S_receive 65 [(0, .ref a0), (1, .int x1), (2, .ref a2), (3, .ref b2), (4, .ref b5), (5, .int ((-4)))] [.int r9] S _
    refine tt_if_eq (off := 87) 152 (by decide +kernel) (by decide) (fun c => ?_) (fun c => ?_)
    · have h := h.1 c
      exact tt_mono h (fun r S' q => ⟨hm.tr q.1, q.2⟩)
    · have h := h.2 c
      refine tt_aload (k0 := 4) (by decide +kernel) rfl ?_
      refine tt_iconst (n := 0) (v := 0) (by decide +kernel) (by decide) ?_
      refine tt_callV (As := [.int 0]) (rest := []) (ci := 0) (r0 := (R_0, F_0, 2)) (by decide +kernel) LK_Bytes_at w_326 w_327 w_328 (by decide) (by decide) rfl rfl (Nat.le_of_ble_eq_true rfl) rfl rfl f8 (ct_mono h (fun r Sb h => ?_))
      obtain ⟨eb, h⟩ := h
      obtain ⟨r10, rfl, h⟩ := h
      rw [eb]
      show T G J_S_receive 74 [(0, .ref a0), (1, .int x1), (2, .ref a2), (3, .ref b2), (4, .ref b5), (5, .int ((-4)))] [.int r10] S _
      by_cases n1 : r10 = 1
      · have h := h.1 n1
        refine tt_tableIn 104 (by decide +kernel : decode (jc J_S_receive) 74 = .ok (.tableswitch (78) (1) (4) #[30, 42, 54, 66], 30)) (by rw [n1]; decide) (by rw [n1]; decide) (off := 30) (by rw [n1]; decide +kernel) (by decide) ?_
        exact tt_mono h (fun r S' q => ⟨hm.tr q.1, q.2⟩)
      · by_cases n2 : r10 = 2
        · have h := h.2.1 n2
          refine tt_tableIn 116 (by decide +kernel : decode (jc J_S_receive) 74 = .ok (.tableswitch (78) (1) (4) #[30, 42, 54, 66], 30)) (by rw [n2]; decide) (by rw [n2]; decide) (off := 42) (by rw [n2]; decide +kernel) (by decide) ?_
          exact tt_mono h (fun r S' q => ⟨hm.tr q.1, q.2⟩)
        · by_cases n3 : r10 = 3
          · have h := h.2.2.1 n3
            refine tt_tableIn 128 (by decide +kernel : decode (jc J_S_receive) 74 = .ok (.tableswitch (78) (1) (4) #[30, 42, 54, 66], 30)) (by rw [n3]; decide) (by rw [n3]; decide) (off := 54) (by rw [n3]; decide +kernel) (by decide) ?_
            exact tt_mono h (fun r S' q => ⟨hm.tr q.1, q.2⟩)
          · by_cases n4 : r10 = 4
            · have h := h.2.2.2.1 n4
              refine tt_tableIn 140 (by decide +kernel : decode (jc J_S_receive) 74 = .ok (.tableswitch (78) (1) (4) #[30, 42, 54, 66], 30)) (by rw [n4]; decide) (by rw [n4]; decide) (off := 66) (by rw [n4]; decide +kernel) (by decide) ?_
              exact tt_mono h (fun r S' q => ⟨hm.tr q.1, q.2⟩)
            · have h := h.2.2.2.2 n1 n2 n3 n4
              refine tt_tableOut 152 (by decide +kernel : decode (jc J_S_receive) 74 = .ok (.tableswitch (78) (1) (4) #[30, 42, 54, 66], 30)) (by have m1 := lv_neT n1 (a := 1) rfl; have m2 := lv_neT n2 (a := 2) rfl; have m3 := lv_neT n3 (a := 3) rfl; have m4 := lv_neT n4 (a := 4) rfl; omega) (by decide) ?_
              exact tt_mono h (fun r S' q => ⟨hm.tr q.1, q.2⟩)
set_option maxRecDepth 100000 in
theorem v_S_receive_152 {G : pG} (a0 : Nat) (x1 : Int32) (a2 : Nat) (a3 : Nat) (a4 : Nat) (x5 : Int32) (S : TS) (Q : Option Value → TS → Prop)
    (h : ((¬ x5 = (-3) → T1 G J_S_receive 162 [(0, .ref a0), (1, .int x1), (2, .ref a2), (3, .ref a3), (4, .ref a4), (5, .int x5)] [] S Q) ∧ (x5 = (-3) → Q (some (.int ((-3)))) S))) :
    T1 G J_S_receive 152 [(0, .ref a0), (1, .int x1), (2, .ref a2), (3, .ref a3), (4, .ref a4), (5, .int x5)] [] S Q := by
  unfold T1
  have hm : Sm1 S S := Sm1.rf S
  refine tt_iload (k0 := 5) (by decide +kernel) rfl ?_
  refine tt_bipush (n := -3) (v := -3) (by decide +kernel) (by decide) ?_
  refine tt_icmp_ne (off := 6) 162 (by decide +kernel) (by decide) (fun c => ?_) (fun c => ?_)
  · have h := h.1 c
    exact tt_mono h (fun r S' q => ⟨hm.tr q.1, q.2⟩)
  · have h := h.2 c
    refine tt_bipush (n := -3) (v := -3) (by decide +kernel) (by decide) ?_
    exact tt_iret (by decide +kernel) rfl ⟨hm, h⟩
set_option maxRecDepth 100000 in
theorem v_S_receive_104 {G : pG} (a0 : Nat) (x1 : Int32) (a2 : Nat) (a3 : Nat) (a4 : Nat) (x5 : Int32) (S : TS) (Q : Option Value → TS → Prop)
    (h : te S a0 = some (.inr 10) ∧ C0 G J_S_takeGreeting [.ref a0, .ref a3, .ref a4] S (fun r S2 => ∃ r3 : Int32, r = some (.int r3) ∧ T1 G J_S_receive 152 [(0, .ref a0), (1, .int x1), (2, .ref a2), (3, .ref a3), (4, .ref a4), (5, .int r3)] [] S2 Q)) :
    T1 G J_S_receive 104 [(0, .ref a0), (1, .int x1), (2, .ref a2), (3, .ref a3), (4, .ref a4), (5, .int x5)] [] S Q := by
  unfold T1
  have hm : Sm1 S S := Sm1.rf S
  refine tt_aload_n (k0 := 0) (by decide +kernel) rfl ?_
  refine tt_aload_n (k0 := 3) (by decide +kernel) rfl ?_
  refine tt_aload (k0 := 4) (by decide +kernel) rfl ?_
  obtain ⟨f1, h⟩ := h
  refine tt_callV (As := [.ref a3, .ref a4]) (rest := []) (ci := 10) (r0 := (R_10, F_10, 17)) (by decide +kernel) LK_S_takeGreeting w_659 w_661 (in_p (n := 17) 17 rfl) (by decide) (by decide) rfl rfl (Nat.le_of_ble_eq_true rfl) rfl rfl f1 (ct_mono h (fun r S2 h => ?_))
  obtain ⟨hm2, h⟩ := h
  obtain ⟨r3, rfl, h⟩ := h
  show T G J_S_receive 111 [(0, .ref a0), (1, .int x1), (2, .ref a2), (3, .ref a3), (4, .ref a4), (5, .int x5)] [.int r3] S2 _
  have hm := hm.tr hm2.s1
  have f1 : te S2 a0 = some (.inr 10) := by rw [hm2.1]; exact f1
  refine tt_istore (k0 := 5) (lv' := [(0, .ref a0), (1, .int x1), (2, .ref a2), (3, .ref a3), (4, .ref a4), (5, .int r3)]) (by decide +kernel) (by decide) rfl ?_
  refine tt_goto (off := 39) (tgt := 152) (by decide +kernel) (by decide) ?_
  exact tt_mono h (fun r S' q => ⟨hm.tr q.1, q.2⟩)
set_option maxRecDepth 100000 in
theorem v_S_receive_116 {G : pG} (a0 : Nat) (x1 : Int32) (a2 : Nat) (a3 : Nat) (a4 : Nat) (x5 : Int32) (S : TS) (Q : Option Value → TS → Prop)
    (h : te S a0 = some (.inr 10) ∧ C0 G J_S_takeReply [.ref a0, .ref a3, .ref a4] S (fun r S2 => ∃ r3 : Int32, r = some (.int r3) ∧ T1 G J_S_receive 152 [(0, .ref a0), (1, .int x1), (2, .ref a2), (3, .ref a3), (4, .ref a4), (5, .int r3)] [] S2 Q)) :
    T1 G J_S_receive 116 [(0, .ref a0), (1, .int x1), (2, .ref a2), (3, .ref a3), (4, .ref a4), (5, .int x5)] [] S Q := by
  unfold T1
  have hm : Sm1 S S := Sm1.rf S
  refine tt_aload_n (k0 := 0) (by decide +kernel) rfl ?_
  refine tt_aload_n (k0 := 3) (by decide +kernel) rfl ?_
  refine tt_aload (k0 := 4) (by decide +kernel) rfl ?_
  obtain ⟨f1, h⟩ := h
  refine tt_callV (As := [.ref a3, .ref a4]) (rest := []) (ci := 10) (r0 := (R_10, F_10, 17)) (by decide +kernel) LK_S_takeReply w_678 w_680 (in_p (n := 17) 18 rfl) (by decide) (by decide) rfl rfl (Nat.le_of_ble_eq_true rfl) rfl rfl f1 (ct_mono h (fun r S2 h => ?_))
  obtain ⟨hm2, h⟩ := h
  obtain ⟨r3, rfl, h⟩ := h
  show T G J_S_receive 123 [(0, .ref a0), (1, .int x1), (2, .ref a2), (3, .ref a3), (4, .ref a4), (5, .int x5)] [.int r3] S2 _
  have hm := hm.tr hm2.s1
  have f1 : te S2 a0 = some (.inr 10) := by rw [hm2.1]; exact f1
  refine tt_istore (k0 := 5) (lv' := [(0, .ref a0), (1, .int x1), (2, .ref a2), (3, .ref a3), (4, .ref a4), (5, .int r3)]) (by decide +kernel) (by decide) rfl ?_
  refine tt_goto (off := 27) (tgt := 152) (by decide +kernel) (by decide) ?_
  exact tt_mono h (fun r S' q => ⟨hm.tr q.1, q.2⟩)
set_option maxRecDepth 100000 in
theorem v_S_receive_128 {G : pG} (a0 : Nat) (x1 : Int32) (a2 : Nat) (a3 : Nat) (a4 : Nat) (x5 : Int32) (S : TS) (Q : Option Value → TS → Prop)
    (h : te S a0 = some (.inr 10) ∧ C0 G J_S_takeProof [.ref a0, .ref a3, .ref a4] S (fun r S2 => ∃ r3 : Int32, r = some (.int r3) ∧ T1 G J_S_receive 152 [(0, .ref a0), (1, .int x1), (2, .ref a2), (3, .ref a3), (4, .ref a4), (5, .int r3)] [] S2 Q)) :
    T1 G J_S_receive 128 [(0, .ref a0), (1, .int x1), (2, .ref a2), (3, .ref a3), (4, .ref a4), (5, .int x5)] [] S Q := by
  unfold T1
  have hm : Sm1 S S := Sm1.rf S
  refine tt_aload_n (k0 := 0) (by decide +kernel) rfl ?_
  refine tt_aload_n (k0 := 3) (by decide +kernel) rfl ?_
  refine tt_aload (k0 := 4) (by decide +kernel) rfl ?_
  obtain ⟨f1, h⟩ := h
  refine tt_callV (As := [.ref a3, .ref a4]) (rest := []) (ci := 10) (r0 := (R_10, F_10, 17)) (by decide +kernel) LK_S_takeProof w_690 w_692 (in_p (n := 17) 19 rfl) (by decide) (by decide) rfl rfl (Nat.le_of_ble_eq_true rfl) rfl rfl f1 (ct_mono h (fun r S2 h => ?_))
  obtain ⟨hm2, h⟩ := h
  obtain ⟨r3, rfl, h⟩ := h
  show T G J_S_receive 135 [(0, .ref a0), (1, .int x1), (2, .ref a2), (3, .ref a3), (4, .ref a4), (5, .int x5)] [.int r3] S2 _
  have hm := hm.tr hm2.s1
  have f1 : te S2 a0 = some (.inr 10) := by rw [hm2.1]; exact f1
  refine tt_istore (k0 := 5) (lv' := [(0, .ref a0), (1, .int x1), (2, .ref a2), (3, .ref a3), (4, .ref a4), (5, .int r3)]) (by decide +kernel) (by decide) rfl ?_
  refine tt_goto (off := 15) (tgt := 152) (by decide +kernel) (by decide) ?_
  exact tt_mono h (fun r S' q => ⟨hm.tr q.1, q.2⟩)
set_option maxRecDepth 100000 in
theorem v_S_receive_140 {G : pG} (a0 : Nat) (x1 : Int32) (a2 : Nat) (a3 : Nat) (a4 : Nat) (x5 : Int32) (S : TS) (Q : Option Value → TS → Prop)
    (h : te S a0 = some (.inr 10) ∧ C1 G J_S_takeSealed [.ref a0, .ref a3, .ref a4] S (fun r S2 => ∃ r3 : Int32, r = some (.int r3) ∧ T1 G J_S_receive 152 [(0, .ref a0), (1, .int x1), (2, .ref a2), (3, .ref a3), (4, .ref a4), (5, .int r3)] [] S2 Q)) :
    T1 G J_S_receive 140 [(0, .ref a0), (1, .int x1), (2, .ref a2), (3, .ref a3), (4, .ref a4), (5, .int x5)] [] S Q := by
  unfold T1
  have hm : Sm1 S S := Sm1.rf S
  refine tt_aload_n (k0 := 0) (by decide +kernel) rfl ?_
  refine tt_aload_n (k0 := 3) (by decide +kernel) rfl ?_
  refine tt_aload (k0 := 4) (by decide +kernel) rfl ?_
  obtain ⟨f1, h⟩ := h
  refine tt_callV (As := [.ref a3, .ref a4]) (rest := []) (ci := 10) (r0 := (R_10, F_10, 17)) (by decide +kernel) LK_S_takeSealed w_694 w_696 (in_p (n := 17) 20 rfl) (by decide) (by decide) rfl rfl (Nat.le_of_ble_eq_true rfl) rfl rfl f1 (ct_mono h (fun r S2 h => ?_))
  obtain ⟨hm2, h⟩ := h
  obtain ⟨r3, rfl, h⟩ := h
  show T G J_S_receive 147 [(0, .ref a0), (1, .int x1), (2, .ref a2), (3, .ref a3), (4, .ref a4), (5, .int x5)] [.int r3] S2 _
  have hm := hm.tr hm2
  have f1 : te S2 a0 = some (.inr 10) := by rw [hm2.1]; exact f1
  refine tt_istore (k0 := 5) (lv' := [(0, .ref a0), (1, .int x1), (2, .ref a2), (3, .ref a3), (4, .ref a4), (5, .int r3)]) (by decide +kernel) (by decide) rfl ?_
  refine tt_goto (off := 3) (tgt := 152) (by decide +kernel) (by decide) ?_
  exact tt_mono h (fun r S' q => ⟨hm.tr q.1, q.2⟩)
set_option maxRecDepth 100000 in
theorem v_S_receive_162 {G : pG} (a0 : Nat) (x1 : Int32) (a2 : Nat) (a3 : Nat) (a4 : Nat) (x5 : Int32) (S : TS) (Q : Option Value → TS → Prop)
    (h : ((¬ x5 = (-4) → T1 G J_S_receive 181 [(0, .ref a0), (1, .int x1), (2, .ref a2), (3, .ref a3), (4, .ref a4), (5, .int x5)] [] S Q) ∧ (x5 = (-4) → te S a3 = some (.inr 6) ∧ CP G J_Side_listens [.ref a3] S (fun r => ∃ r2 : Int32, r = some (.int r2) ∧ ((r2 = 0 → T1 G J_S_receive 181 [(0, .ref a0), (1, .int x1), (2, .ref a2), (3, .ref a3), (4, .ref a4), (5, .int x5)] [] S Q) ∧ (¬ (r2 = 0) → C0 G J_Side_become [.ref a3, .int 4] S (fun r S3 => r = none ∧ T1 G J_S_receive 181 [(0, .ref a0), (1, .int x1), (2, .ref a2), (3, .ref a3), (4, .ref a4), (5, .int x5)] [] S3 Q))))))) :
    T1 G J_S_receive 162 [(0, .ref a0), (1, .int x1), (2, .ref a2), (3, .ref a3), (4, .ref a4), (5, .int x5)] [] S Q := by
  unfold T1
  have hm : Sm1 S S := Sm1.rf S
  refine tt_iload (k0 := 5) (by decide +kernel) rfl ?_
  refine tt_bipush (n := -4) (v := -4) (by decide +kernel) (by decide) ?_
  refine tt_icmp_ne (off := 15) 181 (by decide +kernel) (by decide) (fun c => ?_) (fun c => ?_)
  · have h := h.1 c
    exact tt_mono h (fun r S' q => ⟨hm.tr q.1, q.2⟩)
  · have h := h.2 c
    refine tt_aload_n (k0 := 3) (by decide +kernel) rfl ?_
    obtain ⟨f1, h⟩ := h
    refine tt_callV (As := []) (rest := []) (ci := 6) (r0 := (R_6, F_6, 13)) (by decide +kernel) LK_Side_listens w_650 w_651 w_652 (by decide) (by decide) rfl rfl (Nat.le_of_ble_eq_true rfl) rfl rfl f1 (ct_mono h (fun r Sb h => ?_))
    obtain ⟨eb, h⟩ := h
    obtain ⟨r2, rfl, h⟩ := h
    rw [eb]
    show T G J_S_receive 173 [(0, .ref a0), (1, .int x1), (2, .ref a2), (3, .ref a3), (4, .ref a4), (5, .int x5)] [.int r2] S _
    refine tt_if_eq (off := 8) 181 (by decide +kernel) (by decide) (fun c => ?_) (fun c => ?_)
    · have h := h.1 c
      exact tt_mono h (fun r S' q => ⟨hm.tr q.1, q.2⟩)
    · have h := h.2 c
      refine tt_aload_n (k0 := 3) (by decide +kernel) rfl ?_
      refine tt_iconst (n := 4) (v := 4) (by decide +kernel) (by decide) ?_
      refine tt_callV (As := [.int 4]) (rest := []) (ci := 6) (r0 := (R_6, F_6, 13)) (by decide +kernel) LK_Side_become w_454 w_455 w_456 (by decide) (by decide) rfl rfl (Nat.le_of_ble_eq_true rfl) rfl rfl f1 (ct_mono h (fun r S3 h => ?_))
      obtain ⟨hm2, h⟩ := h
      obtain ⟨rfl, h⟩ := h
      show T G J_S_receive 181 [(0, .ref a0), (1, .int x1), (2, .ref a2), (3, .ref a3), (4, .ref a4), (5, .int x5)] [] S3 _
      have hm := hm.tr hm2.s1
      have f1 : te S3 a3 = some (.inr 6) := by rw [hm2.1]; exact f1
      exact tt_mono h (fun r S' q => ⟨hm.tr q.1, q.2⟩)
set_option maxRecDepth 100000 in
theorem v_S_receive_181 {G : pG} (a0 : Nat) (x1 : Int32) (a2 : Nat) (a3 : Nat) (a4 : Nat) (x5 : Int32) (S : TS) (Q : Option Value → TS → Prop)
    (h : te S a2 = some (.inr 9) ∧ C1 G J_Wire_remove [.ref a2, .int 0] S (fun r S2 => r = none ∧ Q (some (.int x5)) S2)) :
    T1 G J_S_receive 181 [(0, .ref a0), (1, .int x1), (2, .ref a2), (3, .ref a3), (4, .ref a4), (5, .int x5)] [] S Q := by
  unfold T1
  have hm : Sm1 S S := Sm1.rf S
  refine tt_aload_n (k0 := 2) (by decide +kernel) rfl ?_
  refine tt_iconst (n := 0) (v := 0) (by decide +kernel) (by decide) ?_
  obtain ⟨f1, h⟩ := h
  refine tt_callV (As := [.int 0]) (rest := []) (ci := 9) (r0 := (R_9, F_9, 2)) (by decide +kernel) LK_Wire_remove w_768 w_769 w_770 (by decide) (by decide) rfl rfl (Nat.le_of_ble_eq_true rfl) rfl rfl f1 (ct_mono h (fun r S2 h => ?_))
  obtain ⟨hm2, h⟩ := h
  obtain ⟨rfl, h⟩ := h
  show T G J_S_receive 186 [(0, .ref a0), (1, .int x1), (2, .ref a2), (3, .ref a3), (4, .ref a4), (5, .int x5)] [] S2 _
  have hm := hm.tr hm2
  have f1 : te S2 a2 = some (.inr 9) := by rw [hm2.1]; exact f1
  refine tt_iload (k0 := 5) (by decide +kernel) rfl ?_
  exact tt_iret (by decide +kernel) rfl ⟨hm, h⟩
set_option maxRecDepth 100000 in
theorem v_S_isWire {G : pG} (x0 : Int32) (S : TS) (Q : Option Value → Prop)
    (h : ((x0 = 0 → Q (some (.int 1))) ∧ (¬ (x0 = 0) → ((¬ x0 = 1 → Q (some (.int 0))) ∧ (x0 = 1 → Q (some (.int 1))))))) :
    CP G J_S_isWire [.int x0] S Q := by
  unfold CP
  refine ct_of (by decide +kernel) (Nat.le_of_ble_eq_true rfl) (lv := [(0, .int x0)]) rfl ?_
  refine tt_iload_n (k0 := 0) (by decide +kernel) rfl ?_
  refine tt_if_eq (off := 8) 9 (by decide +kernel) (by decide) (fun c => ?_) (fun c => ?_)
  · have h := h.1 c
    refine tt_iconst (n := 1) (v := 1) (by decide +kernel) (by decide) ?_
    refine tt_goto (off := 4) (tgt := 14) (by decide +kernel) (by decide) ?_
    exact tt_zret (by decide +kernel) rfl rfl ⟨rfl, h⟩
  · have h := h.2 c
    refine tt_iload_n (k0 := 0) (by decide +kernel) rfl ?_
    refine tt_iconst (n := 1) (v := 1) (by decide +kernel) (by decide) ?_
    refine tt_icmp_ne (off := 7) 13 (by decide +kernel) (by decide) (fun c => ?_) (fun c => ?_)
    · have h := h.1 c
      refine tt_iconst (n := 0) (v := 0) (by decide +kernel) (by decide) ?_
      exact tt_zret (by decide +kernel) rfl rfl ⟨rfl, h⟩
    · have h := h.2 c
      refine tt_iconst (n := 1) (v := 1) (by decide +kernel) (by decide) ?_
      refine tt_goto (off := 4) (tgt := 14) (by decide +kernel) (by decide) ?_
      exact tt_zret (by decide +kernel) rfl rfl ⟨rfl, h⟩
set_option maxRecDepth 100000 in
theorem v_S_takeGreeting {G : pG} (a0 : Nat) (a1 : Nat) (a2 : Nat) (S : TS) (Q : Option Value → TS → Prop)
    (h : te S a1 = some (.inr 6) ∧ CP G J_Side_isServer [.ref a1] S (fun r => ∃ r2 : Int32, r = some (.int r2) ∧ ((r2 = 0 → Q (some (.int ((-4)))) S) ∧ (¬ (r2 = 0) → CP G J_Side_is [.ref a1, .int 0] S (fun r => ∃ r3 : Int32, r = some (.int r3) ∧ ((r3 = 0 → Q (some (.int ((-4)))) S) ∧ (¬ (r3 = 0) → te S a2 = some (.inr 0) ∧ CP G J_Bytes_size [.ref a2] S (fun r => ∃ r5 : Int32, r = some (.int r5) ∧ ((r5 = 36 → CP G J_Bytes_at [.ref a2, .int 35] S (fun r => ∃ r6 : Int32, r = some (.int r6) ∧ te S a0 = some (.inr 10) ∧ ∃ b8 : Nat, tR S a0 5 = some b8 ∧ te S b8 = some (.inr 6) ∧ CP G J_Side_hasKey [.ref b8, .int r6] S (fun r => ∃ r11 : Int32, r = some (.int r11) ∧ ((¬ r11 = 0 → ∃ b12 : Nat, tR S a0 7 = some b12 ∧ te S b12 = some (.inr 9) ∧ CP G J_Wire_isFull [.ref b12] S (fun r => ∃ r15 : Int32, r = some (.int r15) ∧ ((r15 = 0 → ∃ b16 : Nat, tR S a0 12 = some b16 ∧ C0 G J_Side_makeRandom [.ref b8, .ref b16] S (fun r S18 => r = none ∧ ∃ b19 : Nat, tR S18 a0 13 = some b19 ∧ te S18 b19 = some (.inr 0) ∧ C0 G J_Bytes_clear [.ref b19] S18 (fun r S22 => r = none ∧ C0 G J_Bytes_putPart [.ref b19, .ref a2, .int 3, .int 33] S22 (fun r S23 => r = none ∧ C0 G J_Bytes_putAll [.ref b19, .ref b16] S23 (fun r S24 => r = none ∧ C0 G J_Side_agree [.ref b8, .int r6, .ref b19] S24 (fun r S25 => r = none ∧ ∃ b26 : Nat, tR S25 a0 14 = some b26 ∧ C0 G J_Side_prove [.ref b8, .int 115, .ref b26] S25 (fun r S28 => r = none ∧ C0 G J_Wire_draft [.ref b12] S28 (fun r S29 => ∃ b30 : Nat, r = some (.ref b30) ∧ te S29 b30 = some (.inr 0) ∧ C0 G J_Bytes_putHead [.ref b30, .int 2, .int 64] S29 (fun r S32 => r = none ∧ C0 G J_Bytes_putAll [.ref b30, .ref b16] S32 (fun r S33 => r = none ∧ C0 G J_Bytes_putAll [.ref b30, .ref b26] S33 (fun r S34 => r = none ∧ C0 G J_Wire_send [.ref b12] S34 (fun r S35 => r = none ∧ C0 G J_Side_become [.ref b8, .int 1] S35 (fun r S36 => r = none ∧ Q (some (.int 1)) S36))))))))))))) ∧ (¬ (r15 = 0) → Q (some (.int ((-3)))) S)))) ∧ (r11 = 0 → Q (some (.int ((-4)))) S))))) ∧ (¬ (r5 = 36) → Q (some (.int ((-4)))) S)))))))))) :
    C0 G J_S_takeGreeting [.ref a0, .ref a1, .ref a2] S Q := by
  unfold C0
  refine ct_of (by decide +kernel) (Nat.le_of_ble_eq_true rfl) (lv := [(0, .ref a0), (1, .ref a1), (2, .ref a2)]) rfl ?_
  have hm : Sm0 S S := Sm0.rf S
  refine tt_aload_n (k0 := 1) (by decide +kernel) rfl ?_
  obtain ⟨f1, h⟩ := h
  refine tt_callV (As := []) (rest := []) (ci := 6) (r0 := (R_6, F_6, 13)) (by decide +kernel) LK_Side_isServer w_663 w_664 w_665 (by decide) (by decide) rfl rfl (Nat.le_of_ble_eq_true rfl) rfl rfl f1 (ct_mono h (fun r Sb h => ?_))
  obtain ⟨eb, h⟩ := h
  obtain ⟨r2, rfl, h⟩ := h
  rw [eb]
  show T G J_S_takeGreeting 4 [(0, .ref a0), (1, .ref a1), (2, .ref a2)] [.int r2] S _
  refine tt_if_eq (off := 20) 24 (by decide +kernel) (by decide) (fun c => ?_) (fun c => ?_)
  · have h := h.1 c
    refine tt_bipush (n := -4) (v := -4) (by decide +kernel) (by decide) ?_
    exact tt_iret (by decide +kernel) rfl ⟨hm, h⟩
  · have h := h.2 c
    refine tt_aload_n (k0 := 1) (by decide +kernel) rfl ?_
    refine tt_iconst (n := 0) (v := 0) (by decide +kernel) (by decide) ?_
    refine tt_callV (As := [.int 0]) (rest := []) (ci := 6) (r0 := (R_6, F_6, 13)) (by decide +kernel) LK_Side_is w_414 w_415 w_416 (by decide) (by decide) rfl rfl (Nat.le_of_ble_eq_true rfl) rfl rfl f1 (ct_mono h (fun r Sb h => ?_))
    obtain ⟨eb, h⟩ := h
    obtain ⟨r3, rfl, h⟩ := h
    rw [eb]
    show T G J_S_takeGreeting 12 [(0, .ref a0), (1, .ref a1), (2, .ref a2)] [.int r3] S _
    refine tt_if_eq (off := 12) 24 (by decide +kernel) (by decide) (fun c => ?_) (fun c => ?_)
    · have h := h.1 c
      refine tt_bipush (n := -4) (v := -4) (by decide +kernel) (by decide) ?_
      exact tt_iret (by decide +kernel) rfl ⟨hm, h⟩
    · have h := h.2 c
      refine tt_aload_n (k0 := 2) (by decide +kernel) rfl ?_
      obtain ⟨f4, h⟩ := h
      refine tt_callV (As := []) (rest := []) (ci := 0) (r0 := (R_0, F_0, 2)) (by decide +kernel) LK_Bytes_size w_298 w_299 w_300 (by decide) (by decide) rfl rfl (Nat.le_of_ble_eq_true rfl) rfl rfl f4 (ct_mono h (fun r Sb h => ?_))
      obtain ⟨eb, h⟩ := h
      obtain ⟨r5, rfl, h⟩ := h
      rw [eb]
      show T G J_S_takeGreeting 19 [(0, .ref a0), (1, .ref a1), (2, .ref a2)] [.int r5] S _
      refine tt_bipush (n := 36) (v := 36) (by decide +kernel) (by decide) ?_
      refine tt_icmp_eq (off := 6) 27 (by decide +kernel) (by decide) (fun c => ?_) (fun c => ?_)
      · have h := h.1 c
        refine tt_aload_n (k0 := 2) (by decide +kernel) rfl ?_
        refine tt_bipush (n := 35) (v := 35) (by decide +kernel) (by decide) ?_
        refine tt_callV (As := [.int 35]) (rest := []) (ci := 0) (r0 := (R_0, F_0, 2)) (by decide +kernel) LK_Bytes_at w_326 w_327 w_328 (by decide) (by decide) rfl rfl (Nat.le_of_ble_eq_true rfl) rfl rfl f4 (ct_mono h (fun r Sb h => ?_))
        obtain ⟨eb, h⟩ := h
        obtain ⟨r6, rfl, h⟩ := h
        rw [eb]
        show T G J_S_takeGreeting 33 [(0, .ref a0), (1, .ref a1), (2, .ref a2)] [.int r6] S _
        refine tt_istore_n (k0 := 3) (lv' := [(0, .ref a0), (1, .ref a1), (2, .ref a2), (3, .int r6)]) (by decide +kernel) (by decide) rfl ?_
        refine tt_aload_n (k0 := 0) (by decide +kernel) rfl ?_
        obtain ⟨f7, h⟩ := h
        obtain ⟨b8, f9, h⟩ := h
        refine tt_getR (k := 5) (by decide +kernel) KC_10 (by decide) w_247 (fun _ => rfl) f7 f9 ?_
        refine tt_iload_n (k0 := 3) (by decide +kernel) rfl ?_
        obtain ⟨f10, h⟩ := h
        refine tt_callV (As := [.int r6]) (rest := []) (ci := 6) (r0 := (R_6, F_6, 13)) (by decide +kernel) LK_Side_hasKey w_400 w_401 w_402 (by decide) (by decide) rfl rfl (Nat.le_of_ble_eq_true rfl) rfl rfl f10 (ct_mono h (fun r Sb h => ?_))
        obtain ⟨eb, h⟩ := h
        obtain ⟨r11, rfl, h⟩ := h
        rw [eb]
        show T G J_S_takeGreeting 42 [(0, .ref a0), (1, .ref a1), (2, .ref a2), (3, .int r6)] [.int r11] S _
        refine tt_if_ne (off := 6) 48 (by decide +kernel) (by decide) (fun c => ?_) (fun c => ?_)
        · have h := h.1 c
          refine tt_aload_n (k0 := 0) (by decide +kernel) rfl ?_
          obtain ⟨b12, f13, h⟩ := h
          refine tt_getR (k := 7) (by decide +kernel) KC_10 (by decide) w_249 (fun _ => rfl) f7 f13 ?_
          obtain ⟨f14, h⟩ := h
          refine tt_callV (As := []) (rest := []) (ci := 9) (r0 := (R_9, F_9, 2)) (by decide +kernel) LK_Wire_isFull w_418 w_419 w_420 (by decide) (by decide) rfl rfl (Nat.le_of_ble_eq_true rfl) rfl rfl f14 (ct_mono h (fun r Sb h => ?_))
          obtain ⟨eb, h⟩ := h
          obtain ⟨r15, rfl, h⟩ := h
          rw [eb]
          show T G J_S_takeGreeting 55 [(0, .ref a0), (1, .ref a1), (2, .ref a2), (3, .int r6)] [.int r15] S _
          refine tt_if_eq (off := 6) 61 (by decide +kernel) (by decide) (fun c => ?_) (fun c => ?_)
          · have h := h.1 c
            refine tt_aload_n (k0 := 0) (by decide +kernel) rfl ?_
            refine tt_getR (k := 5) (by decide +kernel) KC_10 (by decide) w_247 (fun _ => rfl) f7 f9 ?_
            refine tt_aload_n (k0 := 0) (by decide +kernel) rfl ?_
            obtain ⟨b16, f17, h⟩ := h
            refine tt_getR (k := 12) (by decide +kernel) KC_10 (by decide) w_254 (fun _ => rfl) f7 f17 ?_
            refine tt_callV (As := [.ref b16]) (rest := []) (ci := 6) (r0 := (R_6, F_6, 13)) (by decide +kernel) LK_Side_makeRandom w_422 w_423 w_424 (by decide) (by decide) rfl rfl (Nat.le_of_ble_eq_true rfl) rfl rfl f10 (ct_mono h (fun r S18 h => ?_))
            obtain ⟨hm2, h⟩ := h
            obtain ⟨rfl, h⟩ := h
            show T G J_S_takeGreeting 72 [(0, .ref a0), (1, .ref a1), (2, .ref a2), (3, .int r6)] [] S18 _
            have hm := hm.tr hm2
            have f1 : te S18 a1 = some (.inr 6) := by rw [hm2.1]; exact f1
            have f4 : te S18 a2 = some (.inr 0) := by rw [hm2.1]; exact f4
            have f7 : te S18 a0 = some (.inr 10) := by rw [hm2.1]; exact f7
            have f9 : tR S18 a0 5 = some b8 := by rw [hm2.R]; exact f9
            have f10 : te S18 b8 = some (.inr 6) := by rw [hm2.1]; exact f10
            have f13 : tR S18 a0 7 = some b12 := by rw [hm2.R]; exact f13
            have f14 : te S18 b12 = some (.inr 9) := by rw [hm2.1]; exact f14
            have f17 : tR S18 a0 12 = some b16 := by rw [hm2.R]; exact f17
            refine tt_aload_n (k0 := 0) (by decide +kernel) rfl ?_
            obtain ⟨b19, f20, h⟩ := h
            refine tt_getR (k := 13) (by decide +kernel) KC_10 (by decide) w_255 (fun _ => rfl) f7 f20 ?_
            obtain ⟨f21, h⟩ := h
            refine tt_callV (As := []) (rest := []) (ci := 0) (r0 := (R_0, F_0, 2)) (by decide +kernel) LK_Bytes_clear w_395 w_392 w_393 (by decide) (by decide) rfl rfl (Nat.le_of_ble_eq_true rfl) rfl rfl f21 (ct_mono h (fun r S22 h => ?_))
            obtain ⟨hm2, h⟩ := h
            obtain ⟨rfl, h⟩ := h
            show T G J_S_takeGreeting 79 [(0, .ref a0), (1, .ref a1), (2, .ref a2), (3, .int r6)] [] S22 _
            have hm := hm.tr hm2
            have f1 : te S22 a1 = some (.inr 6) := by rw [hm2.1]; exact f1
            have f4 : te S22 a2 = some (.inr 0) := by rw [hm2.1]; exact f4
            have f7 : te S22 a0 = some (.inr 10) := by rw [hm2.1]; exact f7
            have f9 : tR S22 a0 5 = some b8 := by rw [hm2.R]; exact f9
            have f10 : te S22 b8 = some (.inr 6) := by rw [hm2.1]; exact f10
            have f13 : tR S22 a0 7 = some b12 := by rw [hm2.R]; exact f13
            have f14 : te S22 b12 = some (.inr 9) := by rw [hm2.1]; exact f14
            have f17 : tR S22 a0 12 = some b16 := by rw [hm2.R]; exact f17
            have f20 : tR S22 a0 13 = some b19 := by rw [hm2.R]; exact f20
            have f21 : te S22 b19 = some (.inr 0) := by rw [hm2.1]; exact f21
            refine tt_aload_n (k0 := 0) (by decide +kernel) rfl ?_
            refine tt_getR (k := 13) (by decide +kernel) KC_10 (by decide) w_255 (fun _ => rfl) f7 f20 ?_
            refine tt_aload_n (k0 := 2) (by decide +kernel) rfl ?_
            refine tt_iconst (n := 3) (v := 3) (by decide +kernel) (by decide) ?_
            refine tt_bipush (n := 33) (v := 33) (by decide +kernel) (by decide) ?_
            refine tt_callV (As := [.ref a2, .int 3, .int 33]) (rest := []) (ci := 0) (r0 := (R_0, F_0, 2)) (by decide +kernel) LK_Bytes_putPart w_667 w_358 w_359 (by decide) (by decide) rfl rfl (Nat.le_of_ble_eq_true rfl) rfl rfl f21 (ct_mono h (fun r S23 h => ?_))
            obtain ⟨hm2, h⟩ := h
            obtain ⟨rfl, h⟩ := h
            show T G J_S_takeGreeting 90 [(0, .ref a0), (1, .ref a1), (2, .ref a2), (3, .int r6)] [] S23 _
            have hm := hm.tr hm2
            have f1 : te S23 a1 = some (.inr 6) := by rw [hm2.1]; exact f1
            have f4 : te S23 a2 = some (.inr 0) := by rw [hm2.1]; exact f4
            have f7 : te S23 a0 = some (.inr 10) := by rw [hm2.1]; exact f7
            have f9 : tR S23 a0 5 = some b8 := by rw [hm2.R]; exact f9
            have f10 : te S23 b8 = some (.inr 6) := by rw [hm2.1]; exact f10
            have f13 : tR S23 a0 7 = some b12 := by rw [hm2.R]; exact f13
            have f14 : te S23 b12 = some (.inr 9) := by rw [hm2.1]; exact f14
            have f17 : tR S23 a0 12 = some b16 := by rw [hm2.R]; exact f17
            have f20 : tR S23 a0 13 = some b19 := by rw [hm2.R]; exact f20
            have f21 : te S23 b19 = some (.inr 0) := by rw [hm2.1]; exact f21
            refine tt_aload_n (k0 := 0) (by decide +kernel) rfl ?_
            refine tt_getR (k := 13) (by decide +kernel) KC_10 (by decide) w_255 (fun _ => rfl) f7 f20 ?_
            refine tt_aload_n (k0 := 0) (by decide +kernel) rfl ?_
            refine tt_getR (k := 12) (by decide +kernel) KC_10 (by decide) w_254 (fun _ => rfl) f7 f17 ?_
            refine tt_callV (As := [.ref b16]) (rest := []) (ci := 0) (r0 := (R_0, F_0, 2)) (by decide +kernel) LK_Bytes_putAll w_446 w_447 w_448 (by decide) (by decide) rfl rfl (Nat.le_of_ble_eq_true rfl) rfl rfl f21 (ct_mono h (fun r S24 h => ?_))
            obtain ⟨hm2, h⟩ := h
            obtain ⟨rfl, h⟩ := h
            show T G J_S_takeGreeting 101 [(0, .ref a0), (1, .ref a1), (2, .ref a2), (3, .int r6)] [] S24 _
            have hm := hm.tr hm2
            have f1 : te S24 a1 = some (.inr 6) := by rw [hm2.1]; exact f1
            have f4 : te S24 a2 = some (.inr 0) := by rw [hm2.1]; exact f4
            have f7 : te S24 a0 = some (.inr 10) := by rw [hm2.1]; exact f7
            have f9 : tR S24 a0 5 = some b8 := by rw [hm2.R]; exact f9
            have f10 : te S24 b8 = some (.inr 6) := by rw [hm2.1]; exact f10
            have f13 : tR S24 a0 7 = some b12 := by rw [hm2.R]; exact f13
            have f14 : te S24 b12 = some (.inr 9) := by rw [hm2.1]; exact f14
            have f17 : tR S24 a0 12 = some b16 := by rw [hm2.R]; exact f17
            have f20 : tR S24 a0 13 = some b19 := by rw [hm2.R]; exact f20
            have f21 : te S24 b19 = some (.inr 0) := by rw [hm2.1]; exact f21
            refine tt_aload_n (k0 := 0) (by decide +kernel) rfl ?_
            refine tt_getR (k := 5) (by decide +kernel) KC_10 (by decide) w_247 (fun _ => rfl) f7 f9 ?_
            refine tt_iload_n (k0 := 3) (by decide +kernel) rfl ?_
            refine tt_aload_n (k0 := 0) (by decide +kernel) rfl ?_
            refine tt_getR (k := 13) (by decide +kernel) KC_10 (by decide) w_255 (fun _ => rfl) f7 f20 ?_
            refine tt_callV (As := [.int r6, .ref b19]) (rest := []) (ci := 6) (r0 := (R_6, F_6, 13)) (by decide +kernel) LK_Side_agree w_668 w_669 w_670 (by decide) (by decide) rfl rfl (Nat.le_of_ble_eq_true rfl) rfl rfl f10 (ct_mono h (fun r S25 h => ?_))
            obtain ⟨hm2, h⟩ := h
            obtain ⟨rfl, h⟩ := h
            show T G J_S_takeGreeting 113 [(0, .ref a0), (1, .ref a1), (2, .ref a2), (3, .int r6)] [] S25 _
            have hm := hm.tr hm2
            have f1 : te S25 a1 = some (.inr 6) := by rw [hm2.1]; exact f1
            have f4 : te S25 a2 = some (.inr 0) := by rw [hm2.1]; exact f4
            have f7 : te S25 a0 = some (.inr 10) := by rw [hm2.1]; exact f7
            have f9 : tR S25 a0 5 = some b8 := by rw [hm2.R]; exact f9
            have f10 : te S25 b8 = some (.inr 6) := by rw [hm2.1]; exact f10
            have f13 : tR S25 a0 7 = some b12 := by rw [hm2.R]; exact f13
            have f14 : te S25 b12 = some (.inr 9) := by rw [hm2.1]; exact f14
            have f17 : tR S25 a0 12 = some b16 := by rw [hm2.R]; exact f17
            have f20 : tR S25 a0 13 = some b19 := by rw [hm2.R]; exact f20
            have f21 : te S25 b19 = some (.inr 0) := by rw [hm2.1]; exact f21
            refine tt_aload_n (k0 := 0) (by decide +kernel) rfl ?_
            refine tt_getR (k := 5) (by decide +kernel) KC_10 (by decide) w_247 (fun _ => rfl) f7 f9 ?_
            refine tt_bipush (n := 115) (v := 115) (by decide +kernel) (by decide) ?_
            refine tt_aload_n (k0 := 0) (by decide +kernel) rfl ?_
            obtain ⟨b26, f27, h⟩ := h
            refine tt_getR (k := 14) (by decide +kernel) KC_10 (by decide) w_256 (fun _ => rfl) f7 f27 ?_
            refine tt_callV (As := [.int 115, .ref b26]) (rest := []) (ci := 6) (r0 := (R_6, F_6, 13)) (by decide +kernel) LK_Side_prove w_673 w_674 w_675 (by decide) (by decide) rfl rfl (Nat.le_of_ble_eq_true rfl) rfl rfl f10 (ct_mono h (fun r S28 h => ?_))
            obtain ⟨hm2, h⟩ := h
            obtain ⟨rfl, h⟩ := h
            show T G J_S_takeGreeting 126 [(0, .ref a0), (1, .ref a1), (2, .ref a2), (3, .int r6)] [] S28 _
            have hm := hm.tr hm2
            have f1 : te S28 a1 = some (.inr 6) := by rw [hm2.1]; exact f1
            have f4 : te S28 a2 = some (.inr 0) := by rw [hm2.1]; exact f4
            have f7 : te S28 a0 = some (.inr 10) := by rw [hm2.1]; exact f7
            have f9 : tR S28 a0 5 = some b8 := by rw [hm2.R]; exact f9
            have f10 : te S28 b8 = some (.inr 6) := by rw [hm2.1]; exact f10
            have f13 : tR S28 a0 7 = some b12 := by rw [hm2.R]; exact f13
            have f14 : te S28 b12 = some (.inr 9) := by rw [hm2.1]; exact f14
            have f17 : tR S28 a0 12 = some b16 := by rw [hm2.R]; exact f17
            have f20 : tR S28 a0 13 = some b19 := by rw [hm2.R]; exact f20
            have f21 : te S28 b19 = some (.inr 0) := by rw [hm2.1]; exact f21
            have f27 : tR S28 a0 14 = some b26 := by rw [hm2.R]; exact f27
            refine tt_aload_n (k0 := 0) (by decide +kernel) rfl ?_
            refine tt_getR (k := 7) (by decide +kernel) KC_10 (by decide) w_249 (fun _ => rfl) f7 f13 ?_
            refine tt_callV (As := []) (rest := []) (ci := 9) (r0 := (R_9, F_9, 2)) (by decide +kernel) LK_Wire_draft w_433 w_434 w_435 (by decide) (by decide) rfl rfl (Nat.le_of_ble_eq_true rfl) rfl rfl f14 (ct_mono h (fun r S29 h => ?_))
            obtain ⟨hm2, h⟩ := h
            obtain ⟨b30, rfl, h⟩ := h
            show T G J_S_takeGreeting 133 [(0, .ref a0), (1, .ref a1), (2, .ref a2), (3, .int r6)] [.ref b30] S29 _
            have hm := hm.tr hm2
            have f1 : te S29 a1 = some (.inr 6) := by rw [hm2.1]; exact f1
            have f4 : te S29 a2 = some (.inr 0) := by rw [hm2.1]; exact f4
            have f7 : te S29 a0 = some (.inr 10) := by rw [hm2.1]; exact f7
            have f9 : tR S29 a0 5 = some b8 := by rw [hm2.R]; exact f9
            have f10 : te S29 b8 = some (.inr 6) := by rw [hm2.1]; exact f10
            have f13 : tR S29 a0 7 = some b12 := by rw [hm2.R]; exact f13
            have f14 : te S29 b12 = some (.inr 9) := by rw [hm2.1]; exact f14
            have f17 : tR S29 a0 12 = some b16 := by rw [hm2.R]; exact f17
            have f20 : tR S29 a0 13 = some b19 := by rw [hm2.R]; exact f20
            have f21 : te S29 b19 = some (.inr 0) := by rw [hm2.1]; exact f21
            have f27 : tR S29 a0 14 = some b26 := by rw [hm2.R]; exact f27
            refine tt_astore (k0 := 4) (lv' := [(0, .ref a0), (1, .ref a1), (2, .ref a2), (3, .int r6), (4, .ref b30)]) (by decide +kernel) (by decide) rfl ?_
            refine tt_aload (k0 := 4) (by decide +kernel) rfl ?_
            refine tt_iconst (n := 2) (v := 2) (by decide +kernel) (by decide) ?_
            refine tt_bipush (n := 64) (v := 64) (by decide +kernel) (by decide) ?_
            obtain ⟨f31, h⟩ := h
            refine tt_callV (As := [.int 2, .int 64]) (rest := []) (ci := 0) (r0 := (R_0, F_0, 2)) (by decide +kernel) LK_Bytes_putHead w_438 w_439 w_440 (by decide) (by decide) rfl rfl (Nat.le_of_ble_eq_true rfl) rfl rfl f31 (ct_mono h (fun r S32 h => ?_))
            obtain ⟨hm2, h⟩ := h
            obtain ⟨rfl, h⟩ := h
            show T G J_S_takeGreeting 143 [(0, .ref a0), (1, .ref a1), (2, .ref a2), (3, .int r6), (4, .ref b30)] [] S32 _
            have hm := hm.tr hm2
            have f1 : te S32 a1 = some (.inr 6) := by rw [hm2.1]; exact f1
            have f4 : te S32 a2 = some (.inr 0) := by rw [hm2.1]; exact f4
            have f7 : te S32 a0 = some (.inr 10) := by rw [hm2.1]; exact f7
            have f9 : tR S32 a0 5 = some b8 := by rw [hm2.R]; exact f9
            have f10 : te S32 b8 = some (.inr 6) := by rw [hm2.1]; exact f10
            have f13 : tR S32 a0 7 = some b12 := by rw [hm2.R]; exact f13
            have f14 : te S32 b12 = some (.inr 9) := by rw [hm2.1]; exact f14
            have f17 : tR S32 a0 12 = some b16 := by rw [hm2.R]; exact f17
            have f20 : tR S32 a0 13 = some b19 := by rw [hm2.R]; exact f20
            have f21 : te S32 b19 = some (.inr 0) := by rw [hm2.1]; exact f21
            have f27 : tR S32 a0 14 = some b26 := by rw [hm2.R]; exact f27
            have f31 : te S32 b30 = some (.inr 0) := by rw [hm2.1]; exact f31
            refine tt_aload (k0 := 4) (by decide +kernel) rfl ?_
            refine tt_aload_n (k0 := 0) (by decide +kernel) rfl ?_
            refine tt_getR (k := 12) (by decide +kernel) KC_10 (by decide) w_254 (fun _ => rfl) f7 f17 ?_
            refine tt_callV (As := [.ref b16]) (rest := []) (ci := 0) (r0 := (R_0, F_0, 2)) (by decide +kernel) LK_Bytes_putAll w_446 w_447 w_448 (by decide) (by decide) rfl rfl (Nat.le_of_ble_eq_true rfl) rfl rfl f31 (ct_mono h (fun r S33 h => ?_))
            obtain ⟨hm2, h⟩ := h
            obtain ⟨rfl, h⟩ := h
            show T G J_S_takeGreeting 152 [(0, .ref a0), (1, .ref a1), (2, .ref a2), (3, .int r6), (4, .ref b30)] [] S33 _
            have hm := hm.tr hm2
            have f1 : te S33 a1 = some (.inr 6) := by rw [hm2.1]; exact f1
            have f4 : te S33 a2 = some (.inr 0) := by rw [hm2.1]; exact f4
            have f7 : te S33 a0 = some (.inr 10) := by rw [hm2.1]; exact f7
            have f9 : tR S33 a0 5 = some b8 := by rw [hm2.R]; exact f9
            have f10 : te S33 b8 = some (.inr 6) := by rw [hm2.1]; exact f10
            have f13 : tR S33 a0 7 = some b12 := by rw [hm2.R]; exact f13
            have f14 : te S33 b12 = some (.inr 9) := by rw [hm2.1]; exact f14
            have f17 : tR S33 a0 12 = some b16 := by rw [hm2.R]; exact f17
            have f20 : tR S33 a0 13 = some b19 := by rw [hm2.R]; exact f20
            have f21 : te S33 b19 = some (.inr 0) := by rw [hm2.1]; exact f21
            have f27 : tR S33 a0 14 = some b26 := by rw [hm2.R]; exact f27
            have f31 : te S33 b30 = some (.inr 0) := by rw [hm2.1]; exact f31
            refine tt_aload (k0 := 4) (by decide +kernel) rfl ?_
            refine tt_aload_n (k0 := 0) (by decide +kernel) rfl ?_
            refine tt_getR (k := 14) (by decide +kernel) KC_10 (by decide) w_256 (fun _ => rfl) f7 f27 ?_
            refine tt_callV (As := [.ref b26]) (rest := []) (ci := 0) (r0 := (R_0, F_0, 2)) (by decide +kernel) LK_Bytes_putAll w_446 w_447 w_448 (by decide) (by decide) rfl rfl (Nat.le_of_ble_eq_true rfl) rfl rfl f31 (ct_mono h (fun r S34 h => ?_))
            obtain ⟨hm2, h⟩ := h
            obtain ⟨rfl, h⟩ := h
            show T G J_S_takeGreeting 161 [(0, .ref a0), (1, .ref a1), (2, .ref a2), (3, .int r6), (4, .ref b30)] [] S34 _
            have hm := hm.tr hm2
            have f1 : te S34 a1 = some (.inr 6) := by rw [hm2.1]; exact f1
            have f4 : te S34 a2 = some (.inr 0) := by rw [hm2.1]; exact f4
            have f7 : te S34 a0 = some (.inr 10) := by rw [hm2.1]; exact f7
            have f9 : tR S34 a0 5 = some b8 := by rw [hm2.R]; exact f9
            have f10 : te S34 b8 = some (.inr 6) := by rw [hm2.1]; exact f10
            have f13 : tR S34 a0 7 = some b12 := by rw [hm2.R]; exact f13
            have f14 : te S34 b12 = some (.inr 9) := by rw [hm2.1]; exact f14
            have f17 : tR S34 a0 12 = some b16 := by rw [hm2.R]; exact f17
            have f20 : tR S34 a0 13 = some b19 := by rw [hm2.R]; exact f20
            have f21 : te S34 b19 = some (.inr 0) := by rw [hm2.1]; exact f21
            have f27 : tR S34 a0 14 = some b26 := by rw [hm2.R]; exact f27
            have f31 : te S34 b30 = some (.inr 0) := by rw [hm2.1]; exact f31
            refine tt_aload_n (k0 := 0) (by decide +kernel) rfl ?_
            refine tt_getR (k := 7) (by decide +kernel) KC_10 (by decide) w_249 (fun _ => rfl) f7 f13 ?_
            refine tt_callV (As := []) (rest := []) (ci := 9) (r0 := (R_9, F_9, 2)) (by decide +kernel) LK_Wire_send w_450 w_451 w_452 (by decide) (by decide) rfl rfl (Nat.le_of_ble_eq_true rfl) rfl rfl f14 (ct_mono h (fun r S35 h => ?_))
            obtain ⟨hm2, h⟩ := h
            obtain ⟨rfl, h⟩ := h
            show T G J_S_takeGreeting 168 [(0, .ref a0), (1, .ref a1), (2, .ref a2), (3, .int r6), (4, .ref b30)] [] S35 _
            have hm := hm.tr hm2
            have f1 : te S35 a1 = some (.inr 6) := by rw [hm2.1]; exact f1
            have f4 : te S35 a2 = some (.inr 0) := by rw [hm2.1]; exact f4
            have f7 : te S35 a0 = some (.inr 10) := by rw [hm2.1]; exact f7
            have f9 : tR S35 a0 5 = some b8 := by rw [hm2.R]; exact f9
            have f10 : te S35 b8 = some (.inr 6) := by rw [hm2.1]; exact f10
            have f13 : tR S35 a0 7 = some b12 := by rw [hm2.R]; exact f13
            have f14 : te S35 b12 = some (.inr 9) := by rw [hm2.1]; exact f14
            have f17 : tR S35 a0 12 = some b16 := by rw [hm2.R]; exact f17
            have f20 : tR S35 a0 13 = some b19 := by rw [hm2.R]; exact f20
            have f21 : te S35 b19 = some (.inr 0) := by rw [hm2.1]; exact f21
            have f27 : tR S35 a0 14 = some b26 := by rw [hm2.R]; exact f27
            have f31 : te S35 b30 = some (.inr 0) := by rw [hm2.1]; exact f31
            refine tt_aload_n (k0 := 0) (by decide +kernel) rfl ?_
            refine tt_getR (k := 5) (by decide +kernel) KC_10 (by decide) w_247 (fun _ => rfl) f7 f9 ?_
            refine tt_iconst (n := 1) (v := 1) (by decide +kernel) (by decide) ?_
            refine tt_callV (As := [.int 1]) (rest := []) (ci := 6) (r0 := (R_6, F_6, 13)) (by decide +kernel) LK_Side_become w_454 w_455 w_456 (by decide) (by decide) rfl rfl (Nat.le_of_ble_eq_true rfl) rfl rfl f10 (ct_mono h (fun r S36 h => ?_))
            obtain ⟨hm2, h⟩ := h
            obtain ⟨rfl, h⟩ := h
            show T G J_S_takeGreeting 176 [(0, .ref a0), (1, .ref a1), (2, .ref a2), (3, .int r6), (4, .ref b30)] [] S36 _
            have hm := hm.tr hm2
            have f1 : te S36 a1 = some (.inr 6) := by rw [hm2.1]; exact f1
            have f4 : te S36 a2 = some (.inr 0) := by rw [hm2.1]; exact f4
            have f7 : te S36 a0 = some (.inr 10) := by rw [hm2.1]; exact f7
            have f9 : tR S36 a0 5 = some b8 := by rw [hm2.R]; exact f9
            have f10 : te S36 b8 = some (.inr 6) := by rw [hm2.1]; exact f10
            have f13 : tR S36 a0 7 = some b12 := by rw [hm2.R]; exact f13
            have f14 : te S36 b12 = some (.inr 9) := by rw [hm2.1]; exact f14
            have f17 : tR S36 a0 12 = some b16 := by rw [hm2.R]; exact f17
            have f20 : tR S36 a0 13 = some b19 := by rw [hm2.R]; exact f20
            have f21 : te S36 b19 = some (.inr 0) := by rw [hm2.1]; exact f21
            have f27 : tR S36 a0 14 = some b26 := by rw [hm2.R]; exact f27
            have f31 : te S36 b30 = some (.inr 0) := by rw [hm2.1]; exact f31
            refine tt_iconst (n := 1) (v := 1) (by decide +kernel) (by decide) ?_
            exact tt_iret (by decide +kernel) rfl ⟨hm, h⟩
          · have h := h.2 c
            refine tt_bipush (n := -3) (v := -3) (by decide +kernel) (by decide) ?_
            exact tt_iret (by decide +kernel) rfl ⟨hm, h⟩
        · have h := h.2 c
          refine tt_bipush (n := -4) (v := -4) (by decide +kernel) (by decide) ?_
          exact tt_iret (by decide +kernel) rfl ⟨hm, h⟩
      · have h := h.2 c
        refine tt_bipush (n := -4) (v := -4) (by decide +kernel) (by decide) ?_
        exact tt_iret (by decide +kernel) rfl ⟨hm, h⟩
set_option maxRecDepth 100000 in
theorem v_S_takeReply {G : pG} (a0 : Nat) (a1 : Nat) (a2 : Nat) (S : TS) (Q : Option Value → TS → Prop)
    (h : te S a1 = some (.inr 6) ∧ CP G J_Side_isServer [.ref a1] S (fun r => ∃ r2 : Int32, r = some (.int r2) ∧ ((¬ r2 = 0 → Q (some (.int ((-4)))) S) ∧ (r2 = 0 → CP G J_Side_is [.ref a1, .int 1] S (fun r => ∃ r3 : Int32, r = some (.int r3) ∧ ((r3 = 0 → Q (some (.int ((-4)))) S) ∧ (¬ (r3 = 0) → te S a2 = some (.inr 0) ∧ CP G J_Bytes_size [.ref a2] S (fun r => ∃ r5 : Int32, r = some (.int r5) ∧ ((r5 = 67 → te S a0 = some (.inr 10) ∧ ∃ b7 : Nat, tR S a0 4 = some b7 ∧ te S b7 = some (.inr 6) ∧ CP G J_Side_greeting [.ref b7] S (fun r => ∃ b10 : Nat, r = some (.ref b10) ∧ te S b10 = some (.inr 0) ∧ CP G J_Bytes_at [.ref b10, .int 32] S (fun r => ∃ r12 : Int32, r = some (.int r12) ∧ CP G J_Side_hasKey [.ref b7, .int r12] S (fun r => ∃ r13 : Int32, r = some (.int r13) ∧ ((¬ r13 = 0 → ∃ b14 : Nat, tR S a0 13 = some b14 ∧ CP G J_Side_greeting [.ref b7] S (fun r => ∃ b16 : Nat, r = some (.ref b16) ∧ te S b14 = some (.inr 0) ∧ C0 G J_Bytes_become [.ref b14, .ref b16] S (fun r S18 => r = none ∧ C0 G J_Bytes_putPart [.ref b14, .ref a2, .int 3, .int 32] S18 (fun r S19 => r = none ∧ C0 G J_Side_agree [.ref b7, .int r12, .ref b14] S19 (fun r S20 => r = none ∧ ∃ b21 : Nat, tR S20 a0 14 = some b21 ∧ C0 G J_Side_prove [.ref b7, .int 115, .ref b21] S20 (fun r S23 => r = none ∧ CP G J_Bytes_holdsAt [.ref a2, .int 35, .ref b21] S23 (fun r => ∃ r24 : Int32, r = some (.int r24) ∧ ((¬ r24 = 0 → ∃ b25 : Nat, tR S23 a0 6 = some b25 ∧ te S23 b25 = some (.inr 9) ∧ CP G J_Wire_isFull [.ref b25] S23 (fun r => ∃ r28 : Int32, r = some (.int r28) ∧ ((r28 = 0 → C0 G J_Side_prove [.ref b7, .int 99, .ref b21] S23 (fun r S29 => r = none ∧ C0 G J_Wire_draft [.ref b25] S29 (fun r S30 => ∃ b31 : Nat, r = some (.ref b31) ∧ te S30 b31 = some (.inr 0) ∧ C0 G J_Bytes_putHead [.ref b31, .int 3, .int 32] S30 (fun r S33 => r = none ∧ C0 G J_Bytes_putAll [.ref b31, .ref b21] S33 (fun r S34 => r = none ∧ C0 G J_Wire_send [.ref b25] S34 (fun r S35 => r = none ∧ C0 G J_Side_open [.ref b7] S35 (fun r S36 => r = none ∧ ∃ b37 : Nat, tR S36 a0 10 = some b37 ∧ te S36 b37 = some (.inr 0) ∧ C0 G J_Bytes_clear [.ref b37] S36 (fun r S40 => r = none ∧ Q (some (.int 2)) S40)))))))) ∧ (¬ (r28 = 0) → Q (some (.int ((-3)))) S23)))) ∧ (r24 = 0 → Q (some (.int ((-4)))) S23))))))))) ∧ (r13 = 0 → Q (some (.int ((-4)))) S)))))) ∧ (¬ (r5 = 67) → Q (some (.int ((-4)))) S)))))))))) :
    C0 G J_S_takeReply [.ref a0, .ref a1, .ref a2] S Q := by
  unfold C0
  refine ct_of (by decide +kernel) (Nat.le_of_ble_eq_true rfl) (lv := [(0, .ref a0), (1, .ref a1), (2, .ref a2)]) rfl ?_
  have hm : Sm0 S S := Sm0.rf S
  refine tt_aload_n (k0 := 1) (by decide +kernel) rfl ?_
  obtain ⟨f1, h⟩ := h
  refine tt_callV (As := []) (rest := []) (ci := 6) (r0 := (R_6, F_6, 13)) (by decide +kernel) LK_Side_isServer w_663 w_664 w_665 (by decide) (by decide) rfl rfl (Nat.le_of_ble_eq_true rfl) rfl rfl f1 (ct_mono h (fun r Sb h => ?_))
  obtain ⟨eb, h⟩ := h
  obtain ⟨r2, rfl, h⟩ := h
  rw [eb]
  show T G J_S_takeReply 4 [(0, .ref a0), (1, .ref a1), (2, .ref a2)] [.int r2] S _
  refine tt_if_ne (off := 20) 24 (by decide +kernel) (by decide) (fun c => ?_) (fun c => ?_)
  · have h := h.1 c
    refine tt_bipush (n := -4) (v := -4) (by decide +kernel) (by decide) ?_
    exact tt_iret (by decide +kernel) rfl ⟨hm, h⟩
  · have h := h.2 c
    refine tt_aload_n (k0 := 1) (by decide +kernel) rfl ?_
    refine tt_iconst (n := 1) (v := 1) (by decide +kernel) (by decide) ?_
    refine tt_callV (As := [.int 1]) (rest := []) (ci := 6) (r0 := (R_6, F_6, 13)) (by decide +kernel) LK_Side_is w_414 w_415 w_416 (by decide) (by decide) rfl rfl (Nat.le_of_ble_eq_true rfl) rfl rfl f1 (ct_mono h (fun r Sb h => ?_))
    obtain ⟨eb, h⟩ := h
    obtain ⟨r3, rfl, h⟩ := h
    rw [eb]
    show T G J_S_takeReply 12 [(0, .ref a0), (1, .ref a1), (2, .ref a2)] [.int r3] S _
    refine tt_if_eq (off := 12) 24 (by decide +kernel) (by decide) (fun c => ?_) (fun c => ?_)
    · have h := h.1 c
      refine tt_bipush (n := -4) (v := -4) (by decide +kernel) (by decide) ?_
      exact tt_iret (by decide +kernel) rfl ⟨hm, h⟩
    · have h := h.2 c
      refine tt_aload_n (k0 := 2) (by decide +kernel) rfl ?_
      obtain ⟨f4, h⟩ := h
      refine tt_callV (As := []) (rest := []) (ci := 0) (r0 := (R_0, F_0, 2)) (by decide +kernel) LK_Bytes_size w_298 w_299 w_300 (by decide) (by decide) rfl rfl (Nat.le_of_ble_eq_true rfl) rfl rfl f4 (ct_mono h (fun r Sb h => ?_))
      obtain ⟨eb, h⟩ := h
      obtain ⟨r5, rfl, h⟩ := h
      rw [eb]
      show T G J_S_takeReply 19 [(0, .ref a0), (1, .ref a1), (2, .ref a2)] [.int r5] S _
      refine tt_bipush (n := 67) (v := 67) (by decide +kernel) (by decide) ?_
      refine tt_icmp_eq (off := 6) 27 (by decide +kernel) (by decide) (fun c => ?_) (fun c => ?_)
      · have h := h.1 c
        refine tt_aload_n (k0 := 0) (by decide +kernel) rfl ?_
        obtain ⟨f6, h⟩ := h
        obtain ⟨b7, f8, h⟩ := h
        refine tt_getR (k := 4) (by decide +kernel) KC_10 (by decide) w_246 (fun _ => rfl) f6 f8 ?_
        obtain ⟨f9, h⟩ := h
        refine tt_callV (As := []) (rest := []) (ci := 6) (r0 := (R_6, F_6, 13)) (by decide +kernel) LK_Side_greeting w_442 w_443 w_444 (by decide) (by decide) rfl rfl (Nat.le_of_ble_eq_true rfl) rfl rfl f9 (ct_mono h (fun r Sb h => ?_))
        obtain ⟨eb, h⟩ := h
        obtain ⟨b10, rfl, h⟩ := h
        rw [eb]
        show T G J_S_takeReply 34 [(0, .ref a0), (1, .ref a1), (2, .ref a2)] [.ref b10] S _
        refine tt_bipush (n := 32) (v := 32) (by decide +kernel) (by decide) ?_
        obtain ⟨f11, h⟩ := h
        refine tt_callV (As := [.int 32]) (rest := []) (ci := 0) (r0 := (R_0, F_0, 2)) (by decide +kernel) LK_Bytes_at w_326 w_327 w_328 (by decide) (by decide) rfl rfl (Nat.le_of_ble_eq_true rfl) rfl rfl f11 (ct_mono h (fun r Sb h => ?_))
        obtain ⟨eb, h⟩ := h
        obtain ⟨r12, rfl, h⟩ := h
        rw [eb]
        show T G J_S_takeReply 39 [(0, .ref a0), (1, .ref a1), (2, .ref a2)] [.int r12] S _
        refine tt_istore_n (k0 := 3) (lv' := [(0, .ref a0), (1, .ref a1), (2, .ref a2), (3, .int r12)]) (by decide +kernel) (by decide) rfl ?_
        refine tt_aload_n (k0 := 0) (by decide +kernel) rfl ?_
        refine tt_getR (k := 4) (by decide +kernel) KC_10 (by decide) w_246 (fun _ => rfl) f6 f8 ?_
        refine tt_iload_n (k0 := 3) (by decide +kernel) rfl ?_
        refine tt_callV (As := [.int r12]) (rest := []) (ci := 6) (r0 := (R_6, F_6, 13)) (by decide +kernel) LK_Side_hasKey w_400 w_401 w_402 (by decide) (by decide) rfl rfl (Nat.le_of_ble_eq_true rfl) rfl rfl f9 (ct_mono h (fun r Sb h => ?_))
        obtain ⟨eb, h⟩ := h
        obtain ⟨r13, rfl, h⟩ := h
        rw [eb]
        show T G J_S_takeReply 48 [(0, .ref a0), (1, .ref a1), (2, .ref a2), (3, .int r12)] [.int r13] S _
        refine tt_if_ne (off := 6) 54 (by decide +kernel) (by decide) (fun c => ?_) (fun c => ?_)
        · have h := h.1 c
          refine tt_aload_n (k0 := 0) (by decide +kernel) rfl ?_
          obtain ⟨b14, f15, h⟩ := h
          refine tt_getR (k := 13) (by decide +kernel) KC_10 (by decide) w_255 (fun _ => rfl) f6 f15 ?_
          refine tt_aload_n (k0 := 0) (by decide +kernel) rfl ?_
          refine tt_getR (k := 4) (by decide +kernel) KC_10 (by decide) w_246 (fun _ => rfl) f6 f8 ?_
          refine tt_callV (As := []) (rest := [.ref b14]) (ci := 6) (r0 := (R_6, F_6, 13)) (by decide +kernel) LK_Side_greeting w_442 w_443 w_444 (by decide) (by decide) rfl rfl (Nat.le_of_ble_eq_true rfl) rfl rfl f9 (ct_mono h (fun r Sb h => ?_))
          obtain ⟨eb, h⟩ := h
          obtain ⟨b16, rfl, h⟩ := h
          rw [eb]
          show T G J_S_takeReply 65 [(0, .ref a0), (1, .ref a1), (2, .ref a2), (3, .int r12)] [.ref b16, .ref b14] S _
          obtain ⟨f17, h⟩ := h
          refine tt_callV (As := [.ref b16]) (rest := []) (ci := 0) (r0 := (R_0, F_0, 2)) (by decide +kernel) LK_Bytes_become w_466 w_354 w_355 (by decide) (by decide) rfl rfl (Nat.le_of_ble_eq_true rfl) rfl rfl f17 (ct_mono h (fun r S18 h => ?_))
          obtain ⟨hm2, h⟩ := h
          obtain ⟨rfl, h⟩ := h
          show T G J_S_takeReply 68 [(0, .ref a0), (1, .ref a1), (2, .ref a2), (3, .int r12)] [] S18 _
          have hm := hm.tr hm2
          have f1 : te S18 a1 = some (.inr 6) := by rw [hm2.1]; exact f1
          have f4 : te S18 a2 = some (.inr 0) := by rw [hm2.1]; exact f4
          have f6 : te S18 a0 = some (.inr 10) := by rw [hm2.1]; exact f6
          have f8 : tR S18 a0 4 = some b7 := by rw [hm2.R]; exact f8
          have f9 : te S18 b7 = some (.inr 6) := by rw [hm2.1]; exact f9
          have f11 : te S18 b10 = some (.inr 0) := by rw [hm2.1]; exact f11
          have f15 : tR S18 a0 13 = some b14 := by rw [hm2.R]; exact f15
          have f17 : te S18 b14 = some (.inr 0) := by rw [hm2.1]; exact f17
          refine tt_aload_n (k0 := 0) (by decide +kernel) rfl ?_
          refine tt_getR (k := 13) (by decide +kernel) KC_10 (by decide) w_255 (fun _ => rfl) f6 f15 ?_
          refine tt_aload_n (k0 := 2) (by decide +kernel) rfl ?_
          refine tt_iconst (n := 3) (v := 3) (by decide +kernel) (by decide) ?_
          refine tt_bipush (n := 32) (v := 32) (by decide +kernel) (by decide) ?_
          refine tt_callV (As := [.ref a2, .int 3, .int 32]) (rest := []) (ci := 0) (r0 := (R_0, F_0, 2)) (by decide +kernel) LK_Bytes_putPart w_667 w_358 w_359 (by decide) (by decide) rfl rfl (Nat.le_of_ble_eq_true rfl) rfl rfl f17 (ct_mono h (fun r S19 h => ?_))
          obtain ⟨hm2, h⟩ := h
          obtain ⟨rfl, h⟩ := h
          show T G J_S_takeReply 79 [(0, .ref a0), (1, .ref a1), (2, .ref a2), (3, .int r12)] [] S19 _
          have hm := hm.tr hm2
          have f1 : te S19 a1 = some (.inr 6) := by rw [hm2.1]; exact f1
          have f4 : te S19 a2 = some (.inr 0) := by rw [hm2.1]; exact f4
          have f6 : te S19 a0 = some (.inr 10) := by rw [hm2.1]; exact f6
          have f8 : tR S19 a0 4 = some b7 := by rw [hm2.R]; exact f8
          have f9 : te S19 b7 = some (.inr 6) := by rw [hm2.1]; exact f9
          have f11 : te S19 b10 = some (.inr 0) := by rw [hm2.1]; exact f11
          have f15 : tR S19 a0 13 = some b14 := by rw [hm2.R]; exact f15
          have f17 : te S19 b14 = some (.inr 0) := by rw [hm2.1]; exact f17
          refine tt_aload_n (k0 := 0) (by decide +kernel) rfl ?_
          refine tt_getR (k := 4) (by decide +kernel) KC_10 (by decide) w_246 (fun _ => rfl) f6 f8 ?_
          refine tt_iload_n (k0 := 3) (by decide +kernel) rfl ?_
          refine tt_aload_n (k0 := 0) (by decide +kernel) rfl ?_
          refine tt_getR (k := 13) (by decide +kernel) KC_10 (by decide) w_255 (fun _ => rfl) f6 f15 ?_
          refine tt_callV (As := [.int r12, .ref b14]) (rest := []) (ci := 6) (r0 := (R_6, F_6, 13)) (by decide +kernel) LK_Side_agree w_668 w_669 w_670 (by decide) (by decide) rfl rfl (Nat.le_of_ble_eq_true rfl) rfl rfl f9 (ct_mono h (fun r S20 h => ?_))
          obtain ⟨hm2, h⟩ := h
          obtain ⟨rfl, h⟩ := h
          show T G J_S_takeReply 91 [(0, .ref a0), (1, .ref a1), (2, .ref a2), (3, .int r12)] [] S20 _
          have hm := hm.tr hm2
          have f1 : te S20 a1 = some (.inr 6) := by rw [hm2.1]; exact f1
          have f4 : te S20 a2 = some (.inr 0) := by rw [hm2.1]; exact f4
          have f6 : te S20 a0 = some (.inr 10) := by rw [hm2.1]; exact f6
          have f8 : tR S20 a0 4 = some b7 := by rw [hm2.R]; exact f8
          have f9 : te S20 b7 = some (.inr 6) := by rw [hm2.1]; exact f9
          have f11 : te S20 b10 = some (.inr 0) := by rw [hm2.1]; exact f11
          have f15 : tR S20 a0 13 = some b14 := by rw [hm2.R]; exact f15
          have f17 : te S20 b14 = some (.inr 0) := by rw [hm2.1]; exact f17
          refine tt_aload_n (k0 := 0) (by decide +kernel) rfl ?_
          refine tt_getR (k := 4) (by decide +kernel) KC_10 (by decide) w_246 (fun _ => rfl) f6 f8 ?_
          refine tt_bipush (n := 115) (v := 115) (by decide +kernel) (by decide) ?_
          refine tt_aload_n (k0 := 0) (by decide +kernel) rfl ?_
          obtain ⟨b21, f22, h⟩ := h
          refine tt_getR (k := 14) (by decide +kernel) KC_10 (by decide) w_256 (fun _ => rfl) f6 f22 ?_
          refine tt_callV (As := [.int 115, .ref b21]) (rest := []) (ci := 6) (r0 := (R_6, F_6, 13)) (by decide +kernel) LK_Side_prove w_673 w_674 w_675 (by decide) (by decide) rfl rfl (Nat.le_of_ble_eq_true rfl) rfl rfl f9 (ct_mono h (fun r S23 h => ?_))
          obtain ⟨hm2, h⟩ := h
          obtain ⟨rfl, h⟩ := h
          show T G J_S_takeReply 104 [(0, .ref a0), (1, .ref a1), (2, .ref a2), (3, .int r12)] [] S23 _
          have hm := hm.tr hm2
          have f1 : te S23 a1 = some (.inr 6) := by rw [hm2.1]; exact f1
          have f4 : te S23 a2 = some (.inr 0) := by rw [hm2.1]; exact f4
          have f6 : te S23 a0 = some (.inr 10) := by rw [hm2.1]; exact f6
          have f8 : tR S23 a0 4 = some b7 := by rw [hm2.R]; exact f8
          have f9 : te S23 b7 = some (.inr 6) := by rw [hm2.1]; exact f9
          have f11 : te S23 b10 = some (.inr 0) := by rw [hm2.1]; exact f11
          have f15 : tR S23 a0 13 = some b14 := by rw [hm2.R]; exact f15
          have f17 : te S23 b14 = some (.inr 0) := by rw [hm2.1]; exact f17
          have f22 : tR S23 a0 14 = some b21 := by rw [hm2.R]; exact f22
          refine tt_aload_n (k0 := 2) (by decide +kernel) rfl ?_
          refine tt_bipush (n := 35) (v := 35) (by decide +kernel) (by decide) ?_
          refine tt_aload_n (k0 := 0) (by decide +kernel) rfl ?_
          refine tt_getR (k := 14) (by decide +kernel) KC_10 (by decide) w_256 (fun _ => rfl) f6 f22 ?_
          refine tt_callV (As := [.int 35, .ref b21]) (rest := []) (ci := 0) (r0 := (R_0, F_0, 2)) (by decide +kernel) LK_Bytes_holdsAt w_682 w_683 w_684 (by decide) (by decide) rfl rfl (Nat.le_of_ble_eq_true rfl) rfl rfl f4 (ct_mono h (fun r Sb h => ?_))
          obtain ⟨eb, h⟩ := h
          obtain ⟨r24, rfl, h⟩ := h
          rw [eb]
          show T G J_S_takeReply 114 [(0, .ref a0), (1, .ref a1), (2, .ref a2), (3, .int r12)] [.int r24] S23 _
          refine tt_if_ne (off := 6) 120 (by decide +kernel) (by decide) (fun c => ?_) (fun c => ?_)
          · have h := h.1 c
            refine tt_aload_n (k0 := 0) (by decide +kernel) rfl ?_
            obtain ⟨b25, f26, h⟩ := h
            refine tt_getR (k := 6) (by decide +kernel) KC_10 (by decide) w_248 (fun _ => rfl) f6 f26 ?_
            obtain ⟨f27, h⟩ := h
            refine tt_callV (As := []) (rest := []) (ci := 9) (r0 := (R_9, F_9, 2)) (by decide +kernel) LK_Wire_isFull w_418 w_419 w_420 (by decide) (by decide) rfl rfl (Nat.le_of_ble_eq_true rfl) rfl rfl f27 (ct_mono h (fun r Sb h => ?_))
            obtain ⟨eb, h⟩ := h
            obtain ⟨r28, rfl, h⟩ := h
            rw [eb]
            show T G J_S_takeReply 127 [(0, .ref a0), (1, .ref a1), (2, .ref a2), (3, .int r12)] [.int r28] S23 _
            refine tt_if_eq (off := 6) 133 (by decide +kernel) (by decide) (fun c => ?_) (fun c => ?_)
            · have h := h.1 c
              refine tt_aload_n (k0 := 0) (by decide +kernel) rfl ?_
              refine tt_getR (k := 4) (by decide +kernel) KC_10 (by decide) w_246 (fun _ => rfl) f6 f8 ?_
              refine tt_bipush (n := 99) (v := 99) (by decide +kernel) (by decide) ?_
              refine tt_aload_n (k0 := 0) (by decide +kernel) rfl ?_
              refine tt_getR (k := 14) (by decide +kernel) KC_10 (by decide) w_256 (fun _ => rfl) f6 f22 ?_
              refine tt_callV (As := [.int 99, .ref b21]) (rest := []) (ci := 6) (r0 := (R_6, F_6, 13)) (by decide +kernel) LK_Side_prove w_673 w_674 w_675 (by decide) (by decide) rfl rfl (Nat.le_of_ble_eq_true rfl) rfl rfl f9 (ct_mono h (fun r S29 h => ?_))
              obtain ⟨hm2, h⟩ := h
              obtain ⟨rfl, h⟩ := h
              show T G J_S_takeReply 146 [(0, .ref a0), (1, .ref a1), (2, .ref a2), (3, .int r12)] [] S29 _
              have hm := hm.tr hm2
              have f1 : te S29 a1 = some (.inr 6) := by rw [hm2.1]; exact f1
              have f4 : te S29 a2 = some (.inr 0) := by rw [hm2.1]; exact f4
              have f6 : te S29 a0 = some (.inr 10) := by rw [hm2.1]; exact f6
              have f8 : tR S29 a0 4 = some b7 := by rw [hm2.R]; exact f8
              have f9 : te S29 b7 = some (.inr 6) := by rw [hm2.1]; exact f9
              have f11 : te S29 b10 = some (.inr 0) := by rw [hm2.1]; exact f11
              have f15 : tR S29 a0 13 = some b14 := by rw [hm2.R]; exact f15
              have f17 : te S29 b14 = some (.inr 0) := by rw [hm2.1]; exact f17
              have f22 : tR S29 a0 14 = some b21 := by rw [hm2.R]; exact f22
              have f26 : tR S29 a0 6 = some b25 := by rw [hm2.R]; exact f26
              have f27 : te S29 b25 = some (.inr 9) := by rw [hm2.1]; exact f27
              refine tt_aload_n (k0 := 0) (by decide +kernel) rfl ?_
              refine tt_getR (k := 6) (by decide +kernel) KC_10 (by decide) w_248 (fun _ => rfl) f6 f26 ?_
              refine tt_callV (As := []) (rest := []) (ci := 9) (r0 := (R_9, F_9, 2)) (by decide +kernel) LK_Wire_draft w_433 w_434 w_435 (by decide) (by decide) rfl rfl (Nat.le_of_ble_eq_true rfl) rfl rfl f27 (ct_mono h (fun r S30 h => ?_))
              obtain ⟨hm2, h⟩ := h
              obtain ⟨b31, rfl, h⟩ := h
              show T G J_S_takeReply 153 [(0, .ref a0), (1, .ref a1), (2, .ref a2), (3, .int r12)] [.ref b31] S30 _
              have hm := hm.tr hm2
              have f1 : te S30 a1 = some (.inr 6) := by rw [hm2.1]; exact f1
              have f4 : te S30 a2 = some (.inr 0) := by rw [hm2.1]; exact f4
              have f6 : te S30 a0 = some (.inr 10) := by rw [hm2.1]; exact f6
              have f8 : tR S30 a0 4 = some b7 := by rw [hm2.R]; exact f8
              have f9 : te S30 b7 = some (.inr 6) := by rw [hm2.1]; exact f9
              have f11 : te S30 b10 = some (.inr 0) := by rw [hm2.1]; exact f11
              have f15 : tR S30 a0 13 = some b14 := by rw [hm2.R]; exact f15
              have f17 : te S30 b14 = some (.inr 0) := by rw [hm2.1]; exact f17
              have f22 : tR S30 a0 14 = some b21 := by rw [hm2.R]; exact f22
              have f26 : tR S30 a0 6 = some b25 := by rw [hm2.R]; exact f26
              have f27 : te S30 b25 = some (.inr 9) := by rw [hm2.1]; exact f27
              refine tt_astore (k0 := 4) (lv' := [(0, .ref a0), (1, .ref a1), (2, .ref a2), (3, .int r12), (4, .ref b31)]) (by decide +kernel) (by decide) rfl ?_
              refine tt_aload (k0 := 4) (by decide +kernel) rfl ?_
              refine tt_iconst (n := 3) (v := 3) (by decide +kernel) (by decide) ?_
              refine tt_bipush (n := 32) (v := 32) (by decide +kernel) (by decide) ?_
              obtain ⟨f32, h⟩ := h
              refine tt_callV (As := [.int 3, .int 32]) (rest := []) (ci := 0) (r0 := (R_0, F_0, 2)) (by decide +kernel) LK_Bytes_putHead w_438 w_439 w_440 (by decide) (by decide) rfl rfl (Nat.le_of_ble_eq_true rfl) rfl rfl f32 (ct_mono h (fun r S33 h => ?_))
              obtain ⟨hm2, h⟩ := h
              obtain ⟨rfl, h⟩ := h
              show T G J_S_takeReply 163 [(0, .ref a0), (1, .ref a1), (2, .ref a2), (3, .int r12), (4, .ref b31)] [] S33 _
              have hm := hm.tr hm2
              have f1 : te S33 a1 = some (.inr 6) := by rw [hm2.1]; exact f1
              have f4 : te S33 a2 = some (.inr 0) := by rw [hm2.1]; exact f4
              have f6 : te S33 a0 = some (.inr 10) := by rw [hm2.1]; exact f6
              have f8 : tR S33 a0 4 = some b7 := by rw [hm2.R]; exact f8
              have f9 : te S33 b7 = some (.inr 6) := by rw [hm2.1]; exact f9
              have f11 : te S33 b10 = some (.inr 0) := by rw [hm2.1]; exact f11
              have f15 : tR S33 a0 13 = some b14 := by rw [hm2.R]; exact f15
              have f17 : te S33 b14 = some (.inr 0) := by rw [hm2.1]; exact f17
              have f22 : tR S33 a0 14 = some b21 := by rw [hm2.R]; exact f22
              have f26 : tR S33 a0 6 = some b25 := by rw [hm2.R]; exact f26
              have f27 : te S33 b25 = some (.inr 9) := by rw [hm2.1]; exact f27
              have f32 : te S33 b31 = some (.inr 0) := by rw [hm2.1]; exact f32
              refine tt_aload (k0 := 4) (by decide +kernel) rfl ?_
              refine tt_aload_n (k0 := 0) (by decide +kernel) rfl ?_
              refine tt_getR (k := 14) (by decide +kernel) KC_10 (by decide) w_256 (fun _ => rfl) f6 f22 ?_
              refine tt_callV (As := [.ref b21]) (rest := []) (ci := 0) (r0 := (R_0, F_0, 2)) (by decide +kernel) LK_Bytes_putAll w_446 w_447 w_448 (by decide) (by decide) rfl rfl (Nat.le_of_ble_eq_true rfl) rfl rfl f32 (ct_mono h (fun r S34 h => ?_))
              obtain ⟨hm2, h⟩ := h
              obtain ⟨rfl, h⟩ := h
              show T G J_S_takeReply 172 [(0, .ref a0), (1, .ref a1), (2, .ref a2), (3, .int r12), (4, .ref b31)] [] S34 _
              have hm := hm.tr hm2
              have f1 : te S34 a1 = some (.inr 6) := by rw [hm2.1]; exact f1
              have f4 : te S34 a2 = some (.inr 0) := by rw [hm2.1]; exact f4
              have f6 : te S34 a0 = some (.inr 10) := by rw [hm2.1]; exact f6
              have f8 : tR S34 a0 4 = some b7 := by rw [hm2.R]; exact f8
              have f9 : te S34 b7 = some (.inr 6) := by rw [hm2.1]; exact f9
              have f11 : te S34 b10 = some (.inr 0) := by rw [hm2.1]; exact f11
              have f15 : tR S34 a0 13 = some b14 := by rw [hm2.R]; exact f15
              have f17 : te S34 b14 = some (.inr 0) := by rw [hm2.1]; exact f17
              have f22 : tR S34 a0 14 = some b21 := by rw [hm2.R]; exact f22
              have f26 : tR S34 a0 6 = some b25 := by rw [hm2.R]; exact f26
              have f27 : te S34 b25 = some (.inr 9) := by rw [hm2.1]; exact f27
              have f32 : te S34 b31 = some (.inr 0) := by rw [hm2.1]; exact f32
              refine tt_aload_n (k0 := 0) (by decide +kernel) rfl ?_
              refine tt_getR (k := 6) (by decide +kernel) KC_10 (by decide) w_248 (fun _ => rfl) f6 f26 ?_
              refine tt_callV (As := []) (rest := []) (ci := 9) (r0 := (R_9, F_9, 2)) (by decide +kernel) LK_Wire_send w_450 w_451 w_452 (by decide) (by decide) rfl rfl (Nat.le_of_ble_eq_true rfl) rfl rfl f27 (ct_mono h (fun r S35 h => ?_))
              obtain ⟨hm2, h⟩ := h
              obtain ⟨rfl, h⟩ := h
              show T G J_S_takeReply 179 [(0, .ref a0), (1, .ref a1), (2, .ref a2), (3, .int r12), (4, .ref b31)] [] S35 _
              have hm := hm.tr hm2
              have f1 : te S35 a1 = some (.inr 6) := by rw [hm2.1]; exact f1
              have f4 : te S35 a2 = some (.inr 0) := by rw [hm2.1]; exact f4
              have f6 : te S35 a0 = some (.inr 10) := by rw [hm2.1]; exact f6
              have f8 : tR S35 a0 4 = some b7 := by rw [hm2.R]; exact f8
              have f9 : te S35 b7 = some (.inr 6) := by rw [hm2.1]; exact f9
              have f11 : te S35 b10 = some (.inr 0) := by rw [hm2.1]; exact f11
              have f15 : tR S35 a0 13 = some b14 := by rw [hm2.R]; exact f15
              have f17 : te S35 b14 = some (.inr 0) := by rw [hm2.1]; exact f17
              have f22 : tR S35 a0 14 = some b21 := by rw [hm2.R]; exact f22
              have f26 : tR S35 a0 6 = some b25 := by rw [hm2.R]; exact f26
              have f27 : te S35 b25 = some (.inr 9) := by rw [hm2.1]; exact f27
              have f32 : te S35 b31 = some (.inr 0) := by rw [hm2.1]; exact f32
              refine tt_aload_n (k0 := 0) (by decide +kernel) rfl ?_
              refine tt_getR (k := 4) (by decide +kernel) KC_10 (by decide) w_246 (fun _ => rfl) f6 f8 ?_
              refine tt_callV (As := []) (rest := []) (ci := 6) (r0 := (R_6, F_6, 13)) (by decide +kernel) LK_Side_open w_686 w_687 w_688 (by decide) (by decide) rfl rfl (Nat.le_of_ble_eq_true rfl) rfl rfl f9 (ct_mono h (fun r S36 h => ?_))
              obtain ⟨hm2, h⟩ := h
              obtain ⟨rfl, h⟩ := h
              show T G J_S_takeReply 186 [(0, .ref a0), (1, .ref a1), (2, .ref a2), (3, .int r12), (4, .ref b31)] [] S36 _
              have hm := hm.tr hm2
              have f1 : te S36 a1 = some (.inr 6) := by rw [hm2.1]; exact f1
              have f4 : te S36 a2 = some (.inr 0) := by rw [hm2.1]; exact f4
              have f6 : te S36 a0 = some (.inr 10) := by rw [hm2.1]; exact f6
              have f8 : tR S36 a0 4 = some b7 := by rw [hm2.R]; exact f8
              have f9 : te S36 b7 = some (.inr 6) := by rw [hm2.1]; exact f9
              have f11 : te S36 b10 = some (.inr 0) := by rw [hm2.1]; exact f11
              have f15 : tR S36 a0 13 = some b14 := by rw [hm2.R]; exact f15
              have f17 : te S36 b14 = some (.inr 0) := by rw [hm2.1]; exact f17
              have f22 : tR S36 a0 14 = some b21 := by rw [hm2.R]; exact f22
              have f26 : tR S36 a0 6 = some b25 := by rw [hm2.R]; exact f26
              have f27 : te S36 b25 = some (.inr 9) := by rw [hm2.1]; exact f27
              have f32 : te S36 b31 = some (.inr 0) := by rw [hm2.1]; exact f32
              refine tt_aload_n (k0 := 0) (by decide +kernel) rfl ?_
              obtain ⟨b37, f38, h⟩ := h
              refine tt_getR (k := 10) (by decide +kernel) KC_10 (by decide) w_252 (fun _ => rfl) f6 f38 ?_
              obtain ⟨f39, h⟩ := h
              refine tt_callV (As := []) (rest := []) (ci := 0) (r0 := (R_0, F_0, 2)) (by decide +kernel) LK_Bytes_clear w_395 w_392 w_393 (by decide) (by decide) rfl rfl (Nat.le_of_ble_eq_true rfl) rfl rfl f39 (ct_mono h (fun r S40 h => ?_))
              obtain ⟨hm2, h⟩ := h
              obtain ⟨rfl, h⟩ := h
              show T G J_S_takeReply 193 [(0, .ref a0), (1, .ref a1), (2, .ref a2), (3, .int r12), (4, .ref b31)] [] S40 _
              have hm := hm.tr hm2
              have f1 : te S40 a1 = some (.inr 6) := by rw [hm2.1]; exact f1
              have f4 : te S40 a2 = some (.inr 0) := by rw [hm2.1]; exact f4
              have f6 : te S40 a0 = some (.inr 10) := by rw [hm2.1]; exact f6
              have f8 : tR S40 a0 4 = some b7 := by rw [hm2.R]; exact f8
              have f9 : te S40 b7 = some (.inr 6) := by rw [hm2.1]; exact f9
              have f11 : te S40 b10 = some (.inr 0) := by rw [hm2.1]; exact f11
              have f15 : tR S40 a0 13 = some b14 := by rw [hm2.R]; exact f15
              have f17 : te S40 b14 = some (.inr 0) := by rw [hm2.1]; exact f17
              have f22 : tR S40 a0 14 = some b21 := by rw [hm2.R]; exact f22
              have f26 : tR S40 a0 6 = some b25 := by rw [hm2.R]; exact f26
              have f27 : te S40 b25 = some (.inr 9) := by rw [hm2.1]; exact f27
              have f32 : te S40 b31 = some (.inr 0) := by rw [hm2.1]; exact f32
              have f38 : tR S40 a0 10 = some b37 := by rw [hm2.R]; exact f38
              have f39 : te S40 b37 = some (.inr 0) := by rw [hm2.1]; exact f39
              refine tt_iconst (n := 2) (v := 2) (by decide +kernel) (by decide) ?_
              exact tt_iret (by decide +kernel) rfl ⟨hm, h⟩
            · have h := h.2 c
              refine tt_bipush (n := -3) (v := -3) (by decide +kernel) (by decide) ?_
              exact tt_iret (by decide +kernel) rfl ⟨hm, h⟩
          · have h := h.2 c
            refine tt_bipush (n := -4) (v := -4) (by decide +kernel) (by decide) ?_
            exact tt_iret (by decide +kernel) rfl ⟨hm, h⟩
        · have h := h.2 c
          refine tt_bipush (n := -4) (v := -4) (by decide +kernel) (by decide) ?_
          exact tt_iret (by decide +kernel) rfl ⟨hm, h⟩
      · have h := h.2 c
        refine tt_bipush (n := -4) (v := -4) (by decide +kernel) (by decide) ?_
        exact tt_iret (by decide +kernel) rfl ⟨hm, h⟩
set_option maxRecDepth 100000 in
theorem v_S_takeProof {G : pG} (a0 : Nat) (a1 : Nat) (a2 : Nat) (S : TS) (Q : Option Value → TS → Prop)
    (h : te S a1 = some (.inr 6) ∧ CP G J_Side_isServer [.ref a1] S (fun r => ∃ r2 : Int32, r = some (.int r2) ∧ ((r2 = 0 → Q (some (.int ((-4)))) S) ∧ (¬ (r2 = 0) → CP G J_Side_is [.ref a1, .int 1] S (fun r => ∃ r3 : Int32, r = some (.int r3) ∧ ((r3 = 0 → Q (some (.int ((-4)))) S) ∧ (¬ (r3 = 0) → te S a2 = some (.inr 0) ∧ CP G J_Bytes_size [.ref a2] S (fun r => ∃ r5 : Int32, r = some (.int r5) ∧ ((r5 = 35 → te S a0 = some (.inr 10) ∧ ∃ b7 : Nat, tR S a0 5 = some b7 ∧ ∃ b9 : Nat, tR S a0 14 = some b9 ∧ te S b7 = some (.inr 6) ∧ C0 G J_Side_prove [.ref b7, .int 99, .ref b9] S (fun r S12 => r = none ∧ CP G J_Bytes_holdsAt [.ref a2, .int 3, .ref b9] S12 (fun r => ∃ r13 : Int32, r = some (.int r13) ∧ ((¬ r13 = 0 → C0 G J_Side_open [.ref b7] S12 (fun r S14 => r = none ∧ Q (some (.int 3)) S14)) ∧ (r13 = 0 → Q (some (.int ((-4)))) S12))))) ∧ (¬ (r5 = 35) → Q (some (.int ((-4)))) S)))))))))) :
    C0 G J_S_takeProof [.ref a0, .ref a1, .ref a2] S Q := by
  unfold C0
  refine ct_of (by decide +kernel) (Nat.le_of_ble_eq_true rfl) (lv := [(0, .ref a0), (1, .ref a1), (2, .ref a2)]) rfl ?_
  have hm : Sm0 S S := Sm0.rf S
  refine tt_aload_n (k0 := 1) (by decide +kernel) rfl ?_
  obtain ⟨f1, h⟩ := h
  refine tt_callV (As := []) (rest := []) (ci := 6) (r0 := (R_6, F_6, 13)) (by decide +kernel) LK_Side_isServer w_663 w_664 w_665 (by decide) (by decide) rfl rfl (Nat.le_of_ble_eq_true rfl) rfl rfl f1 (ct_mono h (fun r Sb h => ?_))
  obtain ⟨eb, h⟩ := h
  obtain ⟨r2, rfl, h⟩ := h
  rw [eb]
  show T G J_S_takeProof 4 [(0, .ref a0), (1, .ref a1), (2, .ref a2)] [.int r2] S _
  refine tt_if_eq (off := 20) 24 (by decide +kernel) (by decide) (fun c => ?_) (fun c => ?_)
  · have h := h.1 c
    refine tt_bipush (n := -4) (v := -4) (by decide +kernel) (by decide) ?_
    exact tt_iret (by decide +kernel) rfl ⟨hm, h⟩
  · have h := h.2 c
    refine tt_aload_n (k0 := 1) (by decide +kernel) rfl ?_
    refine tt_iconst (n := 1) (v := 1) (by decide +kernel) (by decide) ?_
    refine tt_callV (As := [.int 1]) (rest := []) (ci := 6) (r0 := (R_6, F_6, 13)) (by decide +kernel) LK_Side_is w_414 w_415 w_416 (by decide) (by decide) rfl rfl (Nat.le_of_ble_eq_true rfl) rfl rfl f1 (ct_mono h (fun r Sb h => ?_))
    obtain ⟨eb, h⟩ := h
    obtain ⟨r3, rfl, h⟩ := h
    rw [eb]
    show T G J_S_takeProof 12 [(0, .ref a0), (1, .ref a1), (2, .ref a2)] [.int r3] S _
    refine tt_if_eq (off := 12) 24 (by decide +kernel) (by decide) (fun c => ?_) (fun c => ?_)
    · have h := h.1 c
      refine tt_bipush (n := -4) (v := -4) (by decide +kernel) (by decide) ?_
      exact tt_iret (by decide +kernel) rfl ⟨hm, h⟩
    · have h := h.2 c
      refine tt_aload_n (k0 := 2) (by decide +kernel) rfl ?_
      obtain ⟨f4, h⟩ := h
      refine tt_callV (As := []) (rest := []) (ci := 0) (r0 := (R_0, F_0, 2)) (by decide +kernel) LK_Bytes_size w_298 w_299 w_300 (by decide) (by decide) rfl rfl (Nat.le_of_ble_eq_true rfl) rfl rfl f4 (ct_mono h (fun r Sb h => ?_))
      obtain ⟨eb, h⟩ := h
      obtain ⟨r5, rfl, h⟩ := h
      rw [eb]
      show T G J_S_takeProof 19 [(0, .ref a0), (1, .ref a1), (2, .ref a2)] [.int r5] S _
      refine tt_bipush (n := 35) (v := 35) (by decide +kernel) (by decide) ?_
      refine tt_icmp_eq (off := 6) 27 (by decide +kernel) (by decide) (fun c => ?_) (fun c => ?_)
      · have h := h.1 c
        refine tt_aload_n (k0 := 0) (by decide +kernel) rfl ?_
        obtain ⟨f6, h⟩ := h
        obtain ⟨b7, f8, h⟩ := h
        refine tt_getR (k := 5) (by decide +kernel) KC_10 (by decide) w_247 (fun _ => rfl) f6 f8 ?_
        refine tt_bipush (n := 99) (v := 99) (by decide +kernel) (by decide) ?_
        refine tt_aload_n (k0 := 0) (by decide +kernel) rfl ?_
        obtain ⟨b9, f10, h⟩ := h
        refine tt_getR (k := 14) (by decide +kernel) KC_10 (by decide) w_256 (fun _ => rfl) f6 f10 ?_
        obtain ⟨f11, h⟩ := h
        refine tt_callV (As := [.int 99, .ref b9]) (rest := []) (ci := 6) (r0 := (R_6, F_6, 13)) (by decide +kernel) LK_Side_prove w_673 w_674 w_675 (by decide) (by decide) rfl rfl (Nat.le_of_ble_eq_true rfl) rfl rfl f11 (ct_mono h (fun r S12 h => ?_))
        obtain ⟨hm2, h⟩ := h
        obtain ⟨rfl, h⟩ := h
        show T G J_S_takeProof 40 [(0, .ref a0), (1, .ref a1), (2, .ref a2)] [] S12 _
        have hm := hm.tr hm2
        have f1 : te S12 a1 = some (.inr 6) := by rw [hm2.1]; exact f1
        have f4 : te S12 a2 = some (.inr 0) := by rw [hm2.1]; exact f4
        have f6 : te S12 a0 = some (.inr 10) := by rw [hm2.1]; exact f6
        have f8 : tR S12 a0 5 = some b7 := by rw [hm2.R]; exact f8
        have f10 : tR S12 a0 14 = some b9 := by rw [hm2.R]; exact f10
        have f11 : te S12 b7 = some (.inr 6) := by rw [hm2.1]; exact f11
        refine tt_aload_n (k0 := 2) (by decide +kernel) rfl ?_
        refine tt_iconst (n := 3) (v := 3) (by decide +kernel) (by decide) ?_
        refine tt_aload_n (k0 := 0) (by decide +kernel) rfl ?_
        refine tt_getR (k := 14) (by decide +kernel) KC_10 (by decide) w_256 (fun _ => rfl) f6 f10 ?_
        refine tt_callV (As := [.int 3, .ref b9]) (rest := []) (ci := 0) (r0 := (R_0, F_0, 2)) (by decide +kernel) LK_Bytes_holdsAt w_682 w_683 w_684 (by decide) (by decide) rfl rfl (Nat.le_of_ble_eq_true rfl) rfl rfl f4 (ct_mono h (fun r Sb h => ?_))
        obtain ⟨eb, h⟩ := h
        obtain ⟨r13, rfl, h⟩ := h
        rw [eb]
        show T G J_S_takeProof 49 [(0, .ref a0), (1, .ref a1), (2, .ref a2)] [.int r13] S12 _
        refine tt_if_ne (off := 6) 55 (by decide +kernel) (by decide) (fun c => ?_) (fun c => ?_)
        · have h := h.1 c
          refine tt_aload_n (k0 := 0) (by decide +kernel) rfl ?_
          refine tt_getR (k := 5) (by decide +kernel) KC_10 (by decide) w_247 (fun _ => rfl) f6 f8 ?_
          refine tt_callV (As := []) (rest := []) (ci := 6) (r0 := (R_6, F_6, 13)) (by decide +kernel) LK_Side_open w_686 w_687 w_688 (by decide) (by decide) rfl rfl (Nat.le_of_ble_eq_true rfl) rfl rfl f11 (ct_mono h (fun r S14 h => ?_))
          obtain ⟨hm2, h⟩ := h
          obtain ⟨rfl, h⟩ := h
          show T G J_S_takeProof 62 [(0, .ref a0), (1, .ref a1), (2, .ref a2)] [] S14 _
          have hm := hm.tr hm2
          have f1 : te S14 a1 = some (.inr 6) := by rw [hm2.1]; exact f1
          have f4 : te S14 a2 = some (.inr 0) := by rw [hm2.1]; exact f4
          have f6 : te S14 a0 = some (.inr 10) := by rw [hm2.1]; exact f6
          have f8 : tR S14 a0 5 = some b7 := by rw [hm2.R]; exact f8
          have f10 : tR S14 a0 14 = some b9 := by rw [hm2.R]; exact f10
          have f11 : te S14 b7 = some (.inr 6) := by rw [hm2.1]; exact f11
          refine tt_iconst (n := 3) (v := 3) (by decide +kernel) (by decide) ?_
          exact tt_iret (by decide +kernel) rfl ⟨hm, h⟩
        · have h := h.2 c
          refine tt_bipush (n := -4) (v := -4) (by decide +kernel) (by decide) ?_
          exact tt_iret (by decide +kernel) rfl ⟨hm, h⟩
      · have h := h.2 c
        refine tt_bipush (n := -4) (v := -4) (by decide +kernel) (by decide) ?_
        exact tt_iret (by decide +kernel) rfl ⟨hm, h⟩
set_option maxRecDepth 100000 in
theorem v_S_takeSealed {G : pG} (a0 : Nat) (a1 : Nat) (a2 : Nat) (S : TS) (Q : Option Value → TS → Prop)
    (h : te S a1 = some (.inr 6) ∧ CP G J_Side_is [.ref a1, .int 2] S (fun r => ∃ r2 : Int32, r = some (.int r2) ∧ ((¬ r2 = 0 → CP G J_Side_isServer [.ref a1] S (fun r => ∃ r3 : Int32, r = some (.int r3) ∧ ((r3 = 0 → CP G J_Side_direction [.ref a1, .int 1] S (fun r => ∃ b4 : Nat, r = some (.ref b4) ∧ te S a0 = some (.inr 10) ∧ ∃ b6 : Nat, tR S a0 3 = some b6 ∧ ∃ b8 : Nat, tR S a0 11 = some b8 ∧ te S b6 = some (.inr 5) ∧ C0 G J_Sealer_unseal [.ref b6, .ref b4, .ref a2, .ref b8] S (fun r S11 => ∃ r12 : Int32, r = some (.int r12) ∧ ((r12 = 0 → Q (some (.int ((-4)))) S11) ∧ (¬ (r12 = 0) → te S11 b8 = some (.inr 0) ∧ CP G J_Bytes_size [.ref b8] S11 (fun r => ∃ r14 : Int32, r = some (.int r14) ∧ ((¬ r14 = 0 → CP G J_Bytes_at [.ref b8, .int 0] S11 (fun r => ∃ r15 : Int32, r = some (.int r15) ∧ ((¬ r15 = 0 → CP G J_Bytes_size [.ref b8] S11 (fun r => ∃ r16 : Int32, r = some (.int r16) ∧ ((r16 = 1 → ((¬ r15 = 1 → ((¬ r15 = 2 → Q (some (.int ((-4)))) S11) ∧ (r15 = 2 → C0 G J_Side_become [.ref a1, .int 3] S11 (fun r S17 => r = none ∧ Q (some (.int 4)) S17)))) ∧ (r15 = 1 → C0 G J_Side_makeKeyAnew [.ref a1, .int 1] S11 (fun r S18 => r = none ∧ Q (some (.int 4)) S18)))) ∧ (¬ (r16 = 1) → Q (some (.int ((-4)))) S11)))) ∧ (r15 = 0 → CP G J_Side_isServer [.ref a1] S11 (fun r => ∃ r19 : Int32, r = some (.int r19) ∧ ((r19 = 0 → C0 G J_S_takeAnswer [.ref a0, .ref b4] S11 (fun r S20 => ∃ r21 : Int32, r = some (.int r21) ∧ Q (some (.int r21)) S20)) ∧ (¬ (r19 = 0) → C1 G J_S_takeRequest [.ref a0, .ref b4] S11 (fun r S22 => ∃ r23 : Int32, r = some (.int r23) ∧ Q (some (.int r23)) S22)))))))) ∧ (r14 = 0 → Q (some (.int ((-4)))) S11)))))))) ∧ (¬ (r3 = 0) → CP G J_Side_direction [.ref a1, .int 0] S (fun r => ∃ b24 : Nat, r = some (.ref b24) ∧ te S a0 = some (.inr 10) ∧ ∃ b26 : Nat, tR S a0 3 = some b26 ∧ ∃ b28 : Nat, tR S a0 11 = some b28 ∧ te S b26 = some (.inr 5) ∧ C0 G J_Sealer_unseal [.ref b26, .ref b24, .ref a2, .ref b28] S (fun r S31 => ∃ r32 : Int32, r = some (.int r32) ∧ ((r32 = 0 → Q (some (.int ((-4)))) S31) ∧ (¬ (r32 = 0) → te S31 b28 = some (.inr 0) ∧ CP G J_Bytes_size [.ref b28] S31 (fun r => ∃ r34 : Int32, r = some (.int r34) ∧ ((¬ r34 = 0 → CP G J_Bytes_at [.ref b28, .int 0] S31 (fun r => ∃ r35 : Int32, r = some (.int r35) ∧ ((¬ r35 = 0 → CP G J_Bytes_size [.ref b28] S31 (fun r => ∃ r36 : Int32, r = some (.int r36) ∧ ((r36 = 1 → ((¬ r35 = 1 → ((¬ r35 = 2 → Q (some (.int ((-4)))) S31) ∧ (r35 = 2 → C0 G J_Side_become [.ref a1, .int 3] S31 (fun r S37 => r = none ∧ Q (some (.int 4)) S37)))) ∧ (r35 = 1 → C0 G J_Side_makeKeyAnew [.ref a1, .int 0] S31 (fun r S38 => r = none ∧ Q (some (.int 4)) S38)))) ∧ (¬ (r36 = 1) → Q (some (.int ((-4)))) S31)))) ∧ (r35 = 0 → CP G J_Side_isServer [.ref a1] S31 (fun r => ∃ r39 : Int32, r = some (.int r39) ∧ ((r39 = 0 → C0 G J_S_takeAnswer [.ref a0, .ref b24] S31 (fun r S40 => ∃ r41 : Int32, r = some (.int r41) ∧ Q (some (.int r41)) S40)) ∧ (¬ (r39 = 0) → C1 G J_S_takeRequest [.ref a0, .ref b24] S31 (fun r S42 => ∃ r43 : Int32, r = some (.int r43) ∧ Q (some (.int r43)) S42)))))))) ∧ (r34 = 0 → Q (some (.int ((-4)))) S31))))))))))) ∧ (r2 = 0 → Q (some (.int ((-4)))) S)))) :
    C1 G J_S_takeSealed [.ref a0, .ref a1, .ref a2] S Q := by
  unfold C1
  refine ct_of (by decide +kernel) (Nat.le_of_ble_eq_true rfl) (lv := [(0, .ref a0), (1, .ref a1), (2, .ref a2)]) rfl ?_
  have hm : Sm1 S S := Sm1.rf S
  refine tt_aload_n (k0 := 1) (by decide +kernel) rfl ?_
  refine tt_iconst (n := 2) (v := 2) (by decide +kernel) (by decide) ?_
  obtain ⟨f1, h⟩ := h
  refine tt_callV (As := [.int 2]) (rest := []) (ci := 6) (r0 := (R_6, F_6, 13)) (by decide +kernel) LK_Side_is w_414 w_415 w_416 (by decide) (by decide) rfl rfl (Nat.le_of_ble_eq_true rfl) rfl rfl f1 (ct_mono h (fun r Sb h => ?_))
  obtain ⟨eb, h⟩ := h
  obtain ⟨r2, rfl, h⟩ := h
  rw [eb]
  show T G J_S_takeSealed 5 [(0, .ref a0), (1, .ref a1), (2, .ref a2)] [.int r2] S _
  refine tt_if_ne (off := 6) 11 (by decide +kernel) (by decide) (fun c => ?_) (fun c => ?_)
  · have h := h.1 c
    refine tt_aload_n (k0 := 1) (by decide +kernel) rfl ?_
    refine tt_callV (As := []) (rest := []) (ci := 6) (r0 := (R_6, F_6, 13)) (by decide +kernel) LK_Side_isServer w_663 w_664 w_665 (by decide) (by decide) rfl rfl (Nat.le_of_ble_eq_true rfl) rfl rfl f1 (ct_mono h (fun r Sb h => ?_))
    obtain ⟨eb, h⟩ := h
    obtain ⟨r3, rfl, h⟩ := h
    rw [eb]
    show T G J_S_takeSealed 15 [(0, .ref a0), (1, .ref a1), (2, .ref a2)] [.int r3] S _
    refine tt_if_eq (off := 7) 22 (by decide +kernel) (by decide) (fun c => ?_) (fun c => ?_)
    · have h := h.1 c
      refine tt_iconst (n := 1) (v := 1) (by decide +kernel) (by decide) ?_
      refine tt_istore_n (k0 := 3) (lv' := [(0, .ref a0), (1, .ref a1), (2, .ref a2), (3, .int 1)]) (by decide +kernel) (by decide) rfl ?_
      refine tt_aload_n (k0 := 1) (by decide +kernel) rfl ?_
      refine tt_iload_n (k0 := 3) (by decide +kernel) rfl ?_
      refine tt_callV (As := [.int 1]) (rest := []) (ci := 6) (r0 := (R_6, F_6, 13)) (by decide +kernel) LK_Side_direction w_481 w_482 w_483 (by decide) (by decide) rfl rfl (Nat.le_of_ble_eq_true rfl) rfl rfl f1 (ct_mono h (fun r Sb h => ?_))
      obtain ⟨eb, h⟩ := h
      obtain ⟨b4, rfl, h⟩ := h
      rw [eb]
      show T G J_S_takeSealed 29 [(0, .ref a0), (1, .ref a1), (2, .ref a2), (3, .int 1)] [.ref b4] S _
      refine tt_astore (k0 := 4) (lv' := [(0, .ref a0), (1, .ref a1), (2, .ref a2), (3, .int 1), (4, .ref b4)]) (by decide +kernel) (by decide) rfl ?_
      refine tt_aload_n (k0 := 0) (by decide +kernel) rfl ?_
      obtain ⟨f5, h⟩ := h
      obtain ⟨b6, f7, h⟩ := h
      refine tt_getR (k := 3) (by decide +kernel) KC_10 (by decide) w_245 (fun _ => rfl) f5 f7 ?_
      refine tt_aload (k0 := 4) (by decide +kernel) rfl ?_
      refine tt_aload_n (k0 := 2) (by decide +kernel) rfl ?_
      refine tt_aload_n (k0 := 0) (by decide +kernel) rfl ?_
      obtain ⟨b8, f9, h⟩ := h
      refine tt_getR (k := 11) (by decide +kernel) KC_10 (by decide) w_253 (fun _ => rfl) f5 f9 ?_
      obtain ⟨f10, h⟩ := h
      refine tt_callV (As := [.ref b4, .ref a2, .ref b8]) (rest := []) (ci := 5) (r0 := (R_5, F_5, 3)) (by decide +kernel) LK_Sealer_unseal w_698 w_699 w_700 (by decide) (by decide) rfl rfl (Nat.le_of_ble_eq_true rfl) rfl rfl f10 (ct_mono h (fun r S11 h => ?_))
      obtain ⟨hm2, h⟩ := h
      obtain ⟨r12, rfl, h⟩ := h
      show T G J_S_takeSealed 45 [(0, .ref a0), (1, .ref a1), (2, .ref a2), (3, .int 1), (4, .ref b4)] [.int r12] S11 _
      have hm := hm.tr hm2.s1
      have f1 : te S11 a1 = some (.inr 6) := by rw [hm2.1]; exact f1
      have f5 : te S11 a0 = some (.inr 10) := by rw [hm2.1]; exact f5
      have f7 : tR S11 a0 3 = some b6 := by rw [hm2.R]; exact f7
      have f9 : tR S11 a0 11 = some b8 := by rw [hm2.R]; exact f9
      have f10 : te S11 b6 = some (.inr 5) := by rw [hm2.1]; exact f10
      refine tt_if_eq (off := 13) 58 (by decide +kernel) (by decide) (fun c => ?_) (fun c => ?_)
      · have h := h.1 c
        refine tt_bipush (n := -4) (v := -4) (by decide +kernel) (by decide) ?_
        exact tt_iret (by decide +kernel) rfl ⟨hm, h⟩
      · have h := h.2 c
        refine tt_aload_n (k0 := 0) (by decide +kernel) rfl ?_
        refine tt_getR (k := 11) (by decide +kernel) KC_10 (by decide) w_253 (fun _ => rfl) f5 f9 ?_
        obtain ⟨f13, h⟩ := h
        refine tt_callV (As := []) (rest := []) (ci := 0) (r0 := (R_0, F_0, 2)) (by decide +kernel) LK_Bytes_size w_298 w_299 w_300 (by decide) (by decide) rfl rfl (Nat.le_of_ble_eq_true rfl) rfl rfl f13 (ct_mono h (fun r Sb h => ?_))
        obtain ⟨eb, h⟩ := h
        obtain ⟨r14, rfl, h⟩ := h
        rw [eb]
        show T G J_S_takeSealed 55 [(0, .ref a0), (1, .ref a1), (2, .ref a2), (3, .int 1), (4, .ref b4)] [.int r14] S11 _
        refine tt_if_ne (off := 6) 61 (by decide +kernel) (by decide) (fun c => ?_) (fun c => ?_)
        · have h := h.1 c
          refine tt_aload_n (k0 := 0) (by decide +kernel) rfl ?_
          refine tt_getR (k := 11) (by decide +kernel) KC_10 (by decide) w_253 (fun _ => rfl) f5 f9 ?_
          refine tt_iconst (n := 0) (v := 0) (by decide +kernel) (by decide) ?_
          refine tt_callV (As := [.int 0]) (rest := []) (ci := 0) (r0 := (R_0, F_0, 2)) (by decide +kernel) LK_Bytes_at w_326 w_327 w_328 (by decide) (by decide) rfl rfl (Nat.le_of_ble_eq_true rfl) rfl rfl f13 (ct_mono h (fun r Sb h => ?_))
          obtain ⟨eb, h⟩ := h
          obtain ⟨r15, rfl, h⟩ := h
          rw [eb]
          show T G J_S_takeSealed 69 [(0, .ref a0), (1, .ref a1), (2, .ref a2), (3, .int 1), (4, .ref b4)] [.int r15] S11 _
          refine tt_istore (k0 := 5) (lv' := [(0, .ref a0), (1, .ref a1), (2, .ref a2), (3, .int 1), (4, .ref b4), (5, .int r15)]) (by decide +kernel) (by decide) rfl ?_
          refine tt_iload (k0 := 5) (by decide +kernel) rfl ?_
          refine tt_if_ne (off := 26) 99 (by decide +kernel) (by decide) (fun c => ?_) (fun c => ?_)
          · have h := h.1 c
            refine tt_aload_n (k0 := 0) (by decide +kernel) rfl ?_
            refine tt_getR (k := 11) (by decide +kernel) KC_10 (by decide) w_253 (fun _ => rfl) f5 f9 ?_
            refine tt_callV (As := []) (rest := []) (ci := 0) (r0 := (R_0, F_0, 2)) (by decide +kernel) LK_Bytes_size w_298 w_299 w_300 (by decide) (by decide) rfl rfl (Nat.le_of_ble_eq_true rfl) rfl rfl f13 (ct_mono h (fun r Sb h => ?_))
            obtain ⟨eb, h⟩ := h
            obtain ⟨r16, rfl, h⟩ := h
            rw [eb]
            show T G J_S_takeSealed 106 [(0, .ref a0), (1, .ref a1), (2, .ref a2), (3, .int 1), (4, .ref b4), (5, .int r15)] [.int r16] S11 _
            refine tt_iconst (n := 1) (v := 1) (by decide +kernel) (by decide) ?_
            refine tt_icmp_eq (off := 6) 113 (by decide +kernel) (by decide) (fun c => ?_) (fun c => ?_)
            · have h := h.1 c
              refine tt_iload (k0 := 5) (by decide +kernel) rfl ?_
              refine tt_iconst (n := 1) (v := 1) (by decide +kernel) (by decide) ?_
              refine tt_icmp_ne (off := 10) 126 (by decide +kernel) (by decide) (fun c => ?_) (fun c => ?_)
              · have h := h.1 c
                refine tt_iload (k0 := 5) (by decide +kernel) rfl ?_
                refine tt_iconst (n := 2) (v := 2) (by decide +kernel) (by decide) ?_
                refine tt_icmp_ne (off := 10) 139 (by decide +kernel) (by decide) (fun c => ?_) (fun c => ?_)
                · have h := h.1 c
                  refine tt_bipush (n := -4) (v := -4) (by decide +kernel) (by decide) ?_
                  exact tt_iret (by decide +kernel) rfl ⟨hm, h⟩
                · have h := h.2 c
                  refine tt_aload_n (k0 := 1) (by decide +kernel) rfl ?_
                  refine tt_iconst (n := 3) (v := 3) (by decide +kernel) (by decide) ?_
                  refine tt_callV (As := [.int 3]) (rest := []) (ci := 6) (r0 := (R_6, F_6, 13)) (by decide +kernel) LK_Side_become w_454 w_455 w_456 (by decide) (by decide) rfl rfl (Nat.le_of_ble_eq_true rfl) rfl rfl f1 (ct_mono h (fun r S17 h => ?_))
                  obtain ⟨hm2, h⟩ := h
                  obtain ⟨rfl, h⟩ := h
                  show T G J_S_takeSealed 137 [(0, .ref a0), (1, .ref a1), (2, .ref a2), (3, .int 1), (4, .ref b4), (5, .int r15)] [] S17 _
                  have hm := hm.tr hm2.s1
                  have f1 : te S17 a1 = some (.inr 6) := by rw [hm2.1]; exact f1
                  have f5 : te S17 a0 = some (.inr 10) := by rw [hm2.1]; exact f5
                  have f7 : tR S17 a0 3 = some b6 := by rw [hm2.R]; exact f7
                  have f9 : tR S17 a0 11 = some b8 := by rw [hm2.R]; exact f9
                  have f10 : te S17 b6 = some (.inr 5) := by rw [hm2.1]; exact f10
                  have f13 : te S17 b8 = some (.inr 0) := by rw [hm2.1]; exact f13
                  refine tt_iconst (n := 4) (v := 4) (by decide +kernel) (by decide) ?_
                  exact tt_iret (by decide +kernel) rfl ⟨hm, h⟩
              · have h := h.2 c
                refine tt_aload_n (k0 := 1) (by decide +kernel) rfl ?_
                refine tt_iload_n (k0 := 3) (by decide +kernel) rfl ?_
                refine tt_callV (As := [.int 1]) (rest := []) (ci := 6) (r0 := (R_6, F_6, 13)) (by decide +kernel) LK_Side_makeKeyAnew w_604 w_605 w_606 (by decide) (by decide) rfl rfl (Nat.le_of_ble_eq_true rfl) rfl rfl f1 (ct_mono h (fun r S18 h => ?_))
                obtain ⟨hm2, h⟩ := h
                obtain ⟨rfl, h⟩ := h
                show T G J_S_takeSealed 124 [(0, .ref a0), (1, .ref a1), (2, .ref a2), (3, .int 1), (4, .ref b4), (5, .int r15)] [] S18 _
                have hm := hm.tr hm2.s1
                have f1 : te S18 a1 = some (.inr 6) := by rw [hm2.1]; exact f1
                have f5 : te S18 a0 = some (.inr 10) := by rw [hm2.1]; exact f5
                have f7 : tR S18 a0 3 = some b6 := by rw [hm2.R]; exact f7
                have f9 : tR S18 a0 11 = some b8 := by rw [hm2.R]; exact f9
                have f10 : te S18 b6 = some (.inr 5) := by rw [hm2.1]; exact f10
                have f13 : te S18 b8 = some (.inr 0) := by rw [hm2.1]; exact f13
                refine tt_iconst (n := 4) (v := 4) (by decide +kernel) (by decide) ?_
                exact tt_iret (by decide +kernel) rfl ⟨hm, h⟩
            · have h := h.2 c
              refine tt_bipush (n := -4) (v := -4) (by decide +kernel) (by decide) ?_
              exact tt_iret (by decide +kernel) rfl ⟨hm, h⟩
          · have h := h.2 c
            refine tt_aload_n (k0 := 1) (by decide +kernel) rfl ?_
            refine tt_callV (As := []) (rest := []) (ci := 6) (r0 := (R_6, F_6, 13)) (by decide +kernel) LK_Side_isServer w_663 w_664 w_665 (by decide) (by decide) rfl rfl (Nat.le_of_ble_eq_true rfl) rfl rfl f1 (ct_mono h (fun r Sb h => ?_))
            obtain ⟨eb, h⟩ := h
            obtain ⟨r19, rfl, h⟩ := h
            rw [eb]
            show T G J_S_takeSealed 80 [(0, .ref a0), (1, .ref a1), (2, .ref a2), (3, .int 1), (4, .ref b4), (5, .int r15)] [.int r19] S11 _
            refine tt_if_eq (off := 12) 92 (by decide +kernel) (by decide) (fun c => ?_) (fun c => ?_)
            · have h := h.1 c
              refine tt_aload_n (k0 := 0) (by decide +kernel) rfl ?_
              refine tt_aload (k0 := 4) (by decide +kernel) rfl ?_
              refine tt_callV (As := [.ref b4]) (rest := []) (ci := 10) (r0 := (R_10, F_10, 17)) (by decide +kernel) LK_S_takeAnswer w_764 w_766 (in_p (n := 17) 26 rfl) (by decide) (by decide) rfl rfl (Nat.le_of_ble_eq_true rfl) rfl rfl f5 (ct_mono h (fun r S20 h => ?_))
              obtain ⟨hm2, h⟩ := h
              obtain ⟨r21, rfl, h⟩ := h
              show T G J_S_takeSealed 98 [(0, .ref a0), (1, .ref a1), (2, .ref a2), (3, .int 1), (4, .ref b4), (5, .int r15)] [.int r21] S20 _
              have hm := hm.tr hm2.s1
              have f1 : te S20 a1 = some (.inr 6) := by rw [hm2.1]; exact f1
              have f5 : te S20 a0 = some (.inr 10) := by rw [hm2.1]; exact f5
              have f7 : tR S20 a0 3 = some b6 := by rw [hm2.R]; exact f7
              have f9 : tR S20 a0 11 = some b8 := by rw [hm2.R]; exact f9
              have f10 : te S20 b6 = some (.inr 5) := by rw [hm2.1]; exact f10
              have f13 : te S20 b8 = some (.inr 0) := by rw [hm2.1]; exact f13
              exact tt_iret (by decide +kernel) rfl ⟨hm, h⟩
            · have h := h.2 c
              refine tt_aload_n (k0 := 0) (by decide +kernel) rfl ?_
              refine tt_aload (k0 := 4) (by decide +kernel) rfl ?_
              refine tt_callV (As := [.ref b4]) (rest := []) (ci := 10) (r0 := (R_10, F_10, 17)) (by decide +kernel) LK_S_takeRequest w_704 w_706 (in_p (n := 17) 21 rfl) (by decide) (by decide) rfl rfl (Nat.le_of_ble_eq_true rfl) rfl rfl f5 (ct_mono h (fun r S22 h => ?_))
              obtain ⟨hm2, h⟩ := h
              obtain ⟨r23, rfl, h⟩ := h
              show T G J_S_takeSealed 89 [(0, .ref a0), (1, .ref a1), (2, .ref a2), (3, .int 1), (4, .ref b4), (5, .int r15)] [.int r23] S22 _
              have hm := hm.tr hm2
              have f1 : te S22 a1 = some (.inr 6) := by rw [hm2.1]; exact f1
              have f5 : te S22 a0 = some (.inr 10) := by rw [hm2.1]; exact f5
              have f10 : te S22 b6 = some (.inr 5) := by rw [hm2.1]; exact f10
              have f13 : te S22 b8 = some (.inr 0) := by rw [hm2.1]; exact f13
              refine tt_goto (off := 9) (tgt := 98) (by decide +kernel) (by decide) ?_
              exact tt_iret (by decide +kernel) rfl ⟨hm, h⟩
        · have h := h.2 c
          refine tt_bipush (n := -4) (v := -4) (by decide +kernel) (by decide) ?_
          exact tt_iret (by decide +kernel) rfl ⟨hm, h⟩
    · have h := h.2 c
      refine tt_iconst (n := 0) (v := 0) (by decide +kernel) (by decide) ?_
      refine tt_goto (off := 4) (tgt := 23) (by decide +kernel) (by decide) ?_
      refine tt_istore_n (k0 := 3) (lv' := [(0, .ref a0), (1, .ref a1), (2, .ref a2), (3, .int 0)]) (by decide +kernel) (by decide) rfl ?_
      refine tt_aload_n (k0 := 1) (by decide +kernel) rfl ?_
      refine tt_iload_n (k0 := 3) (by decide +kernel) rfl ?_
      refine tt_callV (As := [.int 0]) (rest := []) (ci := 6) (r0 := (R_6, F_6, 13)) (by decide +kernel) LK_Side_direction w_481 w_482 w_483 (by decide) (by decide) rfl rfl (Nat.le_of_ble_eq_true rfl) rfl rfl f1 (ct_mono h (fun r Sb h => ?_))
      obtain ⟨eb, h⟩ := h
      obtain ⟨b24, rfl, h⟩ := h
      rw [eb]
      show T G J_S_takeSealed 29 [(0, .ref a0), (1, .ref a1), (2, .ref a2), (3, .int 0)] [.ref b24] S _
      refine tt_astore (k0 := 4) (lv' := [(0, .ref a0), (1, .ref a1), (2, .ref a2), (3, .int 0), (4, .ref b24)]) (by decide +kernel) (by decide) rfl ?_
      refine tt_aload_n (k0 := 0) (by decide +kernel) rfl ?_
      obtain ⟨f25, h⟩ := h
      obtain ⟨b26, f27, h⟩ := h
      refine tt_getR (k := 3) (by decide +kernel) KC_10 (by decide) w_245 (fun _ => rfl) f25 f27 ?_
      refine tt_aload (k0 := 4) (by decide +kernel) rfl ?_
      refine tt_aload_n (k0 := 2) (by decide +kernel) rfl ?_
      refine tt_aload_n (k0 := 0) (by decide +kernel) rfl ?_
      obtain ⟨b28, f29, h⟩ := h
      refine tt_getR (k := 11) (by decide +kernel) KC_10 (by decide) w_253 (fun _ => rfl) f25 f29 ?_
      obtain ⟨f30, h⟩ := h
      refine tt_callV (As := [.ref b24, .ref a2, .ref b28]) (rest := []) (ci := 5) (r0 := (R_5, F_5, 3)) (by decide +kernel) LK_Sealer_unseal w_698 w_699 w_700 (by decide) (by decide) rfl rfl (Nat.le_of_ble_eq_true rfl) rfl rfl f30 (ct_mono h (fun r S31 h => ?_))
      obtain ⟨hm2, h⟩ := h
      obtain ⟨r32, rfl, h⟩ := h
      show T G J_S_takeSealed 45 [(0, .ref a0), (1, .ref a1), (2, .ref a2), (3, .int 0), (4, .ref b24)] [.int r32] S31 _
      have hm := hm.tr hm2.s1
      have f1 : te S31 a1 = some (.inr 6) := by rw [hm2.1]; exact f1
      have f25 : te S31 a0 = some (.inr 10) := by rw [hm2.1]; exact f25
      have f27 : tR S31 a0 3 = some b26 := by rw [hm2.R]; exact f27
      have f29 : tR S31 a0 11 = some b28 := by rw [hm2.R]; exact f29
      have f30 : te S31 b26 = some (.inr 5) := by rw [hm2.1]; exact f30
      refine tt_if_eq (off := 13) 58 (by decide +kernel) (by decide) (fun c => ?_) (fun c => ?_)
      · have h := h.1 c
        refine tt_bipush (n := -4) (v := -4) (by decide +kernel) (by decide) ?_
        exact tt_iret (by decide +kernel) rfl ⟨hm, h⟩
      · have h := h.2 c
        refine tt_aload_n (k0 := 0) (by decide +kernel) rfl ?_
        refine tt_getR (k := 11) (by decide +kernel) KC_10 (by decide) w_253 (fun _ => rfl) f25 f29 ?_
        obtain ⟨f33, h⟩ := h
        refine tt_callV (As := []) (rest := []) (ci := 0) (r0 := (R_0, F_0, 2)) (by decide +kernel) LK_Bytes_size w_298 w_299 w_300 (by decide) (by decide) rfl rfl (Nat.le_of_ble_eq_true rfl) rfl rfl f33 (ct_mono h (fun r Sb h => ?_))
        obtain ⟨eb, h⟩ := h
        obtain ⟨r34, rfl, h⟩ := h
        rw [eb]
        show T G J_S_takeSealed 55 [(0, .ref a0), (1, .ref a1), (2, .ref a2), (3, .int 0), (4, .ref b24)] [.int r34] S31 _
        refine tt_if_ne (off := 6) 61 (by decide +kernel) (by decide) (fun c => ?_) (fun c => ?_)
        · have h := h.1 c
          refine tt_aload_n (k0 := 0) (by decide +kernel) rfl ?_
          refine tt_getR (k := 11) (by decide +kernel) KC_10 (by decide) w_253 (fun _ => rfl) f25 f29 ?_
          refine tt_iconst (n := 0) (v := 0) (by decide +kernel) (by decide) ?_
          refine tt_callV (As := [.int 0]) (rest := []) (ci := 0) (r0 := (R_0, F_0, 2)) (by decide +kernel) LK_Bytes_at w_326 w_327 w_328 (by decide) (by decide) rfl rfl (Nat.le_of_ble_eq_true rfl) rfl rfl f33 (ct_mono h (fun r Sb h => ?_))
          obtain ⟨eb, h⟩ := h
          obtain ⟨r35, rfl, h⟩ := h
          rw [eb]
          show T G J_S_takeSealed 69 [(0, .ref a0), (1, .ref a1), (2, .ref a2), (3, .int 0), (4, .ref b24)] [.int r35] S31 _
          refine tt_istore (k0 := 5) (lv' := [(0, .ref a0), (1, .ref a1), (2, .ref a2), (3, .int 0), (4, .ref b24), (5, .int r35)]) (by decide +kernel) (by decide) rfl ?_
          refine tt_iload (k0 := 5) (by decide +kernel) rfl ?_
          refine tt_if_ne (off := 26) 99 (by decide +kernel) (by decide) (fun c => ?_) (fun c => ?_)
          · have h := h.1 c
            refine tt_aload_n (k0 := 0) (by decide +kernel) rfl ?_
            refine tt_getR (k := 11) (by decide +kernel) KC_10 (by decide) w_253 (fun _ => rfl) f25 f29 ?_
            refine tt_callV (As := []) (rest := []) (ci := 0) (r0 := (R_0, F_0, 2)) (by decide +kernel) LK_Bytes_size w_298 w_299 w_300 (by decide) (by decide) rfl rfl (Nat.le_of_ble_eq_true rfl) rfl rfl f33 (ct_mono h (fun r Sb h => ?_))
            obtain ⟨eb, h⟩ := h
            obtain ⟨r36, rfl, h⟩ := h
            rw [eb]
            show T G J_S_takeSealed 106 [(0, .ref a0), (1, .ref a1), (2, .ref a2), (3, .int 0), (4, .ref b24), (5, .int r35)] [.int r36] S31 _
            refine tt_iconst (n := 1) (v := 1) (by decide +kernel) (by decide) ?_
            refine tt_icmp_eq (off := 6) 113 (by decide +kernel) (by decide) (fun c => ?_) (fun c => ?_)
            · have h := h.1 c
              refine tt_iload (k0 := 5) (by decide +kernel) rfl ?_
              refine tt_iconst (n := 1) (v := 1) (by decide +kernel) (by decide) ?_
              refine tt_icmp_ne (off := 10) 126 (by decide +kernel) (by decide) (fun c => ?_) (fun c => ?_)
              · have h := h.1 c
                refine tt_iload (k0 := 5) (by decide +kernel) rfl ?_
                refine tt_iconst (n := 2) (v := 2) (by decide +kernel) (by decide) ?_
                refine tt_icmp_ne (off := 10) 139 (by decide +kernel) (by decide) (fun c => ?_) (fun c => ?_)
                · have h := h.1 c
                  refine tt_bipush (n := -4) (v := -4) (by decide +kernel) (by decide) ?_
                  exact tt_iret (by decide +kernel) rfl ⟨hm, h⟩
                · have h := h.2 c
                  refine tt_aload_n (k0 := 1) (by decide +kernel) rfl ?_
                  refine tt_iconst (n := 3) (v := 3) (by decide +kernel) (by decide) ?_
                  refine tt_callV (As := [.int 3]) (rest := []) (ci := 6) (r0 := (R_6, F_6, 13)) (by decide +kernel) LK_Side_become w_454 w_455 w_456 (by decide) (by decide) rfl rfl (Nat.le_of_ble_eq_true rfl) rfl rfl f1 (ct_mono h (fun r S37 h => ?_))
                  obtain ⟨hm2, h⟩ := h
                  obtain ⟨rfl, h⟩ := h
                  show T G J_S_takeSealed 137 [(0, .ref a0), (1, .ref a1), (2, .ref a2), (3, .int 0), (4, .ref b24), (5, .int r35)] [] S37 _
                  have hm := hm.tr hm2.s1
                  have f1 : te S37 a1 = some (.inr 6) := by rw [hm2.1]; exact f1
                  have f25 : te S37 a0 = some (.inr 10) := by rw [hm2.1]; exact f25
                  have f27 : tR S37 a0 3 = some b26 := by rw [hm2.R]; exact f27
                  have f29 : tR S37 a0 11 = some b28 := by rw [hm2.R]; exact f29
                  have f30 : te S37 b26 = some (.inr 5) := by rw [hm2.1]; exact f30
                  have f33 : te S37 b28 = some (.inr 0) := by rw [hm2.1]; exact f33
                  refine tt_iconst (n := 4) (v := 4) (by decide +kernel) (by decide) ?_
                  exact tt_iret (by decide +kernel) rfl ⟨hm, h⟩
              · have h := h.2 c
                refine tt_aload_n (k0 := 1) (by decide +kernel) rfl ?_
                refine tt_iload_n (k0 := 3) (by decide +kernel) rfl ?_
                refine tt_callV (As := [.int 0]) (rest := []) (ci := 6) (r0 := (R_6, F_6, 13)) (by decide +kernel) LK_Side_makeKeyAnew w_604 w_605 w_606 (by decide) (by decide) rfl rfl (Nat.le_of_ble_eq_true rfl) rfl rfl f1 (ct_mono h (fun r S38 h => ?_))
                obtain ⟨hm2, h⟩ := h
                obtain ⟨rfl, h⟩ := h
                show T G J_S_takeSealed 124 [(0, .ref a0), (1, .ref a1), (2, .ref a2), (3, .int 0), (4, .ref b24), (5, .int r35)] [] S38 _
                have hm := hm.tr hm2.s1
                have f1 : te S38 a1 = some (.inr 6) := by rw [hm2.1]; exact f1
                have f25 : te S38 a0 = some (.inr 10) := by rw [hm2.1]; exact f25
                have f27 : tR S38 a0 3 = some b26 := by rw [hm2.R]; exact f27
                have f29 : tR S38 a0 11 = some b28 := by rw [hm2.R]; exact f29
                have f30 : te S38 b26 = some (.inr 5) := by rw [hm2.1]; exact f30
                have f33 : te S38 b28 = some (.inr 0) := by rw [hm2.1]; exact f33
                refine tt_iconst (n := 4) (v := 4) (by decide +kernel) (by decide) ?_
                exact tt_iret (by decide +kernel) rfl ⟨hm, h⟩
            · have h := h.2 c
              refine tt_bipush (n := -4) (v := -4) (by decide +kernel) (by decide) ?_
              exact tt_iret (by decide +kernel) rfl ⟨hm, h⟩
          · have h := h.2 c
            refine tt_aload_n (k0 := 1) (by decide +kernel) rfl ?_
            refine tt_callV (As := []) (rest := []) (ci := 6) (r0 := (R_6, F_6, 13)) (by decide +kernel) LK_Side_isServer w_663 w_664 w_665 (by decide) (by decide) rfl rfl (Nat.le_of_ble_eq_true rfl) rfl rfl f1 (ct_mono h (fun r Sb h => ?_))
            obtain ⟨eb, h⟩ := h
            obtain ⟨r39, rfl, h⟩ := h
            rw [eb]
            show T G J_S_takeSealed 80 [(0, .ref a0), (1, .ref a1), (2, .ref a2), (3, .int 0), (4, .ref b24), (5, .int r35)] [.int r39] S31 _
            refine tt_if_eq (off := 12) 92 (by decide +kernel) (by decide) (fun c => ?_) (fun c => ?_)
            · have h := h.1 c
              refine tt_aload_n (k0 := 0) (by decide +kernel) rfl ?_
              refine tt_aload (k0 := 4) (by decide +kernel) rfl ?_
              refine tt_callV (As := [.ref b24]) (rest := []) (ci := 10) (r0 := (R_10, F_10, 17)) (by decide +kernel) LK_S_takeAnswer w_764 w_766 (in_p (n := 17) 26 rfl) (by decide) (by decide) rfl rfl (Nat.le_of_ble_eq_true rfl) rfl rfl f25 (ct_mono h (fun r S40 h => ?_))
              obtain ⟨hm2, h⟩ := h
              obtain ⟨r41, rfl, h⟩ := h
              show T G J_S_takeSealed 98 [(0, .ref a0), (1, .ref a1), (2, .ref a2), (3, .int 0), (4, .ref b24), (5, .int r35)] [.int r41] S40 _
              have hm := hm.tr hm2.s1
              have f1 : te S40 a1 = some (.inr 6) := by rw [hm2.1]; exact f1
              have f25 : te S40 a0 = some (.inr 10) := by rw [hm2.1]; exact f25
              have f27 : tR S40 a0 3 = some b26 := by rw [hm2.R]; exact f27
              have f29 : tR S40 a0 11 = some b28 := by rw [hm2.R]; exact f29
              have f30 : te S40 b26 = some (.inr 5) := by rw [hm2.1]; exact f30
              have f33 : te S40 b28 = some (.inr 0) := by rw [hm2.1]; exact f33
              exact tt_iret (by decide +kernel) rfl ⟨hm, h⟩
            · have h := h.2 c
              refine tt_aload_n (k0 := 0) (by decide +kernel) rfl ?_
              refine tt_aload (k0 := 4) (by decide +kernel) rfl ?_
              refine tt_callV (As := [.ref b24]) (rest := []) (ci := 10) (r0 := (R_10, F_10, 17)) (by decide +kernel) LK_S_takeRequest w_704 w_706 (in_p (n := 17) 21 rfl) (by decide) (by decide) rfl rfl (Nat.le_of_ble_eq_true rfl) rfl rfl f25 (ct_mono h (fun r S42 h => ?_))
              obtain ⟨hm2, h⟩ := h
              obtain ⟨r43, rfl, h⟩ := h
              show T G J_S_takeSealed 89 [(0, .ref a0), (1, .ref a1), (2, .ref a2), (3, .int 0), (4, .ref b24), (5, .int r35)] [.int r43] S42 _
              have hm := hm.tr hm2
              have f1 : te S42 a1 = some (.inr 6) := by rw [hm2.1]; exact f1
              have f25 : te S42 a0 = some (.inr 10) := by rw [hm2.1]; exact f25
              have f30 : te S42 b26 = some (.inr 5) := by rw [hm2.1]; exact f30
              have f33 : te S42 b28 = some (.inr 0) := by rw [hm2.1]; exact f33
              refine tt_goto (off := 9) (tgt := 98) (by decide +kernel) (by decide) ?_
              exact tt_iret (by decide +kernel) rfl ⟨hm, h⟩
        · have h := h.2 c
          refine tt_bipush (n := -4) (v := -4) (by decide +kernel) (by decide) ?_
          exact tt_iret (by decide +kernel) rfl ⟨hm, h⟩
  · have h := h.2 c
    refine tt_bipush (n := -4) (v := -4) (by decide +kernel) (by decide) ?_
    exact tt_iret (by decide +kernel) rfl ⟨hm, h⟩
set_option maxRecDepth 100000 in
theorem v_S_takeRequest {G : pG} (a0 : Nat) (a1 : Nat) (S : TS) (Q : Option Value → TS → Prop)
    (h : te S a0 = some (.inr 10) ∧ ∃ b2 : Nat, tR S a0 9 = some b2 ∧ ∃ b4 : Nat, tR S a0 11 = some b4 ∧ te S b2 = some (.inr 4) ∧ C0 G J_Request_readFrom [.ref b2, .ref b4] S (fun r S7 => ∃ r8 : Int32, r = some (.int r8) ∧ ((¬ r8 = 0 → ∃ b9 : Nat, tR S7 a0 7 = some b9 ∧ te S7 b9 = some (.inr 9) ∧ CP G J_Wire_isFull [.ref b9] S7 (fun r => ∃ r12 : Int32, r = some (.int r12) ∧ ((r12 = 0 → te S7 a1 = some (.inr 1) ∧ C0 G J_Direction_step [.ref a1] S7 (fun r S14 => r = none ∧ te S14 b4 = some (.inr 0) ∧ C0 G J_Bytes_clear [.ref b4] S14 (fun r S16 => r = none ∧ C0 G J_Bytes_put [.ref b4, .int 0] S16 (fun r S17 => r = none ∧ ∃ b18 : Nat, tR S17 a0 8 = some b18 ∧ te S17 b18 = some (.inr 7) ∧ C1 G J_Store_serve [.ref b18, .ref b2, .ref b4] S17 (fun r S21 => r = none ∧ ∃ b22 : Nat, tR S21 a0 3 = some b22 ∧ ∃ b24 : Nat, tR S21 a0 5 = some b24 ∧ te S21 b24 = some (.inr 6) ∧ CP G J_Side_direction [.ref b24, .int 1] S21 (fun r => ∃ b27 : Nat, r = some (.ref b27) ∧ ∃ b28 : Nat, tR S21 a0 11 = some b28 ∧ ∃ b30 : Nat, tR S21 a0 7 = some b30 ∧ te S21 b22 = some (.inr 5) ∧ C0 G J_Sealer_seal [.ref b22, .ref b27, .ref b28, .ref b30] S21 (fun r S33 => r = none ∧ ∀ S34 : TS, S34 = sI S33 a0 (upd (tI S33 a0) 15 ((tI S33 a0 15) + (1 : Int32))) → Q (some (.int 4)) S34))))))) ∧ (¬ (r12 = 0) → Q (some (.int ((-3)))) S7)))) ∧ (r8 = 0 → Q (some (.int ((-4)))) S7)))) :
    C1 G J_S_takeRequest [.ref a0, .ref a1] S Q := by
  unfold C1
  refine ct_of (by decide +kernel) (Nat.le_of_ble_eq_true rfl) (lv := [(0, .ref a0), (1, .ref a1)]) rfl ?_
  have hm : Sm1 S S := Sm1.rf S
  refine tt_aload_n (k0 := 0) (by decide +kernel) rfl ?_
  obtain ⟨f1, h⟩ := h
  obtain ⟨b2, f3, h⟩ := h
  refine tt_getR (k := 9) (by decide +kernel) KC_10 (by decide) w_251 (fun _ => rfl) f1 f3 ?_
  refine tt_aload_n (k0 := 0) (by decide +kernel) rfl ?_
  obtain ⟨b4, f5, h⟩ := h
  refine tt_getR (k := 11) (by decide +kernel) KC_10 (by decide) w_253 (fun _ => rfl) f1 f5 ?_
  obtain ⟨f6, h⟩ := h
  refine tt_callV (As := [.ref b4]) (rest := []) (ci := 4) (r0 := (R_4, F_4, 3)) (by decide +kernel) LK_Request_readFrom w_708 w_709 w_710 (by decide) (by decide) rfl rfl (Nat.le_of_ble_eq_true rfl) rfl rfl f6 (ct_mono h (fun r S7 h => ?_))
  obtain ⟨hm2, h⟩ := h
  obtain ⟨r8, rfl, h⟩ := h
  show T G J_S_takeRequest 11 [(0, .ref a0), (1, .ref a1)] [.int r8] S7 _
  have hm := hm.tr hm2.s1
  have f1 : te S7 a0 = some (.inr 10) := by rw [hm2.1]; exact f1
  have f3 : tR S7 a0 9 = some b2 := by rw [hm2.R]; exact f3
  have f5 : tR S7 a0 11 = some b4 := by rw [hm2.R]; exact f5
  have f6 : te S7 b2 = some (.inr 4) := by rw [hm2.1]; exact f6
  refine tt_if_ne (off := 6) 17 (by decide +kernel) (by decide) (fun c => ?_) (fun c => ?_)
  · have h := h.1 c
    refine tt_aload_n (k0 := 0) (by decide +kernel) rfl ?_
    obtain ⟨b9, f10, h⟩ := h
    refine tt_getR (k := 7) (by decide +kernel) KC_10 (by decide) w_249 (fun _ => rfl) f1 f10 ?_
    obtain ⟨f11, h⟩ := h
    refine tt_callV (As := []) (rest := []) (ci := 9) (r0 := (R_9, F_9, 2)) (by decide +kernel) LK_Wire_isFull w_418 w_419 w_420 (by decide) (by decide) rfl rfl (Nat.le_of_ble_eq_true rfl) rfl rfl f11 (ct_mono h (fun r Sb h => ?_))
    obtain ⟨eb, h⟩ := h
    obtain ⟨r12, rfl, h⟩ := h
    rw [eb]
    show T G J_S_takeRequest 24 [(0, .ref a0), (1, .ref a1)] [.int r12] S7 _
    refine tt_if_eq (off := 6) 30 (by decide +kernel) (by decide) (fun c => ?_) (fun c => ?_)
    · have h := h.1 c
      refine tt_aload_n (k0 := 1) (by decide +kernel) rfl ?_
      obtain ⟨f13, h⟩ := h
      refine tt_callV (As := []) (rest := []) (ci := 1) (r0 := (R_1, F_1, 5)) (by decide +kernel) LK_Direction_step w_718 w_589 w_590 (by decide) (by decide) rfl rfl (Nat.le_of_ble_eq_true rfl) rfl rfl f13 (ct_mono h (fun r S14 h => ?_))
      obtain ⟨hm2, h⟩ := h
      obtain ⟨rfl, h⟩ := h
      show T G J_S_takeRequest 34 [(0, .ref a0), (1, .ref a1)] [] S14 _
      have hm := hm.tr hm2.s1
      have f1 : te S14 a0 = some (.inr 10) := by rw [hm2.1]; exact f1
      have f3 : tR S14 a0 9 = some b2 := by rw [hm2.R]; exact f3
      have f5 : tR S14 a0 11 = some b4 := by rw [hm2.R]; exact f5
      have f6 : te S14 b2 = some (.inr 4) := by rw [hm2.1]; exact f6
      have f10 : tR S14 a0 7 = some b9 := by rw [hm2.R]; exact f10
      have f11 : te S14 b9 = some (.inr 9) := by rw [hm2.1]; exact f11
      have f13 : te S14 a1 = some (.inr 1) := by rw [hm2.1]; exact f13
      refine tt_aload_n (k0 := 0) (by decide +kernel) rfl ?_
      refine tt_getR (k := 11) (by decide +kernel) KC_10 (by decide) w_253 (fun _ => rfl) f1 f5 ?_
      obtain ⟨f15, h⟩ := h
      refine tt_callV (As := []) (rest := []) (ci := 0) (r0 := (R_0, F_0, 2)) (by decide +kernel) LK_Bytes_clear w_395 w_392 w_393 (by decide) (by decide) rfl rfl (Nat.le_of_ble_eq_true rfl) rfl rfl f15 (ct_mono h (fun r S16 h => ?_))
      obtain ⟨hm2, h⟩ := h
      obtain ⟨rfl, h⟩ := h
      show T G J_S_takeRequest 41 [(0, .ref a0), (1, .ref a1)] [] S16 _
      have hm := hm.tr hm2.s1
      have f1 : te S16 a0 = some (.inr 10) := by rw [hm2.1]; exact f1
      have f3 : tR S16 a0 9 = some b2 := by rw [hm2.R]; exact f3
      have f5 : tR S16 a0 11 = some b4 := by rw [hm2.R]; exact f5
      have f6 : te S16 b2 = some (.inr 4) := by rw [hm2.1]; exact f6
      have f10 : tR S16 a0 7 = some b9 := by rw [hm2.R]; exact f10
      have f11 : te S16 b9 = some (.inr 9) := by rw [hm2.1]; exact f11
      have f13 : te S16 a1 = some (.inr 1) := by rw [hm2.1]; exact f13
      have f15 : te S16 b4 = some (.inr 0) := by rw [hm2.1]; exact f15
      refine tt_aload_n (k0 := 0) (by decide +kernel) rfl ?_
      refine tt_getR (k := 11) (by decide +kernel) KC_10 (by decide) w_253 (fun _ => rfl) f1 f5 ?_
      refine tt_iconst (n := 0) (v := 0) (by decide +kernel) (by decide) ?_
      refine tt_callV (As := [.int 0]) (rest := []) (ci := 0) (r0 := (R_0, F_0, 2)) (by decide +kernel) LK_Bytes_put w_238 w_239 w_240 (by decide) (by decide) rfl rfl (Nat.le_of_ble_eq_true rfl) rfl rfl f15 (ct_mono h (fun r S17 h => ?_))
      obtain ⟨hm2, h⟩ := h
      obtain ⟨rfl, h⟩ := h
      show T G J_S_takeRequest 49 [(0, .ref a0), (1, .ref a1)] [] S17 _
      have hm := hm.tr hm2.s1
      have f1 : te S17 a0 = some (.inr 10) := by rw [hm2.1]; exact f1
      have f3 : tR S17 a0 9 = some b2 := by rw [hm2.R]; exact f3
      have f5 : tR S17 a0 11 = some b4 := by rw [hm2.R]; exact f5
      have f6 : te S17 b2 = some (.inr 4) := by rw [hm2.1]; exact f6
      have f10 : tR S17 a0 7 = some b9 := by rw [hm2.R]; exact f10
      have f11 : te S17 b9 = some (.inr 9) := by rw [hm2.1]; exact f11
      have f13 : te S17 a1 = some (.inr 1) := by rw [hm2.1]; exact f13
      have f15 : te S17 b4 = some (.inr 0) := by rw [hm2.1]; exact f15
      refine tt_aload_n (k0 := 0) (by decide +kernel) rfl ?_
      obtain ⟨b18, f19, h⟩ := h
      refine tt_getR (k := 8) (by decide +kernel) KC_10 (by decide) w_250 (fun _ => rfl) f1 f19 ?_
      refine tt_aload_n (k0 := 0) (by decide +kernel) rfl ?_
      refine tt_getR (k := 9) (by decide +kernel) KC_10 (by decide) w_251 (fun _ => rfl) f1 f3 ?_
      refine tt_aload_n (k0 := 0) (by decide +kernel) rfl ?_
      refine tt_getR (k := 11) (by decide +kernel) KC_10 (by decide) w_253 (fun _ => rfl) f1 f5 ?_
      obtain ⟨f20, h⟩ := h
      refine tt_callV (As := [.ref b2, .ref b4]) (rest := []) (ci := 7) (r0 := (R_7, F_7, 3)) (by decide +kernel) LK_Store_serve w_719 w_720 w_721 (by decide) (by decide) rfl rfl (Nat.le_of_ble_eq_true rfl) rfl rfl f20 (ct_mono h (fun r S21 h => ?_))
      obtain ⟨hm2, h⟩ := h
      obtain ⟨rfl, h⟩ := h
      show T G J_S_takeRequest 64 [(0, .ref a0), (1, .ref a1)] [] S21 _
      have hm := hm.tr hm2
      have f1 : te S21 a0 = some (.inr 10) := by rw [hm2.1]; exact f1
      have f6 : te S21 b2 = some (.inr 4) := by rw [hm2.1]; exact f6
      have f11 : te S21 b9 = some (.inr 9) := by rw [hm2.1]; exact f11
      have f13 : te S21 a1 = some (.inr 1) := by rw [hm2.1]; exact f13
      have f15 : te S21 b4 = some (.inr 0) := by rw [hm2.1]; exact f15
      have f20 : te S21 b18 = some (.inr 7) := by rw [hm2.1]; exact f20
      refine tt_aload_n (k0 := 0) (by decide +kernel) rfl ?_
      obtain ⟨b22, f23, h⟩ := h
      refine tt_getR (k := 3) (by decide +kernel) KC_10 (by decide) w_245 (fun _ => rfl) f1 f23 ?_
      refine tt_aload_n (k0 := 0) (by decide +kernel) rfl ?_
      obtain ⟨b24, f25, h⟩ := h
      refine tt_getR (k := 5) (by decide +kernel) KC_10 (by decide) w_247 (fun _ => rfl) f1 f25 ?_
      refine tt_iconst (n := 1) (v := 1) (by decide +kernel) (by decide) ?_
      obtain ⟨f26, h⟩ := h
      refine tt_callV (As := [.int 1]) (rest := [.ref b22]) (ci := 6) (r0 := (R_6, F_6, 13)) (by decide +kernel) LK_Side_direction w_481 w_482 w_483 (by decide) (by decide) rfl rfl (Nat.le_of_ble_eq_true rfl) rfl rfl f26 (ct_mono h (fun r Sb h => ?_))
      obtain ⟨eb, h⟩ := h
      obtain ⟨b27, rfl, h⟩ := h
      rw [eb]
      show T G J_S_takeRequest 76 [(0, .ref a0), (1, .ref a1)] [.ref b27, .ref b22] S21 _
      refine tt_aload_n (k0 := 0) (by decide +kernel) rfl ?_
      obtain ⟨b28, f29, h⟩ := h
      refine tt_getR (k := 11) (by decide +kernel) KC_10 (by decide) w_253 (fun _ => rfl) f1 f29 ?_
      refine tt_aload_n (k0 := 0) (by decide +kernel) rfl ?_
      obtain ⟨b30, f31, h⟩ := h
      refine tt_getR (k := 7) (by decide +kernel) KC_10 (by decide) w_249 (fun _ => rfl) f1 f31 ?_
      obtain ⟨f32, h⟩ := h
      refine tt_callV (As := [.ref b27, .ref b28, .ref b30]) (rest := []) (ci := 5) (r0 := (R_5, F_5, 3)) (by decide +kernel) LK_Sealer_seal w_485 w_486 w_487 (by decide) (by decide) rfl rfl (Nat.le_of_ble_eq_true rfl) rfl rfl f32 (ct_mono h (fun r S33 h => ?_))
      obtain ⟨hm2, h⟩ := h
      obtain ⟨rfl, h⟩ := h
      show T G J_S_takeRequest 87 [(0, .ref a0), (1, .ref a1)] [] S33 _
      have hm := hm.tr hm2.s1
      have f1 : te S33 a0 = some (.inr 10) := by rw [hm2.1]; exact f1
      have f6 : te S33 b2 = some (.inr 4) := by rw [hm2.1]; exact f6
      have f11 : te S33 b9 = some (.inr 9) := by rw [hm2.1]; exact f11
      have f13 : te S33 a1 = some (.inr 1) := by rw [hm2.1]; exact f13
      have f15 : te S33 b4 = some (.inr 0) := by rw [hm2.1]; exact f15
      have f20 : te S33 b18 = some (.inr 7) := by rw [hm2.1]; exact f20
      have f23 : tR S33 a0 3 = some b22 := by rw [hm2.R]; exact f23
      have f25 : tR S33 a0 5 = some b24 := by rw [hm2.R]; exact f25
      have f26 : te S33 b24 = some (.inr 6) := by rw [hm2.1]; exact f26
      have f29 : tR S33 a0 11 = some b28 := by rw [hm2.R]; exact f29
      have f31 : tR S33 a0 7 = some b30 := by rw [hm2.R]; exact f31
      have f32 : te S33 b22 = some (.inr 5) := by rw [hm2.1]; exact f32
      refine tt_aload_n (k0 := 0) (by decide +kernel) rfl ?_
      refine tt_dup (by decide +kernel) rfl ?_
      refine tt_getI (k := 15) (by decide +kernel) KC_10 (by decide) w_257 (fun _ => rfl) f1 ?_
      refine tt_iconst (n := 1) (v := 1) (by decide +kernel) (by decide) ?_
      refine tt_iadd (by decide +kernel) ?_
      refine tt_putI (k := 15) (by decide +kernel) KC_10 (by decide) w_257 rfl rfl f1 ?_
      generalize eS34 : sI S33 a0 (upd (tI S33 a0) 15 ((tI S33 a0 15) + (1 : Int32))) = S34
      have h := h S34 eS34.symm
      have hm : Sm1 S S34 := by rw [← eS34]; exact hm.I
      have f1 : te S34 a0 = some (.inr 10) := by rw [← eS34, te_sI]; exact f1
      have f6 : te S34 b2 = some (.inr 4) := by rw [← eS34, te_sI]; exact f6
      have f11 : te S34 b9 = some (.inr 9) := by rw [← eS34, te_sI]; exact f11
      have f13 : te S34 a1 = some (.inr 1) := by rw [← eS34, te_sI]; exact f13
      have f15 : te S34 b4 = some (.inr 0) := by rw [← eS34, te_sI]; exact f15
      have f20 : te S34 b18 = some (.inr 7) := by rw [← eS34, te_sI]; exact f20
      have f23 : tR S34 a0 3 = some b22 := by rw [← eS34, tR_sI]; exact f23
      have f25 : tR S34 a0 5 = some b24 := by rw [← eS34, tR_sI]; exact f25
      have f26 : te S34 b24 = some (.inr 6) := by rw [← eS34, te_sI]; exact f26
      have f29 : tR S34 a0 11 = some b28 := by rw [← eS34, tR_sI]; exact f29
      have f31 : tR S34 a0 7 = some b30 := by rw [← eS34, tR_sI]; exact f31
      have f32 : te S34 b22 = some (.inr 5) := by rw [← eS34, te_sI]; exact f32
      refine tt_iconst (n := 4) (v := 4) (by decide +kernel) (by decide) ?_
      exact tt_iret (by decide +kernel) rfl ⟨hm, h⟩
    · have h := h.2 c
      refine tt_bipush (n := -3) (v := -3) (by decide +kernel) (by decide) ?_
      exact tt_iret (by decide +kernel) rfl ⟨hm, h⟩
  · have h := h.2 c
    refine tt_bipush (n := -4) (v := -4) (by decide +kernel) (by decide) ?_
    exact tt_iret (by decide +kernel) rfl ⟨hm, h⟩
set_option maxRecDepth 100000 in
theorem v_S_takeAnswer {G : pG} (a0 : Nat) (a1 : Nat) (S : TS) (Q : Option Value → TS → Prop)
    (h : te S a0 = some (.inr 10) ∧ ∃ b2 : Nat, tR S a0 11 = some b2 ∧ te S b2 = some (.inr 0) ∧ CP G J_Bytes_at [.ref b2, .int 1] S (fun r => ∃ r5 : Int32, r = some (.int r5) ∧ ((¬ r5 = 0 → CP G J_Bytes_size [.ref b2] S (fun r => ∃ r6 : Int32, r = some (.int r6) ∧ ((r6 < 2 → Q (some (.int ((-4)))) S) ∧ (¬ (r6 < 2) → CP G J_Bytes_size [.ref b2] S (fun r => ∃ r7 : Int32, r = some (.int r7) ∧ (((2 : Int32) + (0 : Int32) < r7 → Q (some (.int ((-4)))) S) ∧ (¬ ((2 : Int32) + (0 : Int32) < r7) → ((r5 ≤ 3 → te S a1 = some (.inr 1) ∧ C0 G J_Direction_step [.ref a1] S (fun r S9 => r = none ∧ ∃ b10 : Nat, tR S9 a0 10 = some b10 ∧ te S9 b10 = some (.inr 0) ∧ C0 G J_Bytes_clear [.ref b10] S9 (fun r S13 => r = none ∧ CP G J_Bytes_size [.ref b2] S13 (fun r => ∃ r14 : Int32, r = some (.int r14) ∧ C0 G J_Bytes_putPart [.ref b10, .ref b2, .int 1, .int (r14 - (1 : Int32))] S13 (fun r S15 => r = none ∧ ∀ S16 : TS, S16 = sI S15 a0 (upd (tI S15 a0) 16 ((tI S15 a0 16) + (1 : Int32))) → Q (some (.int 4)) S16))))) ∧ (¬ (r5 ≤ 3) → Q (some (.int ((-4)))) S))))))))) ∧ (r5 = 0 → CP G J_Bytes_size [.ref b2] S (fun r => ∃ r17 : Int32, r = some (.int r17) ∧ ((r17 < 2 → Q (some (.int ((-4)))) S) ∧ (¬ (r17 < 2) → CP G J_Bytes_size [.ref b2] S (fun r => ∃ r18 : Int32, r = some (.int r18) ∧ (((2 : Int32) + (64 : Int32) < r18 → Q (some (.int ((-4)))) S) ∧ (¬ ((2 : Int32) + (64 : Int32) < r18) → ((r5 ≤ 3 → te S a1 = some (.inr 1) ∧ C0 G J_Direction_step [.ref a1] S (fun r S20 => r = none ∧ ∃ b21 : Nat, tR S20 a0 10 = some b21 ∧ te S20 b21 = some (.inr 0) ∧ C0 G J_Bytes_clear [.ref b21] S20 (fun r S24 => r = none ∧ CP G J_Bytes_size [.ref b2] S24 (fun r => ∃ r25 : Int32, r = some (.int r25) ∧ C0 G J_Bytes_putPart [.ref b21, .ref b2, .int 1, .int (r25 - (1 : Int32))] S24 (fun r S26 => r = none ∧ ∀ S27 : TS, S27 = sI S26 a0 (upd (tI S26 a0) 16 ((tI S26 a0 16) + (1 : Int32))) → Q (some (.int 4)) S27))))) ∧ (¬ (r5 ≤ 3) → Q (some (.int ((-4)))) S)))))))))))) :
    C0 G J_S_takeAnswer [.ref a0, .ref a1] S Q := by
  unfold C0
  refine ct_of (by decide +kernel) (Nat.le_of_ble_eq_true rfl) (lv := [(0, .ref a0), (1, .ref a1)]) rfl ?_
  have hm : Sm0 S S := Sm0.rf S
  refine tt_aload_n (k0 := 0) (by decide +kernel) rfl ?_
  obtain ⟨f1, h⟩ := h
  obtain ⟨b2, f3, h⟩ := h
  refine tt_getR (k := 11) (by decide +kernel) KC_10 (by decide) w_253 (fun _ => rfl) f1 f3 ?_
  refine tt_iconst (n := 1) (v := 1) (by decide +kernel) (by decide) ?_
  obtain ⟨f4, h⟩ := h
  refine tt_callV (As := [.int 1]) (rest := []) (ci := 0) (r0 := (R_0, F_0, 2)) (by decide +kernel) LK_Bytes_at w_326 w_327 w_328 (by decide) (by decide) rfl rfl (Nat.le_of_ble_eq_true rfl) rfl rfl f4 (ct_mono h (fun r Sb h => ?_))
  obtain ⟨eb, h⟩ := h
  obtain ⟨r5, rfl, h⟩ := h
  rw [eb]
  show T G J_S_takeAnswer 8 [(0, .ref a0), (1, .ref a1)] [.int r5] S _
  refine tt_istore_n (k0 := 2) (lv' := [(0, .ref a0), (1, .ref a1), (2, .int r5)]) (by decide +kernel) (by decide) rfl ?_
  refine tt_iload_n (k0 := 2) (by decide +kernel) rfl ?_
  refine tt_if_ne (off := 8) 18 (by decide +kernel) (by decide) (fun c => ?_) (fun c => ?_)
  · have h := h.1 c
    refine tt_iconst (n := 0) (v := 0) (by decide +kernel) (by decide) ?_
    refine tt_istore_n (k0 := 3) (lv' := [(0, .ref a0), (1, .ref a1), (2, .int r5), (3, .int 0)]) (by decide +kernel) (by decide) rfl ?_
    refine tt_aload_n (k0 := 0) (by decide +kernel) rfl ?_
    refine tt_getR (k := 11) (by decide +kernel) KC_10 (by decide) w_253 (fun _ => rfl) f1 f3 ?_
    refine tt_callV (As := []) (rest := []) (ci := 0) (r0 := (R_0, F_0, 2)) (by decide +kernel) LK_Bytes_size w_298 w_299 w_300 (by decide) (by decide) rfl rfl (Nat.le_of_ble_eq_true rfl) rfl rfl f4 (ct_mono h (fun r Sb h => ?_))
    obtain ⟨eb, h⟩ := h
    obtain ⟨r6, rfl, h⟩ := h
    rw [eb]
    show T G J_S_takeAnswer 27 [(0, .ref a0), (1, .ref a1), (2, .int r5), (3, .int 0)] [.int r6] S _
    refine tt_iconst (n := 2) (v := 2) (by decide +kernel) (by decide) ?_
    refine tt_icmp_lt (off := 21) 49 (by decide +kernel) (by decide) (fun c => ?_) (fun c => ?_)
    · have h := h.1 c
      refine tt_bipush (n := -4) (v := -4) (by decide +kernel) (by decide) ?_
      exact tt_iret (by decide +kernel) rfl ⟨hm, h⟩
    · have h := h.2 c
      refine tt_aload_n (k0 := 0) (by decide +kernel) rfl ?_
      refine tt_getR (k := 11) (by decide +kernel) KC_10 (by decide) w_253 (fun _ => rfl) f1 f3 ?_
      refine tt_callV (As := []) (rest := []) (ci := 0) (r0 := (R_0, F_0, 2)) (by decide +kernel) LK_Bytes_size w_298 w_299 w_300 (by decide) (by decide) rfl rfl (Nat.le_of_ble_eq_true rfl) rfl rfl f4 (ct_mono h (fun r Sb h => ?_))
      obtain ⟨eb, h⟩ := h
      obtain ⟨r7, rfl, h⟩ := h
      rw [eb]
      show T G J_S_takeAnswer 38 [(0, .ref a0), (1, .ref a1), (2, .int r5), (3, .int 0)] [.int r7] S _
      refine tt_iconst (n := 2) (v := 2) (by decide +kernel) (by decide) ?_
      refine tt_iload_n (k0 := 3) (by decide +kernel) rfl ?_
      refine tt_iadd (by decide +kernel) ?_
      refine tt_icmp_gt (off := 8) 49 (by decide +kernel) (by decide) (fun c => ?_) (fun c => ?_)
      · have h := h.1 c
        refine tt_bipush (n := -4) (v := -4) (by decide +kernel) (by decide) ?_
        exact tt_iret (by decide +kernel) rfl ⟨hm, h⟩
      · have h := h.2 c
        refine tt_iload_n (k0 := 2) (by decide +kernel) rfl ?_
        refine tt_iconst (n := 3) (v := 3) (by decide +kernel) (by decide) ?_
        refine tt_icmp_le (off := 6) 52 (by decide +kernel) (by decide) (fun c => ?_) (fun c => ?_)
        · have h := h.1 c
          refine tt_aload_n (k0 := 1) (by decide +kernel) rfl ?_
          obtain ⟨f8, h⟩ := h
          refine tt_callV (As := []) (rest := []) (ci := 1) (r0 := (R_1, F_1, 5)) (by decide +kernel) LK_Direction_step w_718 w_589 w_590 (by decide) (by decide) rfl rfl (Nat.le_of_ble_eq_true rfl) rfl rfl f8 (ct_mono h (fun r S9 h => ?_))
          obtain ⟨hm2, h⟩ := h
          obtain ⟨rfl, h⟩ := h
          show T G J_S_takeAnswer 56 [(0, .ref a0), (1, .ref a1), (2, .int r5), (3, .int 0)] [] S9 _
          have hm := hm.tr hm2
          have f1 : te S9 a0 = some (.inr 10) := by rw [hm2.1]; exact f1
          have f3 : tR S9 a0 11 = some b2 := by rw [hm2.R]; exact f3
          have f4 : te S9 b2 = some (.inr 0) := by rw [hm2.1]; exact f4
          have f8 : te S9 a1 = some (.inr 1) := by rw [hm2.1]; exact f8
          refine tt_aload_n (k0 := 0) (by decide +kernel) rfl ?_
          obtain ⟨b10, f11, h⟩ := h
          refine tt_getR (k := 10) (by decide +kernel) KC_10 (by decide) w_252 (fun _ => rfl) f1 f11 ?_
          obtain ⟨f12, h⟩ := h
          refine tt_callV (As := []) (rest := []) (ci := 0) (r0 := (R_0, F_0, 2)) (by decide +kernel) LK_Bytes_clear w_395 w_392 w_393 (by decide) (by decide) rfl rfl (Nat.le_of_ble_eq_true rfl) rfl rfl f12 (ct_mono h (fun r S13 h => ?_))
          obtain ⟨hm2, h⟩ := h
          obtain ⟨rfl, h⟩ := h
          show T G J_S_takeAnswer 63 [(0, .ref a0), (1, .ref a1), (2, .int r5), (3, .int 0)] [] S13 _
          have hm := hm.tr hm2
          have f1 : te S13 a0 = some (.inr 10) := by rw [hm2.1]; exact f1
          have f3 : tR S13 a0 11 = some b2 := by rw [hm2.R]; exact f3
          have f4 : te S13 b2 = some (.inr 0) := by rw [hm2.1]; exact f4
          have f8 : te S13 a1 = some (.inr 1) := by rw [hm2.1]; exact f8
          have f11 : tR S13 a0 10 = some b10 := by rw [hm2.R]; exact f11
          have f12 : te S13 b10 = some (.inr 0) := by rw [hm2.1]; exact f12
          refine tt_aload_n (k0 := 0) (by decide +kernel) rfl ?_
          refine tt_getR (k := 10) (by decide +kernel) KC_10 (by decide) w_252 (fun _ => rfl) f1 f11 ?_
          refine tt_aload_n (k0 := 0) (by decide +kernel) rfl ?_
          refine tt_getR (k := 11) (by decide +kernel) KC_10 (by decide) w_253 (fun _ => rfl) f1 f3 ?_
          refine tt_iconst (n := 1) (v := 1) (by decide +kernel) (by decide) ?_
          refine tt_aload_n (k0 := 0) (by decide +kernel) rfl ?_
          refine tt_getR (k := 11) (by decide +kernel) KC_10 (by decide) w_253 (fun _ => rfl) f1 f3 ?_
          refine tt_callV (As := []) (rest := [.int 1, .ref b2, .ref b10]) (ci := 0) (r0 := (R_0, F_0, 2)) (by decide +kernel) LK_Bytes_size w_298 w_299 w_300 (by decide) (by decide) rfl rfl (Nat.le_of_ble_eq_true rfl) rfl rfl f4 (ct_mono h (fun r Sb h => ?_))
          obtain ⟨eb, h⟩ := h
          obtain ⟨r14, rfl, h⟩ := h
          rw [eb]
          show T G J_S_takeAnswer 79 [(0, .ref a0), (1, .ref a1), (2, .int r5), (3, .int 0)] [.int r14, .int 1, .ref b2, .ref b10] S13 _
          refine tt_iconst (n := 1) (v := 1) (by decide +kernel) (by decide) ?_
          refine tt_isub (by decide +kernel) ?_
          refine tt_callV (As := [.ref b2, .int 1, .int (r14 - (1 : Int32))]) (rest := []) (ci := 0) (r0 := (R_0, F_0, 2)) (by decide +kernel) LK_Bytes_putPart w_667 w_358 w_359 (by decide) (by decide) rfl rfl (Nat.le_of_ble_eq_true rfl) rfl rfl f12 (ct_mono h (fun r S15 h => ?_))
          obtain ⟨hm2, h⟩ := h
          obtain ⟨rfl, h⟩ := h
          show T G J_S_takeAnswer 84 [(0, .ref a0), (1, .ref a1), (2, .int r5), (3, .int 0)] [] S15 _
          have hm := hm.tr hm2
          have f1 : te S15 a0 = some (.inr 10) := by rw [hm2.1]; exact f1
          have f3 : tR S15 a0 11 = some b2 := by rw [hm2.R]; exact f3
          have f4 : te S15 b2 = some (.inr 0) := by rw [hm2.1]; exact f4
          have f8 : te S15 a1 = some (.inr 1) := by rw [hm2.1]; exact f8
          have f11 : tR S15 a0 10 = some b10 := by rw [hm2.R]; exact f11
          have f12 : te S15 b10 = some (.inr 0) := by rw [hm2.1]; exact f12
          refine tt_aload_n (k0 := 0) (by decide +kernel) rfl ?_
          refine tt_dup (by decide +kernel) rfl ?_
          refine tt_getI (k := 16) (by decide +kernel) KC_10 (by decide) w_258 (fun _ => rfl) f1 ?_
          refine tt_iconst (n := 1) (v := 1) (by decide +kernel) (by decide) ?_
          refine tt_iadd (by decide +kernel) ?_
          refine tt_putI (k := 16) (by decide +kernel) KC_10 (by decide) w_258 rfl rfl f1 ?_
          generalize eS16 : sI S15 a0 (upd (tI S15 a0) 16 ((tI S15 a0 16) + (1 : Int32))) = S16
          have h := h S16 eS16.symm
          have hm : Sm0 S S16 := by rw [← eS16]; exact hm.I
          have f1 : te S16 a0 = some (.inr 10) := by rw [← eS16, te_sI]; exact f1
          have f3 : tR S16 a0 11 = some b2 := by rw [← eS16, tR_sI]; exact f3
          have f4 : te S16 b2 = some (.inr 0) := by rw [← eS16, te_sI]; exact f4
          have f8 : te S16 a1 = some (.inr 1) := by rw [← eS16, te_sI]; exact f8
          have f11 : tR S16 a0 10 = some b10 := by rw [← eS16, tR_sI]; exact f11
          have f12 : te S16 b10 = some (.inr 0) := by rw [← eS16, te_sI]; exact f12
          refine tt_iconst (n := 4) (v := 4) (by decide +kernel) (by decide) ?_
          exact tt_iret (by decide +kernel) rfl ⟨hm, h⟩
        · have h := h.2 c
          refine tt_bipush (n := -4) (v := -4) (by decide +kernel) (by decide) ?_
          exact tt_iret (by decide +kernel) rfl ⟨hm, h⟩
  · have h := h.2 c
    refine tt_bipush (n := 64) (v := 64) (by decide +kernel) (by decide) ?_
    refine tt_goto (off := 4) (tgt := 19) (by decide +kernel) (by decide) ?_
    refine tt_istore_n (k0 := 3) (lv' := [(0, .ref a0), (1, .ref a1), (2, .int r5), (3, .int 64)]) (by decide +kernel) (by decide) rfl ?_
    refine tt_aload_n (k0 := 0) (by decide +kernel) rfl ?_
    refine tt_getR (k := 11) (by decide +kernel) KC_10 (by decide) w_253 (fun _ => rfl) f1 f3 ?_
    refine tt_callV (As := []) (rest := []) (ci := 0) (r0 := (R_0, F_0, 2)) (by decide +kernel) LK_Bytes_size w_298 w_299 w_300 (by decide) (by decide) rfl rfl (Nat.le_of_ble_eq_true rfl) rfl rfl f4 (ct_mono h (fun r Sb h => ?_))
    obtain ⟨eb, h⟩ := h
    obtain ⟨r17, rfl, h⟩ := h
    rw [eb]
    show T G J_S_takeAnswer 27 [(0, .ref a0), (1, .ref a1), (2, .int r5), (3, .int 64)] [.int r17] S _
    refine tt_iconst (n := 2) (v := 2) (by decide +kernel) (by decide) ?_
    refine tt_icmp_lt (off := 21) 49 (by decide +kernel) (by decide) (fun c => ?_) (fun c => ?_)
    · have h := h.1 c
      refine tt_bipush (n := -4) (v := -4) (by decide +kernel) (by decide) ?_
      exact tt_iret (by decide +kernel) rfl ⟨hm, h⟩
    · have h := h.2 c
      refine tt_aload_n (k0 := 0) (by decide +kernel) rfl ?_
      refine tt_getR (k := 11) (by decide +kernel) KC_10 (by decide) w_253 (fun _ => rfl) f1 f3 ?_
      refine tt_callV (As := []) (rest := []) (ci := 0) (r0 := (R_0, F_0, 2)) (by decide +kernel) LK_Bytes_size w_298 w_299 w_300 (by decide) (by decide) rfl rfl (Nat.le_of_ble_eq_true rfl) rfl rfl f4 (ct_mono h (fun r Sb h => ?_))
      obtain ⟨eb, h⟩ := h
      obtain ⟨r18, rfl, h⟩ := h
      rw [eb]
      show T G J_S_takeAnswer 38 [(0, .ref a0), (1, .ref a1), (2, .int r5), (3, .int 64)] [.int r18] S _
      refine tt_iconst (n := 2) (v := 2) (by decide +kernel) (by decide) ?_
      refine tt_iload_n (k0 := 3) (by decide +kernel) rfl ?_
      refine tt_iadd (by decide +kernel) ?_
      refine tt_icmp_gt (off := 8) 49 (by decide +kernel) (by decide) (fun c => ?_) (fun c => ?_)
      · have h := h.1 c
        refine tt_bipush (n := -4) (v := -4) (by decide +kernel) (by decide) ?_
        exact tt_iret (by decide +kernel) rfl ⟨hm, h⟩
      · have h := h.2 c
        refine tt_iload_n (k0 := 2) (by decide +kernel) rfl ?_
        refine tt_iconst (n := 3) (v := 3) (by decide +kernel) (by decide) ?_
        refine tt_icmp_le (off := 6) 52 (by decide +kernel) (by decide) (fun c => ?_) (fun c => ?_)
        · have h := h.1 c
          refine tt_aload_n (k0 := 1) (by decide +kernel) rfl ?_
          obtain ⟨f19, h⟩ := h
          refine tt_callV (As := []) (rest := []) (ci := 1) (r0 := (R_1, F_1, 5)) (by decide +kernel) LK_Direction_step w_718 w_589 w_590 (by decide) (by decide) rfl rfl (Nat.le_of_ble_eq_true rfl) rfl rfl f19 (ct_mono h (fun r S20 h => ?_))
          obtain ⟨hm2, h⟩ := h
          obtain ⟨rfl, h⟩ := h
          show T G J_S_takeAnswer 56 [(0, .ref a0), (1, .ref a1), (2, .int r5), (3, .int 64)] [] S20 _
          have hm := hm.tr hm2
          have f1 : te S20 a0 = some (.inr 10) := by rw [hm2.1]; exact f1
          have f3 : tR S20 a0 11 = some b2 := by rw [hm2.R]; exact f3
          have f4 : te S20 b2 = some (.inr 0) := by rw [hm2.1]; exact f4
          have f19 : te S20 a1 = some (.inr 1) := by rw [hm2.1]; exact f19
          refine tt_aload_n (k0 := 0) (by decide +kernel) rfl ?_
          obtain ⟨b21, f22, h⟩ := h
          refine tt_getR (k := 10) (by decide +kernel) KC_10 (by decide) w_252 (fun _ => rfl) f1 f22 ?_
          obtain ⟨f23, h⟩ := h
          refine tt_callV (As := []) (rest := []) (ci := 0) (r0 := (R_0, F_0, 2)) (by decide +kernel) LK_Bytes_clear w_395 w_392 w_393 (by decide) (by decide) rfl rfl (Nat.le_of_ble_eq_true rfl) rfl rfl f23 (ct_mono h (fun r S24 h => ?_))
          obtain ⟨hm2, h⟩ := h
          obtain ⟨rfl, h⟩ := h
          show T G J_S_takeAnswer 63 [(0, .ref a0), (1, .ref a1), (2, .int r5), (3, .int 64)] [] S24 _
          have hm := hm.tr hm2
          have f1 : te S24 a0 = some (.inr 10) := by rw [hm2.1]; exact f1
          have f3 : tR S24 a0 11 = some b2 := by rw [hm2.R]; exact f3
          have f4 : te S24 b2 = some (.inr 0) := by rw [hm2.1]; exact f4
          have f19 : te S24 a1 = some (.inr 1) := by rw [hm2.1]; exact f19
          have f22 : tR S24 a0 10 = some b21 := by rw [hm2.R]; exact f22
          have f23 : te S24 b21 = some (.inr 0) := by rw [hm2.1]; exact f23
          refine tt_aload_n (k0 := 0) (by decide +kernel) rfl ?_
          refine tt_getR (k := 10) (by decide +kernel) KC_10 (by decide) w_252 (fun _ => rfl) f1 f22 ?_
          refine tt_aload_n (k0 := 0) (by decide +kernel) rfl ?_
          refine tt_getR (k := 11) (by decide +kernel) KC_10 (by decide) w_253 (fun _ => rfl) f1 f3 ?_
          refine tt_iconst (n := 1) (v := 1) (by decide +kernel) (by decide) ?_
          refine tt_aload_n (k0 := 0) (by decide +kernel) rfl ?_
          refine tt_getR (k := 11) (by decide +kernel) KC_10 (by decide) w_253 (fun _ => rfl) f1 f3 ?_
          refine tt_callV (As := []) (rest := [.int 1, .ref b2, .ref b21]) (ci := 0) (r0 := (R_0, F_0, 2)) (by decide +kernel) LK_Bytes_size w_298 w_299 w_300 (by decide) (by decide) rfl rfl (Nat.le_of_ble_eq_true rfl) rfl rfl f4 (ct_mono h (fun r Sb h => ?_))
          obtain ⟨eb, h⟩ := h
          obtain ⟨r25, rfl, h⟩ := h
          rw [eb]
          show T G J_S_takeAnswer 79 [(0, .ref a0), (1, .ref a1), (2, .int r5), (3, .int 64)] [.int r25, .int 1, .ref b2, .ref b21] S24 _
          refine tt_iconst (n := 1) (v := 1) (by decide +kernel) (by decide) ?_
          refine tt_isub (by decide +kernel) ?_
          refine tt_callV (As := [.ref b2, .int 1, .int (r25 - (1 : Int32))]) (rest := []) (ci := 0) (r0 := (R_0, F_0, 2)) (by decide +kernel) LK_Bytes_putPart w_667 w_358 w_359 (by decide) (by decide) rfl rfl (Nat.le_of_ble_eq_true rfl) rfl rfl f23 (ct_mono h (fun r S26 h => ?_))
          obtain ⟨hm2, h⟩ := h
          obtain ⟨rfl, h⟩ := h
          show T G J_S_takeAnswer 84 [(0, .ref a0), (1, .ref a1), (2, .int r5), (3, .int 64)] [] S26 _
          have hm := hm.tr hm2
          have f1 : te S26 a0 = some (.inr 10) := by rw [hm2.1]; exact f1
          have f3 : tR S26 a0 11 = some b2 := by rw [hm2.R]; exact f3
          have f4 : te S26 b2 = some (.inr 0) := by rw [hm2.1]; exact f4
          have f19 : te S26 a1 = some (.inr 1) := by rw [hm2.1]; exact f19
          have f22 : tR S26 a0 10 = some b21 := by rw [hm2.R]; exact f22
          have f23 : te S26 b21 = some (.inr 0) := by rw [hm2.1]; exact f23
          refine tt_aload_n (k0 := 0) (by decide +kernel) rfl ?_
          refine tt_dup (by decide +kernel) rfl ?_
          refine tt_getI (k := 16) (by decide +kernel) KC_10 (by decide) w_258 (fun _ => rfl) f1 ?_
          refine tt_iconst (n := 1) (v := 1) (by decide +kernel) (by decide) ?_
          refine tt_iadd (by decide +kernel) ?_
          refine tt_putI (k := 16) (by decide +kernel) KC_10 (by decide) w_258 rfl rfl f1 ?_
          generalize eS27 : sI S26 a0 (upd (tI S26 a0) 16 ((tI S26 a0 16) + (1 : Int32))) = S27
          have h := h S27 eS27.symm
          have hm : Sm0 S S27 := by rw [← eS27]; exact hm.I
          have f1 : te S27 a0 = some (.inr 10) := by rw [← eS27, te_sI]; exact f1
          have f3 : tR S27 a0 11 = some b2 := by rw [← eS27, tR_sI]; exact f3
          have f4 : te S27 b2 = some (.inr 0) := by rw [← eS27, te_sI]; exact f4
          have f19 : te S27 a1 = some (.inr 1) := by rw [← eS27, te_sI]; exact f19
          have f22 : tR S27 a0 10 = some b21 := by rw [← eS27, tR_sI]; exact f22
          have f23 : te S27 b21 = some (.inr 0) := by rw [← eS27, te_sI]; exact f23
          refine tt_iconst (n := 4) (v := 4) (by decide +kernel) (by decide) ?_
          exact tt_iret (by decide +kernel) rfl ⟨hm, h⟩
        · have h := h.2 c
          refine tt_bipush (n := -4) (v := -4) (by decide +kernel) (by decide) ?_
          exact tt_iret (by decide +kernel) rfl ⟨hm, h⟩
set_option maxRecDepth 100000 in
theorem v_S_wire {G : pG} (a0 : Nat) (x1 : Int32) (x2 : Int32) (x3 : Int32) (S : TS) (Q : Option Value → Prop)
    (h : te S a0 = some (.inr 10) ∧ CP G J_S_isRecord [.ref a0, .int x1, .int x2] S (fun r => ∃ r2 : Int32, r = some (.int r2) ∧ ((¬ r2 = 0 → CP G J_S_wireOf [.ref a0, .int x1] S (fun r => ∃ b3 : Nat, r = some (.ref b3) ∧ te S b3 = some (.inr 9) ∧ CP G J_Wire_at [.ref b3, .int x2] S (fun r => ∃ b5 : Nat, r = some (.ref b5) ∧ CP G J_S_byteOrSize [.ref b5, .int x3] S (fun r => ∃ r6 : Int32, r = some (.int r6) ∧ Q (some (.int r6)))))) ∧ (r2 = 0 → Q (some (.int ((-2)))))))) :
    CP G J_S_wire [.ref a0, .int x1, .int x2, .int x3] S Q := by
  unfold CP
  refine ct_of (by decide +kernel) (Nat.le_of_ble_eq_true rfl) (lv := [(0, .ref a0), (1, .int x1), (2, .int x2), (3, .int x3)]) rfl ?_
  refine tt_aload_n (k0 := 0) (by decide +kernel) rfl ?_
  refine tt_iload_n (k0 := 1) (by decide +kernel) rfl ?_
  refine tt_iload_n (k0 := 2) (by decide +kernel) rfl ?_
  obtain ⟨f1, h⟩ := h
  refine tt_callV (As := [.int x1, .int x2]) (rest := []) (ci := 10) (r0 := (R_10, F_10, 17)) (by decide +kernel) LK_S_isRecord w_776 w_778 (in_p (n := 17) 27 rfl) (by decide) (by decide) rfl rfl (Nat.le_of_ble_eq_true rfl) rfl rfl f1 (ct_mono h (fun r Sb h => ?_))
  obtain ⟨eb, h⟩ := h
  obtain ⟨r2, rfl, h⟩ := h
  rw [eb]
  show T G J_S_wire 6 [(0, .ref a0), (1, .int x1), (2, .int x2), (3, .int x3)] [.int r2] S _
  refine tt_if_ne (off := 6) 12 (by decide +kernel) (by decide) (fun c => ?_) (fun c => ?_)
  · have h := h.1 c
    refine tt_aload_n (k0 := 0) (by decide +kernel) rfl ?_
    refine tt_iload_n (k0 := 1) (by decide +kernel) rfl ?_
    refine tt_callV (As := [.int x1]) (rest := []) (ci := 10) (r0 := (R_10, F_10, 17)) (by decide +kernel) LK_S_wireOf w_600 w_602 (in_p (n := 17) 15 rfl) (by decide) (by decide) rfl rfl (Nat.le_of_ble_eq_true rfl) rfl rfl f1 (ct_mono h (fun r Sb h => ?_))
    obtain ⟨eb, h⟩ := h
    obtain ⟨b3, rfl, h⟩ := h
    rw [eb]
    show T G J_S_wire 17 [(0, .ref a0), (1, .int x1), (2, .int x2), (3, .int x3)] [.ref b3] S _
    refine tt_iload_n (k0 := 2) (by decide +kernel) rfl ?_
    obtain ⟨f4, h⟩ := h
    refine tt_callV (As := [.int x2]) (rest := []) (ci := 9) (r0 := (R_9, F_9, 2)) (by decide +kernel) LK_Wire_at w_645 w_646 w_647 (by decide) (by decide) rfl rfl (Nat.le_of_ble_eq_true rfl) rfl rfl f4 (ct_mono h (fun r Sb h => ?_))
    obtain ⟨eb, h⟩ := h
    obtain ⟨b5, rfl, h⟩ := h
    rw [eb]
    show T G J_S_wire 21 [(0, .ref a0), (1, .int x1), (2, .int x2), (3, .int x3)] [.ref b5] S _
    refine tt_iload_n (k0 := 3) (by decide +kernel) rfl ?_
    refine tt_callS (As := [.ref b5, .int x3]) (rest := []) (by decide +kernel) LK_S_byteOrSize w_319 w_320 (by decide) (by decide) rfl rfl (Nat.le_of_ble_eq_true rfl) (ct_mono h (fun r Sb h => ?_))
    obtain ⟨eb, h⟩ := h
    obtain ⟨r6, rfl, h⟩ := h
    rw [eb]
    show T G J_S_wire 25 [(0, .ref a0), (1, .int x1), (2, .int x2), (3, .int x3)] [.int r6] S _
    exact tt_iret (by decide +kernel) rfl ⟨rfl, h⟩
  · have h := h.2 c
    refine tt_bipush (n := -2) (v := -2) (by decide +kernel) (by decide) ?_
    exact tt_iret (by decide +kernel) rfl ⟨rfl, h⟩
set_option maxRecDepth 100000 in
theorem v_S_isRecord {G : pG} (a0 : Nat) (x1 : Int32) (x2 : Int32) (S : TS) (Q : Option Value → Prop)
    (h : CP G J_S_isWire [.int x1] S (fun r => ∃ r1 : Int32, r = some (.int r1) ∧ ((r1 = 0 → Q (some (.int 0))) ∧ (¬ (r1 = 0) → te S a0 = some (.inr 10) ∧ CP G J_S_wireOf [.ref a0, .int x1] S (fun r => ∃ b3 : Nat, r = some (.ref b3) ∧ te S b3 = some (.inr 9) ∧ CP G J_Wire_has [.ref b3, .int x2] S (fun r => ∃ r5 : Int32, r = some (.int r5) ∧ ((r5 = 0 → Q (some (.int 0))) ∧ (¬ (r5 = 0) → Q (some (.int 1)))))))))) :
    CP G J_S_isRecord [.ref a0, .int x1, .int x2] S Q := by
  unfold CP
  refine ct_of (by decide +kernel) (Nat.le_of_ble_eq_true rfl) (lv := [(0, .ref a0), (1, .int x1), (2, .int x2)]) rfl ?_
  refine tt_iload_n (k0 := 1) (by decide +kernel) rfl ?_
  refine tt_callS (As := [.int x1]) (rest := []) (by decide +kernel) LK_S_isWire w_638 w_639 (by decide) (by decide) rfl rfl (Nat.le_of_ble_eq_true rfl) (ct_mono h (fun r Sb h => ?_))
  obtain ⟨eb, h⟩ := h
  obtain ⟨r1, rfl, h⟩ := h
  rw [eb]
  show T G J_S_isRecord 4 [(0, .ref a0), (1, .int x1), (2, .int x2)] [.int r1] S _
  refine tt_if_eq (off := 19) 23 (by decide +kernel) (by decide) (fun c => ?_) (fun c => ?_)
  · have h := h.1 c
    refine tt_iconst (n := 0) (v := 0) (by decide +kernel) (by decide) ?_
    exact tt_zret (by decide +kernel) rfl rfl ⟨rfl, h⟩
  · have h := h.2 c
    refine tt_aload_n (k0 := 0) (by decide +kernel) rfl ?_
    refine tt_iload_n (k0 := 1) (by decide +kernel) rfl ?_
    obtain ⟨f2, h⟩ := h
    refine tt_callV (As := [.int x1]) (rest := []) (ci := 10) (r0 := (R_10, F_10, 17)) (by decide +kernel) LK_S_wireOf w_600 w_602 (in_p (n := 17) 15 rfl) (by decide) (by decide) rfl rfl (Nat.le_of_ble_eq_true rfl) rfl rfl f2 (ct_mono h (fun r Sb h => ?_))
    obtain ⟨eb, h⟩ := h
    obtain ⟨b3, rfl, h⟩ := h
    rw [eb]
    show T G J_S_isRecord 12 [(0, .ref a0), (1, .int x1), (2, .int x2)] [.ref b3] S _
    refine tt_iload_n (k0 := 2) (by decide +kernel) rfl ?_
    obtain ⟨f4, h⟩ := h
    refine tt_callV (As := [.int x2]) (rest := []) (ci := 9) (r0 := (R_9, F_9, 2)) (by decide +kernel) LK_Wire_has w_641 w_642 w_643 (by decide) (by decide) rfl rfl (Nat.le_of_ble_eq_true rfl) rfl rfl f4 (ct_mono h (fun r Sb h => ?_))
    obtain ⟨eb, h⟩ := h
    obtain ⟨r5, rfl, h⟩ := h
    rw [eb]
    show T G J_S_isRecord 16 [(0, .ref a0), (1, .int x1), (2, .int x2)] [.int r5] S _
    refine tt_if_eq (off := 7) 23 (by decide +kernel) (by decide) (fun c => ?_) (fun c => ?_)
    · have h := h.1 c
      refine tt_iconst (n := 0) (v := 0) (by decide +kernel) (by decide) ?_
      exact tt_zret (by decide +kernel) rfl rfl ⟨rfl, h⟩
    · have h := h.2 c
      refine tt_iconst (n := 1) (v := 1) (by decide +kernel) (by decide) ?_
      refine tt_goto (off := 4) (tgt := 24) (by decide +kernel) (by decide) ?_
      exact tt_zret (by decide +kernel) rfl rfl ⟨rfl, h⟩
set_option maxRecDepth 100000 in
theorem v_S_flip {G : pG} (a0 : Nat) (x1 : Int32) (x2 : Int32) (x3 : Int32) (x4 : Int32) (S : TS) (Q : Option Value → TS → Prop)
    (h : te S a0 = some (.inr 10) ∧ CP G J_S_isRecord [.ref a0, .int x1, .int x2] S (fun r => ∃ r2 : Int32, r = some (.int r2) ∧ ((r2 = 0 → Q (some (.int ((-2)))) S) ∧ (¬ (r2 = 0) → CP G J_S_wireOf [.ref a0, .int x1] S (fun r => ∃ b3 : Nat, r = some (.ref b3) ∧ te S b3 = some (.inr 9) ∧ CP G J_Wire_at [.ref b3, .int x2] S (fun r => ∃ b5 : Nat, r = some (.ref b5) ∧ te S b5 = some (.inr 0) ∧ CP G J_Bytes_has [.ref b5, .int x3] S (fun r => ∃ r7 : Int32, r = some (.int r7) ∧ ((¬ r7 = 0 → CP G J_S_wireOf [.ref a0, .int x1] S (fun r => ∃ b8 : Nat, r = some (.ref b8) ∧ te S b8 = some (.inr 9) ∧ CP G J_Wire_at [.ref b8, .int x2] S (fun r => ∃ b10 : Nat, r = some (.ref b10) ∧ te S b10 = some (.inr 0) ∧ C0 G J_Bytes_flipBits [.ref b10, .int x3, .int x4] S (fun r S12 => ∃ r13 : Int32, r = some (.int r13) ∧ Q (some (.int r13)) S12)))) ∧ (r7 = 0 → Q (some (.int ((-2)))) S))))))))) :
    C0 G J_S_flip [.ref a0, .int x1, .int x2, .int x3, .int x4] S Q := by
  unfold C0
  refine ct_of (by decide +kernel) (Nat.le_of_ble_eq_true rfl) (lv := [(0, .ref a0), (1, .int x1), (2, .int x2), (3, .int x3), (4, .int x4)]) rfl ?_
  have hm : Sm0 S S := Sm0.rf S
  refine tt_aload_n (k0 := 0) (by decide +kernel) rfl ?_
  refine tt_iload_n (k0 := 1) (by decide +kernel) rfl ?_
  refine tt_iload_n (k0 := 2) (by decide +kernel) rfl ?_
  obtain ⟨f1, h⟩ := h
  refine tt_callV (As := [.int x1, .int x2]) (rest := []) (ci := 10) (r0 := (R_10, F_10, 17)) (by decide +kernel) LK_S_isRecord w_776 w_778 (in_p (n := 17) 27 rfl) (by decide) (by decide) rfl rfl (Nat.le_of_ble_eq_true rfl) rfl rfl f1 (ct_mono h (fun r Sb h => ?_))
  obtain ⟨eb, h⟩ := h
  obtain ⟨r2, rfl, h⟩ := h
  rw [eb]
  show T G J_S_flip 6 [(0, .ref a0), (1, .int x1), (2, .int x2), (3, .int x3), (4, .int x4)] [.int r2] S _
  refine tt_if_eq (off := 19) 25 (by decide +kernel) (by decide) (fun c => ?_) (fun c => ?_)
  · have h := h.1 c
    refine tt_bipush (n := -2) (v := -2) (by decide +kernel) (by decide) ?_
    exact tt_iret (by decide +kernel) rfl ⟨hm, h⟩
  · have h := h.2 c
    refine tt_aload_n (k0 := 0) (by decide +kernel) rfl ?_
    refine tt_iload_n (k0 := 1) (by decide +kernel) rfl ?_
    refine tt_callV (As := [.int x1]) (rest := []) (ci := 10) (r0 := (R_10, F_10, 17)) (by decide +kernel) LK_S_wireOf w_600 w_602 (in_p (n := 17) 15 rfl) (by decide) (by decide) rfl rfl (Nat.le_of_ble_eq_true rfl) rfl rfl f1 (ct_mono h (fun r Sb h => ?_))
    obtain ⟨eb, h⟩ := h
    obtain ⟨b3, rfl, h⟩ := h
    rw [eb]
    show T G J_S_flip 14 [(0, .ref a0), (1, .int x1), (2, .int x2), (3, .int x3), (4, .int x4)] [.ref b3] S _
    refine tt_iload_n (k0 := 2) (by decide +kernel) rfl ?_
    obtain ⟨f4, h⟩ := h
    refine tt_callV (As := [.int x2]) (rest := []) (ci := 9) (r0 := (R_9, F_9, 2)) (by decide +kernel) LK_Wire_at w_645 w_646 w_647 (by decide) (by decide) rfl rfl (Nat.le_of_ble_eq_true rfl) rfl rfl f4 (ct_mono h (fun r Sb h => ?_))
    obtain ⟨eb, h⟩ := h
    obtain ⟨b5, rfl, h⟩ := h
    rw [eb]
    show T G J_S_flip 18 [(0, .ref a0), (1, .int x1), (2, .int x2), (3, .int x3), (4, .int x4)] [.ref b5] S _
    refine tt_iload_n (k0 := 3) (by decide +kernel) rfl ?_
    obtain ⟨f6, h⟩ := h
    refine tt_callV (As := [.int x3]) (rest := []) (ci := 0) (r0 := (R_0, F_0, 2)) (by decide +kernel) LK_Bytes_has w_322 w_323 w_324 (by decide) (by decide) rfl rfl (Nat.le_of_ble_eq_true rfl) rfl rfl f6 (ct_mono h (fun r Sb h => ?_))
    obtain ⟨eb, h⟩ := h
    obtain ⟨r7, rfl, h⟩ := h
    rw [eb]
    show T G J_S_flip 22 [(0, .ref a0), (1, .int x1), (2, .int x2), (3, .int x3), (4, .int x4)] [.int r7] S _
    refine tt_if_ne (off := 6) 28 (by decide +kernel) (by decide) (fun c => ?_) (fun c => ?_)
    · have h := h.1 c
      refine tt_aload_n (k0 := 0) (by decide +kernel) rfl ?_
      refine tt_iload_n (k0 := 1) (by decide +kernel) rfl ?_
      refine tt_callV (As := [.int x1]) (rest := []) (ci := 10) (r0 := (R_10, F_10, 17)) (by decide +kernel) LK_S_wireOf w_600 w_602 (in_p (n := 17) 15 rfl) (by decide) (by decide) rfl rfl (Nat.le_of_ble_eq_true rfl) rfl rfl f1 (ct_mono h (fun r Sb h => ?_))
      obtain ⟨eb, h⟩ := h
      obtain ⟨b8, rfl, h⟩ := h
      rw [eb]
      show T G J_S_flip 33 [(0, .ref a0), (1, .int x1), (2, .int x2), (3, .int x3), (4, .int x4)] [.ref b8] S _
      refine tt_iload_n (k0 := 2) (by decide +kernel) rfl ?_
      obtain ⟨f9, h⟩ := h
      refine tt_callV (As := [.int x2]) (rest := []) (ci := 9) (r0 := (R_9, F_9, 2)) (by decide +kernel) LK_Wire_at w_645 w_646 w_647 (by decide) (by decide) rfl rfl (Nat.le_of_ble_eq_true rfl) rfl rfl f9 (ct_mono h (fun r Sb h => ?_))
      obtain ⟨eb, h⟩ := h
      obtain ⟨b10, rfl, h⟩ := h
      rw [eb]
      show T G J_S_flip 37 [(0, .ref a0), (1, .int x1), (2, .int x2), (3, .int x3), (4, .int x4)] [.ref b10] S _
      refine tt_iload_n (k0 := 3) (by decide +kernel) rfl ?_
      refine tt_iload (k0 := 4) (by decide +kernel) rfl ?_
      obtain ⟨f11, h⟩ := h
      refine tt_callV (As := [.int x3, .int x4]) (rest := []) (ci := 0) (r0 := (R_0, F_0, 2)) (by decide +kernel) LK_Bytes_flipBits w_784 w_785 w_786 (by decide) (by decide) rfl rfl (Nat.le_of_ble_eq_true rfl) rfl rfl f11 (ct_mono h (fun r S12 h => ?_))
      obtain ⟨hm2, h⟩ := h
      obtain ⟨r13, rfl, h⟩ := h
      show T G J_S_flip 43 [(0, .ref a0), (1, .int x1), (2, .int x2), (3, .int x3), (4, .int x4)] [.int r13] S12 _
      have hm := hm.tr hm2
      have f1 : te S12 a0 = some (.inr 10) := by rw [hm2.1]; exact f1
      have f4 : te S12 b3 = some (.inr 9) := by rw [hm2.1]; exact f4
      have f6 : te S12 b5 = some (.inr 0) := by rw [hm2.1]; exact f6
      have f9 : te S12 b8 = some (.inr 9) := by rw [hm2.1]; exact f9
      have f11 : te S12 b10 = some (.inr 0) := by rw [hm2.1]; exact f11
      exact tt_iret (by decide +kernel) rfl ⟨hm, h⟩
    · have h := h.2 c
      refine tt_bipush (n := -2) (v := -2) (by decide +kernel) (by decide) ?_
      exact tt_iret (by decide +kernel) rfl ⟨hm, h⟩
set_option maxRecDepth 100000 in
theorem v_S_drop {G : pG} (a0 : Nat) (x1 : Int32) (x2 : Int32) (S : TS) (Q : Option Value → TS → Prop)
    (h : te S a0 = some (.inr 10) ∧ CP G J_S_isRecord [.ref a0, .int x1, .int x2] S (fun r => ∃ r2 : Int32, r = some (.int r2) ∧ ((¬ r2 = 0 → CP G J_S_wireOf [.ref a0, .int x1] S (fun r => ∃ b3 : Nat, r = some (.ref b3) ∧ te S b3 = some (.inr 9) ∧ C1 G J_Wire_remove [.ref b3, .int x2] S (fun r S5 => r = none ∧ CP G J_S_wireOf [.ref a0, .int x1] S5 (fun r => ∃ b6 : Nat, r = some (.ref b6) ∧ te S5 b6 = some (.inr 9) ∧ CP G J_Wire_size [.ref b6] S5 (fun r => ∃ r8 : Int32, r = some (.int r8) ∧ Q (some (.int r8)) S5))))) ∧ (r2 = 0 → Q (some (.int ((-2)))) S)))) :
    C1 G J_S_drop [.ref a0, .int x1, .int x2] S Q := by
  unfold C1
  refine ct_of (by decide +kernel) (Nat.le_of_ble_eq_true rfl) (lv := [(0, .ref a0), (1, .int x1), (2, .int x2)]) rfl ?_
  have hm : Sm1 S S := Sm1.rf S
  refine tt_aload_n (k0 := 0) (by decide +kernel) rfl ?_
  refine tt_iload_n (k0 := 1) (by decide +kernel) rfl ?_
  refine tt_iload_n (k0 := 2) (by decide +kernel) rfl ?_
  obtain ⟨f1, h⟩ := h
  refine tt_callV (As := [.int x1, .int x2]) (rest := []) (ci := 10) (r0 := (R_10, F_10, 17)) (by decide +kernel) LK_S_isRecord w_776 w_778 (in_p (n := 17) 27 rfl) (by decide) (by decide) rfl rfl (Nat.le_of_ble_eq_true rfl) rfl rfl f1 (ct_mono h (fun r Sb h => ?_))
  obtain ⟨eb, h⟩ := h
  obtain ⟨r2, rfl, h⟩ := h
  rw [eb]
  show T G J_S_drop 6 [(0, .ref a0), (1, .int x1), (2, .int x2)] [.int r2] S _
  refine tt_if_ne (off := 6) 12 (by decide +kernel) (by decide) (fun c => ?_) (fun c => ?_)
  · have h := h.1 c
    refine tt_aload_n (k0 := 0) (by decide +kernel) rfl ?_
    refine tt_iload_n (k0 := 1) (by decide +kernel) rfl ?_
    refine tt_callV (As := [.int x1]) (rest := []) (ci := 10) (r0 := (R_10, F_10, 17)) (by decide +kernel) LK_S_wireOf w_600 w_602 (in_p (n := 17) 15 rfl) (by decide) (by decide) rfl rfl (Nat.le_of_ble_eq_true rfl) rfl rfl f1 (ct_mono h (fun r Sb h => ?_))
    obtain ⟨eb, h⟩ := h
    obtain ⟨b3, rfl, h⟩ := h
    rw [eb]
    show T G J_S_drop 17 [(0, .ref a0), (1, .int x1), (2, .int x2)] [.ref b3] S _
    refine tt_iload_n (k0 := 2) (by decide +kernel) rfl ?_
    obtain ⟨f4, h⟩ := h
    refine tt_callV (As := [.int x2]) (rest := []) (ci := 9) (r0 := (R_9, F_9, 2)) (by decide +kernel) LK_Wire_remove w_768 w_769 w_770 (by decide) (by decide) rfl rfl (Nat.le_of_ble_eq_true rfl) rfl rfl f4 (ct_mono h (fun r S5 h => ?_))
    obtain ⟨hm2, h⟩ := h
    obtain ⟨rfl, h⟩ := h
    show T G J_S_drop 21 [(0, .ref a0), (1, .int x1), (2, .int x2)] [] S5 _
    have hm := hm.tr hm2
    have f1 : te S5 a0 = some (.inr 10) := by rw [hm2.1]; exact f1
    have f4 : te S5 b3 = some (.inr 9) := by rw [hm2.1]; exact f4
    refine tt_aload_n (k0 := 0) (by decide +kernel) rfl ?_
    refine tt_iload_n (k0 := 1) (by decide +kernel) rfl ?_
    refine tt_callV (As := [.int x1]) (rest := []) (ci := 10) (r0 := (R_10, F_10, 17)) (by decide +kernel) LK_S_wireOf w_600 w_602 (in_p (n := 17) 15 rfl) (by decide) (by decide) rfl rfl (Nat.le_of_ble_eq_true rfl) rfl rfl f1 (ct_mono h (fun r Sb h => ?_))
    obtain ⟨eb, h⟩ := h
    obtain ⟨b6, rfl, h⟩ := h
    rw [eb]
    show T G J_S_drop 26 [(0, .ref a0), (1, .int x1), (2, .int x2)] [.ref b6] S5 _
    obtain ⟨f7, h⟩ := h
    refine tt_callV (As := []) (rest := []) (ci := 9) (r0 := (R_9, F_9, 2)) (by decide +kernel) LK_Wire_size w_793 w_794 w_795 (by decide) (by decide) rfl rfl (Nat.le_of_ble_eq_true rfl) rfl rfl f7 (ct_mono h (fun r Sb h => ?_))
    obtain ⟨eb, h⟩ := h
    obtain ⟨r8, rfl, h⟩ := h
    rw [eb]
    show T G J_S_drop 29 [(0, .ref a0), (1, .int x1), (2, .int x2)] [.int r8] S5 _
    exact tt_iret (by decide +kernel) rfl ⟨hm, h⟩
  · have h := h.2 c
    refine tt_bipush (n := -2) (v := -2) (by decide +kernel) (by decide) ?_
    exact tt_iret (by decide +kernel) rfl ⟨hm, h⟩
set_option maxRecDepth 100000 in
theorem v_S_copy {G : pG} (a0 : Nat) (x1 : Int32) (x2 : Int32) (x3 : Int32) (S : TS) (Q : Option Value → TS → Prop)
    (h : te S a0 = some (.inr 10) ∧ CP G J_S_isRecord [.ref a0, .int x1, .int x2] S (fun r => ∃ r2 : Int32, r = some (.int r2) ∧ ((¬ r2 = 0 → CP G J_S_isWire [.int x3] S (fun r => ∃ r3 : Int32, r = some (.int r3) ∧ ((¬ r3 = 0 → CP G J_S_wireOf [.ref a0, .int x1] S (fun r => ∃ b4 : Nat, r = some (.ref b4) ∧ te S b4 = some (.inr 9) ∧ CP G J_Wire_at [.ref b4, .int x2] S (fun r => ∃ b6 : Nat, r = some (.ref b6) ∧ CP G J_S_wireOf [.ref a0, .int x3] S (fun r => ∃ b7 : Nat, r = some (.ref b7) ∧ C0 G J_S_sendWhole [.ref b6, .ref b7] S (fun r S8 => ∃ r9 : Int32, r = some (.int r9) ∧ ((r9 = 0 → Q (some (.int ((-3)))) S8) ∧ (¬ (r9 = 0) → CP G J_S_wireOf [.ref a0, .int x3] S8 (fun r => ∃ b10 : Nat, r = some (.ref b10) ∧ te S8 b10 = some (.inr 9) ∧ CP G J_Wire_size [.ref b10] S8 (fun r => ∃ r12 : Int32, r = some (.int r12) ∧ Q (some (.int r12)) S8))))))))) ∧ (r3 = 0 → Q (some (.int ((-1)))) S)))) ∧ (r2 = 0 → Q (some (.int ((-2)))) S)))) :
    C0 G J_S_copy [.ref a0, .int x1, .int x2, .int x3] S Q := by
  unfold C0
  refine ct_of (by decide +kernel) (Nat.le_of_ble_eq_true rfl) (lv := [(0, .ref a0), (1, .int x1), (2, .int x2), (3, .int x3)]) rfl ?_
  have hm : Sm0 S S := Sm0.rf S
  refine tt_aload_n (k0 := 0) (by decide +kernel) rfl ?_
  refine tt_iload_n (k0 := 1) (by decide +kernel) rfl ?_
  refine tt_iload_n (k0 := 2) (by decide +kernel) rfl ?_
  obtain ⟨f1, h⟩ := h
  refine tt_callV (As := [.int x1, .int x2]) (rest := []) (ci := 10) (r0 := (R_10, F_10, 17)) (by decide +kernel) LK_S_isRecord w_776 w_778 (in_p (n := 17) 27 rfl) (by decide) (by decide) rfl rfl (Nat.le_of_ble_eq_true rfl) rfl rfl f1 (ct_mono h (fun r Sb h => ?_))
  obtain ⟨eb, h⟩ := h
  obtain ⟨r2, rfl, h⟩ := h
  rw [eb]
  show T G J_S_copy 6 [(0, .ref a0), (1, .int x1), (2, .int x2), (3, .int x3)] [.int r2] S _
  refine tt_if_ne (off := 6) 12 (by decide +kernel) (by decide) (fun c => ?_) (fun c => ?_)
  · have h := h.1 c
    refine tt_iload_n (k0 := 3) (by decide +kernel) rfl ?_
    refine tt_callS (As := [.int x3]) (rest := []) (by decide +kernel) LK_S_isWire w_638 w_639 (by decide) (by decide) rfl rfl (Nat.le_of_ble_eq_true rfl) (ct_mono h (fun r Sb h => ?_))
    obtain ⟨eb, h⟩ := h
    obtain ⟨r3, rfl, h⟩ := h
    rw [eb]
    show T G J_S_copy 16 [(0, .ref a0), (1, .int x1), (2, .int x2), (3, .int x3)] [.int r3] S _
    refine tt_if_ne (off := 5) 21 (by decide +kernel) (by decide) (fun c => ?_) (fun c => ?_)
    · have h := h.1 c
      refine tt_aload_n (k0 := 0) (by decide +kernel) rfl ?_
      refine tt_iload_n (k0 := 1) (by decide +kernel) rfl ?_
      refine tt_callV (As := [.int x1]) (rest := []) (ci := 10) (r0 := (R_10, F_10, 17)) (by decide +kernel) LK_S_wireOf w_600 w_602 (in_p (n := 17) 15 rfl) (by decide) (by decide) rfl rfl (Nat.le_of_ble_eq_true rfl) rfl rfl f1 (ct_mono h (fun r Sb h => ?_))
      obtain ⟨eb, h⟩ := h
      obtain ⟨b4, rfl, h⟩ := h
      rw [eb]
      show T G J_S_copy 26 [(0, .ref a0), (1, .int x1), (2, .int x2), (3, .int x3)] [.ref b4] S _
      refine tt_iload_n (k0 := 2) (by decide +kernel) rfl ?_
      obtain ⟨f5, h⟩ := h
      refine tt_callV (As := [.int x2]) (rest := []) (ci := 9) (r0 := (R_9, F_9, 2)) (by decide +kernel) LK_Wire_at w_645 w_646 w_647 (by decide) (by decide) rfl rfl (Nat.le_of_ble_eq_true rfl) rfl rfl f5 (ct_mono h (fun r Sb h => ?_))
      obtain ⟨eb, h⟩ := h
      obtain ⟨b6, rfl, h⟩ := h
      rw [eb]
      show T G J_S_copy 30 [(0, .ref a0), (1, .int x1), (2, .int x2), (3, .int x3)] [.ref b6] S _
      refine tt_aload_n (k0 := 0) (by decide +kernel) rfl ?_
      refine tt_iload_n (k0 := 3) (by decide +kernel) rfl ?_
      refine tt_callV (As := [.int x3]) (rest := [.ref b6]) (ci := 10) (r0 := (R_10, F_10, 17)) (by decide +kernel) LK_S_wireOf w_600 w_602 (in_p (n := 17) 15 rfl) (by decide) (by decide) rfl rfl (Nat.le_of_ble_eq_true rfl) rfl rfl f1 (ct_mono h (fun r Sb h => ?_))
      obtain ⟨eb, h⟩ := h
      obtain ⟨b7, rfl, h⟩ := h
      rw [eb]
      show T G J_S_copy 35 [(0, .ref a0), (1, .int x1), (2, .int x2), (3, .int x3)] [.ref b7, .ref b6] S _
      refine tt_callS (As := [.ref b6, .ref b7]) (rest := []) (by decide +kernel) LK_S_sendWhole w_801 w_802 (by decide) (by decide) rfl rfl (Nat.le_of_ble_eq_true rfl) (ct_mono h (fun r S8 h => ?_))
      obtain ⟨hm2, h⟩ := h
      obtain ⟨r9, rfl, h⟩ := h
      show T G J_S_copy 38 [(0, .ref a0), (1, .int x1), (2, .int x2), (3, .int x3)] [.int r9] S8 _
      have hm := hm.tr hm2
      have f1 : te S8 a0 = some (.inr 10) := by rw [hm2.1]; exact f1
      have f5 : te S8 b4 = some (.inr 9) := by rw [hm2.1]; exact f5
      refine tt_if_eq (off := 14) 52 (by decide +kernel) (by decide) (fun c => ?_) (fun c => ?_)
      · have h := h.1 c
        refine tt_bipush (n := -3) (v := -3) (by decide +kernel) (by decide) ?_
        exact tt_iret (by decide +kernel) rfl ⟨hm, h⟩
      · have h := h.2 c
        refine tt_aload_n (k0 := 0) (by decide +kernel) rfl ?_
        refine tt_iload_n (k0 := 3) (by decide +kernel) rfl ?_
        refine tt_callV (As := [.int x3]) (rest := []) (ci := 10) (r0 := (R_10, F_10, 17)) (by decide +kernel) LK_S_wireOf w_600 w_602 (in_p (n := 17) 15 rfl) (by decide) (by decide) rfl rfl (Nat.le_of_ble_eq_true rfl) rfl rfl f1 (ct_mono h (fun r Sb h => ?_))
        obtain ⟨eb, h⟩ := h
        obtain ⟨b10, rfl, h⟩ := h
        rw [eb]
        show T G J_S_copy 46 [(0, .ref a0), (1, .int x1), (2, .int x2), (3, .int x3)] [.ref b10] S8 _
        obtain ⟨f11, h⟩ := h
        refine tt_callV (As := []) (rest := []) (ci := 9) (r0 := (R_9, F_9, 2)) (by decide +kernel) LK_Wire_size w_793 w_794 w_795 (by decide) (by decide) rfl rfl (Nat.le_of_ble_eq_true rfl) rfl rfl f11 (ct_mono h (fun r Sb h => ?_))
        obtain ⟨eb, h⟩ := h
        obtain ⟨r12, rfl, h⟩ := h
        rw [eb]
        show T G J_S_copy 49 [(0, .ref a0), (1, .int x1), (2, .int x2), (3, .int x3)] [.int r12] S8 _
        refine tt_goto (off := 5) (tgt := 54) (by decide +kernel) (by decide) ?_
        exact tt_iret (by decide +kernel) rfl ⟨hm, h⟩
    · have h := h.2 c
      refine tt_iconst (n := -1) (v := -1) (by decide +kernel) (by decide) ?_
      exact tt_iret (by decide +kernel) rfl ⟨hm, h⟩
  · have h := h.2 c
    refine tt_bipush (n := -2) (v := -2) (by decide +kernel) (by decide) ?_
    exact tt_iret (by decide +kernel) rfl ⟨hm, h⟩
set_option maxRecDepth 100000 in
theorem v_S_sendWhole {G : pG} (a0 : Nat) (a1 : Nat) (S : TS) (Q : Option Value → TS → Prop)
    (h : te S a1 = some (.inr 9) ∧ CP G J_Wire_isFull [.ref a1] S (fun r => ∃ r2 : Int32, r = some (.int r2) ∧ ((r2 = 0 → C0 G J_Wire_draft [.ref a1] S (fun r S3 => ∃ b4 : Nat, r = some (.ref b4) ∧ te S3 b4 = some (.inr 0) ∧ C0 G J_Bytes_putAll [.ref b4, .ref a0] S3 (fun r S6 => r = none ∧ C0 G J_Wire_send [.ref a1] S6 (fun r S7 => r = none ∧ Q (some (.int 1)) S7)))) ∧ (¬ (r2 = 0) → Q (some (.int 0)) S)))) :
    C0 G J_S_sendWhole [.ref a0, .ref a1] S Q := by
  unfold C0
  refine ct_of (by decide +kernel) (Nat.le_of_ble_eq_true rfl) (lv := [(0, .ref a0), (1, .ref a1)]) rfl ?_
  have hm : Sm0 S S := Sm0.rf S
  refine tt_aload_n (k0 := 1) (by decide +kernel) rfl ?_
  obtain ⟨f1, h⟩ := h
  refine tt_callV (As := []) (rest := []) (ci := 9) (r0 := (R_9, F_9, 2)) (by decide +kernel) LK_Wire_isFull w_418 w_419 w_420 (by decide) (by decide) rfl rfl (Nat.le_of_ble_eq_true rfl) rfl rfl f1 (ct_mono h (fun r Sb h => ?_))
  obtain ⟨eb, h⟩ := h
  obtain ⟨r2, rfl, h⟩ := h
  rw [eb]
  show T G J_S_sendWhole 4 [(0, .ref a0), (1, .ref a1)] [.int r2] S _
  refine tt_if_eq (off := 5) 9 (by decide +kernel) (by decide) (fun c => ?_) (fun c => ?_)
  · have h := h.1 c
    refine tt_aload_n (k0 := 1) (by decide +kernel) rfl ?_
    refine tt_callV (As := []) (rest := []) (ci := 9) (r0 := (R_9, F_9, 2)) (by decide +kernel) LK_Wire_draft w_433 w_434 w_435 (by decide) (by decide) rfl rfl (Nat.le_of_ble_eq_true rfl) rfl rfl f1 (ct_mono h (fun r S3 h => ?_))
    obtain ⟨hm2, h⟩ := h
    obtain ⟨b4, rfl, h⟩ := h
    show T G J_S_sendWhole 13 [(0, .ref a0), (1, .ref a1)] [.ref b4] S3 _
    have hm := hm.tr hm2
    have f1 : te S3 a1 = some (.inr 9) := by rw [hm2.1]; exact f1
    refine tt_aload_n (k0 := 0) (by decide +kernel) rfl ?_
    obtain ⟨f5, h⟩ := h
    refine tt_callV (As := [.ref a0]) (rest := []) (ci := 0) (r0 := (R_0, F_0, 2)) (by decide +kernel) LK_Bytes_putAll w_446 w_447 w_448 (by decide) (by decide) rfl rfl (Nat.le_of_ble_eq_true rfl) rfl rfl f5 (ct_mono h (fun r S6 h => ?_))
    obtain ⟨hm2, h⟩ := h
    obtain ⟨rfl, h⟩ := h
    show T G J_S_sendWhole 17 [(0, .ref a0), (1, .ref a1)] [] S6 _
    have hm := hm.tr hm2
    have f1 : te S6 a1 = some (.inr 9) := by rw [hm2.1]; exact f1
    have f5 : te S6 b4 = some (.inr 0) := by rw [hm2.1]; exact f5
    refine tt_aload_n (k0 := 1) (by decide +kernel) rfl ?_
    refine tt_callV (As := []) (rest := []) (ci := 9) (r0 := (R_9, F_9, 2)) (by decide +kernel) LK_Wire_send w_450 w_451 w_452 (by decide) (by decide) rfl rfl (Nat.le_of_ble_eq_true rfl) rfl rfl f1 (ct_mono h (fun r S7 h => ?_))
    obtain ⟨hm2, h⟩ := h
    obtain ⟨rfl, h⟩ := h
    show T G J_S_sendWhole 21 [(0, .ref a0), (1, .ref a1)] [] S7 _
    have hm := hm.tr hm2
    have f1 : te S7 a1 = some (.inr 9) := by rw [hm2.1]; exact f1
    have f5 : te S7 b4 = some (.inr 0) := by rw [hm2.1]; exact f5
    refine tt_iconst (n := 1) (v := 1) (by decide +kernel) (by decide) ?_
    exact tt_zret (by decide +kernel) rfl rfl ⟨hm, h⟩
  · have h := h.2 c
    refine tt_iconst (n := 0) (v := 0) (by decide +kernel) (by decide) ?_
    exact tt_zret (by decide +kernel) rfl rfl ⟨hm, h⟩
set_option maxRecDepth 100000 in
theorem v_S_hurry {G : pG} (a0 : Nat) (x1 : Int32) (x2 : Int32) (S : TS) (Q : Option Value → TS → Prop)
    (h : te S a0 = some (.inr 10) ∧ CP G J_S_isRecord [.ref a0, .int x1, .int x2] S (fun r => ∃ r2 : Int32, r = some (.int r2) ∧ ((¬ r2 = 0 → CP G J_S_wireOf [.ref a0, .int x1] S (fun r => ∃ b3 : Nat, r = some (.ref b3) ∧ te S b3 = some (.inr 9) ∧ C1 G J_Wire_bringFirst [.ref b3, .int x2] S (fun r S5 => r = none ∧ Q (some (.int 0)) S5))) ∧ (r2 = 0 → Q (some (.int ((-2)))) S)))) :
    C1 G J_S_hurry [.ref a0, .int x1, .int x2] S Q := by
  unfold C1
  refine ct_of (by decide +kernel) (Nat.le_of_ble_eq_true rfl) (lv := [(0, .ref a0), (1, .int x1), (2, .int x2)]) rfl ?_
  have hm : Sm1 S S := Sm1.rf S
  refine tt_aload_n (k0 := 0) (by decide +kernel) rfl ?_
  refine tt_iload_n (k0 := 1) (by decide +kernel) rfl ?_
  refine tt_iload_n (k0 := 2) (by decide +kernel) rfl ?_
  obtain ⟨f1, h⟩ := h
  refine tt_callV (As := [.int x1, .int x2]) (rest := []) (ci := 10) (r0 := (R_10, F_10, 17)) (by decide +kernel) LK_S_isRecord w_776 w_778 (in_p (n := 17) 27 rfl) (by decide) (by decide) rfl rfl (Nat.le_of_ble_eq_true rfl) rfl rfl f1 (ct_mono h (fun r Sb h => ?_))
  obtain ⟨eb, h⟩ := h
  obtain ⟨r2, rfl, h⟩ := h
  rw [eb]
  show T G J_S_hurry 6 [(0, .ref a0), (1, .int x1), (2, .int x2)] [.int r2] S _
  refine tt_if_ne (off := 6) 12 (by decide +kernel) (by decide) (fun c => ?_) (fun c => ?_)
  · have h := h.1 c
    refine tt_aload_n (k0 := 0) (by decide +kernel) rfl ?_
    refine tt_iload_n (k0 := 1) (by decide +kernel) rfl ?_
    refine tt_callV (As := [.int x1]) (rest := []) (ci := 10) (r0 := (R_10, F_10, 17)) (by decide +kernel) LK_S_wireOf w_600 w_602 (in_p (n := 17) 15 rfl) (by decide) (by decide) rfl rfl (Nat.le_of_ble_eq_true rfl) rfl rfl f1 (ct_mono h (fun r Sb h => ?_))
    obtain ⟨eb, h⟩ := h
    obtain ⟨b3, rfl, h⟩ := h
    rw [eb]
    show T G J_S_hurry 17 [(0, .ref a0), (1, .int x1), (2, .int x2)] [.ref b3] S _
    refine tt_iload_n (k0 := 2) (by decide +kernel) rfl ?_
    obtain ⟨f4, h⟩ := h
    refine tt_callV (As := [.int x2]) (rest := []) (ci := 9) (r0 := (R_9, F_9, 2)) (by decide +kernel) LK_Wire_bringFirst w_808 w_809 w_810 (by decide) (by decide) rfl rfl (Nat.le_of_ble_eq_true rfl) rfl rfl f4 (ct_mono h (fun r S5 h => ?_))
    obtain ⟨hm2, h⟩ := h
    obtain ⟨rfl, h⟩ := h
    show T G J_S_hurry 21 [(0, .ref a0), (1, .int x1), (2, .int x2)] [] S5 _
    have hm := hm.tr hm2
    have f1 : te S5 a0 = some (.inr 10) := by rw [hm2.1]; exact f1
    have f4 : te S5 b3 = some (.inr 9) := by rw [hm2.1]; exact f4
    refine tt_iconst (n := 0) (v := 0) (by decide +kernel) (by decide) ?_
    exact tt_iret (by decide +kernel) rfl ⟨hm, h⟩
  · have h := h.2 c
    refine tt_bipush (n := -2) (v := -2) (by decide +kernel) (by decide) ?_
    exact tt_iret (by decide +kernel) rfl ⟨hm, h⟩
set_option maxRecDepth 100000 in
theorem v_S_forge {G : pG} (a0 : Nat) (x1 : Int32) (S : TS) (Q : Option Value → TS → Prop)
    (h : te S a0 = some (.inr 10) ∧ ∃ b2 : Nat, tR S a0 0 = some b2 ∧ te S b2 = some (.inr 0) ∧ CP G J_Bytes_size [.ref b2] S (fun r => ∃ r5 : Int32, r = some (.int r5) ∧ CP G J_S_isWire [.int x1] S (fun r => ∃ r6 : Int32, r = some (.int r6) ∧ ((r6 = 0 → C0 G J_Bytes_clear [.ref b2] S (fun r S7 => r = none ∧ Q (some (.int ((-1)))) S7)) ∧ (¬ (r6 = 0) → ((r5 < 3 → C0 G J_Bytes_clear [.ref b2] S (fun r S8 => r = none ∧ Q (some (.int ((-1)))) S8)) ∧ (¬ (r5 < 3) → CP G J_S_wireOf [.ref a0, .int x1] S (fun r => ∃ b9 : Nat, r = some (.ref b9) ∧ C0 G J_S_sendWhole [.ref b2, .ref b9] S (fun r S10 => ∃ r11 : Int32, r = some (.int r11) ∧ ((r11 = 0 → C0 G J_Bytes_clear [.ref b2] S10 (fun r S12 => r = none ∧ Q (some (.int ((-3)))) S12)) ∧ (¬ (r11 = 0) → C0 G J_Bytes_clear [.ref b2] S10 (fun r S13 => r = none ∧ Q (some (.int r5)) S13)))))))))))) :
    C0 G J_S_forge [.ref a0, .int x1] S Q := by
  unfold C0
  refine ct_of (by decide +kernel) (Nat.le_of_ble_eq_true rfl) (lv := [(0, .ref a0), (1, .int x1)]) rfl ?_
  have hm : Sm0 S S := Sm0.rf S
  refine tt_aload_n (k0 := 0) (by decide +kernel) rfl ?_
  obtain ⟨f1, h⟩ := h
  obtain ⟨b2, f3, h⟩ := h
  refine tt_getR (k := 0) (by decide +kernel) KC_10 (by decide) w_242 (fun _ => rfl) f1 f3 ?_
  obtain ⟨f4, h⟩ := h
  refine tt_callV (As := []) (rest := []) (ci := 0) (r0 := (R_0, F_0, 2)) (by decide +kernel) LK_Bytes_size w_298 w_299 w_300 (by decide) (by decide) rfl rfl (Nat.le_of_ble_eq_true rfl) rfl rfl f4 (ct_mono h (fun r Sb h => ?_))
  obtain ⟨eb, h⟩ := h
  obtain ⟨r5, rfl, h⟩ := h
  rw [eb]
  show T G J_S_forge 7 [(0, .ref a0), (1, .int x1)] [.int r5] S _
  refine tt_istore_n (k0 := 2) (lv' := [(0, .ref a0), (1, .int x1), (2, .int r5)]) (by decide +kernel) (by decide) rfl ?_
  refine tt_iconst (n := -1) (v := -1) (by decide +kernel) (by decide) ?_
  refine tt_istore_n (k0 := 3) (lv' := [(0, .ref a0), (1, .int x1), (2, .int r5), (3, .int ((-1)))]) (by decide +kernel) (by decide) rfl ?_
  refine tt_iload_n (k0 := 1) (by decide +kernel) rfl ?_
  refine tt_callS (As := [.int x1]) (rest := []) (by decide +kernel) LK_S_isWire w_638 w_639 (by decide) (by decide) rfl rfl (Nat.le_of_ble_eq_true rfl) (ct_mono h (fun r Sb h => ?_))
  obtain ⟨eb, h⟩ := h
  obtain ⟨r6, rfl, h⟩ := h
  rw [eb]
  show T G J_S_forge 14 [(0, .ref a0), (1, .int x1), (2, .int r5), (3, .int ((-1)))] [.int r6] S _
  refine tt_if_eq (off := 30) 44 (by decide +kernel) (by decide) (fun c => ?_) (fun c => ?_)
  · have h := h.1 c
    refine tt_aload_n (k0 := 0) (by decide +kernel) rfl ?_
    refine tt_getR (k := 0) (by decide +kernel) KC_10 (by decide) w_242 (fun _ => rfl) f1 f3 ?_
    refine tt_callV (As := []) (rest := []) (ci := 0) (r0 := (R_0, F_0, 2)) (by decide +kernel) LK_Bytes_clear w_395 w_392 w_393 (by decide) (by decide) rfl rfl (Nat.le_of_ble_eq_true rfl) rfl rfl f4 (ct_mono h (fun r S7 h => ?_))
    obtain ⟨hm2, h⟩ := h
    obtain ⟨rfl, h⟩ := h
    show T G J_S_forge 51 [(0, .ref a0), (1, .int x1), (2, .int r5), (3, .int ((-1)))] [] S7 _
    have hm := hm.tr hm2
    have f1 : te S7 a0 = some (.inr 10) := by rw [hm2.1]; exact f1
    have f3 : tR S7 a0 0 = some b2 := by rw [hm2.R]; exact f3
    have f4 : te S7 b2 = some (.inr 0) := by rw [hm2.1]; exact f4
    refine tt_iload_n (k0 := 3) (by decide +kernel) rfl ?_
    exact tt_iret (by decide +kernel) rfl ⟨hm, h⟩
  · have h := h.2 c
    refine tt_iload_n (k0 := 2) (by decide +kernel) rfl ?_
    refine tt_iconst (n := 3) (v := 3) (by decide +kernel) (by decide) ?_
    refine tt_icmp_lt (off := 25) 44 (by decide +kernel) (by decide) (fun c => ?_) (fun c => ?_)
    · have h := h.1 c
      refine tt_aload_n (k0 := 0) (by decide +kernel) rfl ?_
      refine tt_getR (k := 0) (by decide +kernel) KC_10 (by decide) w_242 (fun _ => rfl) f1 f3 ?_
      refine tt_callV (As := []) (rest := []) (ci := 0) (r0 := (R_0, F_0, 2)) (by decide +kernel) LK_Bytes_clear w_395 w_392 w_393 (by decide) (by decide) rfl rfl (Nat.le_of_ble_eq_true rfl) rfl rfl f4 (ct_mono h (fun r S8 h => ?_))
      obtain ⟨hm2, h⟩ := h
      obtain ⟨rfl, h⟩ := h
      show T G J_S_forge 51 [(0, .ref a0), (1, .int x1), (2, .int r5), (3, .int ((-1)))] [] S8 _
      have hm := hm.tr hm2
      have f1 : te S8 a0 = some (.inr 10) := by rw [hm2.1]; exact f1
      have f3 : tR S8 a0 0 = some b2 := by rw [hm2.R]; exact f3
      have f4 : te S8 b2 = some (.inr 0) := by rw [hm2.1]; exact f4
      refine tt_iload_n (k0 := 3) (by decide +kernel) rfl ?_
      exact tt_iret (by decide +kernel) rfl ⟨hm, h⟩
    · have h := h.2 c
      refine tt_aload_n (k0 := 0) (by decide +kernel) rfl ?_
      refine tt_getR (k := 0) (by decide +kernel) KC_10 (by decide) w_242 (fun _ => rfl) f1 f3 ?_
      refine tt_aload_n (k0 := 0) (by decide +kernel) rfl ?_
      refine tt_iload_n (k0 := 1) (by decide +kernel) rfl ?_
      refine tt_callV (As := [.int x1]) (rest := [.ref b2]) (ci := 10) (r0 := (R_10, F_10, 17)) (by decide +kernel) LK_S_wireOf w_600 w_602 (in_p (n := 17) 15 rfl) (by decide) (by decide) rfl rfl (Nat.le_of_ble_eq_true rfl) rfl rfl f1 (ct_mono h (fun r Sb h => ?_))
      obtain ⟨eb, h⟩ := h
      obtain ⟨b9, rfl, h⟩ := h
      rw [eb]
      show T G J_S_forge 31 [(0, .ref a0), (1, .int x1), (2, .int r5), (3, .int ((-1)))] [.ref b9, .ref b2] S _
      refine tt_callS (As := [.ref b2, .ref b9]) (rest := []) (by decide +kernel) LK_S_sendWhole w_801 w_802 (by decide) (by decide) rfl rfl (Nat.le_of_ble_eq_true rfl) (ct_mono h (fun r S10 h => ?_))
      obtain ⟨hm2, h⟩ := h
      obtain ⟨r11, rfl, h⟩ := h
      show T G J_S_forge 34 [(0, .ref a0), (1, .int x1), (2, .int r5), (3, .int ((-1)))] [.int r11] S10 _
      have hm := hm.tr hm2
      have f1 : te S10 a0 = some (.inr 10) := by rw [hm2.1]; exact f1
      have f3 : tR S10 a0 0 = some b2 := by rw [hm2.R]; exact f3
      have f4 : te S10 b2 = some (.inr 0) := by rw [hm2.1]; exact f4
      refine tt_if_eq (off := 7) 41 (by decide +kernel) (by decide) (fun c => ?_) (fun c => ?_)
      · have h := h.1 c
        refine tt_bipush (n := -3) (v := -3) (by decide +kernel) (by decide) ?_
        refine tt_istore_n (k0 := 3) (lv' := [(0, .ref a0), (1, .int x1), (2, .int r5), (3, .int ((-3)))]) (by decide +kernel) (by decide) rfl ?_
        refine tt_aload_n (k0 := 0) (by decide +kernel) rfl ?_
        refine tt_getR (k := 0) (by decide +kernel) KC_10 (by decide) w_242 (fun _ => rfl) f1 f3 ?_
        refine tt_callV (As := []) (rest := []) (ci := 0) (r0 := (R_0, F_0, 2)) (by decide +kernel) LK_Bytes_clear w_395 w_392 w_393 (by decide) (by decide) rfl rfl (Nat.le_of_ble_eq_true rfl) rfl rfl f4 (ct_mono h (fun r S12 h => ?_))
        obtain ⟨hm2, h⟩ := h
        obtain ⟨rfl, h⟩ := h
        show T G J_S_forge 51 [(0, .ref a0), (1, .int x1), (2, .int r5), (3, .int ((-3)))] [] S12 _
        have hm := hm.tr hm2
        have f1 : te S12 a0 = some (.inr 10) := by rw [hm2.1]; exact f1
        have f3 : tR S12 a0 0 = some b2 := by rw [hm2.R]; exact f3
        have f4 : te S12 b2 = some (.inr 0) := by rw [hm2.1]; exact f4
        refine tt_iload_n (k0 := 3) (by decide +kernel) rfl ?_
        exact tt_iret (by decide +kernel) rfl ⟨hm, h⟩
      · have h := h.2 c
        refine tt_iload_n (k0 := 2) (by decide +kernel) rfl ?_
        refine tt_goto (off := 5) (tgt := 43) (by decide +kernel) (by decide) ?_
        refine tt_istore_n (k0 := 3) (lv' := [(0, .ref a0), (1, .int x1), (2, .int r5), (3, .int r5)]) (by decide +kernel) (by decide) rfl ?_
        refine tt_aload_n (k0 := 0) (by decide +kernel) rfl ?_
        refine tt_getR (k := 0) (by decide +kernel) KC_10 (by decide) w_242 (fun _ => rfl) f1 f3 ?_
        refine tt_callV (As := []) (rest := []) (ci := 0) (r0 := (R_0, F_0, 2)) (by decide +kernel) LK_Bytes_clear w_395 w_392 w_393 (by decide) (by decide) rfl rfl (Nat.le_of_ble_eq_true rfl) rfl rfl f4 (ct_mono h (fun r S13 h => ?_))
        obtain ⟨hm2, h⟩ := h
        obtain ⟨rfl, h⟩ := h
        show T G J_S_forge 51 [(0, .ref a0), (1, .int x1), (2, .int r5), (3, .int r5)] [] S13 _
        have hm := hm.tr hm2
        have f1 : te S13 a0 = some (.inr 10) := by rw [hm2.1]; exact f1
        have f3 : tR S13 a0 0 = some b2 := by rw [hm2.R]; exact f3
        have f4 : te S13 b2 = some (.inr 0) := by rw [hm2.1]; exact f4
        refine tt_iload_n (k0 := 3) (by decide +kernel) rfl ?_
        exact tt_iret (by decide +kernel) rfl ⟨hm, h⟩
set_option maxRecDepth 100000 in
theorem v_S_answer {G : pG} (a0 : Nat) (S : TS) (Q : Option Value → TS → Prop)
    (h : te S a0 = some (.inr 10) ∧ ∃ b2 : Nat, tR S a0 10 = some b2 ∧ te S b2 = some (.inr 0) ∧ CP G J_Bytes_size [.ref b2] S (fun r => ∃ r5 : Int32, r = some (.int r5) ∧ ((¬ r5 = 0 → ∃ b6 : Nat, tR S a0 1 = some b6 ∧ te S b6 = some (.inr 0) ∧ C0 G J_Bytes_become [.ref b6, .ref b2] S (fun r S9 => r = none ∧ CP G J_Bytes_size [.ref b6] S9 (fun r => ∃ r10 : Int32, r = some (.int r10) ∧ Q (some (.int r10)) S9))) ∧ (r5 = 0 → Q (some (.int ((-2)))) S)))) :
    C0 G J_S_answer [.ref a0] S Q := by
  unfold C0
  refine ct_of (by decide +kernel) (Nat.le_of_ble_eq_true rfl) (lv := [(0, .ref a0)]) rfl ?_
  have hm : Sm0 S S := Sm0.rf S
  refine tt_aload_n (k0 := 0) (by decide +kernel) rfl ?_
  obtain ⟨f1, h⟩ := h
  obtain ⟨b2, f3, h⟩ := h
  refine tt_getR (k := 10) (by decide +kernel) KC_10 (by decide) w_252 (fun _ => rfl) f1 f3 ?_
  obtain ⟨f4, h⟩ := h
  refine tt_callV (As := []) (rest := []) (ci := 0) (r0 := (R_0, F_0, 2)) (by decide +kernel) LK_Bytes_size w_298 w_299 w_300 (by decide) (by decide) rfl rfl (Nat.le_of_ble_eq_true rfl) rfl rfl f4 (ct_mono h (fun r Sb h => ?_))
  obtain ⟨eb, h⟩ := h
  obtain ⟨r5, rfl, h⟩ := h
  rw [eb]
  show T G J_S_answer 7 [(0, .ref a0)] [.int r5] S _
  refine tt_if_ne (off := 6) 13 (by decide +kernel) (by decide) (fun c => ?_) (fun c => ?_)
  · have h := h.1 c
    refine tt_aload_n (k0 := 0) (by decide +kernel) rfl ?_
    obtain ⟨b6, f7, h⟩ := h
    refine tt_getR (k := 1) (by decide +kernel) KC_10 (by decide) w_243 (fun _ => rfl) f1 f7 ?_
    refine tt_aload_n (k0 := 0) (by decide +kernel) rfl ?_
    refine tt_getR (k := 10) (by decide +kernel) KC_10 (by decide) w_252 (fun _ => rfl) f1 f3 ?_
    obtain ⟨f8, h⟩ := h
    refine tt_callV (As := [.ref b2]) (rest := []) (ci := 0) (r0 := (R_0, F_0, 2)) (by decide +kernel) LK_Bytes_become w_466 w_354 w_355 (by decide) (by decide) rfl rfl (Nat.le_of_ble_eq_true rfl) rfl rfl f8 (ct_mono h (fun r S9 h => ?_))
    obtain ⟨hm2, h⟩ := h
    obtain ⟨rfl, h⟩ := h
    show T G J_S_answer 24 [(0, .ref a0)] [] S9 _
    have hm := hm.tr hm2
    have f1 : te S9 a0 = some (.inr 10) := by rw [hm2.1]; exact f1
    have f3 : tR S9 a0 10 = some b2 := by rw [hm2.R]; exact f3
    have f4 : te S9 b2 = some (.inr 0) := by rw [hm2.1]; exact f4
    have f7 : tR S9 a0 1 = some b6 := by rw [hm2.R]; exact f7
    have f8 : te S9 b6 = some (.inr 0) := by rw [hm2.1]; exact f8
    refine tt_aload_n (k0 := 0) (by decide +kernel) rfl ?_
    refine tt_getR (k := 1) (by decide +kernel) KC_10 (by decide) w_243 (fun _ => rfl) f1 f7 ?_
    refine tt_callV (As := []) (rest := []) (ci := 0) (r0 := (R_0, F_0, 2)) (by decide +kernel) LK_Bytes_size w_298 w_299 w_300 (by decide) (by decide) rfl rfl (Nat.le_of_ble_eq_true rfl) rfl rfl f8 (ct_mono h (fun r Sb h => ?_))
    obtain ⟨eb, h⟩ := h
    obtain ⟨r10, rfl, h⟩ := h
    rw [eb]
    show T G J_S_answer 31 [(0, .ref a0)] [.int r10] S9 _
    exact tt_iret (by decide +kernel) rfl ⟨hm, h⟩
  · have h := h.2 c
    refine tt_bipush (n := -2) (v := -2) (by decide +kernel) (by decide) ?_
    exact tt_iret (by decide +kernel) rfl ⟨hm, h⟩
set_option maxRecDepth 100000 in
theorem v_S_stored {G : pG} (a0 : Nat) (S : TS) (Q : Option Value → TS → Prop)
    (h : te S a0 = some (.inr 10) ∧ ∃ b2 : Nat, tR S a0 8 = some b2 ∧ ∃ b4 : Nat, tR S a0 2 = some b4 ∧ te S b2 = some (.inr 7) ∧ CP G J_Store_find [.ref b2, .ref b4] S (fun r => ∃ r7 : Int32, r = some (.int r7) ∧ ((0 ≤ r7 → ∃ b8 : Nat, tR S a0 1 = some b8 ∧ CP G J_Store_valueAt [.ref b2, .int r7] S (fun r => ∃ b10 : Nat, r = some (.ref b10) ∧ te S b8 = some (.inr 0) ∧ C0 G J_Bytes_become [.ref b8, .ref b10] S (fun r S12 => r = none ∧ CP G J_Bytes_size [.ref b8] S12 (fun r => ∃ r13 : Int32, r = some (.int r13) ∧ Q (some (.int r13)) S12)))) ∧ (¬ (0 ≤ r7) → Q (some (.int ((-2)))) S)))) :
    C0 G J_S_stored [.ref a0] S Q := by
  unfold C0
  refine ct_of (by decide +kernel) (Nat.le_of_ble_eq_true rfl) (lv := [(0, .ref a0)]) rfl ?_
  have hm : Sm0 S S := Sm0.rf S
  refine tt_aload_n (k0 := 0) (by decide +kernel) rfl ?_
  obtain ⟨f1, h⟩ := h
  obtain ⟨b2, f3, h⟩ := h
  refine tt_getR (k := 8) (by decide +kernel) KC_10 (by decide) w_250 (fun _ => rfl) f1 f3 ?_
  refine tt_aload_n (k0 := 0) (by decide +kernel) rfl ?_
  obtain ⟨b4, f5, h⟩ := h
  refine tt_getR (k := 2) (by decide +kernel) KC_10 (by decide) w_244 (fun _ => rfl) f1 f5 ?_
  obtain ⟨f6, h⟩ := h
  refine tt_callV (As := [.ref b4]) (rest := []) (ci := 7) (r0 := (R_7, F_7, 3)) (by decide +kernel) LK_Store_find w_824 w_728 w_729 (by decide) (by decide) rfl rfl (Nat.le_of_ble_eq_true rfl) rfl rfl f6 (ct_mono h (fun r Sb h => ?_))
  obtain ⟨eb, h⟩ := h
  obtain ⟨r7, rfl, h⟩ := h
  rw [eb]
  show T G J_S_stored 11 [(0, .ref a0)] [.int r7] S _
  refine tt_istore_n (k0 := 1) (lv' := [(0, .ref a0), (1, .int r7)]) (by decide +kernel) (by decide) rfl ?_
  refine tt_iload_n (k0 := 1) (by decide +kernel) rfl ?_
  refine tt_if_ge (off := 6) 19 (by decide +kernel) (by decide) (fun c => ?_) (fun c => ?_)
  · have h := h.1 c
    refine tt_aload_n (k0 := 0) (by decide +kernel) rfl ?_
    obtain ⟨b8, f9, h⟩ := h
    refine tt_getR (k := 1) (by decide +kernel) KC_10 (by decide) w_243 (fun _ => rfl) f1 f9 ?_
    refine tt_aload_n (k0 := 0) (by decide +kernel) rfl ?_
    refine tt_getR (k := 8) (by decide +kernel) KC_10 (by decide) w_250 (fun _ => rfl) f1 f3 ?_
    refine tt_iload_n (k0 := 1) (by decide +kernel) rfl ?_
    refine tt_callV (As := [.int r7]) (rest := [.ref b8]) (ci := 7) (r0 := (R_7, F_7, 3)) (by decide +kernel) LK_Store_valueAt w_825 w_826 w_827 (by decide) (by decide) rfl rfl (Nat.le_of_ble_eq_true rfl) rfl rfl f6 (ct_mono h (fun r Sb h => ?_))
    obtain ⟨eb, h⟩ := h
    obtain ⟨b10, rfl, h⟩ := h
    rw [eb]
    show T G J_S_stored 31 [(0, .ref a0), (1, .int r7)] [.ref b10, .ref b8] S _
    obtain ⟨f11, h⟩ := h
    refine tt_callV (As := [.ref b10]) (rest := []) (ci := 0) (r0 := (R_0, F_0, 2)) (by decide +kernel) LK_Bytes_become w_466 w_354 w_355 (by decide) (by decide) rfl rfl (Nat.le_of_ble_eq_true rfl) rfl rfl f11 (ct_mono h (fun r S12 h => ?_))
    obtain ⟨hm2, h⟩ := h
    obtain ⟨rfl, h⟩ := h
    show T G J_S_stored 34 [(0, .ref a0), (1, .int r7)] [] S12 _
    have hm := hm.tr hm2
    have f1 : te S12 a0 = some (.inr 10) := by rw [hm2.1]; exact f1
    have f3 : tR S12 a0 8 = some b2 := by rw [hm2.R]; exact f3
    have f5 : tR S12 a0 2 = some b4 := by rw [hm2.R]; exact f5
    have f6 : te S12 b2 = some (.inr 7) := by rw [hm2.1]; exact f6
    have f9 : tR S12 a0 1 = some b8 := by rw [hm2.R]; exact f9
    have f11 : te S12 b8 = some (.inr 0) := by rw [hm2.1]; exact f11
    refine tt_aload_n (k0 := 0) (by decide +kernel) rfl ?_
    refine tt_getR (k := 1) (by decide +kernel) KC_10 (by decide) w_243 (fun _ => rfl) f1 f9 ?_
    refine tt_callV (As := []) (rest := []) (ci := 0) (r0 := (R_0, F_0, 2)) (by decide +kernel) LK_Bytes_size w_298 w_299 w_300 (by decide) (by decide) rfl rfl (Nat.le_of_ble_eq_true rfl) rfl rfl f11 (ct_mono h (fun r Sb h => ?_))
    obtain ⟨eb, h⟩ := h
    obtain ⟨r13, rfl, h⟩ := h
    rw [eb]
    show T G J_S_stored 41 [(0, .ref a0), (1, .int r7)] [.int r13] S12 _
    exact tt_iret (by decide +kernel) rfl ⟨hm, h⟩
  · have h := h.2 c
    refine tt_bipush (n := -2) (v := -2) (by decide +kernel) (by decide) ?_
    exact tt_iret (by decide +kernel) rfl ⟨hm, h⟩
set_option maxRecDepth 100000 in
theorem v_S_look {G : pG} (a0 : Nat) (x1 : Int32) (x2 : Int32) (S : TS) (Q : Option Value → Prop)
    (h : CP G J_S_isSide [.int x1] S (fun r => ∃ r1 : Int32, r = some (.int r1) ∧ ((¬ r1 = 0 → te S a0 = some (.inr 10) ∧ CP G J_S_sideOf [.ref a0, .int x1] S (fun r => ∃ b3 : Nat, r = some (.ref b3) ∧ te S b3 = some (.inr 6) ∧ CP G J_Side_is [.ref b3, .int 2] S (fun r => ∃ r5 : Int32, r = some (.int r5) ∧ ((x2 = 0 → CP G J_Side_state [.ref b3] S (fun r => ∃ r6 : Int32, r = some (.int r6) ∧ Q (some (.int r6)))) ∧ (x2 = 1 → ((r5 = 0 → Q (some (.int 0))) ∧ (¬ (r5 = 0) → CP G J_Side_direction [.ref b3, .int (x2 - (1 : Int32))] S (fun r => ∃ b7 : Nat, r = some (.ref b7) ∧ te S b7 = some (.inr 1) ∧ CP G J_Direction_number [.ref b7] S (fun r => ∃ r9 : Int32, r = some (.int r9) ∧ Q (some (.int r9))))))) ∧ (x2 = 2 → ((r5 = 0 → Q (some (.int 0))) ∧ (¬ (r5 = 0) → CP G J_Side_direction [.ref b3, .int (x2 - (1 : Int32))] S (fun r => ∃ b10 : Nat, r = some (.ref b10) ∧ te S b10 = some (.inr 1) ∧ CP G J_Direction_number [.ref b10] S (fun r => ∃ r12 : Int32, r = some (.int r12) ∧ Q (some (.int r12))))))) ∧ (x2 = 3 → ((r5 = 0 → Q (some (.int 0))) ∧ (¬ (r5 = 0) → CP G J_Side_direction [.ref b3, .int (x2 - (3 : Int32))] S (fun r => ∃ b13 : Nat, r = some (.ref b13) ∧ te S b13 = some (.inr 1) ∧ CP G J_Direction_generation [.ref b13] S (fun r => ∃ r15 : Int32, r = some (.int r15) ∧ Q (some (.int r15))))))) ∧ (x2 = 4 → ((r5 = 0 → Q (some (.int 0))) ∧ (¬ (r5 = 0) → CP G J_Side_direction [.ref b3, .int (x2 - (3 : Int32))] S (fun r => ∃ b16 : Nat, r = some (.ref b16) ∧ te S b16 = some (.inr 1) ∧ CP G J_Direction_generation [.ref b16] S (fun r => ∃ r18 : Int32, r = some (.int r18) ∧ Q (some (.int r18))))))) ∧ (x2 = 5 → CP G J_Side_keysHeld [.ref b3] S (fun r => ∃ r19 : Int32, r = some (.int r19) ∧ Q (some (.int r19)))) ∧ (x2 = 6 → CP G J_Side_randomsMade [.ref b3] S (fun r => ∃ r20 : Int32, r = some (.int r20) ∧ Q (some (.int r20)))) ∧ (¬ x2 = 0 → ¬ x2 = 1 → ¬ x2 = 2 → ¬ x2 = 3 → ¬ x2 = 4 → ¬ x2 = 5 → ¬ x2 = 6 → Q (some (.int ((-1))))))))) ∧ (r1 = 0 → Q (some (.int ((-1)))))))) :
    CP G J_S_look [.ref a0, .int x1, .int x2] S Q := by
  unfold CP
  refine ct_of (by decide +kernel) (Nat.le_of_ble_eq_true rfl) (lv := [(0, .ref a0), (1, .int x1), (2, .int x2)]) rfl ?_
  refine tt_iload_n (k0 := 1) (by decide +kernel) rfl ?_
  refine tt_callS (As := [.int x1]) (rest := []) (by decide +kernel) LK_S_isSide w_334 w_335 (by decide) (by decide) rfl rfl (Nat.le_of_ble_eq_true rfl) (ct_mono h (fun r Sb h => ?_))
  obtain ⟨eb, h⟩ := h
  obtain ⟨r1, rfl, h⟩ := h
  rw [eb]
  show T G J_S_look 4 [(0, .ref a0), (1, .int x1), (2, .int x2)] [.int r1] S _
  refine tt_if_ne (off := 5) 9 (by decide +kernel) (by decide) (fun c => ?_) (fun c => ?_)
  · have h := h.1 c
    refine tt_aload_n (k0 := 0) (by decide +kernel) rfl ?_
    refine tt_iload_n (k0 := 1) (by decide +kernel) rfl ?_
    obtain ⟨f2, h⟩ := h
    refine tt_callV (As := [.int x1]) (rest := []) (ci := 10) (r0 := (R_10, F_10, 17)) (by decide +kernel) LK_S_sideOf w_340 w_342 (in_p (n := 17) 0 rfl) (by decide) (by decide) rfl rfl (Nat.le_of_ble_eq_true rfl) rfl rfl f2 (ct_mono h (fun r Sb h => ?_))
    obtain ⟨eb, h⟩ := h
    obtain ⟨b3, rfl, h⟩ := h
    rw [eb]
    show T G J_S_look 14 [(0, .ref a0), (1, .int x1), (2, .int x2)] [.ref b3] S _
    refine tt_astore_n (k0 := 3) (lv' := [(0, .ref a0), (1, .int x1), (2, .int x2), (3, .ref b3)]) (by decide +kernel) (by decide) rfl ?_
    refine tt_aload_n (k0 := 3) (by decide +kernel) rfl ?_
    refine tt_iconst (n := 2) (v := 2) (by decide +kernel) (by decide) ?_
    obtain ⟨f4, h⟩ := h
    refine tt_callV (As := [.int 2]) (rest := []) (ci := 6) (r0 := (R_6, F_6, 13)) (by decide +kernel) LK_Side_is w_414 w_415 w_416 (by decide) (by decide) rfl rfl (Nat.le_of_ble_eq_true rfl) rfl rfl f4 (ct_mono h (fun r Sb h => ?_))
    obtain ⟨eb, h⟩ := h
    obtain ⟨r5, rfl, h⟩ := h
    rw [eb]
    show T G J_S_look 20 [(0, .ref a0), (1, .int x1), (2, .int x2), (3, .ref b3)] [.int r5] S _
    refine tt_istore (k0 := 4) (lv' := [(0, .ref a0), (1, .int x1), (2, .int x2), (3, .ref b3), (4, .int r5)]) (by decide +kernel) (by decide) rfl ?_
    refine tt_iload_n (k0 := 2) (by decide +kernel) rfl ?_
    by_cases n0 : x2 = 0
    · have h := h.1 n0
      refine tt_tableIn 64 (by decide +kernel : decode (jc J_S_look) 23 = .ok (.tableswitch (96) (0) (6) #[41, 46, 46, 66, 66, 86, 91], 41)) (by rw [n0]; decide) (by rw [n0]; decide) (off := 41) (by rw [n0]; decide +kernel) (by decide) ?_
      refine tt_aload_n (k0 := 3) (by decide +kernel) rfl ?_
      refine tt_callV (As := []) (rest := []) (ci := 6) (r0 := (R_6, F_6, 13)) (by decide +kernel) LK_Side_state w_833 w_834 w_835 (by decide) (by decide) rfl rfl (Nat.le_of_ble_eq_true rfl) rfl rfl f4 (ct_mono h (fun r Sb h => ?_))
      obtain ⟨eb, h⟩ := h
      obtain ⟨r6, rfl, h⟩ := h
      rw [eb]
      show T G J_S_look 68 [(0, .ref a0), (1, .int x1), (2, .int x2), (3, .ref b3), (4, .int r5)] [.int r6] S _
      exact tt_iret (by decide +kernel) rfl ⟨rfl, h⟩
    · by_cases n1 : x2 = 1
      · have h := h.2.1 n1
        refine tt_tableIn 69 (by decide +kernel : decode (jc J_S_look) 23 = .ok (.tableswitch (96) (0) (6) #[41, 46, 46, 66, 66, 86, 91], 41)) (by rw [n1]; decide) (by rw [n1]; decide) (off := 46) (by rw [n1]; decide +kernel) (by decide) ?_
        refine tt_iload (k0 := 4) (by decide +kernel) rfl ?_
        refine tt_if_eq (off := 16) 87 (by decide +kernel) (by decide) (fun c => ?_) (fun c => ?_)
        · have h := h.1 c
          refine tt_iconst (n := 0) (v := 0) (by decide +kernel) (by decide) ?_
          exact tt_iret (by decide +kernel) rfl ⟨rfl, h⟩
        · have h := h.2 c
          refine tt_aload_n (k0 := 3) (by decide +kernel) rfl ?_
          refine tt_iload_n (k0 := 2) (by decide +kernel) rfl ?_
          refine tt_iconst (n := 1) (v := 1) (by decide +kernel) (by decide) ?_
          refine tt_isub (by decide +kernel) ?_
          refine tt_callV (As := [.int (x2 - (1 : Int32))]) (rest := []) (ci := 6) (r0 := (R_6, F_6, 13)) (by decide +kernel) LK_Side_direction w_481 w_482 w_483 (by decide) (by decide) rfl rfl (Nat.le_of_ble_eq_true rfl) rfl rfl f4 (ct_mono h (fun r Sb h => ?_))
          obtain ⟨eb, h⟩ := h
          obtain ⟨b7, rfl, h⟩ := h
          rw [eb]
          show T G J_S_look 81 [(0, .ref a0), (1, .int x1), (2, .int x2), (3, .ref b3), (4, .int r5)] [.ref b7] S _
          obtain ⟨f8, h⟩ := h
          refine tt_callV (As := []) (rest := []) (ci := 1) (r0 := (R_1, F_1, 5)) (by decide +kernel) LK_Direction_number w_837 w_497 w_498 (by decide) (by decide) rfl rfl (Nat.le_of_ble_eq_true rfl) rfl rfl f8 (ct_mono h (fun r Sb h => ?_))
          obtain ⟨eb, h⟩ := h
          obtain ⟨r9, rfl, h⟩ := h
          rw [eb]
          show T G J_S_look 84 [(0, .ref a0), (1, .int x1), (2, .int x2), (3, .ref b3), (4, .int r5)] [.int r9] S _
          refine tt_goto (off := 4) (tgt := 88) (by decide +kernel) (by decide) ?_
          exact tt_iret (by decide +kernel) rfl ⟨rfl, h⟩
      · by_cases n2 : x2 = 2
        · have h := h.2.2.1 n2
          refine tt_tableIn 69 (by decide +kernel : decode (jc J_S_look) 23 = .ok (.tableswitch (96) (0) (6) #[41, 46, 46, 66, 66, 86, 91], 41)) (by rw [n2]; decide) (by rw [n2]; decide) (off := 46) (by rw [n2]; decide +kernel) (by decide) ?_
          refine tt_iload (k0 := 4) (by decide +kernel) rfl ?_
          refine tt_if_eq (off := 16) 87 (by decide +kernel) (by decide) (fun c => ?_) (fun c => ?_)
          · have h := h.1 c
            refine tt_iconst (n := 0) (v := 0) (by decide +kernel) (by decide) ?_
            exact tt_iret (by decide +kernel) rfl ⟨rfl, h⟩
          · have h := h.2 c
            refine tt_aload_n (k0 := 3) (by decide +kernel) rfl ?_
            refine tt_iload_n (k0 := 2) (by decide +kernel) rfl ?_
            refine tt_iconst (n := 1) (v := 1) (by decide +kernel) (by decide) ?_
            refine tt_isub (by decide +kernel) ?_
            refine tt_callV (As := [.int (x2 - (1 : Int32))]) (rest := []) (ci := 6) (r0 := (R_6, F_6, 13)) (by decide +kernel) LK_Side_direction w_481 w_482 w_483 (by decide) (by decide) rfl rfl (Nat.le_of_ble_eq_true rfl) rfl rfl f4 (ct_mono h (fun r Sb h => ?_))
            obtain ⟨eb, h⟩ := h
            obtain ⟨b10, rfl, h⟩ := h
            rw [eb]
            show T G J_S_look 81 [(0, .ref a0), (1, .int x1), (2, .int x2), (3, .ref b3), (4, .int r5)] [.ref b10] S _
            obtain ⟨f11, h⟩ := h
            refine tt_callV (As := []) (rest := []) (ci := 1) (r0 := (R_1, F_1, 5)) (by decide +kernel) LK_Direction_number w_837 w_497 w_498 (by decide) (by decide) rfl rfl (Nat.le_of_ble_eq_true rfl) rfl rfl f11 (ct_mono h (fun r Sb h => ?_))
            obtain ⟨eb, h⟩ := h
            obtain ⟨r12, rfl, h⟩ := h
            rw [eb]
            show T G J_S_look 84 [(0, .ref a0), (1, .int x1), (2, .int x2), (3, .ref b3), (4, .int r5)] [.int r12] S _
            refine tt_goto (off := 4) (tgt := 88) (by decide +kernel) (by decide) ?_
            exact tt_iret (by decide +kernel) rfl ⟨rfl, h⟩
        · by_cases n3 : x2 = 3
          · have h := h.2.2.2.1 n3
            refine tt_tableIn 89 (by decide +kernel : decode (jc J_S_look) 23 = .ok (.tableswitch (96) (0) (6) #[41, 46, 46, 66, 66, 86, 91], 41)) (by rw [n3]; decide) (by rw [n3]; decide) (off := 66) (by rw [n3]; decide +kernel) (by decide) ?_
            refine tt_iload (k0 := 4) (by decide +kernel) rfl ?_
            refine tt_if_eq (off := 16) 107 (by decide +kernel) (by decide) (fun c => ?_) (fun c => ?_)
            · have h := h.1 c
              refine tt_iconst (n := 0) (v := 0) (by decide +kernel) (by decide) ?_
              exact tt_iret (by decide +kernel) rfl ⟨rfl, h⟩
            · have h := h.2 c
              refine tt_aload_n (k0 := 3) (by decide +kernel) rfl ?_
              refine tt_iload_n (k0 := 2) (by decide +kernel) rfl ?_
              refine tt_iconst (n := 3) (v := 3) (by decide +kernel) (by decide) ?_
              refine tt_isub (by decide +kernel) ?_
              refine tt_callV (As := [.int (x2 - (3 : Int32))]) (rest := []) (ci := 6) (r0 := (R_6, F_6, 13)) (by decide +kernel) LK_Side_direction w_481 w_482 w_483 (by decide) (by decide) rfl rfl (Nat.le_of_ble_eq_true rfl) rfl rfl f4 (ct_mono h (fun r Sb h => ?_))
              obtain ⟨eb, h⟩ := h
              obtain ⟨b13, rfl, h⟩ := h
              rw [eb]
              show T G J_S_look 101 [(0, .ref a0), (1, .int x1), (2, .int x2), (3, .ref b3), (4, .int r5)] [.ref b13] S _
              obtain ⟨f14, h⟩ := h
              refine tt_callV (As := []) (rest := []) (ci := 1) (r0 := (R_1, F_1, 5)) (by decide +kernel) LK_Direction_generation w_838 w_611 w_612 (by decide) (by decide) rfl rfl (Nat.le_of_ble_eq_true rfl) rfl rfl f14 (ct_mono h (fun r Sb h => ?_))
              obtain ⟨eb, h⟩ := h
              obtain ⟨r15, rfl, h⟩ := h
              rw [eb]
              show T G J_S_look 104 [(0, .ref a0), (1, .int x1), (2, .int x2), (3, .ref b3), (4, .int r5)] [.int r15] S _
              refine tt_goto (off := 4) (tgt := 108) (by decide +kernel) (by decide) ?_
              exact tt_iret (by decide +kernel) rfl ⟨rfl, h⟩
          · by_cases n4 : x2 = 4
            · have h := h.2.2.2.2.1 n4
              refine tt_tableIn 89 (by decide +kernel : decode (jc J_S_look) 23 = .ok (.tableswitch (96) (0) (6) #[41, 46, 46, 66, 66, 86, 91], 41)) (by rw [n4]; decide) (by rw [n4]; decide) (off := 66) (by rw [n4]; decide +kernel) (by decide) ?_
              refine tt_iload (k0 := 4) (by decide +kernel) rfl ?_
              refine tt_if_eq (off := 16) 107 (by decide +kernel) (by decide) (fun c => ?_) (fun c => ?_)
              · have h := h.1 c
                refine tt_iconst (n := 0) (v := 0) (by decide +kernel) (by decide) ?_
                exact tt_iret (by decide +kernel) rfl ⟨rfl, h⟩
              · have h := h.2 c
                refine tt_aload_n (k0 := 3) (by decide +kernel) rfl ?_
                refine tt_iload_n (k0 := 2) (by decide +kernel) rfl ?_
                refine tt_iconst (n := 3) (v := 3) (by decide +kernel) (by decide) ?_
                refine tt_isub (by decide +kernel) ?_
                refine tt_callV (As := [.int (x2 - (3 : Int32))]) (rest := []) (ci := 6) (r0 := (R_6, F_6, 13)) (by decide +kernel) LK_Side_direction w_481 w_482 w_483 (by decide) (by decide) rfl rfl (Nat.le_of_ble_eq_true rfl) rfl rfl f4 (ct_mono h (fun r Sb h => ?_))
                obtain ⟨eb, h⟩ := h
                obtain ⟨b16, rfl, h⟩ := h
                rw [eb]
                show T G J_S_look 101 [(0, .ref a0), (1, .int x1), (2, .int x2), (3, .ref b3), (4, .int r5)] [.ref b16] S _
                obtain ⟨f17, h⟩ := h
                refine tt_callV (As := []) (rest := []) (ci := 1) (r0 := (R_1, F_1, 5)) (by decide +kernel) LK_Direction_generation w_838 w_611 w_612 (by decide) (by decide) rfl rfl (Nat.le_of_ble_eq_true rfl) rfl rfl f17 (ct_mono h (fun r Sb h => ?_))
                obtain ⟨eb, h⟩ := h
                obtain ⟨r18, rfl, h⟩ := h
                rw [eb]
                show T G J_S_look 104 [(0, .ref a0), (1, .int x1), (2, .int x2), (3, .ref b3), (4, .int r5)] [.int r18] S _
                refine tt_goto (off := 4) (tgt := 108) (by decide +kernel) (by decide) ?_
                exact tt_iret (by decide +kernel) rfl ⟨rfl, h⟩
            · by_cases n5 : x2 = 5
              · have h := h.2.2.2.2.2.1 n5
                refine tt_tableIn 109 (by decide +kernel : decode (jc J_S_look) 23 = .ok (.tableswitch (96) (0) (6) #[41, 46, 46, 66, 66, 86, 91], 41)) (by rw [n5]; decide) (by rw [n5]; decide) (off := 86) (by rw [n5]; decide +kernel) (by decide) ?_
                refine tt_aload_n (k0 := 3) (by decide +kernel) rfl ?_
                refine tt_callV (As := []) (rest := []) (ci := 6) (r0 := (R_6, F_6, 13)) (by decide +kernel) LK_Side_keysHeld w_839 w_840 w_841 (by decide) (by decide) rfl rfl (Nat.le_of_ble_eq_true rfl) rfl rfl f4 (ct_mono h (fun r Sb h => ?_))
                obtain ⟨eb, h⟩ := h
                obtain ⟨r19, rfl, h⟩ := h
                rw [eb]
                show T G J_S_look 113 [(0, .ref a0), (1, .int x1), (2, .int x2), (3, .ref b3), (4, .int r5)] [.int r19] S _
                exact tt_iret (by decide +kernel) rfl ⟨rfl, h⟩
              · by_cases n6 : x2 = 6
                · have h := h.2.2.2.2.2.2.1 n6
                  refine tt_tableIn 114 (by decide +kernel : decode (jc J_S_look) 23 = .ok (.tableswitch (96) (0) (6) #[41, 46, 46, 66, 66, 86, 91], 41)) (by rw [n6]; decide) (by rw [n6]; decide) (off := 91) (by rw [n6]; decide +kernel) (by decide) ?_
                  refine tt_aload_n (k0 := 3) (by decide +kernel) rfl ?_
                  refine tt_callV (As := []) (rest := []) (ci := 6) (r0 := (R_6, F_6, 13)) (by decide +kernel) LK_Side_randomsMade w_844 w_845 w_846 (by decide) (by decide) rfl rfl (Nat.le_of_ble_eq_true rfl) rfl rfl f4 (ct_mono h (fun r Sb h => ?_))
                  obtain ⟨eb, h⟩ := h
                  obtain ⟨r20, rfl, h⟩ := h
                  rw [eb]
                  show T G J_S_look 118 [(0, .ref a0), (1, .int x1), (2, .int x2), (3, .ref b3), (4, .int r5)] [.int r20] S _
                  exact tt_iret (by decide +kernel) rfl ⟨rfl, h⟩
                · have h := h.2.2.2.2.2.2.2 n0 n1 n2 n3 n4 n5 n6
                  refine tt_tableOut 119 (by decide +kernel : decode (jc J_S_look) 23 = .ok (.tableswitch (96) (0) (6) #[41, 46, 46, 66, 66, 86, 91], 41)) (by have m0 := lv_neT n0 (a := 0) rfl; have m1 := lv_neT n1 (a := 1) rfl; have m2 := lv_neT n2 (a := 2) rfl; have m3 := lv_neT n3 (a := 3) rfl; have m4 := lv_neT n4 (a := 4) rfl; have m5 := lv_neT n5 (a := 5) rfl; have m6 := lv_neT n6 (a := 6) rfl; omega) (by decide) ?_
                  refine tt_iconst (n := -1) (v := -1) (by decide +kernel) (by decide) ?_
                  exact tt_iret (by decide +kernel) rfl ⟨rfl, h⟩
  · have h := h.2 c
    refine tt_iconst (n := -1) (v := -1) (by decide +kernel) (by decide) ?_
    exact tt_iret (by decide +kernel) rfl ⟨rfl, h⟩
set_option maxRecDepth 100000 in
theorem v_S_count {G : pG} (a0 : Nat) (x1 : Int32) (S : TS) (Q : Option Value → Prop)
    (h : ((x1 = 0 → te S a0 = some (.inr 10) ∧ ∃ b2 : Nat, tR S a0 8 = some b2 ∧ te S b2 = some (.inr 7) ∧ CP G J_Store_size [.ref b2] S (fun r => ∃ r5 : Int32, r = some (.int r5) ∧ Q (some (.int r5)))) ∧ (x1 = 1 → te S a0 = some (.inr 10) ∧ Q (some (.int (tI S a0 15)))) ∧ (x1 = 2 → te S a0 = some (.inr 10) ∧ Q (some (.int (tI S a0 16)))) ∧ (x1 = 3 → te S a0 = some (.inr 10) ∧ ∃ b9 : Nat, tR S a0 6 = some b9 ∧ te S b9 = some (.inr 9) ∧ CP G J_Wire_size [.ref b9] S (fun r => ∃ r12 : Int32, r = some (.int r12) ∧ Q (some (.int r12)))) ∧ (x1 = 4 → te S a0 = some (.inr 10) ∧ ∃ b14 : Nat, tR S a0 7 = some b14 ∧ te S b14 = some (.inr 9) ∧ CP G J_Wire_size [.ref b14] S (fun r => ∃ r17 : Int32, r = some (.int r17) ∧ Q (some (.int r17)))) ∧ (¬ x1 = 0 → ¬ x1 = 1 → ¬ x1 = 2 → ¬ x1 = 3 → ¬ x1 = 4 → Q (some (.int ((-1))))))) :
    CP G J_S_count [.ref a0, .int x1] S Q := by
  unfold CP
  refine ct_of (by decide +kernel) (Nat.le_of_ble_eq_true rfl) (lv := [(0, .ref a0), (1, .int x1)]) rfl ?_
  refine tt_iload_n (k0 := 1) (by decide +kernel) rfl ?_
  by_cases n0 : x1 = 0
  · have h := h.1 n0
    refine tt_tableIn 36 (by decide +kernel : decode (jc J_S_count) 1 = .ok (.tableswitch (69) (0) (4) #[35, 43, 48, 53, 61], 35)) (by rw [n0]; decide) (by rw [n0]; decide) (off := 35) (by rw [n0]; decide +kernel) (by decide) ?_
    refine tt_aload_n (k0 := 0) (by decide +kernel) rfl ?_
    obtain ⟨f1, h⟩ := h
    obtain ⟨b2, f3, h⟩ := h
    refine tt_getR (k := 8) (by decide +kernel) KC_10 (by decide) w_250 (fun _ => rfl) f1 f3 ?_
    obtain ⟨f4, h⟩ := h
    refine tt_callV (As := []) (rest := []) (ci := 7) (r0 := (R_7, F_7, 3)) (by decide +kernel) LK_Store_size w_852 w_853 w_854 (by decide) (by decide) rfl rfl (Nat.le_of_ble_eq_true rfl) rfl rfl f4 (ct_mono h (fun r Sb h => ?_))
    obtain ⟨eb, h⟩ := h
    obtain ⟨r5, rfl, h⟩ := h
    rw [eb]
    show T G J_S_count 43 [(0, .ref a0), (1, .int x1)] [.int r5] S _
    exact tt_iret (by decide +kernel) rfl ⟨rfl, h⟩
  · by_cases n1 : x1 = 1
    · have h := h.2.1 n1
      refine tt_tableIn 44 (by decide +kernel : decode (jc J_S_count) 1 = .ok (.tableswitch (69) (0) (4) #[35, 43, 48, 53, 61], 35)) (by rw [n1]; decide) (by rw [n1]; decide) (off := 43) (by rw [n1]; decide +kernel) (by decide) ?_
      refine tt_aload_n (k0 := 0) (by decide +kernel) rfl ?_
      obtain ⟨f6, h⟩ := h
      refine tt_getI (k := 15) (by decide +kernel) KC_10 (by decide) w_257 (fun _ => rfl) f6 ?_
      exact tt_iret (by decide +kernel) rfl ⟨rfl, h⟩
    · by_cases n2 : x1 = 2
      · have h := h.2.2.1 n2
        refine tt_tableIn 49 (by decide +kernel : decode (jc J_S_count) 1 = .ok (.tableswitch (69) (0) (4) #[35, 43, 48, 53, 61], 35)) (by rw [n2]; decide) (by rw [n2]; decide) (off := 48) (by rw [n2]; decide +kernel) (by decide) ?_
        refine tt_aload_n (k0 := 0) (by decide +kernel) rfl ?_
        obtain ⟨f7, h⟩ := h
        refine tt_getI (k := 16) (by decide +kernel) KC_10 (by decide) w_258 (fun _ => rfl) f7 ?_
        exact tt_iret (by decide +kernel) rfl ⟨rfl, h⟩
      · by_cases n3 : x1 = 3
        · have h := h.2.2.2.1 n3
          refine tt_tableIn 54 (by decide +kernel : decode (jc J_S_count) 1 = .ok (.tableswitch (69) (0) (4) #[35, 43, 48, 53, 61], 35)) (by rw [n3]; decide) (by rw [n3]; decide) (off := 53) (by rw [n3]; decide +kernel) (by decide) ?_
          refine tt_aload_n (k0 := 0) (by decide +kernel) rfl ?_
          obtain ⟨f8, h⟩ := h
          obtain ⟨b9, f10, h⟩ := h
          refine tt_getR (k := 6) (by decide +kernel) KC_10 (by decide) w_248 (fun _ => rfl) f8 f10 ?_
          obtain ⟨f11, h⟩ := h
          refine tt_callV (As := []) (rest := []) (ci := 9) (r0 := (R_9, F_9, 2)) (by decide +kernel) LK_Wire_size w_793 w_794 w_795 (by decide) (by decide) rfl rfl (Nat.le_of_ble_eq_true rfl) rfl rfl f11 (ct_mono h (fun r Sb h => ?_))
          obtain ⟨eb, h⟩ := h
          obtain ⟨r12, rfl, h⟩ := h
          rw [eb]
          show T G J_S_count 61 [(0, .ref a0), (1, .int x1)] [.int r12] S _
          exact tt_iret (by decide +kernel) rfl ⟨rfl, h⟩
        · by_cases n4 : x1 = 4
          · have h := h.2.2.2.2.1 n4
            refine tt_tableIn 62 (by decide +kernel : decode (jc J_S_count) 1 = .ok (.tableswitch (69) (0) (4) #[35, 43, 48, 53, 61], 35)) (by rw [n4]; decide) (by rw [n4]; decide) (off := 61) (by rw [n4]; decide +kernel) (by decide) ?_
            refine tt_aload_n (k0 := 0) (by decide +kernel) rfl ?_
            obtain ⟨f13, h⟩ := h
            obtain ⟨b14, f15, h⟩ := h
            refine tt_getR (k := 7) (by decide +kernel) KC_10 (by decide) w_249 (fun _ => rfl) f13 f15 ?_
            obtain ⟨f16, h⟩ := h
            refine tt_callV (As := []) (rest := []) (ci := 9) (r0 := (R_9, F_9, 2)) (by decide +kernel) LK_Wire_size w_793 w_794 w_795 (by decide) (by decide) rfl rfl (Nat.le_of_ble_eq_true rfl) rfl rfl f16 (ct_mono h (fun r Sb h => ?_))
            obtain ⟨eb, h⟩ := h
            obtain ⟨r17, rfl, h⟩ := h
            rw [eb]
            show T G J_S_count 69 [(0, .ref a0), (1, .int x1)] [.int r17] S _
            exact tt_iret (by decide +kernel) rfl ⟨rfl, h⟩
          · have h := h.2.2.2.2.2 n0 n1 n2 n3 n4
            refine tt_tableOut 70 (by decide +kernel : decode (jc J_S_count) 1 = .ok (.tableswitch (69) (0) (4) #[35, 43, 48, 53, 61], 35)) (by have m0 := lv_neT n0 (a := 0) rfl; have m1 := lv_neT n1 (a := 1) rfl; have m2 := lv_neT n2 (a := 2) rfl; have m3 := lv_neT n3 (a := 3) rfl; have m4 := lv_neT n4 (a := 4) rfl; omega) (by decide) ?_
            refine tt_iconst (n := -1) (v := -1) (by decide +kernel) (by decide) ?_
            exact tt_iret (by decide +kernel) rfl ⟨rfl, h⟩
