set_option maxRecDepth 100000 in
theorem v_M_init {G : pG} (a0 : Nat) (x1 : Int32) (S : TS) (Q : Option Value → TS → Prop)
    (h : ∀ S1 : TS, S1 = sN S (.inl (.byte, 200)) 200 → te S1 a0 = some (.inr 11) ∧ ∀ S3 : TS, S3 = sR S1 a0 (va_up (tR S1 a0) 0 (some (tz S))) → ∀ S4 : TS, S4 = sN S3 (.inl (.byte, 128)) 128 → te S4 a0 = some (.inr 11) ∧ ∀ S6 : TS, S6 = sR S4 a0 (va_up (tR S4 a0) 2 (some (tz S3))) → ∀ S7 : TS, S7 = sN S6 (.inl (.byte, 1024)) 1024 → te S7 a0 = some (.inr 11) ∧ ∀ S9 : TS, S9 = sR S7 a0 (va_up (tR S7 a0) 5 (some (tz S6))) → ∀ S10 : TS, S10 = sN S9 (.inl (.long, 8)) 8 → te S10 a0 = some (.inr 11) ∧ ∀ S12 : TS, S12 = sR S10 a0 (va_up (tR S10 a0) 7 (some (tz S9))) → ∀ S13 : TS, S13 = sN S12 (.inl (.long, 64)) 64 → te S13 a0 = some (.inr 11) ∧ ∀ S15 : TS, S15 = sR S13 a0 (va_up (tR S13 a0) 8 (some (tz S12))) → ∀ S16 : TS, S16 = sN S15 (.inl (.byte, 32)) 32 → te S16 a0 = some (.inr 11) ∧ ∀ S18 : TS, S18 = sR S16 a0 (va_up (tR S16 a0) 9 (some (tz S15))) → ∀ S19 : TS, S19 = sN S18 (.inl (.byte, 32)) 32 → te S19 a0 = some (.inr 11) ∧ ∀ S21 : TS, S21 = sR S19 a0 (va_up (tR S19 a0) 10 (some (tz S18))) → ∀ S22 : TS, S22 = sN S21 (.inl (.byte, 256)) 256 → te S22 a0 = some (.inr 11) ∧ ∀ S24 : TS, S24 = sR S22 a0 (va_up (tR S22 a0) 11 (some (tz S21))) → ∀ S25 : TS, S25 = sN S24 (.inl (.boolean, 16)) 16 → te S25 a0 = some (.inr 11) ∧ ∀ S27 : TS, S27 = sR S25 a0 (va_up (tR S25 a0) 13 (some (tz S24))) → ∀ S28 : TS, S28 = sN S27 (.inl (.byte, 512)) 512 → te S28 a0 = some (.inr 11) ∧ ∀ S30 : TS, S30 = sR S28 a0 (va_up (tR S28 a0) 14 (some (tz S27))) → ∀ S31 : TS, S31 = sN S30 (.inl (.int, 2)) 2 → te S31 a0 = some (.inr 11) ∧ ∀ S33 : TS, S33 = sR S31 a0 (va_up (tR S31 a0) 15 (some (tz S30))) → ∀ S34 : TS, S34 = sN S33 (.inl (.int, 2)) 2 → te S34 a0 = some (.inr 11) ∧ ∀ S36 : TS, S36 = sR S34 a0 (va_up (tR S34 a0) 16 (some (tz S33))) → ∀ S37 : TS, S37 = sN S36 (.inl (.byte, 33)) 33 → te S37 a0 = some (.inr 11) ∧ ∀ S39 : TS, S39 = sR S37 a0 (va_up (tR S37 a0) 17 (some (tz S36))) → ∀ S40 : TS, S40 = sN S39 (.inl (.byte, 32)) 32 → te S40 a0 = some (.inr 11) ∧ ∀ S42 : TS, S42 = sR S40 a0 (va_up (tR S40 a0) 18 (some (tz S39))) → ∀ S43 : TS, S43 = sN S42 (.inl (.byte, 128)) 128 → te S43 a0 = some (.inr 11) ∧ ∀ S45 : TS, S45 = sR S43 a0 (va_up (tR S43 a0) 19 (some (tz S42))) → ∀ S46 : TS, S46 = sN S45 (.inl (.int, 4)) 4 → te S46 a0 = some (.inr 11) ∧ ∀ S48 : TS, S48 = sR S46 a0 (va_up (tR S46 a0) 20 (some (tz S45))) → ∀ S49 : TS, S49 = sN S48 (.inl (.int, 4)) 4 → te S49 a0 = some (.inr 11) ∧ ∀ S51 : TS, S51 = sR S49 a0 (va_up (tR S49 a0) 21 (some (tz S48))) → ∀ S52 : TS, S52 = sN S51 (.inl (.byte, 4800)) 4800 → te S52 a0 = some (.inr 11) ∧ ∀ S54 : TS, S54 = sR S52 a0 (va_up (tR S52 a0) 22 (some (tz S51))) → ∀ S55 : TS, S55 = sN S54 (.inl (.int, 24)) 24 → te S55 a0 = some (.inr 11) ∧ ∀ S57 : TS, S57 = sR S55 a0 (va_up (tR S55 a0) 23 (some (tz S54))) → ∀ S58 : TS, S58 = sN S57 (.inl (.int, 2)) 2 → te S58 a0 = some (.inr 11) ∧ ∀ S60 : TS, S60 = sR S58 a0 (va_up (tR S58 a0) 24 (some (tz S57))) → ∀ S61 : TS, S61 = sN S60 (.inl (.byte, 16)) 16 → te S61 a0 = some (.inr 11) ∧ ∀ S63 : TS, S63 = sR S61 a0 (va_up (tR S61 a0) 25 (some (tz S60))) → te S63 a0 = some (.inr 11) ∧ ∀ S65 : TS, S65 = sI S63 a0 (upd (tI S63 a0) 26 1) → ∀ S66 : TS, S66 = sN S65 (.inl (.byte, 320)) 320 → te S66 a0 = some (.inr 11) ∧ ∀ S68 : TS, S68 = sR S66 a0 (va_up (tR S66 a0) 27 (some (tz S65))) → ∀ S69 : TS, S69 = sN S68 (.inl (.int, 20)) 20 → te S69 a0 = some (.inr 11) ∧ ∀ S71 : TS, S71 = sR S69 a0 (va_up (tR S69 a0) 28 (some (tz S68))) → ∀ S72 : TS, S72 = sN S71 (.inl (.byte, 1280)) 1280 → te S72 a0 = some (.inr 11) ∧ ∀ S74 : TS, S74 = sR S72 a0 (va_up (tR S72 a0) 29 (some (tz S71))) → ∀ S75 : TS, S75 = sN S74 (.inl (.int, 20)) 20 → te S75 a0 = some (.inr 11) ∧ ∀ S77 : TS, S77 = sR S75 a0 (va_up (tR S75 a0) 30 (some (tz S74))) → ∀ S78 : TS, S78 = sN S77 (.inl (.byte, 65)) 65 → te S78 a0 = some (.inr 11) ∧ ∀ S80 : TS, S80 = sR S78 a0 (va_up (tR S78 a0) 32 (some (tz S77))) → ∀ S81 : TS, S81 = sN S80 (.inl (.int, 16)) 16 → te S81 a0 = some (.inr 11) ∧ ∀ S83 : TS, S83 = sR S81 a0 (va_up (tR S81 a0) 36 (some (tz S80))) → ∀ S84 : TS, S84 = sN S83 (.inl (.int, 16)) 16 → te S84 a0 = some (.inr 11) ∧ ∀ S86 : TS, S86 = sR S84 a0 (va_up (tR S84 a0) 37 (some (tz S83))) → ∀ S87 : TS, S87 = sN S86 (.inl (.byte, 64)) 64 → te S87 a0 = some (.inr 11) ∧ ∀ S89 : TS, S89 = sR S87 a0 (va_up (tR S87 a0) 38 (some (tz S86))) → ∀ S90 : TS, S90 = sN S89 (.inl (.int, 17)) 17 → te S90 a0 = some (.inr 11) ∧ ∀ S92 : TS, S92 = sR S90 a0 (va_up (tR S90 a0) 39 (some (tz S89))) → ∀ S93 : TS, S93 = sN S92 (.inl (.int, 35)) 35 → te S93 a0 = some (.inr 11) ∧ ∀ S95 : TS, S95 = sR S93 a0 (va_up (tR S93 a0) 40 (some (tz S92))) → ∀ S96 : TS, S96 = sN S95 (.inl (.int, 16)) 16 → te S96 a0 = some (.inr 11) ∧ ∀ S98 : TS, S98 = sR S96 a0 (va_up (tR S96 a0) 41 (some (tz S95))) → ∀ S99 : TS, S99 = sN S98 (.inl (.byte, 320)) 320 → te S99 a0 = some (.inr 11) ∧ ∀ S101 : TS, S101 = sR S99 a0 (va_up (tR S99 a0) 42 (some (tz S98))) → ∀ S102 : TS, S102 = sN S101 (.inl (.byte, 16)) 16 → te S102 a0 = some (.inr 11) ∧ ∀ S104 : TS, S104 = sR S102 a0 (va_up (tR S102 a0) 43 (some (tz S101))) → ∀ S105 : TS, S105 = sN S104 (.inl (.int, 19)) 19 → te S105 a0 = some (.inr 11) ∧ ∀ S107 : TS, S107 = sR S105 a0 (va_up (tR S105 a0) 44 (some (tz S104))) → ∀ S108 : TS, S108 = sN S107 (.inl (.byte, 128)) 128 → te S108 a0 = some (.inr 11) ∧ ∀ S110 : TS, S110 = sR S108 a0 (va_up (tR S108 a0) 45 (some (tz S107))) → ∀ S111 : TS, S111 = sN S110 (.inl (.byte, 32)) 32 → te S111 a0 = some (.inr 11) ∧ ∀ S113 : TS, S113 = sR S111 a0 (va_up (tR S111 a0) 47 (some (tz S110))) → ∀ S114 : TS, S114 = sN S113 (.inl (.byte, 32)) 32 → te S114 a0 = some (.inr 11) ∧ ∀ S116 : TS, S116 = sR S114 a0 (va_up (tR S114 a0) 48 (some (tz S113))) → ∀ S117 : TS, S117 = sN S116 (.inl (.byte, 33)) 33 → te S117 a0 = some (.inr 11) ∧ ∀ S119 : TS, S119 = sR S117 a0 (va_up (tR S117 a0) 49 (some (tz S116))) → ∀ S120 : TS, S120 = sN S119 (.inl (.byte, 32)) 32 → te S120 a0 = some (.inr 11) ∧ ∀ S122 : TS, S122 = sR S120 a0 (va_up (tR S120 a0) 50 (some (tz S119))) → ∀ S123 : TS, S123 = sN S122 (.inl (.byte, 32)) 32 → te S123 a0 = some (.inr 11) ∧ ∀ S125 : TS, S125 = sR S123 a0 (va_up (tR S123 a0) 51 (some (tz S122))) → ∀ S126 : TS, S126 = sN S125 (.inl (.byte, 33)) 33 → te S126 a0 = some (.inr 11) ∧ ∀ S128 : TS, S128 = sR S126 a0 (va_up (tR S126 a0) 52 (some (tz S125))) → ∀ S129 : TS, S129 = sN S128 (.inl (.byte, 32)) 32 → te S129 a0 = some (.inr 11) ∧ ∀ S131 : TS, S131 = sR S129 a0 (va_up (tR S129 a0) 53 (some (tz S128))) → ∀ S132 : TS, S132 = sN S131 (.inl (.byte, 200)) 200 → te S132 a0 = some (.inr 11) ∧ ∀ S134 : TS, S134 = sR S132 a0 (va_up (tR S132 a0) 54 (some (tz S131))) → te S134 a0 = some (.inr 11) ∧ ∀ S136 : TS, S136 = sI S134 a0 (upd (tI S134 a0) 4 x1) → te S136 a0 = some (.inr 11) ∧ ∃ b138 : Nat, tR S136 a0 25 = some b138 ∧ ∃ n140 : Nat, te S136 b138 = some (.inl (.byte, n140)) ∧ vp_in 0 n140 ∧ ∀ S142 : TS, S142 = sI S136 b138 (upd (tI S136 b138) 0 (110 : Int32).toInt8.toInt32) → Q none S142) :
    CT G J_M_init [.ref a0, .int x1] S Q := by
  refine ct_of (by decide +kernel) (Nat.le_of_ble_eq_true rfl) (lv := [(0, .ref a0), (1, .int x1)]) rfl ?_
  refine tt_aload_n (k0 := 0) (by decide +kernel) rfl ?_
  refine tt_objInit (by decide +kernel) w_864 w_21 w_22 (by decide) (Nat.le_of_ble_eq_true rfl) ?_
  refine tt_aload_n (k0 := 0) (by decide +kernel) rfl ?_
  refine tt_sipush (n := 200) (v := 200) (by decide +kernel) (by decide) ?_
  refine tt_newarr (at0 := .byte) (n := 200) (by decide +kernel) w_1031 rfl (by decide) (by decide) (by decide) ?_
  show T G J_M_init 10 [(0, .ref a0), (1, .int x1)] [.ref (tz S), .ref a0] (sN S (.inl (.byte, 200)) 200) _
  generalize eS1 : sN S (.inl (.byte, 200)) 200 = S1
  have h := h S1 eS1.symm
  obtain ⟨f2, h⟩ := h
  refine tt_putFR (k := 0) (by decide +kernel) KC_11 (by decide) w_865 rfl rfl rfl (Or.inr ⟨_, rfl⟩) f2 ?_
  generalize eS3 : sR S1 a0 (va_up (tR S1 a0) 0 (some (tz S))) = S3
  have h := h S3 eS3.symm
  refine tt_aload_n (k0 := 0) (by decide +kernel) rfl ?_
  refine tt_sipush (n := 128) (v := 128) (by decide +kernel) (by decide) ?_
  refine tt_newarr (at0 := .byte) (n := 128) (by decide +kernel) w_1031 rfl (by decide) (by decide) (by decide) ?_
  show T G J_M_init 19 [(0, .ref a0), (1, .int x1)] [.ref (tz S3), .ref a0] (sN S3 (.inl (.byte, 128)) 128) _
  generalize eS4 : sN S3 (.inl (.byte, 128)) 128 = S4
  have h := h S4 eS4.symm
  obtain ⟨f5, h⟩ := h
  refine tt_putFR (k := 2) (by decide +kernel) KC_11 (by decide) w_867 rfl rfl rfl (Or.inr ⟨_, rfl⟩) f5 ?_
  generalize eS6 : sR S4 a0 (va_up (tR S4 a0) 2 (some (tz S3))) = S6
  have h := h S6 eS6.symm
  refine tt_aload_n (k0 := 0) (by decide +kernel) rfl ?_
  refine tt_sipush (n := 1024) (v := 1024) (by decide +kernel) (by decide) ?_
  refine tt_newarr (at0 := .byte) (n := 1024) (by decide +kernel) w_1031 rfl (by decide) (by decide) (by decide) ?_
  show T G J_M_init 28 [(0, .ref a0), (1, .int x1)] [.ref (tz S6), .ref a0] (sN S6 (.inl (.byte, 1024)) 1024) _
  generalize eS7 : sN S6 (.inl (.byte, 1024)) 1024 = S7
  have h := h S7 eS7.symm
  obtain ⟨f8, h⟩ := h
  refine tt_putFR (k := 5) (by decide +kernel) KC_11 (by decide) w_870 rfl rfl rfl (Or.inr ⟨_, rfl⟩) f8 ?_
  generalize eS9 : sR S7 a0 (va_up (tR S7 a0) 5 (some (tz S6))) = S9
  have h := h S9 eS9.symm
  refine tt_aload_n (k0 := 0) (by decide +kernel) rfl ?_
  refine tt_bipush (n := 8) (v := 8) (by decide +kernel) (by decide) ?_
  refine tt_newarr (at0 := .long) (n := 8) (by decide +kernel) w_80 rfl (by decide) (by decide) (by decide) ?_
  show T G J_M_init 36 [(0, .ref a0), (1, .int x1)] [.ref (tz S9), .ref a0] (sN S9 (.inl (.long, 8)) 8) _
  generalize eS10 : sN S9 (.inl (.long, 8)) 8 = S10
  have h := h S10 eS10.symm
  obtain ⟨f11, h⟩ := h
  refine tt_putFR (k := 7) (by decide +kernel) KC_11 (by decide) w_872 rfl rfl rfl (Or.inr ⟨_, rfl⟩) f11 ?_
  generalize eS12 : sR S10 a0 (va_up (tR S10 a0) 7 (some (tz S9))) = S12
  have h := h S12 eS12.symm
  refine tt_aload_n (k0 := 0) (by decide +kernel) rfl ?_
  refine tt_bipush (n := 64) (v := 64) (by decide +kernel) (by decide) ?_
  refine tt_newarr (at0 := .long) (n := 64) (by decide +kernel) w_80 rfl (by decide) (by decide) (by decide) ?_
  show T G J_M_init 44 [(0, .ref a0), (1, .int x1)] [.ref (tz S12), .ref a0] (sN S12 (.inl (.long, 64)) 64) _
  generalize eS13 : sN S12 (.inl (.long, 64)) 64 = S13
  have h := h S13 eS13.symm
  obtain ⟨f14, h⟩ := h
  refine tt_putFR (k := 8) (by decide +kernel) KC_11 (by decide) w_873 rfl rfl rfl (Or.inr ⟨_, rfl⟩) f14 ?_
  generalize eS15 : sR S13 a0 (va_up (tR S13 a0) 8 (some (tz S12))) = S15
  have h := h S15 eS15.symm
  refine tt_aload_n (k0 := 0) (by decide +kernel) rfl ?_
  refine tt_bipush (n := 32) (v := 32) (by decide +kernel) (by decide) ?_
  refine tt_newarr (at0 := .byte) (n := 32) (by decide +kernel) w_1031 rfl (by decide) (by decide) (by decide) ?_
  show T G J_M_init 52 [(0, .ref a0), (1, .int x1)] [.ref (tz S15), .ref a0] (sN S15 (.inl (.byte, 32)) 32) _
  generalize eS16 : sN S15 (.inl (.byte, 32)) 32 = S16
  have h := h S16 eS16.symm
  obtain ⟨f17, h⟩ := h
  refine tt_putFR (k := 9) (by decide +kernel) KC_11 (by decide) w_874 rfl rfl rfl (Or.inr ⟨_, rfl⟩) f17 ?_
  generalize eS18 : sR S16 a0 (va_up (tR S16 a0) 9 (some (tz S15))) = S18
  have h := h S18 eS18.symm
  refine tt_aload_n (k0 := 0) (by decide +kernel) rfl ?_
  refine tt_bipush (n := 32) (v := 32) (by decide +kernel) (by decide) ?_
  refine tt_newarr (at0 := .byte) (n := 32) (by decide +kernel) w_1031 rfl (by decide) (by decide) (by decide) ?_
  show T G J_M_init 60 [(0, .ref a0), (1, .int x1)] [.ref (tz S18), .ref a0] (sN S18 (.inl (.byte, 32)) 32) _
  generalize eS19 : sN S18 (.inl (.byte, 32)) 32 = S19
  have h := h S19 eS19.symm
  obtain ⟨f20, h⟩ := h
  refine tt_putFR (k := 10) (by decide +kernel) KC_11 (by decide) w_875 rfl rfl rfl (Or.inr ⟨_, rfl⟩) f20 ?_
  generalize eS21 : sR S19 a0 (va_up (tR S19 a0) 10 (some (tz S18))) = S21
  have h := h S21 eS21.symm
  refine tt_aload_n (k0 := 0) (by decide +kernel) rfl ?_
  refine tt_sipush (n := 256) (v := 256) (by decide +kernel) (by decide) ?_
  refine tt_newarr (at0 := .byte) (n := 256) (by decide +kernel) w_1031 rfl (by decide) (by decide) (by decide) ?_
  show T G J_M_init 69 [(0, .ref a0), (1, .int x1)] [.ref (tz S21), .ref a0] (sN S21 (.inl (.byte, 256)) 256) _
  generalize eS22 : sN S21 (.inl (.byte, 256)) 256 = S22
  have h := h S22 eS22.symm
  obtain ⟨f23, h⟩ := h
  refine tt_putFR (k := 11) (by decide +kernel) KC_11 (by decide) w_876 rfl rfl rfl (Or.inr ⟨_, rfl⟩) f23 ?_
  generalize eS24 : sR S22 a0 (va_up (tR S22 a0) 11 (some (tz S21))) = S24
  have h := h S24 eS24.symm
  refine tt_aload_n (k0 := 0) (by decide +kernel) rfl ?_
  refine tt_bipush (n := 16) (v := 16) (by decide +kernel) (by decide) ?_
  refine tt_newarr (at0 := .boolean) (n := 16) (by decide +kernel) w_1032 rfl (by decide) (by decide) (by decide) ?_
  show T G J_M_init 77 [(0, .ref a0), (1, .int x1)] [.ref (tz S24), .ref a0] (sN S24 (.inl (.boolean, 16)) 16) _
  generalize eS25 : sN S24 (.inl (.boolean, 16)) 16 = S25
  have h := h S25 eS25.symm
  obtain ⟨f26, h⟩ := h
  refine tt_putFR (k := 13) (by decide +kernel) KC_11 (by decide) w_878 rfl rfl rfl (Or.inr ⟨_, rfl⟩) f26 ?_
  generalize eS27 : sR S25 a0 (va_up (tR S25 a0) 13 (some (tz S24))) = S27
  have h := h S27 eS27.symm
  refine tt_aload_n (k0 := 0) (by decide +kernel) rfl ?_
  refine tt_sipush (n := 512) (v := 512) (by decide +kernel) (by decide) ?_
  refine tt_newarr (at0 := .byte) (n := 512) (by decide +kernel) w_1031 rfl (by decide) (by decide) (by decide) ?_
  show T G J_M_init 86 [(0, .ref a0), (1, .int x1)] [.ref (tz S27), .ref a0] (sN S27 (.inl (.byte, 512)) 512) _
  generalize eS28 : sN S27 (.inl (.byte, 512)) 512 = S28
  have h := h S28 eS28.symm
  obtain ⟨f29, h⟩ := h
  refine tt_putFR (k := 14) (by decide +kernel) KC_11 (by decide) w_879 rfl rfl rfl (Or.inr ⟨_, rfl⟩) f29 ?_
  generalize eS30 : sR S28 a0 (va_up (tR S28 a0) 14 (some (tz S27))) = S30
  have h := h S30 eS30.symm
  refine tt_aload_n (k0 := 0) (by decide +kernel) rfl ?_
  refine tt_iconst (n := 2) (v := 2) (by decide +kernel) (by decide) ?_
  refine tt_newarr (at0 := .int) (n := 2) (by decide +kernel) w_36 rfl (by decide) (by decide) (by decide) ?_
  show T G J_M_init 93 [(0, .ref a0), (1, .int x1)] [.ref (tz S30), .ref a0] (sN S30 (.inl (.int, 2)) 2) _
  generalize eS31 : sN S30 (.inl (.int, 2)) 2 = S31
  have h := h S31 eS31.symm
  obtain ⟨f32, h⟩ := h
  refine tt_putFR (k := 15) (by decide +kernel) KC_11 (by decide) w_880 rfl rfl rfl (Or.inr ⟨_, rfl⟩) f32 ?_
  generalize eS33 : sR S31 a0 (va_up (tR S31 a0) 15 (some (tz S30))) = S33
  have h := h S33 eS33.symm
  refine tt_aload_n (k0 := 0) (by decide +kernel) rfl ?_
  refine tt_iconst (n := 2) (v := 2) (by decide +kernel) (by decide) ?_
  refine tt_newarr (at0 := .int) (n := 2) (by decide +kernel) w_36 rfl (by decide) (by decide) (by decide) ?_
  show T G J_M_init 100 [(0, .ref a0), (1, .int x1)] [.ref (tz S33), .ref a0] (sN S33 (.inl (.int, 2)) 2) _
  generalize eS34 : sN S33 (.inl (.int, 2)) 2 = S34
  have h := h S34 eS34.symm
  obtain ⟨f35, h⟩ := h
  refine tt_putFR (k := 16) (by decide +kernel) KC_11 (by decide) w_881 rfl rfl rfl (Or.inr ⟨_, rfl⟩) f35 ?_
  generalize eS36 : sR S34 a0 (va_up (tR S34 a0) 16 (some (tz S33))) = S36
  have h := h S36 eS36.symm
  refine tt_aload_n (k0 := 0) (by decide +kernel) rfl ?_
  refine tt_bipush (n := 33) (v := 33) (by decide +kernel) (by decide) ?_
  refine tt_newarr (at0 := .byte) (n := 33) (by decide +kernel) w_1031 rfl (by decide) (by decide) (by decide) ?_
  show T G J_M_init 108 [(0, .ref a0), (1, .int x1)] [.ref (tz S36), .ref a0] (sN S36 (.inl (.byte, 33)) 33) _
  generalize eS37 : sN S36 (.inl (.byte, 33)) 33 = S37
  have h := h S37 eS37.symm
  obtain ⟨f38, h⟩ := h
  refine tt_putFR (k := 17) (by decide +kernel) KC_11 (by decide) w_882 rfl rfl rfl (Or.inr ⟨_, rfl⟩) f38 ?_
  generalize eS39 : sR S37 a0 (va_up (tR S37 a0) 17 (some (tz S36))) = S39
  have h := h S39 eS39.symm
  refine tt_aload_n (k0 := 0) (by decide +kernel) rfl ?_
  refine tt_bipush (n := 32) (v := 32) (by decide +kernel) (by decide) ?_
  refine tt_newarr (at0 := .byte) (n := 32) (by decide +kernel) w_1031 rfl (by decide) (by decide) (by decide) ?_
  show T G J_M_init 116 [(0, .ref a0), (1, .int x1)] [.ref (tz S39), .ref a0] (sN S39 (.inl (.byte, 32)) 32) _
  generalize eS40 : sN S39 (.inl (.byte, 32)) 32 = S40
  have h := h S40 eS40.symm
  obtain ⟨f41, h⟩ := h
  refine tt_putFR (k := 18) (by decide +kernel) KC_11 (by decide) w_883 rfl rfl rfl (Or.inr ⟨_, rfl⟩) f41 ?_
  generalize eS42 : sR S40 a0 (va_up (tR S40 a0) 18 (some (tz S39))) = S42
  have h := h S42 eS42.symm
  refine tt_aload_n (k0 := 0) (by decide +kernel) rfl ?_
  refine tt_sipush (n := 128) (v := 128) (by decide +kernel) (by decide) ?_
  refine tt_newarr (at0 := .byte) (n := 128) (by decide +kernel) w_1031 rfl (by decide) (by decide) (by decide) ?_
  show T G J_M_init 125 [(0, .ref a0), (1, .int x1)] [.ref (tz S42), .ref a0] (sN S42 (.inl (.byte, 128)) 128) _
  generalize eS43 : sN S42 (.inl (.byte, 128)) 128 = S43
  have h := h S43 eS43.symm
  obtain ⟨f44, h⟩ := h
  refine tt_putFR (k := 19) (by decide +kernel) KC_11 (by decide) w_884 rfl rfl rfl (Or.inr ⟨_, rfl⟩) f44 ?_
  generalize eS45 : sR S43 a0 (va_up (tR S43 a0) 19 (some (tz S42))) = S45
  have h := h S45 eS45.symm
  refine tt_aload_n (k0 := 0) (by decide +kernel) rfl ?_
  refine tt_iconst (n := 4) (v := 4) (by decide +kernel) (by decide) ?_
  refine tt_newarr (at0 := .int) (n := 4) (by decide +kernel) w_36 rfl (by decide) (by decide) (by decide) ?_
  show T G J_M_init 132 [(0, .ref a0), (1, .int x1)] [.ref (tz S45), .ref a0] (sN S45 (.inl (.int, 4)) 4) _
  generalize eS46 : sN S45 (.inl (.int, 4)) 4 = S46
  have h := h S46 eS46.symm
  obtain ⟨f47, h⟩ := h
  refine tt_putFR (k := 20) (by decide +kernel) KC_11 (by decide) w_885 rfl rfl rfl (Or.inr ⟨_, rfl⟩) f47 ?_
  generalize eS48 : sR S46 a0 (va_up (tR S46 a0) 20 (some (tz S45))) = S48
  have h := h S48 eS48.symm
  refine tt_aload_n (k0 := 0) (by decide +kernel) rfl ?_
  refine tt_iconst (n := 4) (v := 4) (by decide +kernel) (by decide) ?_
  refine tt_newarr (at0 := .int) (n := 4) (by decide +kernel) w_36 rfl (by decide) (by decide) (by decide) ?_
  show T G J_M_init 139 [(0, .ref a0), (1, .int x1)] [.ref (tz S48), .ref a0] (sN S48 (.inl (.int, 4)) 4) _
  generalize eS49 : sN S48 (.inl (.int, 4)) 4 = S49
  have h := h S49 eS49.symm
  obtain ⟨f50, h⟩ := h
  refine tt_putFR (k := 21) (by decide +kernel) KC_11 (by decide) w_886 rfl rfl rfl (Or.inr ⟨_, rfl⟩) f50 ?_
  generalize eS51 : sR S49 a0 (va_up (tR S49 a0) 21 (some (tz S48))) = S51
  have h := h S51 eS51.symm
  refine tt_aload_n (k0 := 0) (by decide +kernel) rfl ?_
  refine tt_sipush (n := 4800) (v := 4800) (by decide +kernel) (by decide) ?_
  refine tt_newarr (at0 := .byte) (n := 4800) (by decide +kernel) w_1031 rfl (by decide) (by decide) (by decide) ?_
  show T G J_M_init 148 [(0, .ref a0), (1, .int x1)] [.ref (tz S51), .ref a0] (sN S51 (.inl (.byte, 4800)) 4800) _
  generalize eS52 : sN S51 (.inl (.byte, 4800)) 4800 = S52
  have h := h S52 eS52.symm
  obtain ⟨f53, h⟩ := h
  refine tt_putFR (k := 22) (by decide +kernel) KC_11 (by decide) w_887 rfl rfl rfl (Or.inr ⟨_, rfl⟩) f53 ?_
  generalize eS54 : sR S52 a0 (va_up (tR S52 a0) 22 (some (tz S51))) = S54
  have h := h S54 eS54.symm
  refine tt_aload_n (k0 := 0) (by decide +kernel) rfl ?_
  refine tt_bipush (n := 24) (v := 24) (by decide +kernel) (by decide) ?_
  refine tt_newarr (at0 := .int) (n := 24) (by decide +kernel) w_36 rfl (by decide) (by decide) (by decide) ?_
  show T G J_M_init 156 [(0, .ref a0), (1, .int x1)] [.ref (tz S54), .ref a0] (sN S54 (.inl (.int, 24)) 24) _
  generalize eS55 : sN S54 (.inl (.int, 24)) 24 = S55
  have h := h S55 eS55.symm
  obtain ⟨f56, h⟩ := h
  refine tt_putFR (k := 23) (by decide +kernel) KC_11 (by decide) w_888 rfl rfl rfl (Or.inr ⟨_, rfl⟩) f56 ?_
  generalize eS57 : sR S55 a0 (va_up (tR S55 a0) 23 (some (tz S54))) = S57
  have h := h S57 eS57.symm
  refine tt_aload_n (k0 := 0) (by decide +kernel) rfl ?_
  refine tt_iconst (n := 2) (v := 2) (by decide +kernel) (by decide) ?_
  refine tt_newarr (at0 := .int) (n := 2) (by decide +kernel) w_36 rfl (by decide) (by decide) (by decide) ?_
  show T G J_M_init 163 [(0, .ref a0), (1, .int x1)] [.ref (tz S57), .ref a0] (sN S57 (.inl (.int, 2)) 2) _
  generalize eS58 : sN S57 (.inl (.int, 2)) 2 = S58
  have h := h S58 eS58.symm
  obtain ⟨f59, h⟩ := h
  refine tt_putFR (k := 24) (by decide +kernel) KC_11 (by decide) w_889 rfl rfl rfl (Or.inr ⟨_, rfl⟩) f59 ?_
  generalize eS60 : sR S58 a0 (va_up (tR S58 a0) 24 (some (tz S57))) = S60
  have h := h S60 eS60.symm
  refine tt_aload_n (k0 := 0) (by decide +kernel) rfl ?_
  refine tt_bipush (n := 16) (v := 16) (by decide +kernel) (by decide) ?_
  refine tt_newarr (at0 := .byte) (n := 16) (by decide +kernel) w_1031 rfl (by decide) (by decide) (by decide) ?_
  show T G J_M_init 171 [(0, .ref a0), (1, .int x1)] [.ref (tz S60), .ref a0] (sN S60 (.inl (.byte, 16)) 16) _
  generalize eS61 : sN S60 (.inl (.byte, 16)) 16 = S61
  have h := h S61 eS61.symm
  obtain ⟨f62, h⟩ := h
  refine tt_putFR (k := 25) (by decide +kernel) KC_11 (by decide) w_890 rfl rfl rfl (Or.inr ⟨_, rfl⟩) f62 ?_
  generalize eS63 : sR S61 a0 (va_up (tR S61 a0) 25 (some (tz S60))) = S63
  have h := h S63 eS63.symm
  refine tt_aload_n (k0 := 0) (by decide +kernel) rfl ?_
  refine tt_iconst (n := 1) (v := 1) (by decide +kernel) (by decide) ?_
  obtain ⟨f64, h⟩ := h
  refine tt_putI (k := 26) (by decide +kernel) KC_11 (by decide) w_891 rfl rfl f64 ?_
  generalize eS65 : sI S63 a0 (upd (tI S63 a0) 26 1) = S65
  have h := h S65 eS65.symm
  refine tt_aload_n (k0 := 0) (by decide +kernel) rfl ?_
  refine tt_sipush (n := 320) (v := 320) (by decide +kernel) (by decide) ?_
  refine tt_newarr (at0 := .byte) (n := 320) (by decide +kernel) w_1031 rfl (by decide) (by decide) (by decide) ?_
  show T G J_M_init 185 [(0, .ref a0), (1, .int x1)] [.ref (tz S65), .ref a0] (sN S65 (.inl (.byte, 320)) 320) _
  generalize eS66 : sN S65 (.inl (.byte, 320)) 320 = S66
  have h := h S66 eS66.symm
  obtain ⟨f67, h⟩ := h
  refine tt_putFR (k := 27) (by decide +kernel) KC_11 (by decide) w_892 rfl rfl rfl (Or.inr ⟨_, rfl⟩) f67 ?_
  generalize eS68 : sR S66 a0 (va_up (tR S66 a0) 27 (some (tz S65))) = S68
  have h := h S68 eS68.symm
  refine tt_aload_n (k0 := 0) (by decide +kernel) rfl ?_
  refine tt_bipush (n := 20) (v := 20) (by decide +kernel) (by decide) ?_
  refine tt_newarr (at0 := .int) (n := 20) (by decide +kernel) w_36 rfl (by decide) (by decide) (by decide) ?_
  show T G J_M_init 193 [(0, .ref a0), (1, .int x1)] [.ref (tz S68), .ref a0] (sN S68 (.inl (.int, 20)) 20) _
  generalize eS69 : sN S68 (.inl (.int, 20)) 20 = S69
  have h := h S69 eS69.symm
  obtain ⟨f70, h⟩ := h
  refine tt_putFR (k := 28) (by decide +kernel) KC_11 (by decide) w_893 rfl rfl rfl (Or.inr ⟨_, rfl⟩) f70 ?_
  generalize eS71 : sR S69 a0 (va_up (tR S69 a0) 28 (some (tz S68))) = S71
  have h := h S71 eS71.symm
  refine tt_aload_n (k0 := 0) (by decide +kernel) rfl ?_
  refine tt_sipush (n := 1280) (v := 1280) (by decide +kernel) (by decide) ?_
  refine tt_newarr (at0 := .byte) (n := 1280) (by decide +kernel) w_1031 rfl (by decide) (by decide) (by decide) ?_
  show T G J_M_init 202 [(0, .ref a0), (1, .int x1)] [.ref (tz S71), .ref a0] (sN S71 (.inl (.byte, 1280)) 1280) _
  generalize eS72 : sN S71 (.inl (.byte, 1280)) 1280 = S72
  have h := h S72 eS72.symm
  obtain ⟨f73, h⟩ := h
  refine tt_putFR (k := 29) (by decide +kernel) KC_11 (by decide) w_894 rfl rfl rfl (Or.inr ⟨_, rfl⟩) f73 ?_
  generalize eS74 : sR S72 a0 (va_up (tR S72 a0) 29 (some (tz S71))) = S74
  have h := h S74 eS74.symm
  refine tt_aload_n (k0 := 0) (by decide +kernel) rfl ?_
  refine tt_bipush (n := 20) (v := 20) (by decide +kernel) (by decide) ?_
  refine tt_newarr (at0 := .int) (n := 20) (by decide +kernel) w_36 rfl (by decide) (by decide) (by decide) ?_
  show T G J_M_init 210 [(0, .ref a0), (1, .int x1)] [.ref (tz S74), .ref a0] (sN S74 (.inl (.int, 20)) 20) _
  generalize eS75 : sN S74 (.inl (.int, 20)) 20 = S75
  have h := h S75 eS75.symm
  obtain ⟨f76, h⟩ := h
  refine tt_putFR (k := 30) (by decide +kernel) KC_11 (by decide) w_895 rfl rfl rfl (Or.inr ⟨_, rfl⟩) f76 ?_
  generalize eS77 : sR S75 a0 (va_up (tR S75 a0) 30 (some (tz S74))) = S77
  have h := h S77 eS77.symm
  refine tt_aload_n (k0 := 0) (by decide +kernel) rfl ?_
  refine tt_bipush (n := 65) (v := 65) (by decide +kernel) (by decide) ?_
  refine tt_newarr (at0 := .byte) (n := 65) (by decide +kernel) w_1031 rfl (by decide) (by decide) (by decide) ?_
  show T G J_M_init 218 [(0, .ref a0), (1, .int x1)] [.ref (tz S77), .ref a0] (sN S77 (.inl (.byte, 65)) 65) _
  generalize eS78 : sN S77 (.inl (.byte, 65)) 65 = S78
  have h := h S78 eS78.symm
  obtain ⟨f79, h⟩ := h
  refine tt_putFR (k := 32) (by decide +kernel) KC_11 (by decide) w_897 rfl rfl rfl (Or.inr ⟨_, rfl⟩) f79 ?_
  generalize eS80 : sR S78 a0 (va_up (tR S78 a0) 32 (some (tz S77))) = S80
  have h := h S80 eS80.symm
  refine tt_aload_n (k0 := 0) (by decide +kernel) rfl ?_
  refine tt_bipush (n := 16) (v := 16) (by decide +kernel) (by decide) ?_
  refine tt_newarr (at0 := .int) (n := 16) (by decide +kernel) w_36 rfl (by decide) (by decide) (by decide) ?_
  show T G J_M_init 226 [(0, .ref a0), (1, .int x1)] [.ref (tz S80), .ref a0] (sN S80 (.inl (.int, 16)) 16) _
  generalize eS81 : sN S80 (.inl (.int, 16)) 16 = S81
  have h := h S81 eS81.symm
  obtain ⟨f82, h⟩ := h
  refine tt_putFR (k := 36) (by decide +kernel) KC_11 (by decide) w_901 rfl rfl rfl (Or.inr ⟨_, rfl⟩) f82 ?_
  generalize eS83 : sR S81 a0 (va_up (tR S81 a0) 36 (some (tz S80))) = S83
  have h := h S83 eS83.symm
  refine tt_aload_n (k0 := 0) (by decide +kernel) rfl ?_
  refine tt_bipush (n := 16) (v := 16) (by decide +kernel) (by decide) ?_
  refine tt_newarr (at0 := .int) (n := 16) (by decide +kernel) w_36 rfl (by decide) (by decide) (by decide) ?_
  show T G J_M_init 234 [(0, .ref a0), (1, .int x1)] [.ref (tz S83), .ref a0] (sN S83 (.inl (.int, 16)) 16) _
  generalize eS84 : sN S83 (.inl (.int, 16)) 16 = S84
  have h := h S84 eS84.symm
  obtain ⟨f85, h⟩ := h
  refine tt_putFR (k := 37) (by decide +kernel) KC_11 (by decide) w_902 rfl rfl rfl (Or.inr ⟨_, rfl⟩) f85 ?_
  generalize eS86 : sR S84 a0 (va_up (tR S84 a0) 37 (some (tz S83))) = S86
  have h := h S86 eS86.symm
  refine tt_aload_n (k0 := 0) (by decide +kernel) rfl ?_
  refine tt_bipush (n := 64) (v := 64) (by decide +kernel) (by decide) ?_
  refine tt_newarr (at0 := .byte) (n := 64) (by decide +kernel) w_1031 rfl (by decide) (by decide) (by decide) ?_
  show T G J_M_init 242 [(0, .ref a0), (1, .int x1)] [.ref (tz S86), .ref a0] (sN S86 (.inl (.byte, 64)) 64) _
  generalize eS87 : sN S86 (.inl (.byte, 64)) 64 = S87
  have h := h S87 eS87.symm
  obtain ⟨f88, h⟩ := h
  refine tt_putFR (k := 38) (by decide +kernel) KC_11 (by decide) w_903 rfl rfl rfl (Or.inr ⟨_, rfl⟩) f88 ?_
  generalize eS89 : sR S87 a0 (va_up (tR S87 a0) 38 (some (tz S86))) = S89
  have h := h S89 eS89.symm
  refine tt_aload_n (k0 := 0) (by decide +kernel) rfl ?_
  refine tt_bipush (n := 17) (v := 17) (by decide +kernel) (by decide) ?_
  refine tt_newarr (at0 := .int) (n := 17) (by decide +kernel) w_36 rfl (by decide) (by decide) (by decide) ?_
  show T G J_M_init 250 [(0, .ref a0), (1, .int x1)] [.ref (tz S89), .ref a0] (sN S89 (.inl (.int, 17)) 17) _
  generalize eS90 : sN S89 (.inl (.int, 17)) 17 = S90
  have h := h S90 eS90.symm
  obtain ⟨f91, h⟩ := h
  refine tt_putFR (k := 39) (by decide +kernel) KC_11 (by decide) w_904 rfl rfl rfl (Or.inr ⟨_, rfl⟩) f91 ?_
  generalize eS92 : sR S90 a0 (va_up (tR S90 a0) 39 (some (tz S89))) = S92
  have h := h S92 eS92.symm
  refine tt_aload_n (k0 := 0) (by decide +kernel) rfl ?_
  refine tt_bipush (n := 35) (v := 35) (by decide +kernel) (by decide) ?_
  refine tt_newarr (at0 := .int) (n := 35) (by decide +kernel) w_36 rfl (by decide) (by decide) (by decide) ?_
  show T G J_M_init 258 [(0, .ref a0), (1, .int x1)] [.ref (tz S92), .ref a0] (sN S92 (.inl (.int, 35)) 35) _
  generalize eS93 : sN S92 (.inl (.int, 35)) 35 = S93
  have h := h S93 eS93.symm
  obtain ⟨f94, h⟩ := h
  refine tt_putFR (k := 40) (by decide +kernel) KC_11 (by decide) w_905 rfl rfl rfl (Or.inr ⟨_, rfl⟩) f94 ?_
  generalize eS95 : sR S93 a0 (va_up (tR S93 a0) 40 (some (tz S92))) = S95
  have h := h S95 eS95.symm
  refine tt_aload_n (k0 := 0) (by decide +kernel) rfl ?_
  refine tt_bipush (n := 16) (v := 16) (by decide +kernel) (by decide) ?_
  refine tt_newarr (at0 := .int) (n := 16) (by decide +kernel) w_36 rfl (by decide) (by decide) (by decide) ?_
  show T G J_M_init 266 [(0, .ref a0), (1, .int x1)] [.ref (tz S95), .ref a0] (sN S95 (.inl (.int, 16)) 16) _
  generalize eS96 : sN S95 (.inl (.int, 16)) 16 = S96
  have h := h S96 eS96.symm
  obtain ⟨f97, h⟩ := h
  refine tt_putFR (k := 41) (by decide +kernel) KC_11 (by decide) w_906 rfl rfl rfl (Or.inr ⟨_, rfl⟩) f97 ?_
  generalize eS98 : sR S96 a0 (va_up (tR S96 a0) 41 (some (tz S95))) = S98
  have h := h S98 eS98.symm
  refine tt_aload_n (k0 := 0) (by decide +kernel) rfl ?_
  refine tt_sipush (n := 320) (v := 320) (by decide +kernel) (by decide) ?_
  refine tt_newarr (at0 := .byte) (n := 320) (by decide +kernel) w_1031 rfl (by decide) (by decide) (by decide) ?_
  show T G J_M_init 275 [(0, .ref a0), (1, .int x1)] [.ref (tz S98), .ref a0] (sN S98 (.inl (.byte, 320)) 320) _
  generalize eS99 : sN S98 (.inl (.byte, 320)) 320 = S99
  have h := h S99 eS99.symm
  obtain ⟨f100, h⟩ := h
  refine tt_putFR (k := 42) (by decide +kernel) KC_11 (by decide) w_907 rfl rfl rfl (Or.inr ⟨_, rfl⟩) f100 ?_
  generalize eS101 : sR S99 a0 (va_up (tR S99 a0) 42 (some (tz S98))) = S101
  have h := h S101 eS101.symm
  refine tt_aload_n (k0 := 0) (by decide +kernel) rfl ?_
  refine tt_bipush (n := 16) (v := 16) (by decide +kernel) (by decide) ?_
  refine tt_newarr (at0 := .byte) (n := 16) (by decide +kernel) w_1031 rfl (by decide) (by decide) (by decide) ?_
  show T G J_M_init 283 [(0, .ref a0), (1, .int x1)] [.ref (tz S101), .ref a0] (sN S101 (.inl (.byte, 16)) 16) _
  generalize eS102 : sN S101 (.inl (.byte, 16)) 16 = S102
  have h := h S102 eS102.symm
  obtain ⟨f103, h⟩ := h
  refine tt_putFR (k := 43) (by decide +kernel) KC_11 (by decide) w_908 rfl rfl rfl (Or.inr ⟨_, rfl⟩) f103 ?_
  generalize eS104 : sR S102 a0 (va_up (tR S102 a0) 43 (some (tz S101))) = S104
  have h := h S104 eS104.symm
  refine tt_aload_n (k0 := 0) (by decide +kernel) rfl ?_
  refine tt_bipush (n := 19) (v := 19) (by decide +kernel) (by decide) ?_
  refine tt_newarr (at0 := .int) (n := 19) (by decide +kernel) w_36 rfl (by decide) (by decide) (by decide) ?_
  show T G J_M_init 291 [(0, .ref a0), (1, .int x1)] [.ref (tz S104), .ref a0] (sN S104 (.inl (.int, 19)) 19) _
  generalize eS105 : sN S104 (.inl (.int, 19)) 19 = S105
  have h := h S105 eS105.symm
  obtain ⟨f106, h⟩ := h
  refine tt_putFR (k := 44) (by decide +kernel) KC_11 (by decide) w_909 rfl rfl rfl (Or.inr ⟨_, rfl⟩) f106 ?_
  generalize eS107 : sR S105 a0 (va_up (tR S105 a0) 44 (some (tz S104))) = S107
  have h := h S107 eS107.symm
  refine tt_aload_n (k0 := 0) (by decide +kernel) rfl ?_
  refine tt_sipush (n := 128) (v := 128) (by decide +kernel) (by decide) ?_
  refine tt_newarr (at0 := .byte) (n := 128) (by decide +kernel) w_1031 rfl (by decide) (by decide) (by decide) ?_
  show T G J_M_init 300 [(0, .ref a0), (1, .int x1)] [.ref (tz S107), .ref a0] (sN S107 (.inl (.byte, 128)) 128) _
  generalize eS108 : sN S107 (.inl (.byte, 128)) 128 = S108
  have h := h S108 eS108.symm
  obtain ⟨f109, h⟩ := h
  refine tt_putFR (k := 45) (by decide +kernel) KC_11 (by decide) w_910 rfl rfl rfl (Or.inr ⟨_, rfl⟩) f109 ?_
  generalize eS110 : sR S108 a0 (va_up (tR S108 a0) 45 (some (tz S107))) = S110
  have h := h S110 eS110.symm
  refine tt_aload_n (k0 := 0) (by decide +kernel) rfl ?_
  refine tt_bipush (n := 32) (v := 32) (by decide +kernel) (by decide) ?_
  refine tt_newarr (at0 := .byte) (n := 32) (by decide +kernel) w_1031 rfl (by decide) (by decide) (by decide) ?_
  show T G J_M_init 308 [(0, .ref a0), (1, .int x1)] [.ref (tz S110), .ref a0] (sN S110 (.inl (.byte, 32)) 32) _
  generalize eS111 : sN S110 (.inl (.byte, 32)) 32 = S111
  have h := h S111 eS111.symm
  obtain ⟨f112, h⟩ := h
  refine tt_putFR (k := 47) (by decide +kernel) KC_11 (by decide) w_912 rfl rfl rfl (Or.inr ⟨_, rfl⟩) f112 ?_
  generalize eS113 : sR S111 a0 (va_up (tR S111 a0) 47 (some (tz S110))) = S113
  have h := h S113 eS113.symm
  refine tt_aload_n (k0 := 0) (by decide +kernel) rfl ?_
  refine tt_bipush (n := 32) (v := 32) (by decide +kernel) (by decide) ?_
  refine tt_newarr (at0 := .byte) (n := 32) (by decide +kernel) w_1031 rfl (by decide) (by decide) (by decide) ?_
  show T G J_M_init 316 [(0, .ref a0), (1, .int x1)] [.ref (tz S113), .ref a0] (sN S113 (.inl (.byte, 32)) 32) _
  generalize eS114 : sN S113 (.inl (.byte, 32)) 32 = S114
  have h := h S114 eS114.symm
  obtain ⟨f115, h⟩ := h
  refine tt_putFR (k := 48) (by decide +kernel) KC_11 (by decide) w_913 rfl rfl rfl (Or.inr ⟨_, rfl⟩) f115 ?_
  generalize eS116 : sR S114 a0 (va_up (tR S114 a0) 48 (some (tz S113))) = S116
  have h := h S116 eS116.symm
  refine tt_aload_n (k0 := 0) (by decide +kernel) rfl ?_
  refine tt_bipush (n := 33) (v := 33) (by decide +kernel) (by decide) ?_
  refine tt_newarr (at0 := .byte) (n := 33) (by decide +kernel) w_1031 rfl (by decide) (by decide) (by decide) ?_
  show T G J_M_init 324 [(0, .ref a0), (1, .int x1)] [.ref (tz S116), .ref a0] (sN S116 (.inl (.byte, 33)) 33) _
  generalize eS117 : sN S116 (.inl (.byte, 33)) 33 = S117
  have h := h S117 eS117.symm
  obtain ⟨f118, h⟩ := h
  refine tt_putFR (k := 49) (by decide +kernel) KC_11 (by decide) w_914 rfl rfl rfl (Or.inr ⟨_, rfl⟩) f118 ?_
  generalize eS119 : sR S117 a0 (va_up (tR S117 a0) 49 (some (tz S116))) = S119
  have h := h S119 eS119.symm
  refine tt_aload_n (k0 := 0) (by decide +kernel) rfl ?_
  refine tt_bipush (n := 32) (v := 32) (by decide +kernel) (by decide) ?_
  refine tt_newarr (at0 := .byte) (n := 32) (by decide +kernel) w_1031 rfl (by decide) (by decide) (by decide) ?_
  show T G J_M_init 332 [(0, .ref a0), (1, .int x1)] [.ref (tz S119), .ref a0] (sN S119 (.inl (.byte, 32)) 32) _
  generalize eS120 : sN S119 (.inl (.byte, 32)) 32 = S120
  have h := h S120 eS120.symm
  obtain ⟨f121, h⟩ := h
  refine tt_putFR (k := 50) (by decide +kernel) KC_11 (by decide) w_915 rfl rfl rfl (Or.inr ⟨_, rfl⟩) f121 ?_
  generalize eS122 : sR S120 a0 (va_up (tR S120 a0) 50 (some (tz S119))) = S122
  have h := h S122 eS122.symm
  refine tt_aload_n (k0 := 0) (by decide +kernel) rfl ?_
  refine tt_bipush (n := 32) (v := 32) (by decide +kernel) (by decide) ?_
  refine tt_newarr (at0 := .byte) (n := 32) (by decide +kernel) w_1031 rfl (by decide) (by decide) (by decide) ?_
  show T G J_M_init 340 [(0, .ref a0), (1, .int x1)] [.ref (tz S122), .ref a0] (sN S122 (.inl (.byte, 32)) 32) _
  generalize eS123 : sN S122 (.inl (.byte, 32)) 32 = S123
  have h := h S123 eS123.symm
  obtain ⟨f124, h⟩ := h
  refine tt_putFR (k := 51) (by decide +kernel) KC_11 (by decide) w_916 rfl rfl rfl (Or.inr ⟨_, rfl⟩) f124 ?_
  generalize eS125 : sR S123 a0 (va_up (tR S123 a0) 51 (some (tz S122))) = S125
  have h := h S125 eS125.symm
  refine tt_aload_n (k0 := 0) (by decide +kernel) rfl ?_
  refine tt_bipush (n := 33) (v := 33) (by decide +kernel) (by decide) ?_
  refine tt_newarr (at0 := .byte) (n := 33) (by decide +kernel) w_1031 rfl (by decide) (by decide) (by decide) ?_
  show T G J_M_init 348 [(0, .ref a0), (1, .int x1)] [.ref (tz S125), .ref a0] (sN S125 (.inl (.byte, 33)) 33) _
  generalize eS126 : sN S125 (.inl (.byte, 33)) 33 = S126
  have h := h S126 eS126.symm
  obtain ⟨f127, h⟩ := h
  refine tt_putFR (k := 52) (by decide +kernel) KC_11 (by decide) w_917 rfl rfl rfl (Or.inr ⟨_, rfl⟩) f127 ?_
  generalize eS128 : sR S126 a0 (va_up (tR S126 a0) 52 (some (tz S125))) = S128
  have h := h S128 eS128.symm
  refine tt_aload_n (k0 := 0) (by decide +kernel) rfl ?_
  refine tt_bipush (n := 32) (v := 32) (by decide +kernel) (by decide) ?_
  refine tt_newarr (at0 := .byte) (n := 32) (by decide +kernel) w_1031 rfl (by decide) (by decide) (by decide) ?_
  show T G J_M_init 356 [(0, .ref a0), (1, .int x1)] [.ref (tz S128), .ref a0] (sN S128 (.inl (.byte, 32)) 32) _
  generalize eS129 : sN S128 (.inl (.byte, 32)) 32 = S129
  have h := h S129 eS129.symm
  obtain ⟨f130, h⟩ := h
  refine tt_putFR (k := 53) (by decide +kernel) KC_11 (by decide) w_918 rfl rfl rfl (Or.inr ⟨_, rfl⟩) f130 ?_
  generalize eS131 : sR S129 a0 (va_up (tR S129 a0) 53 (some (tz S128))) = S131
  have h := h S131 eS131.symm
  refine tt_aload_n (k0 := 0) (by decide +kernel) rfl ?_
  refine tt_sipush (n := 200) (v := 200) (by decide +kernel) (by decide) ?_
  refine tt_newarr (at0 := .byte) (n := 200) (by decide +kernel) w_1031 rfl (by decide) (by decide) (by decide) ?_
  show T G J_M_init 365 [(0, .ref a0), (1, .int x1)] [.ref (tz S131), .ref a0] (sN S131 (.inl (.byte, 200)) 200) _
  generalize eS132 : sN S131 (.inl (.byte, 200)) 200 = S132
  have h := h S132 eS132.symm
  obtain ⟨f133, h⟩ := h
  refine tt_putFR (k := 54) (by decide +kernel) KC_11 (by decide) w_919 rfl rfl rfl (Or.inr ⟨_, rfl⟩) f133 ?_
  generalize eS134 : sR S132 a0 (va_up (tR S132 a0) 54 (some (tz S131))) = S134
  have h := h S134 eS134.symm
  refine tt_aload_n (k0 := 0) (by decide +kernel) rfl ?_
  refine tt_iload_n (k0 := 1) (by decide +kernel) rfl ?_
  obtain ⟨f135, h⟩ := h
  refine tt_putFI (k := 4) (by decide +kernel) KC_11 (by decide) w_869 rfl rfl rfl rfl f135 ?_
  generalize eS136 : sI S134 a0 (upd (tI S134 a0) 4 x1) = S136
  have h := h S136 eS136.symm
  refine tt_aload_n (k0 := 0) (by decide +kernel) rfl ?_
  obtain ⟨f137, h⟩ := h
  obtain ⟨b138, f139, h⟩ := h
  refine tt_getR (k := 25) (by decide +kernel) KC_11 (by decide) w_890 (fun _ => rfl) f137 f139 ?_
  refine tt_iconst (n := 0) (v := 0) (by decide +kernel) (by decide) ?_
  refine tt_bipush (n := 110) (v := 110) (by decide +kernel) (by decide) ?_
  obtain ⟨n140, f141, h⟩ := h
  obtain ⟨g2, h⟩ := h
  refine tt_bast (by decide +kernel) f141 g2 ?_
  show T G J_M_init 381 [(0, .ref a0), (1, .int x1)] [] (sI S136 b138 (upd (tI S136 b138) 0 (110 : Int32).toInt8.toInt32)) _
  generalize eS142 : sI S136 b138 (upd (tI S136 b138) 0 (110 : Int32).toInt8.toInt32) = S142
  have h := h S142 eS142.symm
  exact tt_vret (by decide +kernel) rfl h
set_option maxRecDepth 100000 in
theorem v_M_side {G : pG} (x0 : Int32) (S : TS) (Q : Option Value → Prop)
    (h : ((x0 = 0 → Q (some (.int 1))) ∧ (¬ (x0 = 0) → ((¬ x0 = 1 → Q (some (.int 0))) ∧ (x0 = 1 → Q (some (.int 1))))))) :
    CP G J_M_side [.int x0] S Q := by
  unfold CP
  refine ct_of (by decide +kernel) (Nat.le_of_ble_eq_true rfl) (lv := [(0, .int x0)]) rfl ?_
  refine tt_iload_n (k0 := 0) (by decide +kernel) rfl ?_
  refine tt_if_eq (off := 8) 9 (by decide +kernel) (by decide) (fun c => ?_) (fun c => ?_)
  · have h := h.1 c
    refine tt_iconst (n := 1) (v := 1) (by decide +kernel) (by decide) ?_
    refine tt_goto (off := 4) (tgt := 14) (by decide +kernel) (by decide) ?_
    exact tt_zret (by decide +kernel) rfl rfl ⟨rfl, h⟩
  · have h := h.2 c
    refine tt_iload_n (k0 := 0) (by decide +kernel) rfl ?_
    refine tt_iconst (n := 1) (v := 1) (by decide +kernel) (by decide) ?_
    refine tt_icmp_ne (off := 7) 13 (by decide +kernel) (by decide) (fun c => ?_) (fun c => ?_)
    · have h := h.1 c
      refine tt_iconst (n := 0) (v := 0) (by decide +kernel) (by decide) ?_
      exact tt_zret (by decide +kernel) rfl rfl ⟨rfl, h⟩
    · have h := h.2 c
      refine tt_iconst (n := 1) (v := 1) (by decide +kernel) (by decide) ?_
      refine tt_goto (off := 4) (tgt := 14) (by decide +kernel) (by decide) ?_
      exact tt_zret (by decide +kernel) rfl rfl ⟨rfl, h⟩
set_option maxRecDepth 100000 in
theorem v_M_add_ABII {G : pG} (a0 : Nat) (a1 : Nat) (x2 : Int32) (x3 : Int32) (S : TS) (Q : Option Value → TS → Prop)
    (h : T0 G J_M_add_ABII 3 [(0, .ref a0), (1, .ref a1), (2, .int x2), (3, .int x3), (4, .int 0)] [] S Q) :
    C0 G J_M_add_ABII [.ref a0, .ref a1, .int x2, .int x3] S Q := by
  unfold C0
  refine ct_of (by decide +kernel) (Nat.le_of_ble_eq_true rfl) (lv := [(0, .ref a0), (1, .ref a1), (2, .int x2), (3, .int x3)]) rfl ?_
  have hm : Sm0 S S := Sm0.rf S
  refine tt_iconst (n := 0) (v := 0) (by decide +kernel) (by decide) ?_
  refine tt_istore (k0 := 4) (lv' := [(0, .ref a0), (1, .ref a1), (2, .int x2), (3, .int x3), (4, .int 0)]) (by decide +kernel) (by decide) rfl ?_
  exact tt_mono h (fun r S' q => ⟨hm.tr q.1, q.2⟩)
set_option maxRecDepth 100000 in
theorem v_M_add_ABII_3 {G : pG} (a0 : Nat) (a1 : Nat) (x2 : Int32) (x3 : Int32) (x4 : Int32) (S : TS) (Q : Option Value → TS → Prop)
    (h : ((x3 ≤ x4 → Q none S) ∧ (¬ (x3 ≤ x4) → ∃ n1 : Nat, te S a1 = some (.inl (.byte, n1)) ∧ vp_in (x2 + x4) n1 ∧ te S a0 = some (.inr 11) ∧ C0 G J_M_add_I [.ref a0, .int (tI S a1 (x2 + x4).toNatClampNeg)] S (fun r S4 => r = none ∧ ∀ y5 : Int32, y5 = x4 + 1 → T0 G J_M_add_ABII 3 [(0, .ref a0), (1, .ref a1), (2, .int x2), (3, .int x3), (4, .int y5)] [] S4 Q)))) :
    T0 G J_M_add_ABII 3 [(0, .ref a0), (1, .ref a1), (2, .int x2), (3, .int x3), (4, .int x4)] [] S Q := by
  unfold T0
  have hm : Sm0 S S := Sm0.rf S
  refine tt_iload (k0 := 4) (by decide +kernel) rfl ?_
  refine tt_iload_n (k0 := 3) (by decide +kernel) rfl ?_
  refine tt_icmp_ge (off := 19) 25 (by decide +kernel) (by decide) (fun c => ?_) (fun c => ?_)
  · have h := h.1 c
    exact tt_vret (by decide +kernel) rfl ⟨hm, h⟩
  · have h := h.2 c
    refine tt_aload_n (k0 := 0) (by decide +kernel) rfl ?_
    refine tt_aload_n (k0 := 1) (by decide +kernel) rfl ?_
    refine tt_iload_n (k0 := 2) (by decide +kernel) rfl ?_
    refine tt_iload (k0 := 4) (by decide +kernel) rfl ?_
    refine tt_iadd (by decide +kernel) ?_
    obtain ⟨n1, f2, h⟩ := h
    obtain ⟨g2, h⟩ := h
    refine tt_bald (by decide +kernel) f2 g2 ?_
    obtain ⟨f3, h⟩ := h
    refine tt_callV (As := [.int (tI S a1 (x2 + x4).toNatClampNeg)]) (rest := []) (ci := 11) (r0 := (R_11, F_11, 55)) (by decide +kernel) LK_M_add_I w_1060 w_1062 (in_p (n := 55) 30 rfl) (by decide) (by decide) rfl rfl (Nat.le_of_ble_eq_true rfl) rfl rfl f3 (ct_mono h (fun r S4 h => ?_))
    obtain ⟨hm2, h⟩ := h
    obtain ⟨rfl, h⟩ := h
    show T G J_M_add_ABII 19 [(0, .ref a0), (1, .ref a1), (2, .int x2), (3, .int x3), (4, .int x4)] [] S4 _
    have hm := hm.tr hm2
    have f2 : te S4 a1 = some (.inl (.byte, n1)) := by rw [hm2.1]; exact f2
    have f3 : te S4 a0 = some (.inr 11) := by rw [hm2.1]; exact f3
    obtain ⟨y5, ey5⟩ : ∃ y : Int32, y = x4 + 1 := ⟨_, rfl⟩
    have h := h y5 ey5
    refine tt_iinc (i := 4) (n := 1) (v := y5) (lv' := [(0, .ref a0), (1, .ref a1), (2, .int x2), (3, .int x3), (4, .int y5)]) (by decide +kernel) (by decide) rfl ey5.symm rfl ?_
    refine tt_goto (off := -19) (tgt := 3) (by decide +kernel) (by decide) ?_
    exact tt_mono h (fun r S' q => ⟨hm.tr q.1, q.2⟩)
set_option maxRecDepth 100000 in
theorem v_M_add_I {G : pG} (a0 : Nat) (x1 : Int32) (S : TS) (Q : Option Value → TS → Prop)
    (h : te S a0 = some (.inr 11) ∧ ∃ b2 : Nat, tR S a0 5 = some b2 ∧ ∃ n4 : Nat, te S b2 = some (.inl (.byte, n4)) ∧ vp_in (tI S a0 6) n4 ∧ ∀ S6 : TS, S6 = sI S b2 (upd (tI S b2) (tI S a0 6).toNatClampNeg ((x1 : Int32).toInt8.toInt32 : Int32).toInt8.toInt32) → ∀ S7 : TS, S7 = sI S6 a0 (upd (tI S6 a0) 6 ((tI S6 a0 6) + (1 : Int32))) → Q none S7) :
    C0 G J_M_add_I [.ref a0, .int x1] S Q := by
  unfold C0
  refine ct_of (by decide +kernel) (Nat.le_of_ble_eq_true rfl) (lv := [(0, .ref a0), (1, .int x1)]) rfl ?_
  have hm : Sm0 S S := Sm0.rf S
  refine tt_aload_n (k0 := 0) (by decide +kernel) rfl ?_
  obtain ⟨f1, h⟩ := h
  obtain ⟨b2, f3, h⟩ := h
  refine tt_getR (k := 5) (by decide +kernel) KC_11 (by decide) w_870 (fun _ => rfl) f1 f3 ?_
  refine tt_aload_n (k0 := 0) (by decide +kernel) rfl ?_
  refine tt_getI (k := 6) (by decide +kernel) KC_11 (by decide) w_871 (fun _ => rfl) f1 ?_
  refine tt_iload_n (k0 := 1) (by decide +kernel) rfl ?_
  refine tt_i2b (by decide +kernel) ?_
  obtain ⟨n4, f5, h⟩ := h
  obtain ⟨g2, h⟩ := h
  refine tt_bast (by decide +kernel) f5 g2 ?_
  generalize eS6 : sI S b2 (upd (tI S b2) (tI S a0 6).toNatClampNeg ((x1 : Int32).toInt8.toInt32 : Int32).toInt8.toInt32) = S6
  have h := h S6 eS6.symm
  have hm : Sm0 S S6 := by rw [← eS6]; exact hm.I
  have f1 : te S6 a0 = some (.inr 11) := by rw [← eS6, te_sI]; exact f1
  have f3 : tR S6 a0 5 = some b2 := by rw [← eS6, tR_sI]; exact f3
  have f5 : te S6 b2 = some (.inl (.byte, n4)) := by rw [← eS6, te_sI]; exact f5
  refine tt_aload_n (k0 := 0) (by decide +kernel) rfl ?_
  refine tt_dup (by decide +kernel) rfl ?_
  refine tt_getI (k := 6) (by decide +kernel) KC_11 (by decide) w_871 (fun _ => rfl) f1 ?_
  refine tt_iconst (n := 1) (v := 1) (by decide +kernel) (by decide) ?_
  refine tt_iadd (by decide +kernel) ?_
  refine tt_putI (k := 6) (by decide +kernel) KC_11 (by decide) w_871 rfl rfl f1 ?_
  generalize eS7 : sI S6 a0 (upd (tI S6 a0) 6 ((tI S6 a0 6) + (1 : Int32))) = S7
  have h := h S7 eS7.symm
  have hm : Sm0 S S7 := by rw [← eS7]; exact hm.I
  have f1 : te S7 a0 = some (.inr 11) := by rw [← eS7, te_sI]; exact f1
  have f3 : tR S7 a0 5 = some b2 := by rw [← eS7, tR_sI]; exact f3
  have f5 : te S7 b2 = some (.inl (.byte, n4)) := by rw [← eS7, te_sI]; exact f5
  exact tt_vret (by decide +kernel) rfl ⟨hm, h⟩
set_option maxRecDepth 100000 in
theorem v_M_hashTo {G : pG} (a0 : Nat) (a1 : Nat) (x2 : Int32) (S : TS) (Q : Option Value → TS → Prop)
    (h : T0 G J_M_hashTo 2 [(0, .ref a0), (1, .ref a1), (2, .int x2), (3, .int 0)] [] S Q) :
    C0 G J_M_hashTo [.ref a0, .ref a1, .int x2] S Q := by
  unfold C0
  refine ct_of (by decide +kernel) (Nat.le_of_ble_eq_true rfl) (lv := [(0, .ref a0), (1, .ref a1), (2, .int x2)]) rfl ?_
  have hm : Sm0 S S := Sm0.rf S
  refine tt_iconst (n := 0) (v := 0) (by decide +kernel) (by decide) ?_
  refine tt_istore_n (k0 := 3) (lv' := [(0, .ref a0), (1, .ref a1), (2, .int x2), (3, .int 0)]) (by decide +kernel) (by decide) rfl ?_
  exact tt_mono h (fun r S' q => ⟨hm.tr q.1, q.2⟩)
set_option maxRecDepth 100000 in
theorem v_M_hashTo_2 {G : pG} {t : Nat → Nat} (hG : GS G t) (a0 : Nat) (a1 : Nat) (x2 : Int32) (x3 : Int32) (S : TS) (Q : Option Value → TS → Prop)
    (h : ((8 ≤ x3 → te S a0 = some (.inr 11) ∧ ∀ y2 : Int32, y2 = (((tI S a0 6) + (72 : Int32)) / (64 : Int32)) * (64 : Int32) → T0 G J_M_hashTo 47 [(0, .ref a0), (1, .ref a1), (2, .int x2), (3, .int y2), (4, .int 0)] [] S Q) ∧ (¬ (8 ≤ x3) → te S a0 = some (.inr 11) ∧ ∃ b4 : Nat, tR S a0 7 = some b4 ∧ vp_in x3 8 ∧ ∃ n6 : Nat, te S b4 = some (.inl (.long, n6)) ∧ vp_in x3 n6 ∧ ∀ S8 : TS, S8 = sL S b4 (vp_updL (tL S b4) x3.toNatClampNeg (((ro 4 x3.toNatClampNeg : Int32).toInt64) &&& (4294967295 : Int64))) → ∀ y9 : Int32, y9 = x3 + 1 → T0 G J_M_hashTo 2 [(0, .ref a0), (1, .ref a1), (2, .int x2), (3, .int y9)] [] S8 Q))) :
    T0 G J_M_hashTo 2 [(0, .ref a0), (1, .ref a1), (2, .int x2), (3, .int x3)] [] S Q := by
  unfold T0
  have hm : Sm0 S S := Sm0.rf S
  refine tt_iload_n (k0 := 3) (by decide +kernel) rfl ?_
  refine tt_bipush (n := 8) (v := 8) (by decide +kernel) (by decide) ?_
  refine tt_icmp_ge (off := 25) 30 (by decide +kernel) (by decide) (fun c => ?_) (fun c => ?_)
  · have h := h.1 c
    refine tt_aload_n (k0 := 0) (by decide +kernel) rfl ?_
    obtain ⟨f1, h⟩ := h
    refine tt_getI (k := 6) (by decide +kernel) KC_11 (by decide) w_871 (fun _ => rfl) f1 ?_
    refine tt_bipush (n := 72) (v := 72) (by decide +kernel) (by decide) ?_
    refine tt_iadd (by decide +kernel) ?_
    refine tt_bipush (n := 64) (v := 64) (by decide +kernel) (by decide) ?_
    refine tt_idiv (by decide +kernel) (by decide) ?_
    refine tt_bipush (n := 64) (v := 64) (by decide +kernel) (by decide) ?_
    refine tt_imul (by decide +kernel) ?_
    refine tt_topi (fun y2 ey2 => ?_)
    have h := h y2 ey2
    refine tt_istore_n (k0 := 3) (lv' := [(0, .ref a0), (1, .ref a1), (2, .int x2), (3, .int y2)]) (by decide +kernel) (by decide) rfl ?_
    refine tt_iconst (n := 0) (v := 0) (by decide +kernel) (by decide) ?_
    refine tt_istore (k0 := 4) (lv' := [(0, .ref a0), (1, .ref a1), (2, .int x2), (3, .int y2), (4, .int 0)]) (by decide +kernel) (by decide) rfl ?_
    exact tt_mono h (fun r S' q => ⟨hm.tr q.1, q.2⟩)
  · have h := h.2 c
    refine tt_aload_n (k0 := 0) (by decide +kernel) rfl ?_
    obtain ⟨f3, h⟩ := h
    obtain ⟨b4, f5, h⟩ := h
    refine tt_getR (k := 7) (by decide +kernel) KC_11 (by decide) w_872 (fun _ => rfl) f3 f5 ?_
    refine tt_iload_n (k0 := 3) (by decide +kernel) rfl ?_
    refine tt_gets (z := ("SealedWireModel", "BEGIN", "[I", .ref (t 4))) (by decide +kernel) (by rw [hG.1]; simp [stt]) w_1068 ?_
    refine tt_iload_n (k0 := 3) (by decide +kernel) rfl ?_
    obtain ⟨g, h⟩ := h
    refine tt_iro (n := 8) (f := ro 4) (by decide +kernel) (by rw [hG.2]; simp [rot]) g ?_
    refine tt_i2l (by decide +kernel) ?_
    refine tt_ldc2 (v := 4294967295) (by decide +kernel) w_1070 ?_
    refine tt_land (by decide +kernel) ?_
    obtain ⟨n6, f7, h⟩ := h
    obtain ⟨g2, h⟩ := h
    refine tt_last (by decide +kernel) f7 g2 ?_
    generalize eS8 : sL S b4 (vp_updL (tL S b4) x3.toNatClampNeg (((ro 4 x3.toNatClampNeg : Int32).toInt64) &&& (4294967295 : Int64))) = S8
    have h := h S8 eS8.symm
    have hm : Sm0 S S8 := by rw [← eS8]; exact hm.L
    have f3 : te S8 a0 = some (.inr 11) := by rw [← eS8, te_sL]; exact f3
    have f5 : tR S8 a0 7 = some b4 := by rw [← eS8, tR_sL]; exact f5
    have f7 : te S8 b4 = some (.inl (.long, n6)) := by rw [← eS8, te_sL]; exact f7
    obtain ⟨y9, ey9⟩ : ∃ y : Int32, y = x3 + 1 := ⟨_, rfl⟩
    have h := h y9 ey9
    refine tt_iinc (i := 3) (n := 1) (v := y9) (lv' := [(0, .ref a0), (1, .ref a1), (2, .int x2), (3, .int y9)]) (by decide +kernel) (by decide) rfl ey9.symm rfl ?_
    refine tt_goto (off := -25) (tgt := 2) (by decide +kernel) (by decide) ?_
    exact tt_mono h (fun r S' q => ⟨hm.tr q.1, q.2⟩)
set_option maxRecDepth 100000 in
theorem v_M_hashTo_47 {G : pG} (a0 : Nat) (a1 : Nat) (x2 : Int32) (x3 : Int32) (x4 : Int32) (S : TS) (Q : Option Value → TS → Prop)
    (h : ((x3 ≤ x4 → T0 G J_M_hashTo 73 [(0, .ref a0), (1, .ref a1), (2, .int x2), (3, .int x3), (4, .int 0)] [] S Q) ∧ (¬ (x3 ≤ x4) → te S a0 = some (.inr 11) ∧ C0 G J_M_block_III [.ref a0, .int x4, .int (tI S a0 6), .int x3] S (fun r S2 => r = none ∧ ∀ y3 : Int32, y3 = x4 + 64 → T0 G J_M_hashTo 47 [(0, .ref a0), (1, .ref a1), (2, .int x2), (3, .int x3), (4, .int y3)] [] S2 Q)))) :
    T0 G J_M_hashTo 47 [(0, .ref a0), (1, .ref a1), (2, .int x2), (3, .int x3), (4, .int x4)] [] S Q := by
  unfold T0
  have hm : Sm0 S S := Sm0.rf S
  refine tt_iload (k0 := 4) (by decide +kernel) rfl ?_
  refine tt_iload_n (k0 := 3) (by decide +kernel) rfl ?_
  refine tt_icmp_ge (off := 20) 70 (by decide +kernel) (by decide) (fun c => ?_) (fun c => ?_)
  · have h := h.1 c
    refine tt_iconst (n := 0) (v := 0) (by decide +kernel) (by decide) ?_
    refine tt_istore (k0 := 4) (lv' := [(0, .ref a0), (1, .ref a1), (2, .int x2), (3, .int x3), (4, .int 0)]) (by decide +kernel) (by decide) rfl ?_
    exact tt_mono h (fun r S' q => ⟨hm.tr q.1, q.2⟩)
  · have h := h.2 c
    refine tt_aload_n (k0 := 0) (by decide +kernel) rfl ?_
    refine tt_iload (k0 := 4) (by decide +kernel) rfl ?_
    refine tt_aload_n (k0 := 0) (by decide +kernel) rfl ?_
    obtain ⟨f1, h⟩ := h
    refine tt_getI (k := 6) (by decide +kernel) KC_11 (by decide) w_871 (fun _ => rfl) f1 ?_
    refine tt_iload_n (k0 := 3) (by decide +kernel) rfl ?_
    refine tt_callV (As := [.int x4, .int (tI S a0 6), .int x3]) (rest := []) (ci := 11) (r0 := (R_11, F_11, 55)) (by decide +kernel) LK_M_block_III w_1071 w_1073 (in_p (n := 55) 32 rfl) (by decide) (by decide) rfl rfl (Nat.le_of_ble_eq_true rfl) rfl rfl f1 (ct_mono h (fun r S2 h => ?_))
    obtain ⟨hm2, h⟩ := h
    obtain ⟨rfl, h⟩ := h
    show T G J_M_hashTo 64 [(0, .ref a0), (1, .ref a1), (2, .int x2), (3, .int x3), (4, .int x4)] [] S2 _
    have hm := hm.tr hm2
    have f1 : te S2 a0 = some (.inr 11) := by rw [hm2.1]; exact f1
    obtain ⟨y3, ey3⟩ : ∃ y : Int32, y = x4 + 64 := ⟨_, rfl⟩
    have h := h y3 ey3
    refine tt_iinc (i := 4) (n := 64) (v := y3) (lv' := [(0, .ref a0), (1, .ref a1), (2, .int x2), (3, .int x3), (4, .int y3)]) (by decide +kernel) (by decide) rfl ey3.symm rfl ?_
    refine tt_goto (off := -20) (tgt := 47) (by decide +kernel) (by decide) ?_
    exact tt_mono h (fun r S' q => ⟨hm.tr q.1, q.2⟩)
set_option maxRecDepth 100000 in
theorem v_M_hashTo_73 {G : pG} (a0 : Nat) (a1 : Nat) (x2 : Int32) (x3 : Int32) (x4 : Int32) (S : TS) (Q : Option Value → TS → Prop)
    (h : ((32 ≤ x4 → Q none S) ∧ (¬ (32 ≤ x4) → te S a0 = some (.inr 11) ∧ ∃ b2 : Nat, tR S a0 7 = some b2 ∧ ∃ n4 : Nat, te S b2 = some (.inl (.long, n4)) ∧ vp_in (x4 / (4 : Int32)) n4 ∧ ∃ n6 : Nat, te S a1 = some (.inl (.byte, n6)) ∧ vp_in (x2 + x4) n6 ∧ ∀ S8 : TS, S8 = sI S a1 (upd (tI S a1) (x2 + x4).toNatClampNeg ((((tL S b2 (x4 / (4 : Int32)).toNatClampNeg) >>> ((((24 : Int32) - ((8 : Int32) * (x4 - x4 / (4 : Int32) * (4 : Int32))) : Int32).toInt64) &&& 63) : Int64).toInt32 : Int32).toInt8.toInt32 : Int32).toInt8.toInt32) → ∀ y9 : Int32, y9 = x4 + 1 → T0 G J_M_hashTo 73 [(0, .ref a0), (1, .ref a1), (2, .int x2), (3, .int x3), (4, .int y9)] [] S8 Q))) :
    T0 G J_M_hashTo 73 [(0, .ref a0), (1, .ref a1), (2, .int x2), (3, .int x3), (4, .int x4)] [] S Q := by
  unfold T0
  have hm : Sm0 S S := Sm0.rf S
  refine tt_iload (k0 := 4) (by decide +kernel) rfl ?_
  refine tt_bipush (n := 32) (v := 32) (by decide +kernel) (by decide) ?_
  refine tt_icmp_ge (off := 37) 114 (by decide +kernel) (by decide) (fun c => ?_) (fun c => ?_)
  · have h := h.1 c
    exact tt_vret (by decide +kernel) rfl ⟨hm, h⟩
  · have h := h.2 c
    refine tt_aload_n (k0 := 1) (by decide +kernel) rfl ?_
    refine tt_iload_n (k0 := 2) (by decide +kernel) rfl ?_
    refine tt_iload (k0 := 4) (by decide +kernel) rfl ?_
    refine tt_iadd (by decide +kernel) ?_
    refine tt_aload_n (k0 := 0) (by decide +kernel) rfl ?_
    obtain ⟨f1, h⟩ := h
    obtain ⟨b2, f3, h⟩ := h
    refine tt_getR (k := 7) (by decide +kernel) KC_11 (by decide) w_872 (fun _ => rfl) f1 f3 ?_
    refine tt_iload (k0 := 4) (by decide +kernel) rfl ?_
    refine tt_iconst (n := 4) (v := 4) (by decide +kernel) (by decide) ?_
    refine tt_idiv (by decide +kernel) (by decide) ?_
    obtain ⟨n4, f5, h⟩ := h
    obtain ⟨g2, h⟩ := h
    refine tt_lald (by decide +kernel) f5 g2 ?_
    refine tt_bipush (n := 24) (v := 24) (by decide +kernel) (by decide) ?_
    refine tt_bipush (n := 8) (v := 8) (by decide +kernel) (by decide) ?_
    refine tt_iload (k0 := 4) (by decide +kernel) rfl ?_
    refine tt_iconst (n := 4) (v := 4) (by decide +kernel) (by decide) ?_
    refine tt_irem (by decide +kernel) (by decide) ?_
    refine tt_imul (by decide +kernel) ?_
    refine tt_isub (by decide +kernel) ?_
    refine tt_lshr (by decide +kernel) ?_
    refine tt_l2i (by decide +kernel) ?_
    refine tt_i2b (by decide +kernel) ?_
    obtain ⟨n6, f7, h⟩ := h
    obtain ⟨g2, h⟩ := h
    refine tt_bast (by decide +kernel) f7 g2 ?_
    generalize eS8 : sI S a1 (upd (tI S a1) (x2 + x4).toNatClampNeg ((((tL S b2 (x4 / (4 : Int32)).toNatClampNeg) >>> ((((24 : Int32) - ((8 : Int32) * (x4 - x4 / (4 : Int32) * (4 : Int32))) : Int32).toInt64) &&& 63) : Int64).toInt32 : Int32).toInt8.toInt32 : Int32).toInt8.toInt32) = S8
    have h := h S8 eS8.symm
    have hm : Sm0 S S8 := by rw [← eS8]; exact hm.I
    have f1 : te S8 a0 = some (.inr 11) := by rw [← eS8, te_sI]; exact f1
    have f3 : tR S8 a0 7 = some b2 := by rw [← eS8, tR_sI]; exact f3
    have f5 : te S8 b2 = some (.inl (.long, n4)) := by rw [← eS8, te_sI]; exact f5
    have f7 : te S8 a1 = some (.inl (.byte, n6)) := by rw [← eS8, te_sI]; exact f7
    obtain ⟨y9, ey9⟩ : ∃ y : Int32, y = x4 + 1 := ⟨_, rfl⟩
    have h := h y9 ey9
    refine tt_iinc (i := 4) (n := 1) (v := y9) (lv' := [(0, .ref a0), (1, .ref a1), (2, .int x2), (3, .int x3), (4, .int y9)]) (by decide +kernel) (by decide) rfl ey9.symm rfl ?_
    refine tt_goto (off := -38) (tgt := 73) (by decide +kernel) (by decide) ?_
    exact tt_mono h (fun r S' q => ⟨hm.tr q.1, q.2⟩)
set_option maxRecDepth 100000 in
theorem v_M_turn {G : pG} (l0 : Int64) (x2 : Int32) (S : TS) (Q : Option Value → Prop)
    (h : Q (some (.long (((l0 >>> (((x2 : Int32).toInt64) &&& 63)) ||| (l0 <<< ((((32 : Int32) - x2 : Int32).toInt64) &&& 63))) &&& (4294967295 : Int64))))) :
    CP G J_M_turn [.long l0, .int x2] S Q := by
  unfold CP
  refine ct_of (by decide +kernel) (Nat.le_of_ble_eq_true rfl) (lv := [(0, .long l0), (2, .int x2)]) rfl ?_
  refine tt_lload_n (k0 := 0) (by decide +kernel) rfl ?_
  refine tt_iload_n (k0 := 2) (by decide +kernel) rfl ?_
  refine tt_lshr (by decide +kernel) ?_
  refine tt_lload_n (k0 := 0) (by decide +kernel) rfl ?_
  refine tt_bipush (n := 32) (v := 32) (by decide +kernel) (by decide) ?_
  refine tt_iload_n (k0 := 2) (by decide +kernel) rfl ?_
  refine tt_isub (by decide +kernel) ?_
  refine tt_lshl (by decide +kernel) ?_
  refine tt_lor (by decide +kernel) ?_
  refine tt_ldc2 (v := 4294967295) (by decide +kernel) w_1070 ?_
  refine tt_land (by decide +kernel) ?_
  exact tt_lret (by decide +kernel) rfl ⟨rfl, h⟩
set_option maxRecDepth 100000 in
theorem v_M_forget {G : pG} (a0 : Nat) (x1 : Int32) (x2 : Int32) (S : TS) (Q : Option Value → TS → Prop)
    (h : CP G J_M_side [.int x1] S (fun r => ∃ r1 : Int32, r = some (.int r1) ∧ ((r1 = 0 → Q (some (.int ((-1)))) S) ∧ (¬ (r1 = 0) → ((x2 < 0 → Q (some (.int ((-1)))) S) ∧ (¬ (x2 < 0) → ((x2 ≤ 7 → te S a0 = some (.inr 11) ∧ ∃ b3 : Nat, tR S a0 13 = some b3 ∧ ∃ n5 : Nat, te S b3 = some (.inl (.boolean, n5)) ∧ vp_in (((8 : Int32) * x1) + x2) n5 ∧ ((¬ tI S b3 (((8 : Int32) * x1) + x2).toNatClampNeg = 0 → vp_in (((8 : Int32) * x1) + x2) n5 ∧ ∀ S7 : TS, S7 = sI S b3 (upd (tI S b3) (((8 : Int32) * x1) + x2).toNatClampNeg (vp_nar .boolean 0)) → Q (some (.int 0)) S7) ∧ (tI S b3 (((8 : Int32) * x1) + x2).toNatClampNeg = 0 → Q (some (.int ((-2)))) S))) ∧ (¬ (x2 ≤ 7) → Q (some (.int ((-1)))) S)))))))) :
    C0 G J_M_forget [.ref a0, .int x1, .int x2] S Q := by
  unfold C0
  refine ct_of (by decide +kernel) (Nat.le_of_ble_eq_true rfl) (lv := [(0, .ref a0), (1, .int x1), (2, .int x2)]) rfl ?_
  have hm : Sm0 S S := Sm0.rf S
  refine tt_iload_n (k0 := 1) (by decide +kernel) rfl ?_
  refine tt_callS (As := [.int x1]) (rest := []) (by decide +kernel) LK_M_side w_1053 w_1054 (by decide) (by decide) rfl rfl (Nat.le_of_ble_eq_true rfl) (ct_mono h (fun r Sb h => ?_))
  obtain ⟨eb, h⟩ := h
  obtain ⟨r1, rfl, h⟩ := h
  rw [eb]
  show T G J_M_forget 4 [(0, .ref a0), (1, .int x1), (2, .int x2)] [.int r1] S _
  refine tt_if_eq (off := 13) 17 (by decide +kernel) (by decide) (fun c => ?_) (fun c => ?_)
  · have h := h.1 c
    refine tt_iconst (n := -1) (v := -1) (by decide +kernel) (by decide) ?_
    exact tt_iret (by decide +kernel) rfl ⟨hm, h⟩
  · have h := h.2 c
    refine tt_iload_n (k0 := 2) (by decide +kernel) rfl ?_
    refine tt_if_lt (off := 9) 17 (by decide +kernel) (by decide) (fun c => ?_) (fun c => ?_)
    · have h := h.1 c
      refine tt_iconst (n := -1) (v := -1) (by decide +kernel) (by decide) ?_
      exact tt_iret (by decide +kernel) rfl ⟨hm, h⟩
    · have h := h.2 c
      refine tt_iload_n (k0 := 2) (by decide +kernel) rfl ?_
      refine tt_bipush (n := 7) (v := 7) (by decide +kernel) (by decide) ?_
      refine tt_icmp_le (off := 5) 19 (by decide +kernel) (by decide) (fun c => ?_) (fun c => ?_)
      · have h := h.1 c
        refine tt_aload_n (k0 := 0) (by decide +kernel) rfl ?_
        obtain ⟨f2, h⟩ := h
        obtain ⟨b3, f4, h⟩ := h
        refine tt_getR (k := 13) (by decide +kernel) KC_11 (by decide) w_878 (fun _ => rfl) f2 f4 ?_
        refine tt_bipush (n := 8) (v := 8) (by decide +kernel) (by decide) ?_
        refine tt_iload_n (k0 := 1) (by decide +kernel) rfl ?_
        refine tt_imul (by decide +kernel) ?_
        refine tt_iload_n (k0 := 2) (by decide +kernel) rfl ?_
        refine tt_iadd (by decide +kernel) ?_
        obtain ⟨n5, f6, h⟩ := h
        obtain ⟨g2, h⟩ := h
        refine tt_zald (by decide +kernel) f6 g2 ?_
        refine tt_if_ne (off := 6) 36 (by decide +kernel) (by decide) (fun c => ?_) (fun c => ?_)
        · have h := h.1 c
          refine tt_aload_n (k0 := 0) (by decide +kernel) rfl ?_
          refine tt_getR (k := 13) (by decide +kernel) KC_11 (by decide) w_878 (fun _ => rfl) f2 f4 ?_
          refine tt_bipush (n := 8) (v := 8) (by decide +kernel) (by decide) ?_
          refine tt_iload_n (k0 := 1) (by decide +kernel) rfl ?_
          refine tt_imul (by decide +kernel) ?_
          refine tt_iload_n (k0 := 2) (by decide +kernel) rfl ?_
          refine tt_iadd (by decide +kernel) ?_
          refine tt_iconst (n := 0) (v := 0) (by decide +kernel) (by decide) ?_
          obtain ⟨g2, h⟩ := h
          refine tt_zast (by decide +kernel) f6 g2 ?_
          generalize eS7 : sI S b3 (upd (tI S b3) (((8 : Int32) * x1) + x2).toNatClampNeg (vp_nar .boolean 0)) = S7
          have h := h S7 eS7.symm
          have hm : Sm0 S S7 := by rw [← eS7]; exact hm.I
          have f2 : te S7 a0 = some (.inr 11) := by rw [← eS7, te_sI]; exact f2
          have f4 : tR S7 a0 13 = some b3 := by rw [← eS7, tR_sI]; exact f4
          have f6 : te S7 b3 = some (.inl (.boolean, n5)) := by rw [← eS7, te_sI]; exact f6
          refine tt_iconst (n := 0) (v := 0) (by decide +kernel) (by decide) ?_
          exact tt_iret (by decide +kernel) rfl ⟨hm, h⟩
        · have h := h.2 c
          refine tt_bipush (n := -2) (v := -2) (by decide +kernel) (by decide) ?_
          exact tt_iret (by decide +kernel) rfl ⟨hm, h⟩
      · have h := h.2 c
        refine tt_iconst (n := -1) (v := -1) (by decide +kernel) (by decide) ?_
        exact tt_iret (by decide +kernel) rfl ⟨hm, h⟩
set_option maxRecDepth 100000 in
theorem v_M_greet {G : pG} (a0 : Nat) (x1 : Int32) (S : TS) (Q : Option Value → TS → Prop)
    (h : ((x1 < 0 → Q (some (.int ((-1)))) S) ∧ (¬ (x1 < 0) → ((x1 ≤ 7 → te S a0 = some (.inr 11) ∧ ∃ b2 : Nat, tR S a0 13 = some b2 ∧ ∃ n4 : Nat, te S b2 = some (.inl (.boolean, n4)) ∧ vp_in x1 n4 ∧ ((¬ tI S b2 x1.toNatClampNeg = 0 → ∃ b6 : Nat, tR S a0 15 = some b6 ∧ ∃ n8 : Nat, te S b6 = some (.inl (.int, n8)) ∧ vp_in 0 n8 ∧ ((tI S b6 0 = 0 → CP G J_M_full [.ref a0, .int 0] S (fun r => ∃ r10 : Int32, r = some (.int r10) ∧ ((r10 = 0 → ∃ b11 : Nat, tR S a0 17 = some b11 ∧ C0 G J_M_randomTo [.ref a0, .int 0, .ref b11, .int 0] S (fun r S13 => r = none ∧ ∃ n14 : Nat, te S13 b11 = some (.inl (.byte, n14)) ∧ vp_in 32 n14 ∧ ∀ S16 : TS, S16 = sI S13 b11 (upd (tI S13 b11) 32 ((x1 : Int32).toInt8.toInt32 : Int32).toInt8.toInt32) → C0 G J_M_send [.ref a0, .int 0, .int 1, .int 33] S16 (fun r S17 => ∃ r18 : Int32, r = some (.int r18) ∧ T0 G J_M_greet 77 [(0, .ref a0), (1, .int x1), (2, .int r18), (3, .int 0)] [] S17 Q))) ∧ (¬ (r10 = 0) → Q (some (.int ((-3)))) S)))) ∧ (¬ (tI S b6 0 = 0) → Q (some (.int ((-5)))) S))) ∧ (tI S b2 x1.toNatClampNeg = 0 → Q (some (.int ((-2)))) S))) ∧ (¬ (x1 ≤ 7) → Q (some (.int ((-1)))) S))))) :
    C0 G J_M_greet [.ref a0, .int x1] S Q := by
  unfold C0
  refine ct_of (by decide +kernel) (Nat.le_of_ble_eq_true rfl) (lv := [(0, .ref a0), (1, .int x1)]) rfl ?_
  have hm : Sm0 S S := Sm0.rf S
  refine tt_iload_n (k0 := 1) (by decide +kernel) rfl ?_
  refine tt_if_lt (off := 9) 10 (by decide +kernel) (by decide) (fun c => ?_) (fun c => ?_)
  · have h := h.1 c
    refine tt_iconst (n := -1) (v := -1) (by decide +kernel) (by decide) ?_
    exact tt_iret (by decide +kernel) rfl ⟨hm, h⟩
  · have h := h.2 c
    refine tt_iload_n (k0 := 1) (by decide +kernel) rfl ?_
    refine tt_bipush (n := 7) (v := 7) (by decide +kernel) (by decide) ?_
    refine tt_icmp_le (off := 5) 12 (by decide +kernel) (by decide) (fun c => ?_) (fun c => ?_)
    · have h := h.1 c
      refine tt_aload_n (k0 := 0) (by decide +kernel) rfl ?_
      obtain ⟨f1, h⟩ := h
      obtain ⟨b2, f3, h⟩ := h
      refine tt_getR (k := 13) (by decide +kernel) KC_11 (by decide) w_878 (fun _ => rfl) f1 f3 ?_
      refine tt_iload_n (k0 := 1) (by decide +kernel) rfl ?_
      obtain ⟨n4, f5, h⟩ := h
      obtain ⟨g2, h⟩ := h
      refine tt_zald (by decide +kernel) f5 g2 ?_
      refine tt_if_ne (off := 6) 24 (by decide +kernel) (by decide) (fun c => ?_) (fun c => ?_)
      · have h := h.1 c
        refine tt_aload_n (k0 := 0) (by decide +kernel) rfl ?_
        obtain ⟨b6, f7, h⟩ := h
        refine tt_getR (k := 15) (by decide +kernel) KC_11 (by decide) w_880 (fun _ => rfl) f1 f7 ?_
        refine tt_iconst (n := 0) (v := 0) (by decide +kernel) (by decide) ?_
        obtain ⟨n8, f9, h⟩ := h
        obtain ⟨g2, h⟩ := h
        refine tt_iald (by decide +kernel) f9 g2 ?_
        show T G J_M_greet 30 [(0, .ref a0), (1, .int x1)] [.int (tI S b6 0)] S _
        refine tt_if_eq (off := 6) 36 (by decide +kernel) (by decide) (fun c => ?_) (fun c => ?_)
        · have h := h.1 c
          refine tt_aload_n (k0 := 0) (by decide +kernel) rfl ?_
          refine tt_iconst (n := 0) (v := 0) (by decide +kernel) (by decide) ?_
          refine tt_callV (As := [.int 0]) (rest := []) (ci := 11) (r0 := (R_11, F_11, 55)) (by decide +kernel) LK_M_full w_1088 w_1090 (in_p (n := 55) 33 rfl) (by decide) (by decide) rfl rfl (Nat.le_of_ble_eq_true rfl) rfl rfl f1 (ct_mono h (fun r Sb h => ?_))
          obtain ⟨eb, h⟩ := h
          obtain ⟨r10, rfl, h⟩ := h
          rw [eb]
          show T G J_M_greet 41 [(0, .ref a0), (1, .int x1)] [.int r10] S _
          refine tt_if_eq (off := 6) 47 (by decide +kernel) (by decide) (fun c => ?_) (fun c => ?_)
          · have h := h.1 c
            refine tt_aload_n (k0 := 0) (by decide +kernel) rfl ?_
            refine tt_iconst (n := 0) (v := 0) (by decide +kernel) (by decide) ?_
            refine tt_aload_n (k0 := 0) (by decide +kernel) rfl ?_
            obtain ⟨b11, f12, h⟩ := h
            refine tt_getR (k := 17) (by decide +kernel) KC_11 (by decide) w_882 (fun _ => rfl) f1 f12 ?_
            refine tt_iconst (n := 0) (v := 0) (by decide +kernel) (by decide) ?_
            refine tt_callV (As := [.int 0, .ref b11, .int 0]) (rest := []) (ci := 11) (r0 := (R_11, F_11, 55)) (by decide +kernel) LK_M_randomTo w_1092 w_1094 (in_p (n := 55) 34 rfl) (by decide) (by decide) rfl rfl (Nat.le_of_ble_eq_true rfl) rfl rfl f1 (ct_mono h (fun r S13 h => ?_))
            obtain ⟨hm2, h⟩ := h
            obtain ⟨rfl, h⟩ := h
            show T G J_M_greet 57 [(0, .ref a0), (1, .int x1)] [] S13 _
            have hm := hm.tr hm2
            have f1 : te S13 a0 = some (.inr 11) := by rw [hm2.1]; exact f1
            have f3 : tR S13 a0 13 = some b2 := by rw [hm2.R]; exact f3
            have f5 : te S13 b2 = some (.inl (.boolean, n4)) := by rw [hm2.1]; exact f5
            have f7 : tR S13 a0 15 = some b6 := by rw [hm2.R]; exact f7
            have f9 : te S13 b6 = some (.inl (.int, n8)) := by rw [hm2.1]; exact f9
            have f12 : tR S13 a0 17 = some b11 := by rw [hm2.R]; exact f12
            refine tt_aload_n (k0 := 0) (by decide +kernel) rfl ?_
            refine tt_getR (k := 17) (by decide +kernel) KC_11 (by decide) w_882 (fun _ => rfl) f1 f12 ?_
            refine tt_bipush (n := 32) (v := 32) (by decide +kernel) (by decide) ?_
            refine tt_iload_n (k0 := 1) (by decide +kernel) rfl ?_
            refine tt_i2b (by decide +kernel) ?_
            obtain ⟨n14, f15, h⟩ := h
            obtain ⟨g2, h⟩ := h
            refine tt_bast (by decide +kernel) f15 g2 ?_
            show T G J_M_greet 66 [(0, .ref a0), (1, .int x1)] [] (sI S13 b11 (upd (tI S13 b11) 32 ((x1 : Int32).toInt8.toInt32 : Int32).toInt8.toInt32)) _
            generalize eS16 : sI S13 b11 (upd (tI S13 b11) 32 ((x1 : Int32).toInt8.toInt32 : Int32).toInt8.toInt32) = S16
            have h := h S16 eS16.symm
            have hm : Sm0 S S16 := by rw [← eS16]; exact hm.I
            have f1 : te S16 a0 = some (.inr 11) := by rw [← eS16, te_sI]; exact f1
            have f3 : tR S16 a0 13 = some b2 := by rw [← eS16, tR_sI]; exact f3
            have f5 : te S16 b2 = some (.inl (.boolean, n4)) := by rw [← eS16, te_sI]; exact f5
            have f7 : tR S16 a0 15 = some b6 := by rw [← eS16, tR_sI]; exact f7
            have f9 : te S16 b6 = some (.inl (.int, n8)) := by rw [← eS16, te_sI]; exact f9
            have f12 : tR S16 a0 17 = some b11 := by rw [← eS16, tR_sI]; exact f12
            have f15 : te S16 b11 = some (.inl (.byte, n14)) := by rw [← eS16, te_sI]; exact f15
            refine tt_aload_n (k0 := 0) (by decide +kernel) rfl ?_
            refine tt_iconst (n := 0) (v := 0) (by decide +kernel) (by decide) ?_
            refine tt_iconst (n := 1) (v := 1) (by decide +kernel) (by decide) ?_
            refine tt_bipush (n := 33) (v := 33) (by decide +kernel) (by decide) ?_
            refine tt_callV (As := [.int 0, .int 1, .int 33]) (rest := []) (ci := 11) (r0 := (R_11, F_11, 55)) (by decide +kernel) LK_M_send w_1100 w_1102 (in_p (n := 55) 36 rfl) (by decide) (by decide) rfl rfl (Nat.le_of_ble_eq_true rfl) rfl rfl f1 (ct_mono h (fun r S17 h => ?_))
            obtain ⟨hm2, h⟩ := h
            obtain ⟨r18, rfl, h⟩ := h
            show T G J_M_greet 74 [(0, .ref a0), (1, .int x1)] [.int r18] S17 _
            have hm := hm.tr hm2
            have f1 : te S17 a0 = some (.inr 11) := by rw [hm2.1]; exact f1
            have f3 : tR S17 a0 13 = some b2 := by rw [hm2.R]; exact f3
            have f5 : te S17 b2 = some (.inl (.boolean, n4)) := by rw [hm2.1]; exact f5
            have f7 : tR S17 a0 15 = some b6 := by rw [hm2.R]; exact f7
            have f9 : te S17 b6 = some (.inl (.int, n8)) := by rw [hm2.1]; exact f9
            have f12 : tR S17 a0 17 = some b11 := by rw [hm2.R]; exact f12
            have f15 : te S17 b11 = some (.inl (.byte, n14)) := by rw [hm2.1]; exact f15
            refine tt_istore_n (k0 := 2) (lv' := [(0, .ref a0), (1, .int x1), (2, .int r18)]) (by decide +kernel) (by decide) rfl ?_
            refine tt_iconst (n := 0) (v := 0) (by decide +kernel) (by decide) ?_
            refine tt_istore_n (k0 := 3) (lv' := [(0, .ref a0), (1, .int x1), (2, .int r18), (3, .int 0)]) (by decide +kernel) (by decide) rfl ?_
            exact tt_mono h (fun r S' q => ⟨hm.tr q.1, q.2⟩)
          · have h := h.2 c
            refine tt_bipush (n := -3) (v := -3) (by decide +kernel) (by decide) ?_
            exact tt_iret (by decide +kernel) rfl ⟨hm, h⟩
        · have h := h.2 c
          refine tt_bipush (n := -5) (v := -5) (by decide +kernel) (by decide) ?_
          exact tt_iret (by decide +kernel) rfl ⟨hm, h⟩
      · have h := h.2 c
        refine tt_bipush (n := -2) (v := -2) (by decide +kernel) (by decide) ?_
        exact tt_iret (by decide +kernel) rfl ⟨hm, h⟩
    · have h := h.2 c
      refine tt_iconst (n := -1) (v := -1) (by decide +kernel) (by decide) ?_
      exact tt_iret (by decide +kernel) rfl ⟨hm, h⟩
set_option maxRecDepth 100000 in
theorem v_M_greet_77 {G : pG} (a0 : Nat) (x1 : Int32) (x2 : Int32) (x3 : Int32) (S : TS) (Q : Option Value → TS → Prop)
    (h : ((33 ≤ x3 → te S a0 = some (.inr 11) ∧ ∃ b2 : Nat, tR S a0 15 = some b2 ∧ ∃ n4 : Nat, te S b2 = some (.inl (.int, n4)) ∧ vp_in 0 n4 ∧ ∀ S6 : TS, S6 = sI S b2 (upd (tI S b2) 0 1) → Q (some (.int 0)) S6) ∧ (¬ (33 ≤ x3) → te S a0 = some (.inr 11) ∧ ∃ b8 : Nat, tR S a0 22 = some b8 ∧ ∃ b10 : Nat, tR S a0 17 = some b10 ∧ ∃ n12 : Nat, te S b10 = some (.inl (.byte, n12)) ∧ vp_in x3 n12 ∧ ∃ n14 : Nat, te S b8 = some (.inl (.byte, n14)) ∧ vp_in (x2 + x3) n14 ∧ ∀ S16 : TS, S16 = sI S b8 (upd (tI S b8) (x2 + x3).toNatClampNeg (tI S b10 x3.toNatClampNeg : Int32).toInt8.toInt32) → ∀ y17 : Int32, y17 = x3 + 1 → T0 G J_M_greet 77 [(0, .ref a0), (1, .int x1), (2, .int x2), (3, .int y17)] [] S16 Q))) :
    T0 G J_M_greet 77 [(0, .ref a0), (1, .int x1), (2, .int x2), (3, .int x3)] [] S Q := by
  unfold T0
  have hm : Sm0 S S := Sm0.rf S
  refine tt_iload_n (k0 := 3) (by decide +kernel) rfl ?_
  refine tt_bipush (n := 33) (v := 33) (by decide +kernel) (by decide) ?_
  refine tt_icmp_ge (off := 23) 103 (by decide +kernel) (by decide) (fun c => ?_) (fun c => ?_)
  · have h := h.1 c
    refine tt_aload_n (k0 := 0) (by decide +kernel) rfl ?_
    obtain ⟨f1, h⟩ := h
    obtain ⟨b2, f3, h⟩ := h
    refine tt_getR (k := 15) (by decide +kernel) KC_11 (by decide) w_880 (fun _ => rfl) f1 f3 ?_
    refine tt_iconst (n := 0) (v := 0) (by decide +kernel) (by decide) ?_
    refine tt_iconst (n := 1) (v := 1) (by decide +kernel) (by decide) ?_
    obtain ⟨n4, f5, h⟩ := h
    obtain ⟨g2, h⟩ := h
    refine tt_iast (by decide +kernel) f5 g2 ?_
    show T G J_M_greet 110 [(0, .ref a0), (1, .int x1), (2, .int x2), (3, .int x3)] [] (sI S b2 (upd (tI S b2) 0 1)) _
    generalize eS6 : sI S b2 (upd (tI S b2) 0 1) = S6
    have h := h S6 eS6.symm
    have hm : Sm0 S S6 := by rw [← eS6]; exact hm.I
    have f1 : te S6 a0 = some (.inr 11) := by rw [← eS6, te_sI]; exact f1
    have f3 : tR S6 a0 15 = some b2 := by rw [← eS6, tR_sI]; exact f3
    have f5 : te S6 b2 = some (.inl (.int, n4)) := by rw [← eS6, te_sI]; exact f5
    refine tt_iconst (n := 0) (v := 0) (by decide +kernel) (by decide) ?_
    exact tt_iret (by decide +kernel) rfl ⟨hm, h⟩
  · have h := h.2 c
    refine tt_aload_n (k0 := 0) (by decide +kernel) rfl ?_
    obtain ⟨f7, h⟩ := h
    obtain ⟨b8, f9, h⟩ := h
    refine tt_getR (k := 22) (by decide +kernel) KC_11 (by decide) w_887 (fun _ => rfl) f7 f9 ?_
    refine tt_iload_n (k0 := 2) (by decide +kernel) rfl ?_
    refine tt_iload_n (k0 := 3) (by decide +kernel) rfl ?_
    refine tt_iadd (by decide +kernel) ?_
    refine tt_aload_n (k0 := 0) (by decide +kernel) rfl ?_
    obtain ⟨b10, f11, h⟩ := h
    refine tt_getR (k := 17) (by decide +kernel) KC_11 (by decide) w_882 (fun _ => rfl) f7 f11 ?_
    refine tt_iload_n (k0 := 3) (by decide +kernel) rfl ?_
    obtain ⟨n12, f13, h⟩ := h
    obtain ⟨g2, h⟩ := h
    refine tt_bald (by decide +kernel) f13 g2 ?_
    obtain ⟨n14, f15, h⟩ := h
    obtain ⟨g2, h⟩ := h
    refine tt_bast (by decide +kernel) f15 g2 ?_
    generalize eS16 : sI S b8 (upd (tI S b8) (x2 + x3).toNatClampNeg (tI S b10 x3.toNatClampNeg : Int32).toInt8.toInt32) = S16
    have h := h S16 eS16.symm
    have hm : Sm0 S S16 := by rw [← eS16]; exact hm.I
    have f7 : te S16 a0 = some (.inr 11) := by rw [← eS16, te_sI]; exact f7
    have f9 : tR S16 a0 22 = some b8 := by rw [← eS16, tR_sI]; exact f9
    have f11 : tR S16 a0 17 = some b10 := by rw [← eS16, tR_sI]; exact f11
    have f13 : te S16 b10 = some (.inl (.byte, n12)) := by rw [← eS16, te_sI]; exact f13
    have f15 : te S16 b8 = some (.inl (.byte, n14)) := by rw [← eS16, te_sI]; exact f15
    obtain ⟨y17, ey17⟩ : ∃ y : Int32, y = x3 + 1 := ⟨_, rfl⟩
    have h := h y17 ey17
    refine tt_iinc (i := 3) (n := 1) (v := y17) (lv' := [(0, .ref a0), (1, .int x1), (2, .int x2), (3, .int y17)]) (by decide +kernel) (by decide) rfl ey17.symm rfl ?_
    refine tt_goto (off := -23) (tgt := 77) (by decide +kernel) (by decide) ?_
    exact tt_mono h (fun r S' q => ⟨hm.tr q.1, q.2⟩)
set_option maxRecDepth 100000 in
theorem v_M_full {G : pG} (a0 : Nat) (x1 : Int32) (S : TS) (Q : Option Value → Prop)
    (h : te S a0 = some (.inr 11) ∧ ∃ b2 : Nat, tR S a0 24 = some b2 ∧ ∃ n4 : Nat, te S b2 = some (.inl (.int, n4)) ∧ vp_in x1 n4 ∧ ((¬ tI S b2 x1.toNatClampNeg = 12 → Q (some (.int 0))) ∧ (tI S b2 x1.toNatClampNeg = 12 → Q (some (.int 1))))) :
    CP G J_M_full [.ref a0, .int x1] S Q := by
  unfold CP
  refine ct_of (by decide +kernel) (Nat.le_of_ble_eq_true rfl) (lv := [(0, .ref a0), (1, .int x1)]) rfl ?_
  refine tt_aload_n (k0 := 0) (by decide +kernel) rfl ?_
  obtain ⟨f1, h⟩ := h
  obtain ⟨b2, f3, h⟩ := h
  refine tt_getR (k := 24) (by decide +kernel) KC_11 (by decide) w_889 (fun _ => rfl) f1 f3 ?_
  refine tt_iload_n (k0 := 1) (by decide +kernel) rfl ?_
  obtain ⟨n4, f5, h⟩ := h
  obtain ⟨g2, h⟩ := h
  refine tt_iald (by decide +kernel) f5 g2 ?_
  refine tt_bipush (n := 12) (v := 12) (by decide +kernel) (by decide) ?_
  refine tt_icmp_ne (off := 7) 15 (by decide +kernel) (by decide) (fun c => ?_) (fun c => ?_)
  · have h := h.1 c
    refine tt_iconst (n := 0) (v := 0) (by decide +kernel) (by decide) ?_
    exact tt_zret (by decide +kernel) rfl rfl ⟨rfl, h⟩
  · have h := h.2 c
    refine tt_iconst (n := 1) (v := 1) (by decide +kernel) (by decide) ?_
    refine tt_goto (off := 4) (tgt := 16) (by decide +kernel) (by decide) ?_
    exact tt_zret (by decide +kernel) rfl rfl ⟨rfl, h⟩
set_option maxRecDepth 100000 in
theorem v_M_randomTo {G : pG} (a0 : Nat) (x1 : Int32) (a2 : Nat) (x3 : Int32) (S : TS) (Q : Option Value → TS → Prop)
    (h : te S a0 = some (.inr 11) ∧ ∀ S2 : TS, S2 = sI S a0 (upd (tI S a0) 6 0) → C0 G J_M_add_I [.ref a0, .int 82] S2 (fun r S3 => r = none ∧ C0 G J_M_add_I [.ref a0, .int x1] S3 (fun r S4 => r = none ∧ C0 G J_M_word [.ref a0, .int (tI S4 a0 4)] S4 (fun r S5 => r = none ∧ ∃ b6 : Nat, tR S5 a0 16 = some b6 ∧ ∃ n8 : Nat, te S5 b6 = some (.inl (.int, n8)) ∧ vp_in x1 n8 ∧ C0 G J_M_word [.ref a0, .int (tI S5 b6 x1.toNatClampNeg)] S5 (fun r S10 => r = none ∧ C0 G J_M_hashTo [.ref a0, .ref a2, .int x3] S10 (fun r S11 => r = none ∧ vp_in x1 n8 ∧ vp_in x1 n8 ∧ ∀ S12 : TS, S12 = sI S11 b6 (upd (tI S11 b6) x1.toNatClampNeg ((tI S11 b6 x1.toNatClampNeg) + (1 : Int32))) → Q none S12)))))) :
    C0 G J_M_randomTo [.ref a0, .int x1, .ref a2, .int x3] S Q := by
  unfold C0
  refine ct_of (by decide +kernel) (Nat.le_of_ble_eq_true rfl) (lv := [(0, .ref a0), (1, .int x1), (2, .ref a2), (3, .int x3)]) rfl ?_
  have hm : Sm0 S S := Sm0.rf S
  refine tt_aload_n (k0 := 0) (by decide +kernel) rfl ?_
  refine tt_iconst (n := 0) (v := 0) (by decide +kernel) (by decide) ?_
  obtain ⟨f1, h⟩ := h
  refine tt_putI (k := 6) (by decide +kernel) KC_11 (by decide) w_871 rfl rfl f1 ?_
  generalize eS2 : sI S a0 (upd (tI S a0) 6 0) = S2
  have h := h S2 eS2.symm
  have hm : Sm0 S S2 := by rw [← eS2]; exact hm.I
  have f1 : te S2 a0 = some (.inr 11) := by rw [← eS2, te_sI]; exact f1
  refine tt_aload_n (k0 := 0) (by decide +kernel) rfl ?_
  refine tt_bipush (n := 82) (v := 82) (by decide +kernel) (by decide) ?_
  refine tt_callV (As := [.int 82]) (rest := []) (ci := 11) (r0 := (R_11, F_11, 55)) (by decide +kernel) LK_M_add_I w_1060 w_1062 (in_p (n := 55) 30 rfl) (by decide) (by decide) rfl rfl (Nat.le_of_ble_eq_true rfl) rfl rfl f1 (ct_mono h (fun r S3 h => ?_))
  obtain ⟨hm2, h⟩ := h
  obtain ⟨rfl, h⟩ := h
  show T G J_M_randomTo 11 [(0, .ref a0), (1, .int x1), (2, .ref a2), (3, .int x3)] [] S3 _
  have hm := hm.tr hm2
  have f1 : te S3 a0 = some (.inr 11) := by rw [hm2.1]; exact f1
  refine tt_aload_n (k0 := 0) (by decide +kernel) rfl ?_
  refine tt_iload_n (k0 := 1) (by decide +kernel) rfl ?_
  refine tt_callV (As := [.int x1]) (rest := []) (ci := 11) (r0 := (R_11, F_11, 55)) (by decide +kernel) LK_M_add_I w_1060 w_1062 (in_p (n := 55) 30 rfl) (by decide) (by decide) rfl rfl (Nat.le_of_ble_eq_true rfl) rfl rfl f1 (ct_mono h (fun r S4 h => ?_))
  obtain ⟨hm2, h⟩ := h
  obtain ⟨rfl, h⟩ := h
  show T G J_M_randomTo 16 [(0, .ref a0), (1, .int x1), (2, .ref a2), (3, .int x3)] [] S4 _
  have hm := hm.tr hm2
  have f1 : te S4 a0 = some (.inr 11) := by rw [hm2.1]; exact f1
  refine tt_aload_n (k0 := 0) (by decide +kernel) rfl ?_
  refine tt_aload_n (k0 := 0) (by decide +kernel) rfl ?_
  refine tt_getI (k := 4) (by decide +kernel) KC_11 (by decide) w_869 (fun _ => rfl) f1 ?_
  refine tt_callV (As := [.int (tI S4 a0 4)]) (rest := []) (ci := 11) (r0 := (R_11, F_11, 55)) (by decide +kernel) LK_M_word w_1096 w_1098 (in_p (n := 55) 35 rfl) (by decide) (by decide) rfl rfl (Nat.le_of_ble_eq_true rfl) rfl rfl f1 (ct_mono h (fun r S5 h => ?_))
  obtain ⟨hm2, h⟩ := h
  obtain ⟨rfl, h⟩ := h
  show T G J_M_randomTo 24 [(0, .ref a0), (1, .int x1), (2, .ref a2), (3, .int x3)] [] S5 _
  have hm := hm.tr hm2
  have f1 : te S5 a0 = some (.inr 11) := by rw [hm2.1]; exact f1
  refine tt_aload_n (k0 := 0) (by decide +kernel) rfl ?_
  refine tt_aload_n (k0 := 0) (by decide +kernel) rfl ?_
  obtain ⟨b6, f7, h⟩ := h
  refine tt_getR (k := 16) (by decide +kernel) KC_11 (by decide) w_881 (fun _ => rfl) f1 f7 ?_
  refine tt_iload_n (k0 := 1) (by decide +kernel) rfl ?_
  obtain ⟨n8, f9, h⟩ := h
  obtain ⟨g2, h⟩ := h
  refine tt_iald (by decide +kernel) f9 g2 ?_
  refine tt_callV (As := [.int (tI S5 b6 x1.toNatClampNeg)]) (rest := []) (ci := 11) (r0 := (R_11, F_11, 55)) (by decide +kernel) LK_M_word w_1096 w_1098 (in_p (n := 55) 35 rfl) (by decide) (by decide) rfl rfl (Nat.le_of_ble_eq_true rfl) rfl rfl f1 (ct_mono h (fun r S10 h => ?_))
  obtain ⟨hm2, h⟩ := h
  obtain ⟨rfl, h⟩ := h
  show T G J_M_randomTo 34 [(0, .ref a0), (1, .int x1), (2, .ref a2), (3, .int x3)] [] S10 _
  have hm := hm.tr hm2
  have f1 : te S10 a0 = some (.inr 11) := by rw [hm2.1]; exact f1
  have f7 : tR S10 a0 16 = some b6 := by rw [hm2.R]; exact f7
  have f9 : te S10 b6 = some (.inl (.int, n8)) := by rw [hm2.1]; exact f9
  refine tt_aload_n (k0 := 0) (by decide +kernel) rfl ?_
  refine tt_aload_n (k0 := 2) (by decide +kernel) rfl ?_
  refine tt_iload_n (k0 := 3) (by decide +kernel) rfl ?_
  refine tt_callV (As := [.ref a2, .int x3]) (rest := []) (ci := 11) (r0 := (R_11, F_11, 55)) (by decide +kernel) LK_M_hashTo w_1064 w_1066 (in_p (n := 55) 31 rfl) (by decide) (by decide) rfl rfl (Nat.le_of_ble_eq_true rfl) rfl rfl f1 (ct_mono h (fun r S11 h => ?_))
  obtain ⟨hm2, h⟩ := h
  obtain ⟨rfl, h⟩ := h
  show T G J_M_randomTo 40 [(0, .ref a0), (1, .int x1), (2, .ref a2), (3, .int x3)] [] S11 _
  have hm := hm.tr hm2
  have f1 : te S11 a0 = some (.inr 11) := by rw [hm2.1]; exact f1
  have f7 : tR S11 a0 16 = some b6 := by rw [hm2.R]; exact f7
  have f9 : te S11 b6 = some (.inl (.int, n8)) := by rw [hm2.1]; exact f9
  refine tt_aload_n (k0 := 0) (by decide +kernel) rfl ?_
  refine tt_getR (k := 16) (by decide +kernel) KC_11 (by decide) w_881 (fun _ => rfl) f1 f7 ?_
  refine tt_iload_n (k0 := 1) (by decide +kernel) rfl ?_
  refine tt_dup2_11 (by decide +kernel) rfl rfl ?_
  obtain ⟨g2, h⟩ := h
  refine tt_iald (by decide +kernel) f9 g2 ?_
  refine tt_iconst (n := 1) (v := 1) (by decide +kernel) (by decide) ?_
  refine tt_iadd (by decide +kernel) ?_
  obtain ⟨g2, h⟩ := h
  refine tt_iast (by decide +kernel) f9 g2 ?_
  generalize eS12 : sI S11 b6 (upd (tI S11 b6) x1.toNatClampNeg ((tI S11 b6 x1.toNatClampNeg) + (1 : Int32))) = S12
  have h := h S12 eS12.symm
  have hm : Sm0 S S12 := by rw [← eS12]; exact hm.I
  have f1 : te S12 a0 = some (.inr 11) := by rw [← eS12, te_sI]; exact f1
  have f7 : tR S12 a0 16 = some b6 := by rw [← eS12, tR_sI]; exact f7
  have f9 : te S12 b6 = some (.inl (.int, n8)) := by rw [← eS12, te_sI]; exact f9
  exact tt_vret (by decide +kernel) rfl ⟨hm, h⟩
set_option maxRecDepth 100000 in
theorem v_M_word {G : pG} (a0 : Nat) (x1 : Int32) (S : TS) (Q : Option Value → TS → Prop)
    (h : T0 G J_M_word 3 [(0, .ref a0), (1, .int x1), (2, .int 24)] [] S Q) :
    C0 G J_M_word [.ref a0, .int x1] S Q := by
  unfold C0
  refine ct_of (by decide +kernel) (Nat.le_of_ble_eq_true rfl) (lv := [(0, .ref a0), (1, .int x1)]) rfl ?_
  have hm : Sm0 S S := Sm0.rf S
  refine tt_bipush (n := 24) (v := 24) (by decide +kernel) (by decide) ?_
  refine tt_istore_n (k0 := 2) (lv' := [(0, .ref a0), (1, .int x1), (2, .int 24)]) (by decide +kernel) (by decide) rfl ?_
  exact tt_mono h (fun r S' q => ⟨hm.tr q.1, q.2⟩)
set_option maxRecDepth 100000 in
theorem v_M_word_3 {G : pG} (a0 : Nat) (x1 : Int32) (x2 : Int32) (S : TS) (Q : Option Value → TS → Prop)
    (h : ((x2 < 0 → Q none S) ∧ (¬ (x2 < 0) → te S a0 = some (.inr 11) ∧ C0 G J_M_add_I [.ref a0, .int (x1 >>> (x2 &&& 31))] S (fun r S2 => r = none ∧ ∀ y3 : Int32, y3 = x2 + (-8) → T0 G J_M_word 3 [(0, .ref a0), (1, .int x1), (2, .int y3)] [] S2 Q)))) :
    T0 G J_M_word 3 [(0, .ref a0), (1, .int x1), (2, .int x2)] [] S Q := by
  unfold T0
  have hm : Sm0 S S := Sm0.rf S
  refine tt_iload_n (k0 := 2) (by decide +kernel) rfl ?_
  refine tt_if_lt (off := 16) 20 (by decide +kernel) (by decide) (fun c => ?_) (fun c => ?_)
  · have h := h.1 c
    exact tt_vret (by decide +kernel) rfl ⟨hm, h⟩
  · have h := h.2 c
    refine tt_aload_n (k0 := 0) (by decide +kernel) rfl ?_
    refine tt_iload_n (k0 := 1) (by decide +kernel) rfl ?_
    refine tt_iload_n (k0 := 2) (by decide +kernel) rfl ?_
    refine tt_ishr (by decide +kernel) ?_
    obtain ⟨f1, h⟩ := h
    refine tt_callV (As := [.int (x1 >>> (x2 &&& 31))]) (rest := []) (ci := 11) (r0 := (R_11, F_11, 55)) (by decide +kernel) LK_M_add_I w_1060 w_1062 (in_p (n := 55) 30 rfl) (by decide) (by decide) rfl rfl (Nat.le_of_ble_eq_true rfl) rfl rfl f1 (ct_mono h (fun r S2 h => ?_))
    obtain ⟨hm2, h⟩ := h
    obtain ⟨rfl, h⟩ := h
    show T G J_M_word 14 [(0, .ref a0), (1, .int x1), (2, .int x2)] [] S2 _
    have hm := hm.tr hm2
    have f1 : te S2 a0 = some (.inr 11) := by rw [hm2.1]; exact f1
    obtain ⟨y3, ey3⟩ : ∃ y : Int32, y = x2 + (-8) := ⟨_, rfl⟩
    have h := h y3 ey3
    refine tt_iinc (i := 2) (n := -8) (v := y3) (lv' := [(0, .ref a0), (1, .int x1), (2, .int y3)]) (by decide +kernel) (by decide) rfl (by rw [ey3]; exact congrArg (fun z => x2 + z) (by decide : Int32.ofInt (-8) = (-8))) rfl ?_
    refine tt_goto (off := -14) (tgt := 3) (by decide +kernel) (by decide) ?_
    exact tt_mono h (fun r S' q => ⟨hm.tr q.1, q.2⟩)
set_option maxRecDepth 100000 in
theorem v_M_send {G : pG} (a0 : Nat) (x1 : Int32) (x2 : Int32) (x3 : Int32) (S : TS) (Q : Option Value → TS → Prop)
    (h : te S a0 = some (.inr 11) ∧ ∃ b2 : Nat, tR S a0 24 = some b2 ∧ ∃ n4 : Nat, te S b2 = some (.inl (.int, n4)) ∧ vp_in x1 n4 ∧ ∀ y6 : Int32, y6 = tI S b2 x1.toNatClampNeg → CP G J_M_at [.ref a0, .int x1, .int y6] S (fun r => ∃ r7 : Int32, r = some (.int r7) ∧ ∃ b8 : Nat, tR S a0 22 = some b8 ∧ ∃ n10 : Nat, te S b8 = some (.inl (.byte, n10)) ∧ vp_in r7 n10 ∧ ∀ S12 : TS, S12 = sI S b8 (upd (tI S b8) r7.toNatClampNeg ((x2 : Int32).toInt8.toInt32 : Int32).toInt8.toInt32) → vp_in (r7 + (1 : Int32)) n10 ∧ ∀ S13 : TS, S13 = sI S12 b8 (upd (tI S12 b8) (r7 + (1 : Int32)).toNatClampNeg ((x3 >>> ((8 : Int32) &&& 31) : Int32).toInt8.toInt32 : Int32).toInt8.toInt32) → vp_in (r7 + (2 : Int32)) n10 ∧ ∀ S14 : TS, S14 = sI S13 b8 (upd (tI S13 b8) (r7 + (2 : Int32)).toNatClampNeg ((x3 : Int32).toInt8.toInt32 : Int32).toInt8.toInt32) → ∃ b15 : Nat, tR S14 a0 23 = some b15 ∧ ∃ n17 : Nat, te S14 b15 = some (.inl (.int, n17)) ∧ vp_in ((x1 * (12 : Int32)) + y6) n17 ∧ ∀ S19 : TS, S19 = sI S14 b15 (upd (tI S14 b15) ((x1 * (12 : Int32)) + y6).toNatClampNeg (x3 + (3 : Int32))) → vp_in x1 n4 ∧ vp_in x1 n4 ∧ ∀ S20 : TS, S20 = sI S19 b2 (upd (tI S19 b2) x1.toNatClampNeg ((tI S19 b2 x1.toNatClampNeg) + (1 : Int32))) → Q (some (.int (r7 + (3 : Int32)))) S20)) :
    C0 G J_M_send [.ref a0, .int x1, .int x2, .int x3] S Q := by
  unfold C0
  refine ct_of (by decide +kernel) (Nat.le_of_ble_eq_true rfl) (lv := [(0, .ref a0), (1, .int x1), (2, .int x2), (3, .int x3)]) rfl ?_
  have hm : Sm0 S S := Sm0.rf S
  refine tt_aload_n (k0 := 0) (by decide +kernel) rfl ?_
  obtain ⟨f1, h⟩ := h
  obtain ⟨b2, f3, h⟩ := h
  refine tt_getR (k := 24) (by decide +kernel) KC_11 (by decide) w_889 (fun _ => rfl) f1 f3 ?_
  refine tt_iload_n (k0 := 1) (by decide +kernel) rfl ?_
  obtain ⟨n4, f5, h⟩ := h
  obtain ⟨g2, h⟩ := h
  refine tt_iald (by decide +kernel) f5 g2 ?_
  refine tt_topi (fun y6 ey6 => ?_)
  have h := h y6 ey6
  refine tt_istore (k0 := 4) (lv' := [(0, .ref a0), (1, .int x1), (2, .int x2), (3, .int x3), (4, .int y6)]) (by decide +kernel) (by decide) rfl ?_
  refine tt_aload_n (k0 := 0) (by decide +kernel) rfl ?_
  refine tt_iload_n (k0 := 1) (by decide +kernel) rfl ?_
  refine tt_iload (k0 := 4) (by decide +kernel) rfl ?_
  refine tt_callV (As := [.int x1, .int y6]) (rest := []) (ci := 11) (r0 := (R_11, F_11, 55)) (by decide +kernel) LK_M_at w_1104 w_1106 (in_p (n := 55) 37 rfl) (by decide) (by decide) rfl rfl (Nat.le_of_ble_eq_true rfl) rfl rfl f1 (ct_mono h (fun r Sb h => ?_))
  obtain ⟨eb, h⟩ := h
  obtain ⟨r7, rfl, h⟩ := h
  rw [eb]
  show T G J_M_send 15 [(0, .ref a0), (1, .int x1), (2, .int x2), (3, .int x3), (4, .int y6)] [.int r7] S _
  refine tt_istore (k0 := 5) (lv' := [(0, .ref a0), (1, .int x1), (2, .int x2), (3, .int x3), (4, .int y6), (5, .int r7)]) (by decide +kernel) (by decide) rfl ?_
  refine tt_aload_n (k0 := 0) (by decide +kernel) rfl ?_
  obtain ⟨b8, f9, h⟩ := h
  refine tt_getR (k := 22) (by decide +kernel) KC_11 (by decide) w_887 (fun _ => rfl) f1 f9 ?_
  refine tt_iload (k0 := 5) (by decide +kernel) rfl ?_
  refine tt_iload_n (k0 := 2) (by decide +kernel) rfl ?_
  refine tt_i2b (by decide +kernel) ?_
  obtain ⟨n10, f11, h⟩ := h
  obtain ⟨g2, h⟩ := h
  refine tt_bast (by decide +kernel) f11 g2 ?_
  generalize eS12 : sI S b8 (upd (tI S b8) r7.toNatClampNeg ((x2 : Int32).toInt8.toInt32 : Int32).toInt8.toInt32) = S12
  have h := h S12 eS12.symm
  have hm : Sm0 S S12 := by rw [← eS12]; exact hm.I
  have f1 : te S12 a0 = some (.inr 11) := by rw [← eS12, te_sI]; exact f1
  have f3 : tR S12 a0 24 = some b2 := by rw [← eS12, tR_sI]; exact f3
  have f5 : te S12 b2 = some (.inl (.int, n4)) := by rw [← eS12, te_sI]; exact f5
  have f9 : tR S12 a0 22 = some b8 := by rw [← eS12, tR_sI]; exact f9
  have f11 : te S12 b8 = some (.inl (.byte, n10)) := by rw [← eS12, te_sI]; exact f11
  refine tt_aload_n (k0 := 0) (by decide +kernel) rfl ?_
  refine tt_getR (k := 22) (by decide +kernel) KC_11 (by decide) w_887 (fun _ => rfl) f1 f9 ?_
  refine tt_iload (k0 := 5) (by decide +kernel) rfl ?_
  refine tt_iconst (n := 1) (v := 1) (by decide +kernel) (by decide) ?_
  refine tt_iadd (by decide +kernel) ?_
  refine tt_iload_n (k0 := 3) (by decide +kernel) rfl ?_
  refine tt_bipush (n := 8) (v := 8) (by decide +kernel) (by decide) ?_
  refine tt_ishr (by decide +kernel) ?_
  refine tt_i2b (by decide +kernel) ?_
  obtain ⟨g2, h⟩ := h
  refine tt_bast (by decide +kernel) f11 g2 ?_
  generalize eS13 : sI S12 b8 (upd (tI S12 b8) (r7 + (1 : Int32)).toNatClampNeg ((x3 >>> ((8 : Int32) &&& 31) : Int32).toInt8.toInt32 : Int32).toInt8.toInt32) = S13
  have h := h S13 eS13.symm
  have hm : Sm0 S S13 := by rw [← eS13]; exact hm.I
  have f1 : te S13 a0 = some (.inr 11) := by rw [← eS13, te_sI]; exact f1
  have f3 : tR S13 a0 24 = some b2 := by rw [← eS13, tR_sI]; exact f3
  have f5 : te S13 b2 = some (.inl (.int, n4)) := by rw [← eS13, te_sI]; exact f5
  have f9 : tR S13 a0 22 = some b8 := by rw [← eS13, tR_sI]; exact f9
  have f11 : te S13 b8 = some (.inl (.byte, n10)) := by rw [← eS13, te_sI]; exact f11
  refine tt_aload_n (k0 := 0) (by decide +kernel) rfl ?_
  refine tt_getR (k := 22) (by decide +kernel) KC_11 (by decide) w_887 (fun _ => rfl) f1 f9 ?_
  refine tt_iload (k0 := 5) (by decide +kernel) rfl ?_
  refine tt_iconst (n := 2) (v := 2) (by decide +kernel) (by decide) ?_
  refine tt_iadd (by decide +kernel) ?_
  refine tt_iload_n (k0 := 3) (by decide +kernel) rfl ?_
  refine tt_i2b (by decide +kernel) ?_
  obtain ⟨g2, h⟩ := h
  refine tt_bast (by decide +kernel) f11 g2 ?_
  generalize eS14 : sI S13 b8 (upd (tI S13 b8) (r7 + (2 : Int32)).toNatClampNeg ((x3 : Int32).toInt8.toInt32 : Int32).toInt8.toInt32) = S14
  have h := h S14 eS14.symm
  have hm : Sm0 S S14 := by rw [← eS14]; exact hm.I
  have f1 : te S14 a0 = some (.inr 11) := by rw [← eS14, te_sI]; exact f1
  have f3 : tR S14 a0 24 = some b2 := by rw [← eS14, tR_sI]; exact f3
  have f5 : te S14 b2 = some (.inl (.int, n4)) := by rw [← eS14, te_sI]; exact f5
  have f9 : tR S14 a0 22 = some b8 := by rw [← eS14, tR_sI]; exact f9
  have f11 : te S14 b8 = some (.inl (.byte, n10)) := by rw [← eS14, te_sI]; exact f11
  refine tt_aload_n (k0 := 0) (by decide +kernel) rfl ?_
  obtain ⟨b15, f16, h⟩ := h
  refine tt_getR (k := 23) (by decide +kernel) KC_11 (by decide) w_888 (fun _ => rfl) f1 f16 ?_
  refine tt_iload_n (k0 := 1) (by decide +kernel) rfl ?_
  refine tt_bipush (n := 12) (v := 12) (by decide +kernel) (by decide) ?_
  refine tt_imul (by decide +kernel) ?_
  refine tt_iload (k0 := 4) (by decide +kernel) rfl ?_
  refine tt_iadd (by decide +kernel) ?_
  refine tt_iload_n (k0 := 3) (by decide +kernel) rfl ?_
  refine tt_iconst (n := 3) (v := 3) (by decide +kernel) (by decide) ?_
  refine tt_iadd (by decide +kernel) ?_
  obtain ⟨n17, f18, h⟩ := h
  obtain ⟨g2, h⟩ := h
  refine tt_iast (by decide +kernel) f18 g2 ?_
  generalize eS19 : sI S14 b15 (upd (tI S14 b15) ((x1 * (12 : Int32)) + y6).toNatClampNeg (x3 + (3 : Int32))) = S19
  have h := h S19 eS19.symm
  have hm : Sm0 S S19 := by rw [← eS19]; exact hm.I
  have f1 : te S19 a0 = some (.inr 11) := by rw [← eS19, te_sI]; exact f1
  have f3 : tR S19 a0 24 = some b2 := by rw [← eS19, tR_sI]; exact f3
  have f5 : te S19 b2 = some (.inl (.int, n4)) := by rw [← eS19, te_sI]; exact f5
  have f9 : tR S19 a0 22 = some b8 := by rw [← eS19, tR_sI]; exact f9
  have f11 : te S19 b8 = some (.inl (.byte, n10)) := by rw [← eS19, te_sI]; exact f11
  have f16 : tR S19 a0 23 = some b15 := by rw [← eS19, tR_sI]; exact f16
  have f18 : te S19 b15 = some (.inl (.int, n17)) := by rw [← eS19, te_sI]; exact f18
  refine tt_aload_n (k0 := 0) (by decide +kernel) rfl ?_
  refine tt_getR (k := 24) (by decide +kernel) KC_11 (by decide) w_889 (fun _ => rfl) f1 f3 ?_
  refine tt_iload_n (k0 := 1) (by decide +kernel) rfl ?_
  refine tt_dup2_11 (by decide +kernel) rfl rfl ?_
  obtain ⟨g2, h⟩ := h
  refine tt_iald (by decide +kernel) f5 g2 ?_
  refine tt_iconst (n := 1) (v := 1) (by decide +kernel) (by decide) ?_
  refine tt_iadd (by decide +kernel) ?_
  obtain ⟨g2, h⟩ := h
  refine tt_iast (by decide +kernel) f5 g2 ?_
  generalize eS20 : sI S19 b2 (upd (tI S19 b2) x1.toNatClampNeg ((tI S19 b2 x1.toNatClampNeg) + (1 : Int32))) = S20
  have h := h S20 eS20.symm
  have hm : Sm0 S S20 := by rw [← eS20]; exact hm.I
  have f1 : te S20 a0 = some (.inr 11) := by rw [← eS20, te_sI]; exact f1
  have f3 : tR S20 a0 24 = some b2 := by rw [← eS20, tR_sI]; exact f3
  have f5 : te S20 b2 = some (.inl (.int, n4)) := by rw [← eS20, te_sI]; exact f5
  have f9 : tR S20 a0 22 = some b8 := by rw [← eS20, tR_sI]; exact f9
  have f11 : te S20 b8 = some (.inl (.byte, n10)) := by rw [← eS20, te_sI]; exact f11
  have f16 : tR S20 a0 23 = some b15 := by rw [← eS20, tR_sI]; exact f16
  have f18 : te S20 b15 = some (.inl (.int, n17)) := by rw [← eS20, te_sI]; exact f18
  refine tt_iload (k0 := 5) (by decide +kernel) rfl ?_
  refine tt_iconst (n := 3) (v := 3) (by decide +kernel) (by decide) ?_
  refine tt_iadd (by decide +kernel) ?_
  exact tt_iret (by decide +kernel) rfl ⟨hm, h⟩
set_option maxRecDepth 100000 in
theorem v_M_at {G : pG} (a0 : Nat) (x1 : Int32) (x2 : Int32) (S : TS) (Q : Option Value → Prop)
    (h : Q (some (.int (((x1 * (12 : Int32)) + x2) * (200 : Int32))))) :
    CP G J_M_at [.ref a0, .int x1, .int x2] S Q := by
  unfold CP
  refine ct_of (by decide +kernel) (Nat.le_of_ble_eq_true rfl) (lv := [(0, .ref a0), (1, .int x1), (2, .int x2)]) rfl ?_
  refine tt_iload_n (k0 := 1) (by decide +kernel) rfl ?_
  refine tt_bipush (n := 12) (v := 12) (by decide +kernel) (by decide) ?_
  refine tt_imul (by decide +kernel) ?_
  refine tt_iload_n (k0 := 2) (by decide +kernel) rfl ?_
  refine tt_iadd (by decide +kernel) ?_
  refine tt_sipush (n := 200) (v := 200) (by decide +kernel) (by decide) ?_
  refine tt_imul (by decide +kernel) ?_
  exact tt_iret (by decide +kernel) rfl ⟨rfl, h⟩
set_option maxRecDepth 100000 in
theorem v_M_idle {G : pG} (a0 : Nat) (x1 : Int32) (S : TS) (Q : Option Value → TS → Prop)
    (h : CP G J_M_side [.int x1] S (fun r => ∃ r1 : Int32, r = some (.int r1) ∧ ((¬ r1 = 0 → te S a0 = some (.inr 11) ∧ ∃ b3 : Nat, tR S a0 15 = some b3 ∧ ∃ n5 : Nat, te S b3 = some (.inl (.int, n5)) ∧ vp_in x1 n5 ∧ ∀ S7 : TS, S7 = sI S b3 (upd (tI S b3) x1.toNatClampNeg 0) → Q (some (.int 0)) S7) ∧ (r1 = 0 → Q (some (.int ((-1)))) S)))) :
    C0 G J_M_idle [.ref a0, .int x1] S Q := by
  unfold C0
  refine ct_of (by decide +kernel) (Nat.le_of_ble_eq_true rfl) (lv := [(0, .ref a0), (1, .int x1)]) rfl ?_
  have hm : Sm0 S S := Sm0.rf S
  refine tt_iload_n (k0 := 1) (by decide +kernel) rfl ?_
  refine tt_callS (As := [.int x1]) (rest := []) (by decide +kernel) LK_M_side w_1053 w_1054 (by decide) (by decide) rfl rfl (Nat.le_of_ble_eq_true rfl) (ct_mono h (fun r Sb h => ?_))
  obtain ⟨eb, h⟩ := h
  obtain ⟨r1, rfl, h⟩ := h
  rw [eb]
  show T G J_M_idle 4 [(0, .ref a0), (1, .int x1)] [.int r1] S _
  refine tt_if_ne (off := 5) 9 (by decide +kernel) (by decide) (fun c => ?_) (fun c => ?_)
  · have h := h.1 c
    refine tt_aload_n (k0 := 0) (by decide +kernel) rfl ?_
    obtain ⟨f2, h⟩ := h
    obtain ⟨b3, f4, h⟩ := h
    refine tt_getR (k := 15) (by decide +kernel) KC_11 (by decide) w_880 (fun _ => rfl) f2 f4 ?_
    refine tt_iload_n (k0 := 1) (by decide +kernel) rfl ?_
    refine tt_iconst (n := 0) (v := 0) (by decide +kernel) (by decide) ?_
    obtain ⟨n5, f6, h⟩ := h
    obtain ⟨g2, h⟩ := h
    refine tt_iast (by decide +kernel) f6 g2 ?_
    generalize eS7 : sI S b3 (upd (tI S b3) x1.toNatClampNeg 0) = S7
    have h := h S7 eS7.symm
    have hm : Sm0 S S7 := by rw [← eS7]; exact hm.I
    have f2 : te S7 a0 = some (.inr 11) := by rw [← eS7, te_sI]; exact f2
    have f4 : tR S7 a0 15 = some b3 := by rw [← eS7, tR_sI]; exact f4
    have f6 : te S7 b3 = some (.inl (.int, n5)) := by rw [← eS7, te_sI]; exact f6
    refine tt_iconst (n := 0) (v := 0) (by decide +kernel) (by decide) ?_
    exact tt_iret (by decide +kernel) rfl ⟨hm, h⟩
  · have h := h.2 c
    refine tt_iconst (n := -1) (v := -1) (by decide +kernel) (by decide) ?_
    exact tt_iret (by decide +kernel) rfl ⟨hm, h⟩
set_option maxRecDepth 100000 in
theorem v_M_name {G : pG} (a0 : Nat) (S : TS) (Q : Option Value → TS → Prop)
    (h : te S a0 = some (.inr 11) ∧ ∀ y2 : Int32, y2 = tI S a0 1 → ∀ S3 : TS, S3 = sI S a0 (upd (tI S a0) 1 0) → ((y2 < 1 → Q (some (.int ((-1)))) S3) ∧ (¬ (y2 < 1) → ((y2 ≤ 16 → T0 G J_M_name 25 [(0, .ref a0), (1, .int y2), (2, .int 0)] [] S3 Q) ∧ (¬ (y2 ≤ 16) → Q (some (.int ((-1)))) S3))))) :
    C0 G J_M_name [.ref a0] S Q := by
  unfold C0
  refine ct_of (by decide +kernel) (Nat.le_of_ble_eq_true rfl) (lv := [(0, .ref a0)]) rfl ?_
  have hm : Sm0 S S := Sm0.rf S
  refine tt_aload_n (k0 := 0) (by decide +kernel) rfl ?_
  obtain ⟨f1, h⟩ := h
  refine tt_getI (k := 1) (by decide +kernel) KC_11 (by decide) w_866 (fun _ => rfl) f1 ?_
  refine tt_topi (fun y2 ey2 => ?_)
  have h := h y2 ey2
  refine tt_istore_n (k0 := 1) (lv' := [(0, .ref a0), (1, .int y2)]) (by decide +kernel) (by decide) rfl ?_
  refine tt_aload_n (k0 := 0) (by decide +kernel) rfl ?_
  refine tt_iconst (n := 0) (v := 0) (by decide +kernel) (by decide) ?_
  refine tt_putI (k := 1) (by decide +kernel) KC_11 (by decide) w_866 rfl rfl f1 ?_
  generalize eS3 : sI S a0 (upd (tI S a0) 1 0) = S3
  have h := h S3 eS3.symm
  have hm : Sm0 S S3 := by rw [← eS3]; exact hm.I
  have f1 : te S3 a0 = some (.inr 11) := by rw [← eS3, te_sI]; exact f1
  refine tt_iload_n (k0 := 1) (by decide +kernel) rfl ?_
  refine tt_iconst (n := 1) (v := 1) (by decide +kernel) (by decide) ?_
  refine tt_icmp_lt (off := 9) 21 (by decide +kernel) (by decide) (fun c => ?_) (fun c => ?_)
  · have h := h.1 c
    refine tt_iconst (n := -1) (v := -1) (by decide +kernel) (by decide) ?_
    exact tt_iret (by decide +kernel) rfl ⟨hm, h⟩
  · have h := h.2 c
    refine tt_iload_n (k0 := 1) (by decide +kernel) rfl ?_
    refine tt_bipush (n := 16) (v := 16) (by decide +kernel) (by decide) ?_
    refine tt_icmp_le (off := 5) 23 (by decide +kernel) (by decide) (fun c => ?_) (fun c => ?_)
    · have h := h.1 c
      refine tt_iconst (n := 0) (v := 0) (by decide +kernel) (by decide) ?_
      refine tt_istore_n (k0 := 2) (lv' := [(0, .ref a0), (1, .int y2), (2, .int 0)]) (by decide +kernel) (by decide) rfl ?_
      exact tt_mono h (fun r S' q => ⟨hm.tr q.1, q.2⟩)
    · have h := h.2 c
      refine tt_iconst (n := -1) (v := -1) (by decide +kernel) (by decide) ?_
      exact tt_iret (by decide +kernel) rfl ⟨hm, h⟩
set_option maxRecDepth 100000 in
theorem v_M_name_25 {G : pG} (a0 : Nat) (x1 : Int32) (x2 : Int32) (S : TS) (Q : Option Value → TS → Prop)
    (h : ((x1 ≤ x2 → te S a0 = some (.inr 11) ∧ ∀ S2 : TS, S2 = sI S a0 (upd (tI S a0) 26 x1) → Q (some (.int x1)) S2) ∧ (¬ (x1 ≤ x2) → te S a0 = some (.inr 11) ∧ ∃ b4 : Nat, tR S a0 25 = some b4 ∧ ∃ b6 : Nat, tR S a0 0 = some b6 ∧ ∃ n8 : Nat, te S b6 = some (.inl (.byte, n8)) ∧ vp_in x2 n8 ∧ ∃ n10 : Nat, te S b4 = some (.inl (.byte, n10)) ∧ vp_in x2 n10 ∧ ∀ S12 : TS, S12 = sI S b4 (upd (tI S b4) x2.toNatClampNeg (tI S b6 x2.toNatClampNeg : Int32).toInt8.toInt32) → ∀ y13 : Int32, y13 = x2 + 1 → T0 G J_M_name 25 [(0, .ref a0), (1, .int x1), (2, .int y13)] [] S12 Q))) :
    T0 G J_M_name 25 [(0, .ref a0), (1, .int x1), (2, .int x2)] [] S Q := by
  unfold T0
  have hm : Sm0 S S := Sm0.rf S
  refine tt_iload_n (k0 := 2) (by decide +kernel) rfl ?_
  refine tt_iload_n (k0 := 1) (by decide +kernel) rfl ?_
  refine tt_icmp_ge (off := 21) 48 (by decide +kernel) (by decide) (fun c => ?_) (fun c => ?_)
  · have h := h.1 c
    refine tt_aload_n (k0 := 0) (by decide +kernel) rfl ?_
    refine tt_iload_n (k0 := 1) (by decide +kernel) rfl ?_
    obtain ⟨f1, h⟩ := h
    refine tt_putI (k := 26) (by decide +kernel) KC_11 (by decide) w_891 rfl rfl f1 ?_
    generalize eS2 : sI S a0 (upd (tI S a0) 26 x1) = S2
    have h := h S2 eS2.symm
    have hm : Sm0 S S2 := by rw [← eS2]; exact hm.I
    have f1 : te S2 a0 = some (.inr 11) := by rw [← eS2, te_sI]; exact f1
    refine tt_iload_n (k0 := 1) (by decide +kernel) rfl ?_
    exact tt_iret (by decide +kernel) rfl ⟨hm, h⟩
  · have h := h.2 c
    refine tt_aload_n (k0 := 0) (by decide +kernel) rfl ?_
    obtain ⟨f3, h⟩ := h
    obtain ⟨b4, f5, h⟩ := h
    refine tt_getR (k := 25) (by decide +kernel) KC_11 (by decide) w_890 (fun _ => rfl) f3 f5 ?_
    refine tt_iload_n (k0 := 2) (by decide +kernel) rfl ?_
    refine tt_aload_n (k0 := 0) (by decide +kernel) rfl ?_
    obtain ⟨b6, f7, h⟩ := h
    refine tt_getR (k := 0) (by decide +kernel) KC_11 (by decide) w_865 (fun _ => rfl) f3 f7 ?_
    refine tt_iload_n (k0 := 2) (by decide +kernel) rfl ?_
    obtain ⟨n8, f9, h⟩ := h
    obtain ⟨g2, h⟩ := h
    refine tt_bald (by decide +kernel) f9 g2 ?_
    obtain ⟨n10, f11, h⟩ := h
    obtain ⟨g2, h⟩ := h
    refine tt_bast (by decide +kernel) f11 g2 ?_
    generalize eS12 : sI S b4 (upd (tI S b4) x2.toNatClampNeg (tI S b6 x2.toNatClampNeg : Int32).toInt8.toInt32) = S12
    have h := h S12 eS12.symm
    have hm : Sm0 S S12 := by rw [← eS12]; exact hm.I
    have f3 : te S12 a0 = some (.inr 11) := by rw [← eS12, te_sI]; exact f3
    have f5 : tR S12 a0 25 = some b4 := by rw [← eS12, tR_sI]; exact f5
    have f7 : tR S12 a0 0 = some b6 := by rw [← eS12, tR_sI]; exact f7
    have f9 : te S12 b6 = some (.inl (.byte, n8)) := by rw [← eS12, te_sI]; exact f9
    have f11 : te S12 b4 = some (.inl (.byte, n10)) := by rw [← eS12, te_sI]; exact f11
    obtain ⟨y13, ey13⟩ : ∃ y : Int32, y = x2 + 1 := ⟨_, rfl⟩
    have h := h y13 ey13
    refine tt_iinc (i := 2) (n := 1) (v := y13) (lv' := [(0, .ref a0), (1, .int x1), (2, .int y13)]) (by decide +kernel) (by decide) rfl ey13.symm rfl ?_
    refine tt_goto (off := -20) (tgt := 25) (by decide +kernel) (by decide) ?_
    exact tt_mono h (fun r S' q => ⟨hm.tr q.1, q.2⟩)
set_option maxRecDepth 100000 in
theorem v_M_request {G : pG} (a0 : Nat) (x1 : Int32) (S : TS) (Q : Option Value → TS → Prop)
    (h : te S a0 = some (.inr 11) ∧ ∀ y2 : Int32, y2 = tI S a0 1 → ∀ S3 : TS, S3 = sI S a0 (upd (tI S a0) 1 0) → ((x1 < 0 → Q (some (.int ((-1)))) S3) ∧ (¬ (x1 < 0) → ((4 < x1 → Q (some (.int ((-1)))) S3) ∧ (¬ (4 < x1) → ((64 < y2 → Q (some (.int ((-1)))) S3) ∧ (¬ (64 < y2) → ((x1 = 0 → ((y2 ≤ 0 → ∃ b4 : Nat, tR S3 a0 15 = some b4 ∧ ∃ n6 : Nat, te S3 b4 = some (.inl (.int, n6)) ∧ vp_in 0 n6 ∧ ((tI S3 b4 0 = 2 → CP G J_M_full [.ref a0, .int 0] S3 (fun r => ∃ r8 : Int32, r = some (.int r8) ∧ ((r8 = 0 → ∀ S9 : TS, S9 = sI S3 a0 (upd (tI S3 a0) 46 0) → C0 G J_M_say [.ref a0, .int 0] S9 (fun r S10 => r = none ∧ C0 G J_M_say [.ref a0, .int x1] S10 (fun r S11 => r = none ∧ C0 G J_M_say [.ref a0, .int (tI S11 a0 26)] S11 (fun r S12 => r = none ∧ T0 G J_M_request 89 [(0, .ref a0), (1, .int x1), (2, .int y2), (3, .int 0)] [] S12 Q)))) ∧ (¬ (r8 = 0) → Q (some (.int ((-3)))) S3)))) ∧ (¬ (tI S3 b4 0 = 2) → Q (some (.int ((-5)))) S3))) ∧ (¬ (y2 ≤ 0) → Q (some (.int ((-1)))) S3))) ∧ (¬ (x1 = 0) → ((¬ x1 = 2 → ∃ b13 : Nat, tR S3 a0 15 = some b13 ∧ ∃ n15 : Nat, te S3 b13 = some (.inl (.int, n15)) ∧ vp_in 0 n15 ∧ ((tI S3 b13 0 = 2 → CP G J_M_full [.ref a0, .int 0] S3 (fun r => ∃ r17 : Int32, r = some (.int r17) ∧ ((r17 = 0 → ∀ S18 : TS, S18 = sI S3 a0 (upd (tI S3 a0) 46 0) → C0 G J_M_say [.ref a0, .int 0] S18 (fun r S19 => r = none ∧ C0 G J_M_say [.ref a0, .int x1] S19 (fun r S20 => r = none ∧ C0 G J_M_say [.ref a0, .int (tI S20 a0 26)] S20 (fun r S21 => r = none ∧ T0 G J_M_request 89 [(0, .ref a0), (1, .int x1), (2, .int y2), (3, .int 0)] [] S21 Q)))) ∧ (¬ (r17 = 0) → Q (some (.int ((-3)))) S3)))) ∧ (¬ (tI S3 b13 0 = 2) → Q (some (.int ((-5)))) S3))) ∧ (x1 = 2 → ((y2 ≤ 0 → ∃ b22 : Nat, tR S3 a0 15 = some b22 ∧ ∃ n24 : Nat, te S3 b22 = some (.inl (.int, n24)) ∧ vp_in 0 n24 ∧ ((tI S3 b22 0 = 2 → CP G J_M_full [.ref a0, .int 0] S3 (fun r => ∃ r26 : Int32, r = some (.int r26) ∧ ((r26 = 0 → ∀ S27 : TS, S27 = sI S3 a0 (upd (tI S3 a0) 46 0) → C0 G J_M_say [.ref a0, .int 0] S27 (fun r S28 => r = none ∧ C0 G J_M_say [.ref a0, .int x1] S28 (fun r S29 => r = none ∧ C0 G J_M_say [.ref a0, .int (tI S29 a0 26)] S29 (fun r S30 => r = none ∧ T0 G J_M_request 89 [(0, .ref a0), (1, .int x1), (2, .int y2), (3, .int 0)] [] S30 Q)))) ∧ (¬ (r26 = 0) → Q (some (.int ((-3)))) S3)))) ∧ (¬ (tI S3 b22 0 = 2) → Q (some (.int ((-5)))) S3))) ∧ (¬ (y2 ≤ 0) → Q (some (.int ((-1)))) S3))))))))))))) :
    C0 G J_M_request [.ref a0, .int x1] S Q := by
  unfold C0
  refine ct_of (by decide +kernel) (Nat.le_of_ble_eq_true rfl) (lv := [(0, .ref a0), (1, .int x1)]) rfl ?_
  have hm : Sm0 S S := Sm0.rf S
  refine tt_aload_n (k0 := 0) (by decide +kernel) rfl ?_
  obtain ⟨f1, h⟩ := h
  refine tt_getI (k := 1) (by decide +kernel) KC_11 (by decide) w_866 (fun _ => rfl) f1 ?_
  refine tt_topi (fun y2 ey2 => ?_)
  have h := h y2 ey2
  refine tt_istore_n (k0 := 2) (lv' := [(0, .ref a0), (1, .int x1), (2, .int y2)]) (by decide +kernel) (by decide) rfl ?_
  refine tt_aload_n (k0 := 0) (by decide +kernel) rfl ?_
  refine tt_iconst (n := 0) (v := 0) (by decide +kernel) (by decide) ?_
  refine tt_putI (k := 1) (by decide +kernel) KC_11 (by decide) w_866 rfl rfl f1 ?_
  generalize eS3 : sI S a0 (upd (tI S a0) 1 0) = S3
  have h := h S3 eS3.symm
  have hm : Sm0 S S3 := by rw [← eS3]; exact hm.I
  have f1 : te S3 a0 = some (.inr 11) := by rw [← eS3, te_sI]; exact f1
  refine tt_iload_n (k0 := 1) (by decide +kernel) rfl ?_
  refine tt_if_lt (off := 27) 38 (by decide +kernel) (by decide) (fun c => ?_) (fun c => ?_)
  · have h := h.1 c
    refine tt_iconst (n := -1) (v := -1) (by decide +kernel) (by decide) ?_
    exact tt_iret (by decide +kernel) rfl ⟨hm, h⟩
  · have h := h.2 c
    refine tt_iload_n (k0 := 1) (by decide +kernel) rfl ?_
    refine tt_iconst (n := 4) (v := 4) (by decide +kernel) (by decide) ?_
    refine tt_icmp_gt (off := 22) 38 (by decide +kernel) (by decide) (fun c => ?_) (fun c => ?_)
    · have h := h.1 c
      refine tt_iconst (n := -1) (v := -1) (by decide +kernel) (by decide) ?_
      exact tt_iret (by decide +kernel) rfl ⟨hm, h⟩
    · have h := h.2 c
      refine tt_iload_n (k0 := 2) (by decide +kernel) rfl ?_
      refine tt_bipush (n := 64) (v := 64) (by decide +kernel) (by decide) ?_
      refine tt_icmp_gt (off := 16) 38 (by decide +kernel) (by decide) (fun c => ?_) (fun c => ?_)
      · have h := h.1 c
        refine tt_iconst (n := -1) (v := -1) (by decide +kernel) (by decide) ?_
        exact tt_iret (by decide +kernel) rfl ⟨hm, h⟩
      · have h := h.2 c
        refine tt_iload_n (k0 := 1) (by decide +kernel) rfl ?_
        refine tt_if_eq (off := 8) 34 (by decide +kernel) (by decide) (fun c => ?_) (fun c => ?_)
        · have h := h.1 c
          refine tt_iload_n (k0 := 2) (by decide +kernel) rfl ?_
          refine tt_if_le (off := 5) 40 (by decide +kernel) (by decide) (fun c => ?_) (fun c => ?_)
          · have h := h.1 c
            refine tt_aload_n (k0 := 0) (by decide +kernel) rfl ?_
            obtain ⟨b4, f5, h⟩ := h
            refine tt_getR (k := 15) (by decide +kernel) KC_11 (by decide) w_880 (fun _ => rfl) f1 f5 ?_
            refine tt_iconst (n := 0) (v := 0) (by decide +kernel) (by decide) ?_
            obtain ⟨n6, f7, h⟩ := h
            obtain ⟨g2, h⟩ := h
            refine tt_iald (by decide +kernel) f7 g2 ?_
            show T G J_M_request 46 [(0, .ref a0), (1, .int x1), (2, .int y2)] [.int (tI S3 b4 0)] S3 _
            refine tt_iconst (n := 2) (v := 2) (by decide +kernel) (by decide) ?_
            refine tt_icmp_eq (off := 6) 53 (by decide +kernel) (by decide) (fun c => ?_) (fun c => ?_)
            · have h := h.1 c
              refine tt_aload_n (k0 := 0) (by decide +kernel) rfl ?_
              refine tt_iconst (n := 0) (v := 0) (by decide +kernel) (by decide) ?_
              refine tt_callV (As := [.int 0]) (rest := []) (ci := 11) (r0 := (R_11, F_11, 55)) (by decide +kernel) LK_M_full w_1088 w_1090 (in_p (n := 55) 33 rfl) (by decide) (by decide) rfl rfl (Nat.le_of_ble_eq_true rfl) rfl rfl f1 (ct_mono h (fun r Sb h => ?_))
              obtain ⟨eb, h⟩ := h
              obtain ⟨r8, rfl, h⟩ := h
              rw [eb]
              show T G J_M_request 58 [(0, .ref a0), (1, .int x1), (2, .int y2)] [.int r8] S3 _
              refine tt_if_eq (off := 6) 64 (by decide +kernel) (by decide) (fun c => ?_) (fun c => ?_)
              · have h := h.1 c
                refine tt_aload_n (k0 := 0) (by decide +kernel) rfl ?_
                refine tt_iconst (n := 0) (v := 0) (by decide +kernel) (by decide) ?_
                refine tt_putI (k := 46) (by decide +kernel) KC_11 (by decide) w_911 rfl rfl f1 ?_
                generalize eS9 : sI S3 a0 (upd (tI S3 a0) 46 0) = S9
                have h := h S9 eS9.symm
                have hm : Sm0 S S9 := by rw [← eS9]; exact hm.I
                have f1 : te S9 a0 = some (.inr 11) := by rw [← eS9, te_sI]; exact f1
                have f5 : tR S9 a0 15 = some b4 := by rw [← eS9, tR_sI]; exact f5
                have f7 : te S9 b4 = some (.inl (.int, n6)) := by rw [← eS9, te_sI]; exact f7
                refine tt_aload_n (k0 := 0) (by decide +kernel) rfl ?_
                refine tt_iconst (n := 0) (v := 0) (by decide +kernel) (by decide) ?_
                refine tt_callV (As := [.int 0]) (rest := []) (ci := 11) (r0 := (R_11, F_11, 55)) (by decide +kernel) LK_M_say w_1120 w_1122 (in_p (n := 55) 38 rfl) (by decide) (by decide) rfl rfl (Nat.le_of_ble_eq_true rfl) rfl rfl f1 (ct_mono h (fun r S10 h => ?_))
                obtain ⟨hm2, h⟩ := h
                obtain ⟨rfl, h⟩ := h
                show T G J_M_request 74 [(0, .ref a0), (1, .int x1), (2, .int y2)] [] S10 _
                have hm := hm.tr hm2
                have f1 : te S10 a0 = some (.inr 11) := by rw [hm2.1]; exact f1
                have f5 : tR S10 a0 15 = some b4 := by rw [hm2.R]; exact f5
                have f7 : te S10 b4 = some (.inl (.int, n6)) := by rw [hm2.1]; exact f7
                refine tt_aload_n (k0 := 0) (by decide +kernel) rfl ?_
                refine tt_iload_n (k0 := 1) (by decide +kernel) rfl ?_
                refine tt_callV (As := [.int x1]) (rest := []) (ci := 11) (r0 := (R_11, F_11, 55)) (by decide +kernel) LK_M_say w_1120 w_1122 (in_p (n := 55) 38 rfl) (by decide) (by decide) rfl rfl (Nat.le_of_ble_eq_true rfl) rfl rfl f1 (ct_mono h (fun r S11 h => ?_))
                obtain ⟨hm2, h⟩ := h
                obtain ⟨rfl, h⟩ := h
                show T G J_M_request 79 [(0, .ref a0), (1, .int x1), (2, .int y2)] [] S11 _
                have hm := hm.tr hm2
                have f1 : te S11 a0 = some (.inr 11) := by rw [hm2.1]; exact f1
                have f5 : tR S11 a0 15 = some b4 := by rw [hm2.R]; exact f5
                have f7 : te S11 b4 = some (.inl (.int, n6)) := by rw [hm2.1]; exact f7
                refine tt_aload_n (k0 := 0) (by decide +kernel) rfl ?_
                refine tt_aload_n (k0 := 0) (by decide +kernel) rfl ?_
                refine tt_getI (k := 26) (by decide +kernel) KC_11 (by decide) w_891 (fun _ => rfl) f1 ?_
                refine tt_callV (As := [.int (tI S11 a0 26)]) (rest := []) (ci := 11) (r0 := (R_11, F_11, 55)) (by decide +kernel) LK_M_say w_1120 w_1122 (in_p (n := 55) 38 rfl) (by decide) (by decide) rfl rfl (Nat.le_of_ble_eq_true rfl) rfl rfl f1 (ct_mono h (fun r S12 h => ?_))
                obtain ⟨hm2, h⟩ := h
                obtain ⟨rfl, h⟩ := h
                show T G J_M_request 87 [(0, .ref a0), (1, .int x1), (2, .int y2)] [] S12 _
                have hm := hm.tr hm2
                have f1 : te S12 a0 = some (.inr 11) := by rw [hm2.1]; exact f1
                have f5 : tR S12 a0 15 = some b4 := by rw [hm2.R]; exact f5
                have f7 : te S12 b4 = some (.inl (.int, n6)) := by rw [hm2.1]; exact f7
                refine tt_iconst (n := 0) (v := 0) (by decide +kernel) (by decide) ?_
                refine tt_istore_n (k0 := 3) (lv' := [(0, .ref a0), (1, .int x1), (2, .int y2), (3, .int 0)]) (by decide +kernel) (by decide) rfl ?_
                exact tt_mono h (fun r S' q => ⟨hm.tr q.1, q.2⟩)
              · have h := h.2 c
                refine tt_bipush (n := -3) (v := -3) (by decide +kernel) (by decide) ?_
                exact tt_iret (by decide +kernel) rfl ⟨hm, h⟩
            · have h := h.2 c
              refine tt_bipush (n := -5) (v := -5) (by decide +kernel) (by decide) ?_
              exact tt_iret (by decide +kernel) rfl ⟨hm, h⟩
          · have h := h.2 c
            refine tt_iconst (n := -1) (v := -1) (by decide +kernel) (by decide) ?_
            exact tt_iret (by decide +kernel) rfl ⟨hm, h⟩
        · have h := h.2 c
          refine tt_iload_n (k0 := 1) (by decide +kernel) rfl ?_
          refine tt_iconst (n := 2) (v := 2) (by decide +kernel) (by decide) ?_
          refine tt_icmp_ne (off := 9) 40 (by decide +kernel) (by decide) (fun c => ?_) (fun c => ?_)
          · have h := h.1 c
            refine tt_aload_n (k0 := 0) (by decide +kernel) rfl ?_
            obtain ⟨b13, f14, h⟩ := h
            refine tt_getR (k := 15) (by decide +kernel) KC_11 (by decide) w_880 (fun _ => rfl) f1 f14 ?_
            refine tt_iconst (n := 0) (v := 0) (by decide +kernel) (by decide) ?_
            obtain ⟨n15, f16, h⟩ := h
            obtain ⟨g2, h⟩ := h
            refine tt_iald (by decide +kernel) f16 g2 ?_
            show T G J_M_request 46 [(0, .ref a0), (1, .int x1), (2, .int y2)] [.int (tI S3 b13 0)] S3 _
            refine tt_iconst (n := 2) (v := 2) (by decide +kernel) (by decide) ?_
            refine tt_icmp_eq (off := 6) 53 (by decide +kernel) (by decide) (fun c => ?_) (fun c => ?_)
            · have h := h.1 c
              refine tt_aload_n (k0 := 0) (by decide +kernel) rfl ?_
              refine tt_iconst (n := 0) (v := 0) (by decide +kernel) (by decide) ?_
              refine tt_callV (As := [.int 0]) (rest := []) (ci := 11) (r0 := (R_11, F_11, 55)) (by decide +kernel) LK_M_full w_1088 w_1090 (in_p (n := 55) 33 rfl) (by decide) (by decide) rfl rfl (Nat.le_of_ble_eq_true rfl) rfl rfl f1 (ct_mono h (fun r Sb h => ?_))
              obtain ⟨eb, h⟩ := h
              obtain ⟨r17, rfl, h⟩ := h
              rw [eb]
              show T G J_M_request 58 [(0, .ref a0), (1, .int x1), (2, .int y2)] [.int r17] S3 _
              refine tt_if_eq (off := 6) 64 (by decide +kernel) (by decide) (fun c => ?_) (fun c => ?_)
              · have h := h.1 c
                refine tt_aload_n (k0 := 0) (by decide +kernel) rfl ?_
                refine tt_iconst (n := 0) (v := 0) (by decide +kernel) (by decide) ?_
                refine tt_putI (k := 46) (by decide +kernel) KC_11 (by decide) w_911 rfl rfl f1 ?_
                generalize eS18 : sI S3 a0 (upd (tI S3 a0) 46 0) = S18
                have h := h S18 eS18.symm
                have hm : Sm0 S S18 := by rw [← eS18]; exact hm.I
                have f1 : te S18 a0 = some (.inr 11) := by rw [← eS18, te_sI]; exact f1
                have f14 : tR S18 a0 15 = some b13 := by rw [← eS18, tR_sI]; exact f14
                have f16 : te S18 b13 = some (.inl (.int, n15)) := by rw [← eS18, te_sI]; exact f16
                refine tt_aload_n (k0 := 0) (by decide +kernel) rfl ?_
                refine tt_iconst (n := 0) (v := 0) (by decide +kernel) (by decide) ?_
                refine tt_callV (As := [.int 0]) (rest := []) (ci := 11) (r0 := (R_11, F_11, 55)) (by decide +kernel) LK_M_say w_1120 w_1122 (in_p (n := 55) 38 rfl) (by decide) (by decide) rfl rfl (Nat.le_of_ble_eq_true rfl) rfl rfl f1 (ct_mono h (fun r S19 h => ?_))
                obtain ⟨hm2, h⟩ := h
                obtain ⟨rfl, h⟩ := h
                show T G J_M_request 74 [(0, .ref a0), (1, .int x1), (2, .int y2)] [] S19 _
                have hm := hm.tr hm2
                have f1 : te S19 a0 = some (.inr 11) := by rw [hm2.1]; exact f1
                have f14 : tR S19 a0 15 = some b13 := by rw [hm2.R]; exact f14
                have f16 : te S19 b13 = some (.inl (.int, n15)) := by rw [hm2.1]; exact f16
                refine tt_aload_n (k0 := 0) (by decide +kernel) rfl ?_
                refine tt_iload_n (k0 := 1) (by decide +kernel) rfl ?_
                refine tt_callV (As := [.int x1]) (rest := []) (ci := 11) (r0 := (R_11, F_11, 55)) (by decide +kernel) LK_M_say w_1120 w_1122 (in_p (n := 55) 38 rfl) (by decide) (by decide) rfl rfl (Nat.le_of_ble_eq_true rfl) rfl rfl f1 (ct_mono h (fun r S20 h => ?_))
                obtain ⟨hm2, h⟩ := h
                obtain ⟨rfl, h⟩ := h
                show T G J_M_request 79 [(0, .ref a0), (1, .int x1), (2, .int y2)] [] S20 _
                have hm := hm.tr hm2
                have f1 : te S20 a0 = some (.inr 11) := by rw [hm2.1]; exact f1
                have f14 : tR S20 a0 15 = some b13 := by rw [hm2.R]; exact f14
                have f16 : te S20 b13 = some (.inl (.int, n15)) := by rw [hm2.1]; exact f16
                refine tt_aload_n (k0 := 0) (by decide +kernel) rfl ?_
                refine tt_aload_n (k0 := 0) (by decide +kernel) rfl ?_
                refine tt_getI (k := 26) (by decide +kernel) KC_11 (by decide) w_891 (fun _ => rfl) f1 ?_
                refine tt_callV (As := [.int (tI S20 a0 26)]) (rest := []) (ci := 11) (r0 := (R_11, F_11, 55)) (by decide +kernel) LK_M_say w_1120 w_1122 (in_p (n := 55) 38 rfl) (by decide) (by decide) rfl rfl (Nat.le_of_ble_eq_true rfl) rfl rfl f1 (ct_mono h (fun r S21 h => ?_))
                obtain ⟨hm2, h⟩ := h
                obtain ⟨rfl, h⟩ := h
                show T G J_M_request 87 [(0, .ref a0), (1, .int x1), (2, .int y2)] [] S21 _
                have hm := hm.tr hm2
                have f1 : te S21 a0 = some (.inr 11) := by rw [hm2.1]; exact f1
                have f14 : tR S21 a0 15 = some b13 := by rw [hm2.R]; exact f14
                have f16 : te S21 b13 = some (.inl (.int, n15)) := by rw [hm2.1]; exact f16
                refine tt_iconst (n := 0) (v := 0) (by decide +kernel) (by decide) ?_
                refine tt_istore_n (k0 := 3) (lv' := [(0, .ref a0), (1, .int x1), (2, .int y2), (3, .int 0)]) (by decide +kernel) (by decide) rfl ?_
                exact tt_mono h (fun r S' q => ⟨hm.tr q.1, q.2⟩)
              · have h := h.2 c
                refine tt_bipush (n := -3) (v := -3) (by decide +kernel) (by decide) ?_
                exact tt_iret (by decide +kernel) rfl ⟨hm, h⟩
            · have h := h.2 c
              refine tt_bipush (n := -5) (v := -5) (by decide +kernel) (by decide) ?_
              exact tt_iret (by decide +kernel) rfl ⟨hm, h⟩
          · have h := h.2 c
            refine tt_iload_n (k0 := 2) (by decide +kernel) rfl ?_
            refine tt_if_le (off := 5) 40 (by decide +kernel) (by decide) (fun c => ?_) (fun c => ?_)
            · have h := h.1 c
              refine tt_aload_n (k0 := 0) (by decide +kernel) rfl ?_
              obtain ⟨b22, f23, h⟩ := h
              refine tt_getR (k := 15) (by decide +kernel) KC_11 (by decide) w_880 (fun _ => rfl) f1 f23 ?_
              refine tt_iconst (n := 0) (v := 0) (by decide +kernel) (by decide) ?_
              obtain ⟨n24, f25, h⟩ := h
              obtain ⟨g2, h⟩ := h
              refine tt_iald (by decide +kernel) f25 g2 ?_
              show T G J_M_request 46 [(0, .ref a0), (1, .int x1), (2, .int y2)] [.int (tI S3 b22 0)] S3 _
              refine tt_iconst (n := 2) (v := 2) (by decide +kernel) (by decide) ?_
              refine tt_icmp_eq (off := 6) 53 (by decide +kernel) (by decide) (fun c => ?_) (fun c => ?_)
              · have h := h.1 c
                refine tt_aload_n (k0 := 0) (by decide +kernel) rfl ?_
                refine tt_iconst (n := 0) (v := 0) (by decide +kernel) (by decide) ?_
                refine tt_callV (As := [.int 0]) (rest := []) (ci := 11) (r0 := (R_11, F_11, 55)) (by decide +kernel) LK_M_full w_1088 w_1090 (in_p (n := 55) 33 rfl) (by decide) (by decide) rfl rfl (Nat.le_of_ble_eq_true rfl) rfl rfl f1 (ct_mono h (fun r Sb h => ?_))
                obtain ⟨eb, h⟩ := h
                obtain ⟨r26, rfl, h⟩ := h
                rw [eb]
                show T G J_M_request 58 [(0, .ref a0), (1, .int x1), (2, .int y2)] [.int r26] S3 _
                refine tt_if_eq (off := 6) 64 (by decide +kernel) (by decide) (fun c => ?_) (fun c => ?_)
                · have h := h.1 c
                  refine tt_aload_n (k0 := 0) (by decide +kernel) rfl ?_
                  refine tt_iconst (n := 0) (v := 0) (by decide +kernel) (by decide) ?_
                  refine tt_putI (k := 46) (by decide +kernel) KC_11 (by decide) w_911 rfl rfl f1 ?_
                  generalize eS27 : sI S3 a0 (upd (tI S3 a0) 46 0) = S27
                  have h := h S27 eS27.symm
                  have hm : Sm0 S S27 := by rw [← eS27]; exact hm.I
                  have f1 : te S27 a0 = some (.inr 11) := by rw [← eS27, te_sI]; exact f1
                  have f23 : tR S27 a0 15 = some b22 := by rw [← eS27, tR_sI]; exact f23
                  have f25 : te S27 b22 = some (.inl (.int, n24)) := by rw [← eS27, te_sI]; exact f25
                  refine tt_aload_n (k0 := 0) (by decide +kernel) rfl ?_
                  refine tt_iconst (n := 0) (v := 0) (by decide +kernel) (by decide) ?_
                  refine tt_callV (As := [.int 0]) (rest := []) (ci := 11) (r0 := (R_11, F_11, 55)) (by decide +kernel) LK_M_say w_1120 w_1122 (in_p (n := 55) 38 rfl) (by decide) (by decide) rfl rfl (Nat.le_of_ble_eq_true rfl) rfl rfl f1 (ct_mono h (fun r S28 h => ?_))
                  obtain ⟨hm2, h⟩ := h
                  obtain ⟨rfl, h⟩ := h
                  show T G J_M_request 74 [(0, .ref a0), (1, .int x1), (2, .int y2)] [] S28 _
                  have hm := hm.tr hm2
                  have f1 : te S28 a0 = some (.inr 11) := by rw [hm2.1]; exact f1
                  have f23 : tR S28 a0 15 = some b22 := by rw [hm2.R]; exact f23
                  have f25 : te S28 b22 = some (.inl (.int, n24)) := by rw [hm2.1]; exact f25
                  refine tt_aload_n (k0 := 0) (by decide +kernel) rfl ?_
                  refine tt_iload_n (k0 := 1) (by decide +kernel) rfl ?_
                  refine tt_callV (As := [.int x1]) (rest := []) (ci := 11) (r0 := (R_11, F_11, 55)) (by decide +kernel) LK_M_say w_1120 w_1122 (in_p (n := 55) 38 rfl) (by decide) (by decide) rfl rfl (Nat.le_of_ble_eq_true rfl) rfl rfl f1 (ct_mono h (fun r S29 h => ?_))
                  obtain ⟨hm2, h⟩ := h
                  obtain ⟨rfl, h⟩ := h
                  show T G J_M_request 79 [(0, .ref a0), (1, .int x1), (2, .int y2)] [] S29 _
                  have hm := hm.tr hm2
                  have f1 : te S29 a0 = some (.inr 11) := by rw [hm2.1]; exact f1
                  have f23 : tR S29 a0 15 = some b22 := by rw [hm2.R]; exact f23
                  have f25 : te S29 b22 = some (.inl (.int, n24)) := by rw [hm2.1]; exact f25
                  refine tt_aload_n (k0 := 0) (by decide +kernel) rfl ?_
                  refine tt_aload_n (k0 := 0) (by decide +kernel) rfl ?_
                  refine tt_getI (k := 26) (by decide +kernel) KC_11 (by decide) w_891 (fun _ => rfl) f1 ?_
                  refine tt_callV (As := [.int (tI S29 a0 26)]) (rest := []) (ci := 11) (r0 := (R_11, F_11, 55)) (by decide +kernel) LK_M_say w_1120 w_1122 (in_p (n := 55) 38 rfl) (by decide) (by decide) rfl rfl (Nat.le_of_ble_eq_true rfl) rfl rfl f1 (ct_mono h (fun r S30 h => ?_))
                  obtain ⟨hm2, h⟩ := h
                  obtain ⟨rfl, h⟩ := h
                  show T G J_M_request 87 [(0, .ref a0), (1, .int x1), (2, .int y2)] [] S30 _
                  have hm := hm.tr hm2
                  have f1 : te S30 a0 = some (.inr 11) := by rw [hm2.1]; exact f1
                  have f23 : tR S30 a0 15 = some b22 := by rw [hm2.R]; exact f23
                  have f25 : te S30 b22 = some (.inl (.int, n24)) := by rw [hm2.1]; exact f25
                  refine tt_iconst (n := 0) (v := 0) (by decide +kernel) (by decide) ?_
                  refine tt_istore_n (k0 := 3) (lv' := [(0, .ref a0), (1, .int x1), (2, .int y2), (3, .int 0)]) (by decide +kernel) (by decide) rfl ?_
                  exact tt_mono h (fun r S' q => ⟨hm.tr q.1, q.2⟩)
                · have h := h.2 c
                  refine tt_bipush (n := -3) (v := -3) (by decide +kernel) (by decide) ?_
                  exact tt_iret (by decide +kernel) rfl ⟨hm, h⟩
              · have h := h.2 c
                refine tt_bipush (n := -5) (v := -5) (by decide +kernel) (by decide) ?_
                exact tt_iret (by decide +kernel) rfl ⟨hm, h⟩
            · have h := h.2 c
              refine tt_iconst (n := -1) (v := -1) (by decide +kernel) (by decide) ?_
              exact tt_iret (by decide +kernel) rfl ⟨hm, h⟩
set_option maxRecDepth 100000 in
theorem v_M_request_89 {G : pG} (a0 : Nat) (x1 : Int32) (x2 : Int32) (x3 : Int32) (S : TS) (Q : Option Value → TS → Prop)
    (h : te S a0 = some (.inr 11) ∧ ((tI S a0 26 ≤ x3 → T0 G J_M_request 115 [(0, .ref a0), (1, .int x1), (2, .int x2), (3, .int 0)] [] S Q) ∧ (¬ (tI S a0 26 ≤ x3) → ∃ b2 : Nat, tR S a0 25 = some b2 ∧ ∃ n4 : Nat, te S b2 = some (.inl (.byte, n4)) ∧ vp_in x3 n4 ∧ C0 G J_M_say [.ref a0, .int (tI S b2 x3.toNatClampNeg)] S (fun r S6 => r = none ∧ ∀ y7 : Int32, y7 = x3 + 1 → T0 G J_M_request 89 [(0, .ref a0), (1, .int x1), (2, .int x2), (3, .int y7)] [] S6 Q)))) :
    T0 G J_M_request 89 [(0, .ref a0), (1, .int x1), (2, .int x2), (3, .int x3)] [] S Q := by
  unfold T0
  have hm : Sm0 S S := Sm0.rf S
  refine tt_iload_n (k0 := 3) (by decide +kernel) rfl ?_
  refine tt_aload_n (k0 := 0) (by decide +kernel) rfl ?_
  obtain ⟨f1, h⟩ := h
  refine tt_getI (k := 26) (by decide +kernel) KC_11 (by decide) w_891 (fun _ => rfl) f1 ?_
  refine tt_icmp_ge (off := 19) 113 (by decide +kernel) (by decide) (fun c => ?_) (fun c => ?_)
  · have h := h.1 c
    refine tt_iconst (n := 0) (v := 0) (by decide +kernel) (by decide) ?_
    refine tt_istore_n (k0 := 3) (lv' := [(0, .ref a0), (1, .int x1), (2, .int x2), (3, .int 0)]) (by decide +kernel) (by decide) rfl ?_
    exact tt_mono h (fun r S' q => ⟨hm.tr q.1, q.2⟩)
  · have h := h.2 c
    refine tt_aload_n (k0 := 0) (by decide +kernel) rfl ?_
    refine tt_aload_n (k0 := 0) (by decide +kernel) rfl ?_
    obtain ⟨b2, f3, h⟩ := h
    refine tt_getR (k := 25) (by decide +kernel) KC_11 (by decide) w_890 (fun _ => rfl) f1 f3 ?_
    refine tt_iload_n (k0 := 3) (by decide +kernel) rfl ?_
    obtain ⟨n4, f5, h⟩ := h
    obtain ⟨g2, h⟩ := h
    refine tt_bald (by decide +kernel) f5 g2 ?_
    refine tt_callV (As := [.int (tI S b2 x3.toNatClampNeg)]) (rest := []) (ci := 11) (r0 := (R_11, F_11, 55)) (by decide +kernel) LK_M_say w_1120 w_1122 (in_p (n := 55) 38 rfl) (by decide) (by decide) rfl rfl (Nat.le_of_ble_eq_true rfl) rfl rfl f1 (ct_mono h (fun r S6 h => ?_))
    obtain ⟨hm2, h⟩ := h
    obtain ⟨rfl, h⟩ := h
    show T G J_M_request 107 [(0, .ref a0), (1, .int x1), (2, .int x2), (3, .int x3)] [] S6 _
    have hm := hm.tr hm2
    have f1 : te S6 a0 = some (.inr 11) := by rw [hm2.1]; exact f1
    have f3 : tR S6 a0 25 = some b2 := by rw [hm2.R]; exact f3
    have f5 : te S6 b2 = some (.inl (.byte, n4)) := by rw [hm2.1]; exact f5
    obtain ⟨y7, ey7⟩ : ∃ y : Int32, y = x3 + 1 := ⟨_, rfl⟩
    have h := h y7 ey7
    refine tt_iinc (i := 3) (n := 1) (v := y7) (lv' := [(0, .ref a0), (1, .int x1), (2, .int x2), (3, .int y7)]) (by decide +kernel) (by decide) rfl ey7.symm rfl ?_
    refine tt_goto (off := -21) (tgt := 89) (by decide +kernel) (by decide) ?_
    exact tt_mono h (fun r S' q => ⟨hm.tr q.1, q.2⟩)
set_option maxRecDepth 100000 in
theorem v_M_request_115 {G : pG} (a0 : Nat) (x1 : Int32) (x2 : Int32) (x3 : Int32) (S : TS) (Q : Option Value → TS → Prop)
    (h : ((x2 ≤ x3 → te S a0 = some (.inr 11) ∧ C0 G J_M_sendSealed [.ref a0, .int 0] S (fun r S2 => r = none ∧ Q (some (.int 0)) S2)) ∧ (¬ (x2 ≤ x3) → te S a0 = some (.inr 11) ∧ ∃ b4 : Nat, tR S a0 0 = some b4 ∧ ∃ n6 : Nat, te S b4 = some (.inl (.byte, n6)) ∧ vp_in x3 n6 ∧ C0 G J_M_say [.ref a0, .int (tI S b4 x3.toNatClampNeg)] S (fun r S8 => r = none ∧ ∀ y9 : Int32, y9 = x3 + 1 → T0 G J_M_request 115 [(0, .ref a0), (1, .int x1), (2, .int x2), (3, .int y9)] [] S8 Q)))) :
    T0 G J_M_request 115 [(0, .ref a0), (1, .int x1), (2, .int x2), (3, .int x3)] [] S Q := by
  unfold T0
  have hm : Sm0 S S := Sm0.rf S
  refine tt_iload_n (k0 := 3) (by decide +kernel) rfl ?_
  refine tt_iload_n (k0 := 2) (by decide +kernel) rfl ?_
  refine tt_icmp_ge (off := 19) 136 (by decide +kernel) (by decide) (fun c => ?_) (fun c => ?_)
  · have h := h.1 c
    refine tt_aload_n (k0 := 0) (by decide +kernel) rfl ?_
    refine tt_iconst (n := 0) (v := 0) (by decide +kernel) (by decide) ?_
    obtain ⟨f1, h⟩ := h
    refine tt_callV (As := [.int 0]) (rest := []) (ci := 11) (r0 := (R_11, F_11, 55)) (by decide +kernel) LK_M_sendSealed w_1124 w_1126 (in_p (n := 55) 39 rfl) (by decide) (by decide) rfl rfl (Nat.le_of_ble_eq_true rfl) rfl rfl f1 (ct_mono h (fun r S2 h => ?_))
    obtain ⟨hm2, h⟩ := h
    obtain ⟨rfl, h⟩ := h
    show T G J_M_request 141 [(0, .ref a0), (1, .int x1), (2, .int x2), (3, .int x3)] [] S2 _
    have hm := hm.tr hm2
    have f1 : te S2 a0 = some (.inr 11) := by rw [hm2.1]; exact f1
    refine tt_iconst (n := 0) (v := 0) (by decide +kernel) (by decide) ?_
    exact tt_iret (by decide +kernel) rfl ⟨hm, h⟩
  · have h := h.2 c
    refine tt_aload_n (k0 := 0) (by decide +kernel) rfl ?_
    refine tt_aload_n (k0 := 0) (by decide +kernel) rfl ?_
    obtain ⟨f3, h⟩ := h
    obtain ⟨b4, f5, h⟩ := h
    refine tt_getR (k := 0) (by decide +kernel) KC_11 (by decide) w_865 (fun _ => rfl) f3 f5 ?_
    refine tt_iload_n (k0 := 3) (by decide +kernel) rfl ?_
    obtain ⟨n6, f7, h⟩ := h
    obtain ⟨g2, h⟩ := h
    refine tt_bald (by decide +kernel) f7 g2 ?_
    refine tt_callV (As := [.int (tI S b4 x3.toNatClampNeg)]) (rest := []) (ci := 11) (r0 := (R_11, F_11, 55)) (by decide +kernel) LK_M_say w_1120 w_1122 (in_p (n := 55) 38 rfl) (by decide) (by decide) rfl rfl (Nat.le_of_ble_eq_true rfl) rfl rfl f3 (ct_mono h (fun r S8 h => ?_))
    obtain ⟨hm2, h⟩ := h
    obtain ⟨rfl, h⟩ := h
    show T G J_M_request 130 [(0, .ref a0), (1, .int x1), (2, .int x2), (3, .int x3)] [] S8 _
    have hm := hm.tr hm2
    have f3 : te S8 a0 = some (.inr 11) := by rw [hm2.1]; exact f3
    have f5 : tR S8 a0 0 = some b4 := by rw [hm2.R]; exact f5
    have f7 : te S8 b4 = some (.inl (.byte, n6)) := by rw [hm2.1]; exact f7
    obtain ⟨y9, ey9⟩ : ∃ y : Int32, y = x3 + 1 := ⟨_, rfl⟩
    have h := h y9 ey9
    refine tt_iinc (i := 3) (n := 1) (v := y9) (lv' := [(0, .ref a0), (1, .int x1), (2, .int x2), (3, .int y9)]) (by decide +kernel) (by decide) rfl ey9.symm rfl ?_
    refine tt_goto (off := -18) (tgt := 115) (by decide +kernel) (by decide) ?_
    exact tt_mono h (fun r S' q => ⟨hm.tr q.1, q.2⟩)
set_option maxRecDepth 100000 in
theorem v_M_say {G : pG} (a0 : Nat) (x1 : Int32) (S : TS) (Q : Option Value → TS → Prop)
    (h : te S a0 = some (.inr 11) ∧ ∃ b2 : Nat, tR S a0 45 = some b2 ∧ ∃ n4 : Nat, te S b2 = some (.inl (.byte, n4)) ∧ vp_in (tI S a0 46) n4 ∧ ∀ S6 : TS, S6 = sI S b2 (upd (tI S b2) (tI S a0 46).toNatClampNeg ((x1 : Int32).toInt8.toInt32 : Int32).toInt8.toInt32) → ∀ S7 : TS, S7 = sI S6 a0 (upd (tI S6 a0) 46 ((tI S6 a0 46) + (1 : Int32))) → Q none S7) :
    C0 G J_M_say [.ref a0, .int x1] S Q := by
  unfold C0
  refine ct_of (by decide +kernel) (Nat.le_of_ble_eq_true rfl) (lv := [(0, .ref a0), (1, .int x1)]) rfl ?_
  have hm : Sm0 S S := Sm0.rf S
  refine tt_aload_n (k0 := 0) (by decide +kernel) rfl ?_
  obtain ⟨f1, h⟩ := h
  obtain ⟨b2, f3, h⟩ := h
  refine tt_getR (k := 45) (by decide +kernel) KC_11 (by decide) w_910 (fun _ => rfl) f1 f3 ?_
  refine tt_aload_n (k0 := 0) (by decide +kernel) rfl ?_
  refine tt_getI (k := 46) (by decide +kernel) KC_11 (by decide) w_911 (fun _ => rfl) f1 ?_
  refine tt_iload_n (k0 := 1) (by decide +kernel) rfl ?_
  refine tt_i2b (by decide +kernel) ?_
  obtain ⟨n4, f5, h⟩ := h
  obtain ⟨g2, h⟩ := h
  refine tt_bast (by decide +kernel) f5 g2 ?_
  generalize eS6 : sI S b2 (upd (tI S b2) (tI S a0 46).toNatClampNeg ((x1 : Int32).toInt8.toInt32 : Int32).toInt8.toInt32) = S6
  have h := h S6 eS6.symm
  have hm : Sm0 S S6 := by rw [← eS6]; exact hm.I
  have f1 : te S6 a0 = some (.inr 11) := by rw [← eS6, te_sI]; exact f1
  have f3 : tR S6 a0 45 = some b2 := by rw [← eS6, tR_sI]; exact f3
  have f5 : te S6 b2 = some (.inl (.byte, n4)) := by rw [← eS6, te_sI]; exact f5
  refine tt_aload_n (k0 := 0) (by decide +kernel) rfl ?_
  refine tt_dup (by decide +kernel) rfl ?_
  refine tt_getI (k := 46) (by decide +kernel) KC_11 (by decide) w_911 (fun _ => rfl) f1 ?_
  refine tt_iconst (n := 1) (v := 1) (by decide +kernel) (by decide) ?_
  refine tt_iadd (by decide +kernel) ?_
  refine tt_putI (k := 46) (by decide +kernel) KC_11 (by decide) w_911 rfl rfl f1 ?_
  generalize eS7 : sI S6 a0 (upd (tI S6 a0) 46 ((tI S6 a0 46) + (1 : Int32))) = S7
  have h := h S7 eS7.symm
  have hm : Sm0 S S7 := by rw [← eS7]; exact hm.I
  have f1 : te S7 a0 = some (.inr 11) := by rw [← eS7, te_sI]; exact f1
  have f3 : tR S7 a0 45 = some b2 := by rw [← eS7, tR_sI]; exact f3
  have f5 : te S7 b2 = some (.inl (.byte, n4)) := by rw [← eS7, te_sI]; exact f5
  exact tt_vret (by decide +kernel) rfl ⟨hm, h⟩
set_option maxRecDepth 100000 in
theorem v_M_sendSealed {G : pG} (a0 : Nat) (x1 : Int32) (S : TS) (Q : Option Value → TS → Prop)
    (h : ∀ y1 : Int32, y1 = ((2 : Int32) * x1) + x1 → te S a0 = some (.inr 11) ∧ C0 G J_M_send [.ref a0, .int x1, .int 4, .int ((tI S a0 46) + (16 : Int32))] S (fun r S3 => ∃ r4 : Int32, r = some (.int r4) ∧ T0 G J_M_sendSealed 23 [(0, .ref a0), (1, .int x1), (2, .int y1), (3, .int r4), (4, .int 0)] [] S3 Q)) :
    C0 G J_M_sendSealed [.ref a0, .int x1] S Q := by
  unfold C0
  refine ct_of (by decide +kernel) (Nat.le_of_ble_eq_true rfl) (lv := [(0, .ref a0), (1, .int x1)]) rfl ?_
  have hm : Sm0 S S := Sm0.rf S
  refine tt_iconst (n := 2) (v := 2) (by decide +kernel) (by decide) ?_
  refine tt_iload_n (k0 := 1) (by decide +kernel) rfl ?_
  refine tt_imul (by decide +kernel) ?_
  refine tt_iload_n (k0 := 1) (by decide +kernel) rfl ?_
  refine tt_iadd (by decide +kernel) ?_
  refine tt_topi (fun y1 ey1 => ?_)
  have h := h y1 ey1
  refine tt_istore_n (k0 := 2) (lv' := [(0, .ref a0), (1, .int x1), (2, .int y1)]) (by decide +kernel) (by decide) rfl ?_
  refine tt_aload_n (k0 := 0) (by decide +kernel) rfl ?_
  refine tt_iload_n (k0 := 1) (by decide +kernel) rfl ?_
  refine tt_iconst (n := 4) (v := 4) (by decide +kernel) (by decide) ?_
  refine tt_aload_n (k0 := 0) (by decide +kernel) rfl ?_
  obtain ⟨f2, h⟩ := h
  refine tt_getI (k := 46) (by decide +kernel) KC_11 (by decide) w_911 (fun _ => rfl) f2 ?_
  refine tt_bipush (n := 16) (v := 16) (by decide +kernel) (by decide) ?_
  refine tt_iadd (by decide +kernel) ?_
  refine tt_callV (As := [.int x1, .int 4, .int ((tI S a0 46) + (16 : Int32))]) (rest := []) (ci := 11) (r0 := (R_11, F_11, 55)) (by decide +kernel) LK_M_send w_1100 w_1102 (in_p (n := 55) 36 rfl) (by decide) (by decide) rfl rfl (Nat.le_of_ble_eq_true rfl) rfl rfl f2 (ct_mono h (fun r S3 h => ?_))
  obtain ⟨hm2, h⟩ := h
  obtain ⟨r4, rfl, h⟩ := h
  show T G J_M_sendSealed 19 [(0, .ref a0), (1, .int x1), (2, .int y1)] [.int r4] S3 _
  have hm := hm.tr hm2
  have f2 : te S3 a0 = some (.inr 11) := by rw [hm2.1]; exact f2
  refine tt_istore_n (k0 := 3) (lv' := [(0, .ref a0), (1, .int x1), (2, .int y1), (3, .int r4)]) (by decide +kernel) (by decide) rfl ?_
  refine tt_iconst (n := 0) (v := 0) (by decide +kernel) (by decide) ?_
  refine tt_istore (k0 := 4) (lv' := [(0, .ref a0), (1, .int x1), (2, .int y1), (3, .int r4), (4, .int 0)]) (by decide +kernel) (by decide) rfl ?_
  exact tt_mono h (fun r S' q => ⟨hm.tr q.1, q.2⟩)
set_option maxRecDepth 100000 in
theorem v_M_sendSealed_23 {G : pG} (a0 : Nat) (x1 : Int32) (x2 : Int32) (x3 : Int32) (x4 : Int32) (S : TS) (Q : Option Value → TS → Prop)
    (h : te S a0 = some (.inr 11) ∧ ((tI S a0 46 ≤ x4 → ∃ b2 : Nat, tR S a0 22 = some b2 ∧ C0 G J_M_cover [.ref a0, .ref b2, .int x3, .int (tI S a0 46), .int x2] S (fun r S4 => r = none ∧ C0 G J_M_tagRecord [.ref a0, .ref b2, .int (x3 - (3 : Int32)), .int (tI S4 a0 46), .int x2] S4 (fun r S5 => r = none ∧ T0 G J_M_sendSealed 87 [(0, .ref a0), (1, .int x1), (2, .int x2), (3, .int x3), (4, .int 0)] [] S5 Q))) ∧ (¬ (tI S a0 46 ≤ x4) → ∃ b6 : Nat, tR S a0 22 = some b6 ∧ ∃ b8 : Nat, tR S a0 45 = some b8 ∧ ∃ n10 : Nat, te S b8 = some (.inl (.byte, n10)) ∧ vp_in x4 n10 ∧ ∃ n12 : Nat, te S b6 = some (.inl (.byte, n12)) ∧ vp_in (x3 + x4) n12 ∧ ∀ S14 : TS, S14 = sI S b6 (upd (tI S b6) (x3 + x4).toNatClampNeg (tI S b8 x4.toNatClampNeg : Int32).toInt8.toInt32) → ∀ y15 : Int32, y15 = x4 + 1 → T0 G J_M_sendSealed 23 [(0, .ref a0), (1, .int x1), (2, .int x2), (3, .int x3), (4, .int y15)] [] S14 Q))) :
    T0 G J_M_sendSealed 23 [(0, .ref a0), (1, .int x1), (2, .int x2), (3, .int x3), (4, .int x4)] [] S Q := by
  unfold T0
  have hm : Sm0 S S := Sm0.rf S
  refine tt_iload (k0 := 4) (by decide +kernel) rfl ?_
  refine tt_aload_n (k0 := 0) (by decide +kernel) rfl ?_
  obtain ⟨f1, h⟩ := h
  refine tt_getI (k := 46) (by decide +kernel) KC_11 (by decide) w_911 (fun _ => rfl) f1 ?_
  refine tt_icmp_ge (off := 25) 54 (by decide +kernel) (by decide) (fun c => ?_) (fun c => ?_)
  · have h := h.1 c
    refine tt_aload_n (k0 := 0) (by decide +kernel) rfl ?_
    refine tt_aload_n (k0 := 0) (by decide +kernel) rfl ?_
    obtain ⟨b2, f3, h⟩ := h
    refine tt_getR (k := 22) (by decide +kernel) KC_11 (by decide) w_887 (fun _ => rfl) f1 f3 ?_
    refine tt_iload_n (k0 := 3) (by decide +kernel) rfl ?_
    refine tt_aload_n (k0 := 0) (by decide +kernel) rfl ?_
    refine tt_getI (k := 46) (by decide +kernel) KC_11 (by decide) w_911 (fun _ => rfl) f1 ?_
    refine tt_iload_n (k0 := 2) (by decide +kernel) rfl ?_
    refine tt_callV (As := [.ref b2, .int x3, .int (tI S a0 46), .int x2]) (rest := []) (ci := 11) (r0 := (R_11, F_11, 55)) (by decide +kernel) LK_M_cover w_1128 w_1130 (in_p (n := 55) 40 rfl) (by decide) (by decide) rfl rfl (Nat.le_of_ble_eq_true rfl) rfl rfl f1 (ct_mono h (fun r S4 h => ?_))
    obtain ⟨hm2, h⟩ := h
    obtain ⟨rfl, h⟩ := h
    show T G J_M_sendSealed 68 [(0, .ref a0), (1, .int x1), (2, .int x2), (3, .int x3), (4, .int x4)] [] S4 _
    have hm := hm.tr hm2
    have f1 : te S4 a0 = some (.inr 11) := by rw [hm2.1]; exact f1
    have f3 : tR S4 a0 22 = some b2 := by rw [hm2.R]; exact f3
    refine tt_aload_n (k0 := 0) (by decide +kernel) rfl ?_
    refine tt_aload_n (k0 := 0) (by decide +kernel) rfl ?_
    refine tt_getR (k := 22) (by decide +kernel) KC_11 (by decide) w_887 (fun _ => rfl) f1 f3 ?_
    refine tt_iload_n (k0 := 3) (by decide +kernel) rfl ?_
    refine tt_iconst (n := 3) (v := 3) (by decide +kernel) (by decide) ?_
    refine tt_isub (by decide +kernel) ?_
    refine tt_aload_n (k0 := 0) (by decide +kernel) rfl ?_
    refine tt_getI (k := 46) (by decide +kernel) KC_11 (by decide) w_911 (fun _ => rfl) f1 ?_
    refine tt_iload_n (k0 := 2) (by decide +kernel) rfl ?_
    refine tt_callV (As := [.ref b2, .int (x3 - (3 : Int32)), .int (tI S4 a0 46), .int x2]) (rest := []) (ci := 11) (r0 := (R_11, F_11, 55)) (by decide +kernel) LK_M_tagRecord w_1154 w_1156 (in_p (n := 55) 43 rfl) (by decide) (by decide) rfl rfl (Nat.le_of_ble_eq_true rfl) rfl rfl f1 (ct_mono h (fun r S5 h => ?_))
    obtain ⟨hm2, h⟩ := h
    obtain ⟨rfl, h⟩ := h
    show T G J_M_sendSealed 84 [(0, .ref a0), (1, .int x1), (2, .int x2), (3, .int x3), (4, .int x4)] [] S5 _
    have hm := hm.tr hm2
    have f1 : te S5 a0 = some (.inr 11) := by rw [hm2.1]; exact f1
    have f3 : tR S5 a0 22 = some b2 := by rw [hm2.R]; exact f3
    refine tt_iconst (n := 0) (v := 0) (by decide +kernel) (by decide) ?_
    refine tt_istore (k0 := 4) (lv' := [(0, .ref a0), (1, .int x1), (2, .int x2), (3, .int x3), (4, .int 0)]) (by decide +kernel) (by decide) rfl ?_
    exact tt_mono h (fun r S' q => ⟨hm.tr q.1, q.2⟩)
  · have h := h.2 c
    refine tt_aload_n (k0 := 0) (by decide +kernel) rfl ?_
    obtain ⟨b6, f7, h⟩ := h
    refine tt_getR (k := 22) (by decide +kernel) KC_11 (by decide) w_887 (fun _ => rfl) f1 f7 ?_
    refine tt_iload_n (k0 := 3) (by decide +kernel) rfl ?_
    refine tt_iload (k0 := 4) (by decide +kernel) rfl ?_
    refine tt_iadd (by decide +kernel) ?_
    refine tt_aload_n (k0 := 0) (by decide +kernel) rfl ?_
    obtain ⟨b8, f9, h⟩ := h
    refine tt_getR (k := 45) (by decide +kernel) KC_11 (by decide) w_910 (fun _ => rfl) f1 f9 ?_
    refine tt_iload (k0 := 4) (by decide +kernel) rfl ?_
    obtain ⟨n10, f11, h⟩ := h
    obtain ⟨g2, h⟩ := h
    refine tt_bald (by decide +kernel) f11 g2 ?_
    obtain ⟨n12, f13, h⟩ := h
    obtain ⟨g2, h⟩ := h
    refine tt_bast (by decide +kernel) f13 g2 ?_
    generalize eS14 : sI S b6 (upd (tI S b6) (x3 + x4).toNatClampNeg (tI S b8 x4.toNatClampNeg : Int32).toInt8.toInt32) = S14
    have h := h S14 eS14.symm
    have hm : Sm0 S S14 := by rw [← eS14]; exact hm.I
    have f1 : te S14 a0 = some (.inr 11) := by rw [← eS14, te_sI]; exact f1
    have f7 : tR S14 a0 22 = some b6 := by rw [← eS14, tR_sI]; exact f7
    have f9 : tR S14 a0 45 = some b8 := by rw [← eS14, tR_sI]; exact f9
    have f11 : te S14 b8 = some (.inl (.byte, n10)) := by rw [← eS14, te_sI]; exact f11
    have f13 : te S14 b6 = some (.inl (.byte, n12)) := by rw [← eS14, te_sI]; exact f13
    obtain ⟨y15, ey15⟩ : ∃ y : Int32, y = x4 + 1 := ⟨_, rfl⟩
    have h := h y15 ey15
    refine tt_iinc (i := 4) (n := 1) (v := y15) (lv' := [(0, .ref a0), (1, .int x1), (2, .int x2), (3, .int x3), (4, .int y15)]) (by decide +kernel) (by decide) rfl ey15.symm rfl ?_
    refine tt_goto (off := -28) (tgt := 23) (by decide +kernel) (by decide) ?_
    exact tt_mono h (fun r S' q => ⟨hm.tr q.1, q.2⟩)
set_option maxRecDepth 100000 in
theorem v_M_sendSealed_87 {G : pG} (a0 : Nat) (x1 : Int32) (x2 : Int32) (x3 : Int32) (x4 : Int32) (S : TS) (Q : Option Value → TS → Prop)
    (h : ((16 ≤ x4 → te S a0 = some (.inr 11) ∧ ∃ b2 : Nat, tR S a0 20 = some b2 ∧ ∃ n4 : Nat, te S b2 = some (.inl (.int, n4)) ∧ vp_in x2 n4 ∧ vp_in x2 n4 ∧ ∀ S6 : TS, S6 = sI S b2 (upd (tI S b2) x2.toNatClampNeg ((tI S b2 x2.toNatClampNeg) + (1 : Int32))) → Q none S6) ∧ (¬ (16 ≤ x4) → te S a0 = some (.inr 11) ∧ ∃ b8 : Nat, tR S a0 22 = some b8 ∧ ∃ b10 : Nat, tR S a0 43 = some b10 ∧ ∃ n12 : Nat, te S b10 = some (.inl (.byte, n12)) ∧ vp_in x4 n12 ∧ ∃ n14 : Nat, te S b8 = some (.inl (.byte, n14)) ∧ vp_in ((x3 + (tI S a0 46)) + x4) n14 ∧ ∀ S16 : TS, S16 = sI S b8 (upd (tI S b8) ((x3 + (tI S a0 46)) + x4).toNatClampNeg (tI S b10 x4.toNatClampNeg : Int32).toInt8.toInt32) → ∀ y17 : Int32, y17 = x4 + 1 → T0 G J_M_sendSealed 87 [(0, .ref a0), (1, .int x1), (2, .int x2), (3, .int x3), (4, .int y17)] [] S16 Q))) :
    T0 G J_M_sendSealed 87 [(0, .ref a0), (1, .int x1), (2, .int x2), (3, .int x3), (4, .int x4)] [] S Q := by
  unfold T0
  have hm : Sm0 S S := Sm0.rf S
  refine tt_iload (k0 := 4) (by decide +kernel) rfl ?_
  refine tt_bipush (n := 16) (v := 16) (by decide +kernel) (by decide) ?_
  refine tt_icmp_ge (off := 30) 121 (by decide +kernel) (by decide) (fun c => ?_) (fun c => ?_)
  · have h := h.1 c
    refine tt_aload_n (k0 := 0) (by decide +kernel) rfl ?_
    obtain ⟨f1, h⟩ := h
    obtain ⟨b2, f3, h⟩ := h
    refine tt_getR (k := 20) (by decide +kernel) KC_11 (by decide) w_885 (fun _ => rfl) f1 f3 ?_
    refine tt_iload_n (k0 := 2) (by decide +kernel) rfl ?_
    refine tt_dup2_11 (by decide +kernel) rfl rfl ?_
    obtain ⟨n4, f5, h⟩ := h
    obtain ⟨g2, h⟩ := h
    refine tt_iald (by decide +kernel) f5 g2 ?_
    refine tt_iconst (n := 1) (v := 1) (by decide +kernel) (by decide) ?_
    refine tt_iadd (by decide +kernel) ?_
    obtain ⟨g2, h⟩ := h
    refine tt_iast (by decide +kernel) f5 g2 ?_
    generalize eS6 : sI S b2 (upd (tI S b2) x2.toNatClampNeg ((tI S b2 x2.toNatClampNeg) + (1 : Int32))) = S6
    have h := h S6 eS6.symm
    have hm : Sm0 S S6 := by rw [← eS6]; exact hm.I
    have f1 : te S6 a0 = some (.inr 11) := by rw [← eS6, te_sI]; exact f1
    have f3 : tR S6 a0 20 = some b2 := by rw [← eS6, tR_sI]; exact f3
    have f5 : te S6 b2 = some (.inl (.int, n4)) := by rw [← eS6, te_sI]; exact f5
    exact tt_vret (by decide +kernel) rfl ⟨hm, h⟩
  · have h := h.2 c
    refine tt_aload_n (k0 := 0) (by decide +kernel) rfl ?_
    obtain ⟨f7, h⟩ := h
    obtain ⟨b8, f9, h⟩ := h
    refine tt_getR (k := 22) (by decide +kernel) KC_11 (by decide) w_887 (fun _ => rfl) f7 f9 ?_
    refine tt_iload_n (k0 := 3) (by decide +kernel) rfl ?_
    refine tt_aload_n (k0 := 0) (by decide +kernel) rfl ?_
    refine tt_getI (k := 46) (by decide +kernel) KC_11 (by decide) w_911 (fun _ => rfl) f7 ?_
    refine tt_iadd (by decide +kernel) ?_
    refine tt_iload (k0 := 4) (by decide +kernel) rfl ?_
    refine tt_iadd (by decide +kernel) ?_
    refine tt_aload_n (k0 := 0) (by decide +kernel) rfl ?_
    obtain ⟨b10, f11, h⟩ := h
    refine tt_getR (k := 43) (by decide +kernel) KC_11 (by decide) w_908 (fun _ => rfl) f7 f11 ?_
    refine tt_iload (k0 := 4) (by decide +kernel) rfl ?_
    obtain ⟨n12, f13, h⟩ := h
    obtain ⟨g2, h⟩ := h
    refine tt_bald (by decide +kernel) f13 g2 ?_
    obtain ⟨n14, f15, h⟩ := h
    obtain ⟨g2, h⟩ := h
    refine tt_bast (by decide +kernel) f15 g2 ?_
    generalize eS16 : sI S b8 (upd (tI S b8) ((x3 + (tI S a0 46)) + x4).toNatClampNeg (tI S b10 x4.toNatClampNeg : Int32).toInt8.toInt32) = S16
    have h := h S16 eS16.symm
    have hm : Sm0 S S16 := by rw [← eS16]; exact hm.I
    have f7 : te S16 a0 = some (.inr 11) := by rw [← eS16, te_sI]; exact f7
    have f9 : tR S16 a0 22 = some b8 := by rw [← eS16, tR_sI]; exact f9
    have f11 : tR S16 a0 43 = some b10 := by rw [← eS16, tR_sI]; exact f11
    have f13 : te S16 b10 = some (.inl (.byte, n12)) := by rw [← eS16, te_sI]; exact f13
    have f15 : te S16 b8 = some (.inl (.byte, n14)) := by rw [← eS16, te_sI]; exact f15
    obtain ⟨y17, ey17⟩ : ∃ y : Int32, y = x4 + 1 := ⟨_, rfl⟩
    have h := h y17 ey17
    refine tt_iinc (i := 4) (n := 1) (v := y17) (lv' := [(0, .ref a0), (1, .int x1), (2, .int x2), (3, .int x3), (4, .int y17)]) (by decide +kernel) (by decide) rfl ey17.symm rfl ?_
    refine tt_goto (off := -31) (tgt := 87) (by decide +kernel) (by decide) ?_
    exact tt_mono h (fun r S' q => ⟨hm.tr q.1, q.2⟩)
set_option maxRecDepth 100000 in
theorem v_M_cover {G : pG} (a0 : Nat) (a1 : Nat) (x2 : Int32) (x3 : Int32) (x4 : Int32) (S : TS) (Q : Option Value → TS → Prop)
    (h : T0 G J_M_cover 3 [(0, .ref a0), (1, .ref a1), (2, .int x2), (3, .int x3), (4, .int x4), (5, .int 0)] [] S Q) :
    C0 G J_M_cover [.ref a0, .ref a1, .int x2, .int x3, .int x4] S Q := by
  unfold C0
  refine ct_of (by decide +kernel) (Nat.le_of_ble_eq_true rfl) (lv := [(0, .ref a0), (1, .ref a1), (2, .int x2), (3, .int x3), (4, .int x4)]) rfl ?_
  have hm : Sm0 S S := Sm0.rf S
  refine tt_iconst (n := 0) (v := 0) (by decide +kernel) (by decide) ?_
  refine tt_istore (k0 := 5) (lv' := [(0, .ref a0), (1, .ref a1), (2, .int x2), (3, .int x3), (4, .int x4), (5, .int 0)]) (by decide +kernel) (by decide) rfl ?_
  exact tt_mono h (fun r S' q => ⟨hm.tr q.1, q.2⟩)
set_option maxRecDepth 100000 in
theorem v_M_cover_3 {G : pG} (a0 : Nat) (a1 : Nat) (x2 : Int32) (x3 : Int32) (x4 : Int32) (x5 : Int32) (S : TS) (Q : Option Value → TS → Prop)
    (h : ((x3 ≤ x5 → Q none S) ∧ (¬ (x3 ≤ x5) → ((¬ x5 - x5 / (64 : Int32) * (64 : Int32) = 0 → ∃ n1 : Nat, te S a1 = some (.inl (.byte, n1)) ∧ vp_in (x2 + x5) n1 ∧ te S a0 = some (.inr 11) ∧ ∃ b4 : Nat, tR S a0 38 = some b4 ∧ ∃ n6 : Nat, te S b4 = some (.inl (.byte, n6)) ∧ vp_in (x5 - x5 / (64 : Int32) * (64 : Int32)) n6 ∧ vp_in (x2 + x5) n1 ∧ ∀ S8 : TS, S8 = sI S a1 (upd (tI S a1) (x2 + x5).toNatClampNeg (((tI S a1 (x2 + x5).toNatClampNeg) ^^^ (tI S b4 (x5 - x5 / (64 : Int32) * (64 : Int32)).toNatClampNeg) : Int32).toInt8.toInt32 : Int32).toInt8.toInt32) → ∀ y9 : Int32, y9 = x5 + 1 → T0 G J_M_cover 3 [(0, .ref a0), (1, .ref a1), (2, .int x2), (3, .int x3), (4, .int x4), (5, .int y9)] [] S8 Q) ∧ (x5 - x5 / (64 : Int32) * (64 : Int32) = 0 → te S a0 = some (.inr 11) ∧ C0 G J_M_block_II [.ref a0, .int x4, .int ((1 : Int32) + (x5 / (64 : Int32)))] S (fun r S11 => r = none ∧ ∃ n12 : Nat, te S11 a1 = some (.inl (.byte, n12)) ∧ vp_in (x2 + x5) n12 ∧ ∃ b14 : Nat, tR S11 a0 38 = some b14 ∧ ∃ n16 : Nat, te S11 b14 = some (.inl (.byte, n16)) ∧ vp_in (x5 - x5 / (64 : Int32) * (64 : Int32)) n16 ∧ vp_in (x2 + x5) n12 ∧ ∀ S18 : TS, S18 = sI S11 a1 (upd (tI S11 a1) (x2 + x5).toNatClampNeg (((tI S11 a1 (x2 + x5).toNatClampNeg) ^^^ (tI S11 b14 (x5 - x5 / (64 : Int32) * (64 : Int32)).toNatClampNeg) : Int32).toInt8.toInt32 : Int32).toInt8.toInt32) → ∀ y19 : Int32, y19 = x5 + 1 → T0 G J_M_cover 3 [(0, .ref a0), (1, .ref a1), (2, .int x2), (3, .int x3), (4, .int x4), (5, .int y19)] [] S18 Q)))))) :
    T0 G J_M_cover 3 [(0, .ref a0), (1, .ref a1), (2, .int x2), (3, .int x3), (4, .int x4), (5, .int x5)] [] S Q := by
  unfold T0
  have hm : Sm0 S S := Sm0.rf S
  refine tt_iload (k0 := 5) (by decide +kernel) rfl ?_
  refine tt_iload_n (k0 := 3) (by decide +kernel) rfl ?_
  refine tt_icmp_ge (off := 50) 56 (by decide +kernel) (by decide) (fun c => ?_) (fun c => ?_)
  · have h := h.1 c
    exact tt_vret (by decide +kernel) rfl ⟨hm, h⟩
  · have h := h.2 c
    refine tt_iload (k0 := 5) (by decide +kernel) rfl ?_
    refine tt_bipush (n := 64) (v := 64) (by decide +kernel) (by decide) ?_
    refine tt_irem (by decide +kernel) (by decide) ?_
    refine tt_if_ne (off := 16) 30 (by decide +kernel) (by decide) (fun c => ?_) (fun c => ?_)
    · have h := h.1 c
      refine tt_aload_n (k0 := 1) (by decide +kernel) rfl ?_
      refine tt_iload_n (k0 := 2) (by decide +kernel) rfl ?_
      refine tt_iload (k0 := 5) (by decide +kernel) rfl ?_
      refine tt_iadd (by decide +kernel) ?_
      refine tt_dup2_11 (by decide +kernel) rfl rfl ?_
      obtain ⟨n1, f2, h⟩ := h
      obtain ⟨g2, h⟩ := h
      refine tt_bald (by decide +kernel) f2 g2 ?_
      refine tt_aload_n (k0 := 0) (by decide +kernel) rfl ?_
      obtain ⟨f3, h⟩ := h
      obtain ⟨b4, f5, h⟩ := h
      refine tt_getR (k := 38) (by decide +kernel) KC_11 (by decide) w_903 (fun _ => rfl) f3 f5 ?_
      refine tt_iload (k0 := 5) (by decide +kernel) rfl ?_
      refine tt_bipush (n := 64) (v := 64) (by decide +kernel) (by decide) ?_
      refine tt_irem (by decide +kernel) (by decide) ?_
      obtain ⟨n6, f7, h⟩ := h
      obtain ⟨g2, h⟩ := h
      refine tt_bald (by decide +kernel) f7 g2 ?_
      refine tt_ixor (by decide +kernel) ?_
      refine tt_i2b (by decide +kernel) ?_
      obtain ⟨g2, h⟩ := h
      refine tt_bast (by decide +kernel) f2 g2 ?_
      generalize eS8 : sI S a1 (upd (tI S a1) (x2 + x5).toNatClampNeg (((tI S a1 (x2 + x5).toNatClampNeg) ^^^ (tI S b4 (x5 - x5 / (64 : Int32) * (64 : Int32)).toNatClampNeg) : Int32).toInt8.toInt32 : Int32).toInt8.toInt32) = S8
      have h := h S8 eS8.symm
      have hm : Sm0 S S8 := by rw [← eS8]; exact hm.I
      have f2 : te S8 a1 = some (.inl (.byte, n1)) := by rw [← eS8, te_sI]; exact f2
      have f3 : te S8 a0 = some (.inr 11) := by rw [← eS8, te_sI]; exact f3
      have f5 : tR S8 a0 38 = some b4 := by rw [← eS8, tR_sI]; exact f5
      have f7 : te S8 b4 = some (.inl (.byte, n6)) := by rw [← eS8, te_sI]; exact f7
      obtain ⟨y9, ey9⟩ : ∃ y : Int32, y = x5 + 1 := ⟨_, rfl⟩
      have h := h y9 ey9
      refine tt_iinc (i := 5) (n := 1) (v := y9) (lv' := [(0, .ref a0), (1, .ref a1), (2, .int x2), (3, .int x3), (4, .int x4), (5, .int y9)]) (by decide +kernel) (by decide) rfl ey9.symm rfl ?_
      refine tt_goto (off := -50) (tgt := 3) (by decide +kernel) (by decide) ?_
      exact tt_mono h (fun r S' q => ⟨hm.tr q.1, q.2⟩)
    · have h := h.2 c
      refine tt_aload_n (k0 := 0) (by decide +kernel) rfl ?_
      refine tt_iload (k0 := 4) (by decide +kernel) rfl ?_
      refine tt_iconst (n := 1) (v := 1) (by decide +kernel) (by decide) ?_
      refine tt_iload (k0 := 5) (by decide +kernel) rfl ?_
      refine tt_bipush (n := 64) (v := 64) (by decide +kernel) (by decide) ?_
      refine tt_idiv (by decide +kernel) (by decide) ?_
      refine tt_iadd (by decide +kernel) ?_
      obtain ⟨f10, h⟩ := h
      refine tt_callV (As := [.int x4, .int ((1 : Int32) + (x5 / (64 : Int32)))]) (rest := []) (ci := 11) (r0 := (R_11, F_11, 55)) (by decide +kernel) LK_M_block_II w_1132 w_1134 (in_p (n := 55) 41 rfl) (by decide) (by decide) rfl rfl (Nat.le_of_ble_eq_true rfl) rfl rfl f10 (ct_mono h (fun r S11 h => ?_))
      obtain ⟨hm2, h⟩ := h
      obtain ⟨rfl, h⟩ := h
      show T G J_M_cover 30 [(0, .ref a0), (1, .ref a1), (2, .int x2), (3, .int x3), (4, .int x4), (5, .int x5)] [] S11 _
      have hm := hm.tr hm2
      have f10 : te S11 a0 = some (.inr 11) := by rw [hm2.1]; exact f10
      refine tt_aload_n (k0 := 1) (by decide +kernel) rfl ?_
      refine tt_iload_n (k0 := 2) (by decide +kernel) rfl ?_
      refine tt_iload (k0 := 5) (by decide +kernel) rfl ?_
      refine tt_iadd (by decide +kernel) ?_
      refine tt_dup2_11 (by decide +kernel) rfl rfl ?_
      obtain ⟨n12, f13, h⟩ := h
      obtain ⟨g2, h⟩ := h
      refine tt_bald (by decide +kernel) f13 g2 ?_
      refine tt_aload_n (k0 := 0) (by decide +kernel) rfl ?_
      obtain ⟨b14, f15, h⟩ := h
      refine tt_getR (k := 38) (by decide +kernel) KC_11 (by decide) w_903 (fun _ => rfl) f10 f15 ?_
      refine tt_iload (k0 := 5) (by decide +kernel) rfl ?_
      refine tt_bipush (n := 64) (v := 64) (by decide +kernel) (by decide) ?_
      refine tt_irem (by decide +kernel) (by decide) ?_
      obtain ⟨n16, f17, h⟩ := h
      obtain ⟨g2, h⟩ := h
      refine tt_bald (by decide +kernel) f17 g2 ?_
      refine tt_ixor (by decide +kernel) ?_
      refine tt_i2b (by decide +kernel) ?_
      obtain ⟨g2, h⟩ := h
      refine tt_bast (by decide +kernel) f13 g2 ?_
      generalize eS18 : sI S11 a1 (upd (tI S11 a1) (x2 + x5).toNatClampNeg (((tI S11 a1 (x2 + x5).toNatClampNeg) ^^^ (tI S11 b14 (x5 - x5 / (64 : Int32) * (64 : Int32)).toNatClampNeg) : Int32).toInt8.toInt32 : Int32).toInt8.toInt32) = S18
      have h := h S18 eS18.symm
      have hm : Sm0 S S18 := by rw [← eS18]; exact hm.I
      have f10 : te S18 a0 = some (.inr 11) := by rw [← eS18, te_sI]; exact f10
      have f13 : te S18 a1 = some (.inl (.byte, n12)) := by rw [← eS18, te_sI]; exact f13
      have f15 : tR S18 a0 38 = some b14 := by rw [← eS18, tR_sI]; exact f15
      have f17 : te S18 b14 = some (.inl (.byte, n16)) := by rw [← eS18, te_sI]; exact f17
      obtain ⟨y19, ey19⟩ : ∃ y : Int32, y = x5 + 1 := ⟨_, rfl⟩
      have h := h y19 ey19
      refine tt_iinc (i := 5) (n := 1) (v := y19) (lv' := [(0, .ref a0), (1, .ref a1), (2, .int x2), (3, .int x3), (4, .int x4), (5, .int y19)]) (by decide +kernel) (by decide) rfl ey19.symm rfl ?_
      refine tt_goto (off := -50) (tgt := 3) (by decide +kernel) (by decide) ?_
      exact tt_mono h (fun r S' q => ⟨hm.tr q.1, q.2⟩)
set_option maxRecDepth 100000 in
theorem v_M_block_II {G : pG} (a0 : Nat) (x1 : Int32) (x2 : Int32) (S : TS) (Q : Option Value → TS → Prop)
    (h : te S a0 = some (.inr 11) ∧ ∃ b2 : Nat, tR S a0 37 = some b2 ∧ ∃ n4 : Nat, te S b2 = some (.inl (.int, n4)) ∧ vp_in 0 n4 ∧ ∀ S6 : TS, S6 = sI S b2 (upd (tI S b2) 0 1634760805) → vp_in 1 n4 ∧ ∀ S7 : TS, S7 = sI S6 b2 (upd (tI S6 b2) 1 857760878) → vp_in 2 n4 ∧ ∀ S8 : TS, S8 = sI S7 b2 (upd (tI S7 b2) 2 2036477234) → vp_in 3 n4 ∧ ∀ S9 : TS, S9 = sI S8 b2 (upd (tI S8 b2) 3 1797285236) → T0 G J_M_block_II 34 [(0, .ref a0), (1, .int x1), (2, .int x2), (3, .int 0)] [] S9 Q) :
    C0 G J_M_block_II [.ref a0, .int x1, .int x2] S Q := by
  unfold C0
  refine ct_of (by decide +kernel) (Nat.le_of_ble_eq_true rfl) (lv := [(0, .ref a0), (1, .int x1), (2, .int x2)]) rfl ?_
  have hm : Sm0 S S := Sm0.rf S
  refine tt_aload_n (k0 := 0) (by decide +kernel) rfl ?_
  obtain ⟨f1, h⟩ := h
  obtain ⟨b2, f3, h⟩ := h
  refine tt_getR (k := 37) (by decide +kernel) KC_11 (by decide) w_902 (fun _ => rfl) f1 f3 ?_
  refine tt_iconst (n := 0) (v := 0) (by decide +kernel) (by decide) ?_
  refine tt_ldc (v := 1634760805) (by decide +kernel) w_1136 ?_
  obtain ⟨n4, f5, h⟩ := h
  obtain ⟨g2, h⟩ := h
  refine tt_iast (by decide +kernel) f5 g2 ?_
  show T G J_M_block_II 8 [(0, .ref a0), (1, .int x1), (2, .int x2)] [] (sI S b2 (upd (tI S b2) 0 1634760805)) _
  generalize eS6 : sI S b2 (upd (tI S b2) 0 1634760805) = S6
  have h := h S6 eS6.symm
  have hm : Sm0 S S6 := by rw [← eS6]; exact hm.I
  have f1 : te S6 a0 = some (.inr 11) := by rw [← eS6, te_sI]; exact f1
  have f3 : tR S6 a0 37 = some b2 := by rw [← eS6, tR_sI]; exact f3
  have f5 : te S6 b2 = some (.inl (.int, n4)) := by rw [← eS6, te_sI]; exact f5
  refine tt_aload_n (k0 := 0) (by decide +kernel) rfl ?_
  refine tt_getR (k := 37) (by decide +kernel) KC_11 (by decide) w_902 (fun _ => rfl) f1 f3 ?_
  refine tt_iconst (n := 1) (v := 1) (by decide +kernel) (by decide) ?_
  refine tt_ldc (v := 857760878) (by decide +kernel) w_1137 ?_
  obtain ⟨g2, h⟩ := h
  refine tt_iast (by decide +kernel) f5 g2 ?_
  show T G J_M_block_II 16 [(0, .ref a0), (1, .int x1), (2, .int x2)] [] (sI S6 b2 (upd (tI S6 b2) 1 857760878)) _
  generalize eS7 : sI S6 b2 (upd (tI S6 b2) 1 857760878) = S7
  have h := h S7 eS7.symm
  have hm : Sm0 S S7 := by rw [← eS7]; exact hm.I
  have f1 : te S7 a0 = some (.inr 11) := by rw [← eS7, te_sI]; exact f1
  have f3 : tR S7 a0 37 = some b2 := by rw [← eS7, tR_sI]; exact f3
  have f5 : te S7 b2 = some (.inl (.int, n4)) := by rw [← eS7, te_sI]; exact f5
  refine tt_aload_n (k0 := 0) (by decide +kernel) rfl ?_
  refine tt_getR (k := 37) (by decide +kernel) KC_11 (by decide) w_902 (fun _ => rfl) f1 f3 ?_
  refine tt_iconst (n := 2) (v := 2) (by decide +kernel) (by decide) ?_
  refine tt_ldc (v := 2036477234) (by decide +kernel) w_1138 ?_
  obtain ⟨g2, h⟩ := h
  refine tt_iast (by decide +kernel) f5 g2 ?_
  show T G J_M_block_II 24 [(0, .ref a0), (1, .int x1), (2, .int x2)] [] (sI S7 b2 (upd (tI S7 b2) 2 2036477234)) _
  generalize eS8 : sI S7 b2 (upd (tI S7 b2) 2 2036477234) = S8
  have h := h S8 eS8.symm
  have hm : Sm0 S S8 := by rw [← eS8]; exact hm.I
  have f1 : te S8 a0 = some (.inr 11) := by rw [← eS8, te_sI]; exact f1
  have f3 : tR S8 a0 37 = some b2 := by rw [← eS8, tR_sI]; exact f3
  have f5 : te S8 b2 = some (.inl (.int, n4)) := by rw [← eS8, te_sI]; exact f5
  refine tt_aload_n (k0 := 0) (by decide +kernel) rfl ?_
  refine tt_getR (k := 37) (by decide +kernel) KC_11 (by decide) w_902 (fun _ => rfl) f1 f3 ?_
  refine tt_iconst (n := 3) (v := 3) (by decide +kernel) (by decide) ?_
  refine tt_ldc (v := 1797285236) (by decide +kernel) w_1139 ?_
  obtain ⟨g2, h⟩ := h
  refine tt_iast (by decide +kernel) f5 g2 ?_
  show T G J_M_block_II 32 [(0, .ref a0), (1, .int x1), (2, .int x2)] [] (sI S8 b2 (upd (tI S8 b2) 3 1797285236)) _
  generalize eS9 : sI S8 b2 (upd (tI S8 b2) 3 1797285236) = S9
  have h := h S9 eS9.symm
  have hm : Sm0 S S9 := by rw [← eS9]; exact hm.I
  have f1 : te S9 a0 = some (.inr 11) := by rw [← eS9, te_sI]; exact f1
  have f3 : tR S9 a0 37 = some b2 := by rw [← eS9, tR_sI]; exact f3
  have f5 : te S9 b2 = some (.inl (.int, n4)) := by rw [← eS9, te_sI]; exact f5
  refine tt_iconst (n := 0) (v := 0) (by decide +kernel) (by decide) ?_
  refine tt_istore_n (k0 := 3) (lv' := [(0, .ref a0), (1, .int x1), (2, .int x2), (3, .int 0)]) (by decide +kernel) (by decide) rfl ?_
  exact tt_mono h (fun r S' q => ⟨hm.tr q.1, q.2⟩)
set_option maxRecDepth 100000 in
theorem v_M_block_II_34 {G : pG} (a0 : Nat) (x1 : Int32) (x2 : Int32) (x3 : Int32) (S : TS) (Q : Option Value → TS → Prop)
    (h : ((8 ≤ x3 → te S a0 = some (.inr 11) ∧ ∃ b2 : Nat, tR S a0 37 = some b2 ∧ ∃ n4 : Nat, te S b2 = some (.inl (.int, n4)) ∧ vp_in 12 n4 ∧ ∀ S6 : TS, S6 = sI S b2 (upd (tI S b2) 12 x2) → vp_in 13 n4 ∧ ∀ S7 : TS, S7 = sI S6 b2 (upd (tI S6 b2) 13 0) → vp_in 14 n4 ∧ ∀ S8 : TS, S8 = sI S7 b2 (upd (tI S7 b2) 14 0) → ∃ b9 : Nat, tR S8 a0 20 = some b9 ∧ ∃ n11 : Nat, te S8 b9 = some (.inl (.int, n11)) ∧ vp_in x1 n11 ∧ CP G J_M_swapped [.int (tI S8 b9 x1.toNatClampNeg)] S8 (fun r => ∃ r13 : Int32, r = some (.int r13) ∧ vp_in 15 n4 ∧ ∀ S14 : TS, S14 = sI S8 b2 (upd (tI S8 b2) 15 r13) → T0 G J_M_block_II 111 [(0, .ref a0), (1, .int x1), (2, .int x2), (3, .int 0)] [] S14 Q)) ∧ (¬ (8 ≤ x3) → te S a0 = some (.inr 11) ∧ ∃ b16 : Nat, tR S a0 37 = some b16 ∧ ∃ b18 : Nat, tR S a0 19 = some b18 ∧ CP G J_M_low [.ref b18, .int (((32 : Int32) * x1) + ((4 : Int32) * x3))] S (fun r => ∃ r20 : Int32, r = some (.int r20) ∧ ∃ n21 : Nat, te S b16 = some (.inl (.int, n21)) ∧ vp_in ((4 : Int32) + x3) n21 ∧ ∀ S23 : TS, S23 = sI S b16 (upd (tI S b16) ((4 : Int32) + x3).toNatClampNeg r20) → ∀ y24 : Int32, y24 = x3 + 1 → T0 G J_M_block_II 34 [(0, .ref a0), (1, .int x1), (2, .int x2), (3, .int y24)] [] S23 Q)))) :
    T0 G J_M_block_II 34 [(0, .ref a0), (1, .int x1), (2, .int x2), (3, .int x3)] [] S Q := by
  unfold T0
  have hm : Sm0 S S := Sm0.rf S
  refine tt_iload_n (k0 := 3) (by decide +kernel) rfl ?_
  refine tt_bipush (n := 8) (v := 8) (by decide +kernel) (by decide) ?_
  refine tt_icmp_ge (off := 32) 69 (by decide +kernel) (by decide) (fun c => ?_) (fun c => ?_)
  · have h := h.1 c
    refine tt_aload_n (k0 := 0) (by decide +kernel) rfl ?_
    obtain ⟨f1, h⟩ := h
    obtain ⟨b2, f3, h⟩ := h
    refine tt_getR (k := 37) (by decide +kernel) KC_11 (by decide) w_902 (fun _ => rfl) f1 f3 ?_
    refine tt_bipush (n := 12) (v := 12) (by decide +kernel) (by decide) ?_
    refine tt_iload_n (k0 := 2) (by decide +kernel) rfl ?_
    obtain ⟨n4, f5, h⟩ := h
    obtain ⟨g2, h⟩ := h
    refine tt_iast (by decide +kernel) f5 g2 ?_
    show T G J_M_block_II 77 [(0, .ref a0), (1, .int x1), (2, .int x2), (3, .int x3)] [] (sI S b2 (upd (tI S b2) 12 x2)) _
    generalize eS6 : sI S b2 (upd (tI S b2) 12 x2) = S6
    have h := h S6 eS6.symm
    have hm : Sm0 S S6 := by rw [← eS6]; exact hm.I
    have f1 : te S6 a0 = some (.inr 11) := by rw [← eS6, te_sI]; exact f1
    have f3 : tR S6 a0 37 = some b2 := by rw [← eS6, tR_sI]; exact f3
    have f5 : te S6 b2 = some (.inl (.int, n4)) := by rw [← eS6, te_sI]; exact f5
    refine tt_aload_n (k0 := 0) (by decide +kernel) rfl ?_
    refine tt_getR (k := 37) (by decide +kernel) KC_11 (by decide) w_902 (fun _ => rfl) f1 f3 ?_
    refine tt_bipush (n := 13) (v := 13) (by decide +kernel) (by decide) ?_
    refine tt_iconst (n := 0) (v := 0) (by decide +kernel) (by decide) ?_
    obtain ⟨g2, h⟩ := h
    refine tt_iast (by decide +kernel) f5 g2 ?_
    show T G J_M_block_II 85 [(0, .ref a0), (1, .int x1), (2, .int x2), (3, .int x3)] [] (sI S6 b2 (upd (tI S6 b2) 13 0)) _
    generalize eS7 : sI S6 b2 (upd (tI S6 b2) 13 0) = S7
    have h := h S7 eS7.symm
    have hm : Sm0 S S7 := by rw [← eS7]; exact hm.I
    have f1 : te S7 a0 = some (.inr 11) := by rw [← eS7, te_sI]; exact f1
    have f3 : tR S7 a0 37 = some b2 := by rw [← eS7, tR_sI]; exact f3
    have f5 : te S7 b2 = some (.inl (.int, n4)) := by rw [← eS7, te_sI]; exact f5
    refine tt_aload_n (k0 := 0) (by decide +kernel) rfl ?_
    refine tt_getR (k := 37) (by decide +kernel) KC_11 (by decide) w_902 (fun _ => rfl) f1 f3 ?_
    refine tt_bipush (n := 14) (v := 14) (by decide +kernel) (by decide) ?_
    refine tt_iconst (n := 0) (v := 0) (by decide +kernel) (by decide) ?_
    obtain ⟨g2, h⟩ := h
    refine tt_iast (by decide +kernel) f5 g2 ?_
    show T G J_M_block_II 93 [(0, .ref a0), (1, .int x1), (2, .int x2), (3, .int x3)] [] (sI S7 b2 (upd (tI S7 b2) 14 0)) _
    generalize eS8 : sI S7 b2 (upd (tI S7 b2) 14 0) = S8
    have h := h S8 eS8.symm
    have hm : Sm0 S S8 := by rw [← eS8]; exact hm.I
    have f1 : te S8 a0 = some (.inr 11) := by rw [← eS8, te_sI]; exact f1
    have f3 : tR S8 a0 37 = some b2 := by rw [← eS8, tR_sI]; exact f3
    have f5 : te S8 b2 = some (.inl (.int, n4)) := by rw [← eS8, te_sI]; exact f5
    refine tt_aload_n (k0 := 0) (by decide +kernel) rfl ?_
    refine tt_getR (k := 37) (by decide +kernel) KC_11 (by decide) w_902 (fun _ => rfl) f1 f3 ?_
    refine tt_bipush (n := 15) (v := 15) (by decide +kernel) (by decide) ?_
    refine tt_aload_n (k0 := 0) (by decide +kernel) rfl ?_
    obtain ⟨b9, f10, h⟩ := h
    refine tt_getR (k := 20) (by decide +kernel) KC_11 (by decide) w_885 (fun _ => rfl) f1 f10 ?_
    refine tt_iload_n (k0 := 1) (by decide +kernel) rfl ?_
    obtain ⟨n11, f12, h⟩ := h
    obtain ⟨g2, h⟩ := h
    refine tt_iald (by decide +kernel) f12 g2 ?_
    refine tt_callS (As := [.int (tI S8 b9 x1.toNatClampNeg)]) (rest := [.int 15, .ref b2]) (by decide +kernel) LK_M_swapped w_1143 w_1144 (by decide) (by decide) rfl rfl (Nat.le_of_ble_eq_true rfl) (ct_mono h (fun r Sb h => ?_))
    obtain ⟨eb, h⟩ := h
    obtain ⟨r13, rfl, h⟩ := h
    rw [eb]
    show T G J_M_block_II 108 [(0, .ref a0), (1, .int x1), (2, .int x2), (3, .int x3)] [.int r13, .int 15, .ref b2] S8 _
    obtain ⟨g2, h⟩ := h
    refine tt_iast (by decide +kernel) f5 g2 ?_
    show T G J_M_block_II 109 [(0, .ref a0), (1, .int x1), (2, .int x2), (3, .int x3)] [] (sI S8 b2 (upd (tI S8 b2) 15 r13)) _
    generalize eS14 : sI S8 b2 (upd (tI S8 b2) 15 r13) = S14
    have h := h S14 eS14.symm
    have hm : Sm0 S S14 := by rw [← eS14]; exact hm.I
    have f1 : te S14 a0 = some (.inr 11) := by rw [← eS14, te_sI]; exact f1
    have f3 : tR S14 a0 37 = some b2 := by rw [← eS14, tR_sI]; exact f3
    have f5 : te S14 b2 = some (.inl (.int, n4)) := by rw [← eS14, te_sI]; exact f5
    have f10 : tR S14 a0 20 = some b9 := by rw [← eS14, tR_sI]; exact f10
    have f12 : te S14 b9 = some (.inl (.int, n11)) := by rw [← eS14, te_sI]; exact f12
    refine tt_iconst (n := 0) (v := 0) (by decide +kernel) (by decide) ?_
    refine tt_istore_n (k0 := 3) (lv' := [(0, .ref a0), (1, .int x1), (2, .int x2), (3, .int 0)]) (by decide +kernel) (by decide) rfl ?_
    exact tt_mono h (fun r S' q => ⟨hm.tr q.1, q.2⟩)
  · have h := h.2 c
    refine tt_aload_n (k0 := 0) (by decide +kernel) rfl ?_
    obtain ⟨f15, h⟩ := h
    obtain ⟨b16, f17, h⟩ := h
    refine tt_getR (k := 37) (by decide +kernel) KC_11 (by decide) w_902 (fun _ => rfl) f15 f17 ?_
    refine tt_iconst (n := 4) (v := 4) (by decide +kernel) (by decide) ?_
    refine tt_iload_n (k0 := 3) (by decide +kernel) rfl ?_
    refine tt_iadd (by decide +kernel) ?_
    refine tt_aload_n (k0 := 0) (by decide +kernel) rfl ?_
    obtain ⟨b18, f19, h⟩ := h
    refine tt_getR (k := 19) (by decide +kernel) KC_11 (by decide) w_884 (fun _ => rfl) f15 f19 ?_
    refine tt_bipush (n := 32) (v := 32) (by decide +kernel) (by decide) ?_
    refine tt_iload_n (k0 := 1) (by decide +kernel) rfl ?_
    refine tt_imul (by decide +kernel) ?_
    refine tt_iconst (n := 4) (v := 4) (by decide +kernel) (by decide) ?_
    refine tt_iload_n (k0 := 3) (by decide +kernel) rfl ?_
    refine tt_imul (by decide +kernel) ?_
    refine tt_iadd (by decide +kernel) ?_
    refine tt_callS (As := [.ref b18, .int (((32 : Int32) * x1) + ((4 : Int32) * x3))]) (rest := [.int ((4 : Int32) + x3), .ref b16]) (by decide +kernel) LK_M_low w_1140 w_1141 (by decide) (by decide) rfl rfl (Nat.le_of_ble_eq_true rfl) (ct_mono h (fun r Sb h => ?_))
    obtain ⟨eb, h⟩ := h
    obtain ⟨r20, rfl, h⟩ := h
    rw [eb]
    show T G J_M_block_II 62 [(0, .ref a0), (1, .int x1), (2, .int x2), (3, .int x3)] [.int r20, .int ((4 : Int32) + x3), .ref b16] S _
    obtain ⟨n21, f22, h⟩ := h
    obtain ⟨g2, h⟩ := h
    refine tt_iast (by decide +kernel) f22 g2 ?_
    generalize eS23 : sI S b16 (upd (tI S b16) ((4 : Int32) + x3).toNatClampNeg r20) = S23
    have h := h S23 eS23.symm
    have hm : Sm0 S S23 := by rw [← eS23]; exact hm.I
    have f15 : te S23 a0 = some (.inr 11) := by rw [← eS23, te_sI]; exact f15
    have f17 : tR S23 a0 37 = some b16 := by rw [← eS23, tR_sI]; exact f17
    have f19 : tR S23 a0 19 = some b18 := by rw [← eS23, tR_sI]; exact f19
    have f22 : te S23 b16 = some (.inl (.int, n21)) := by rw [← eS23, te_sI]; exact f22
    obtain ⟨y24, ey24⟩ : ∃ y : Int32, y = x3 + 1 := ⟨_, rfl⟩
    have h := h y24 ey24
    refine tt_iinc (i := 3) (n := 1) (v := y24) (lv' := [(0, .ref a0), (1, .int x1), (2, .int x2), (3, .int y24)]) (by decide +kernel) (by decide) rfl ey24.symm rfl ?_
    refine tt_goto (off := -32) (tgt := 34) (by decide +kernel) (by decide) ?_
    exact tt_mono h (fun r S' q => ⟨hm.tr q.1, q.2⟩)
set_option maxRecDepth 100000 in
theorem v_M_block_II_111 {G : pG} (a0 : Nat) (x1 : Int32) (x2 : Int32) (x3 : Int32) (S : TS) (Q : Option Value → TS → Prop)
    (h : ((16 ≤ x3 → T0 G J_M_block_II 137 [(0, .ref a0), (1, .int x1), (2, .int x2), (3, .int 0)] [] S Q) ∧ (¬ (16 ≤ x3) → te S a0 = some (.inr 11) ∧ ∃ b2 : Nat, tR S a0 36 = some b2 ∧ ∃ b4 : Nat, tR S a0 37 = some b4 ∧ ∃ n6 : Nat, te S b4 = some (.inl (.int, n6)) ∧ vp_in x3 n6 ∧ ∃ n8 : Nat, te S b2 = some (.inl (.int, n8)) ∧ vp_in x3 n8 ∧ ∀ S10 : TS, S10 = sI S b2 (upd (tI S b2) x3.toNatClampNeg (tI S b4 x3.toNatClampNeg)) → ∀ y11 : Int32, y11 = x3 + 1 → T0 G J_M_block_II 111 [(0, .ref a0), (1, .int x1), (2, .int x2), (3, .int y11)] [] S10 Q))) :
    T0 G J_M_block_II 111 [(0, .ref a0), (1, .int x1), (2, .int x2), (3, .int x3)] [] S Q := by
  unfold T0
  have hm : Sm0 S S := Sm0.rf S
  refine tt_iload_n (k0 := 3) (by decide +kernel) rfl ?_
  refine tt_bipush (n := 16) (v := 16) (by decide +kernel) (by decide) ?_
  refine tt_icmp_ge (off := 21) 135 (by decide +kernel) (by decide) (fun c => ?_) (fun c => ?_)
  · have h := h.1 c
    refine tt_iconst (n := 0) (v := 0) (by decide +kernel) (by decide) ?_
    refine tt_istore_n (k0 := 3) (lv' := [(0, .ref a0), (1, .int x1), (2, .int x2), (3, .int 0)]) (by decide +kernel) (by decide) rfl ?_
    exact tt_mono h (fun r S' q => ⟨hm.tr q.1, q.2⟩)
  · have h := h.2 c
    refine tt_aload_n (k0 := 0) (by decide +kernel) rfl ?_
    obtain ⟨f1, h⟩ := h
    obtain ⟨b2, f3, h⟩ := h
    refine tt_getR (k := 36) (by decide +kernel) KC_11 (by decide) w_901 (fun _ => rfl) f1 f3 ?_
    refine tt_iload_n (k0 := 3) (by decide +kernel) rfl ?_
    refine tt_aload_n (k0 := 0) (by decide +kernel) rfl ?_
    obtain ⟨b4, f5, h⟩ := h
    refine tt_getR (k := 37) (by decide +kernel) KC_11 (by decide) w_902 (fun _ => rfl) f1 f5 ?_
    refine tt_iload_n (k0 := 3) (by decide +kernel) rfl ?_
    obtain ⟨n6, f7, h⟩ := h
    obtain ⟨g2, h⟩ := h
    refine tt_iald (by decide +kernel) f7 g2 ?_
    obtain ⟨n8, f9, h⟩ := h
    obtain ⟨g2, h⟩ := h
    refine tt_iast (by decide +kernel) f9 g2 ?_
    generalize eS10 : sI S b2 (upd (tI S b2) x3.toNatClampNeg (tI S b4 x3.toNatClampNeg)) = S10
    have h := h S10 eS10.symm
    have hm : Sm0 S S10 := by rw [← eS10]; exact hm.I
    have f1 : te S10 a0 = some (.inr 11) := by rw [← eS10, te_sI]; exact f1
    have f3 : tR S10 a0 36 = some b2 := by rw [← eS10, tR_sI]; exact f3
    have f5 : tR S10 a0 37 = some b4 := by rw [← eS10, tR_sI]; exact f5
    have f7 : te S10 b4 = some (.inl (.int, n6)) := by rw [← eS10, te_sI]; exact f7
    have f9 : te S10 b2 = some (.inl (.int, n8)) := by rw [← eS10, te_sI]; exact f9
    obtain ⟨y11, ey11⟩ : ∃ y : Int32, y = x3 + 1 := ⟨_, rfl⟩
    have h := h y11 ey11
    refine tt_iinc (i := 3) (n := 1) (v := y11) (lv' := [(0, .ref a0), (1, .int x1), (2, .int x2), (3, .int y11)]) (by decide +kernel) (by decide) rfl ey11.symm rfl ?_
    refine tt_goto (off := -21) (tgt := 111) (by decide +kernel) (by decide) ?_
    exact tt_mono h (fun r S' q => ⟨hm.tr q.1, q.2⟩)
set_option maxRecDepth 100000 in
theorem v_M_block_II_137 {G : pG} (a0 : Nat) (x1 : Int32) (x2 : Int32) (x3 : Int32) (S : TS) (Q : Option Value → TS → Prop)
    (h : ((10 ≤ x3 → T0 G J_M_block_II 233 [(0, .ref a0), (1, .int x1), (2, .int x2), (3, .int 0)] [] S Q) ∧ (¬ (10 ≤ x3) → T0 G J_M_block_II 146 [(0, .ref a0), (1, .int x1), (2, .int x2), (3, .int x3), (4, .int 0)] [] S Q))) :
    T0 G J_M_block_II 137 [(0, .ref a0), (1, .int x1), (2, .int x2), (3, .int x3)] [] S Q := by
  unfold T0
  have hm : Sm0 S S := Sm0.rf S
  refine tt_iload_n (k0 := 3) (by decide +kernel) rfl ?_
  refine tt_bipush (n := 10) (v := 10) (by decide +kernel) (by decide) ?_
  refine tt_icmp_ge (off := 91) 231 (by decide +kernel) (by decide) (fun c => ?_) (fun c => ?_)
  · have h := h.1 c
    refine tt_iconst (n := 0) (v := 0) (by decide +kernel) (by decide) ?_
    refine tt_istore_n (k0 := 3) (lv' := [(0, .ref a0), (1, .int x1), (2, .int x2), (3, .int 0)]) (by decide +kernel) (by decide) rfl ?_
    exact tt_mono h (fun r S' q => ⟨hm.tr q.1, q.2⟩)
  · have h := h.2 c
    refine tt_iconst (n := 0) (v := 0) (by decide +kernel) (by decide) ?_
    refine tt_istore (k0 := 4) (lv' := [(0, .ref a0), (1, .int x1), (2, .int x2), (3, .int x3), (4, .int 0)]) (by decide +kernel) (by decide) rfl ?_
    exact tt_mono h (fun r S' q => ⟨hm.tr q.1, q.2⟩)
set_option maxRecDepth 100000 in
theorem v_M_block_II_233 {G : pG} (a0 : Nat) (x1 : Int32) (x2 : Int32) (x3 : Int32) (S : TS) (Q : Option Value → TS → Prop)
    (h : ((16 ≤ x3 → Q none S) ∧ (¬ (16 ≤ x3) → te S a0 = some (.inr 11) ∧ ∃ b2 : Nat, tR S a0 36 = some b2 ∧ ∃ n4 : Nat, te S b2 = some (.inl (.int, n4)) ∧ vp_in x3 n4 ∧ ∃ b6 : Nat, tR S a0 37 = some b6 ∧ ∃ n8 : Nat, te S b6 = some (.inl (.int, n8)) ∧ vp_in x3 n8 ∧ ∀ y10 : Int32, y10 = (tI S b2 x3.toNatClampNeg) + (tI S b6 x3.toNatClampNeg) → T0 G J_M_block_II 257 [(0, .ref a0), (1, .int x1), (2, .int x2), (3, .int x3), (4, .int y10), (5, .int 0)] [] S Q))) :
    T0 G J_M_block_II 233 [(0, .ref a0), (1, .int x1), (2, .int x2), (3, .int x3)] [] S Q := by
  unfold T0
  have hm : Sm0 S S := Sm0.rf S
  refine tt_iload_n (k0 := 3) (by decide +kernel) rfl ?_
  refine tt_bipush (n := 16) (v := 16) (by decide +kernel) (by decide) ?_
  refine tt_icmp_ge (off := 59) 295 (by decide +kernel) (by decide) (fun c => ?_) (fun c => ?_)
  · have h := h.1 c
    exact tt_vret (by decide +kernel) rfl ⟨hm, h⟩
  · have h := h.2 c
    refine tt_aload_n (k0 := 0) (by decide +kernel) rfl ?_
    obtain ⟨f1, h⟩ := h
    obtain ⟨b2, f3, h⟩ := h
    refine tt_getR (k := 36) (by decide +kernel) KC_11 (by decide) w_901 (fun _ => rfl) f1 f3 ?_
    refine tt_iload_n (k0 := 3) (by decide +kernel) rfl ?_
    obtain ⟨n4, f5, h⟩ := h
    obtain ⟨g2, h⟩ := h
    refine tt_iald (by decide +kernel) f5 g2 ?_
    refine tt_aload_n (k0 := 0) (by decide +kernel) rfl ?_
    obtain ⟨b6, f7, h⟩ := h
    refine tt_getR (k := 37) (by decide +kernel) KC_11 (by decide) w_902 (fun _ => rfl) f1 f7 ?_
    refine tt_iload_n (k0 := 3) (by decide +kernel) rfl ?_
    obtain ⟨n8, f9, h⟩ := h
    obtain ⟨g2, h⟩ := h
    refine tt_iald (by decide +kernel) f9 g2 ?_
    refine tt_iadd (by decide +kernel) ?_
    refine tt_topi (fun y10 ey10 => ?_)
    have h := h y10 ey10
    refine tt_istore (k0 := 4) (lv' := [(0, .ref a0), (1, .int x1), (2, .int x2), (3, .int x3), (4, .int y10)]) (by decide +kernel) (by decide) rfl ?_
    refine tt_iconst (n := 0) (v := 0) (by decide +kernel) (by decide) ?_
    refine tt_istore (k0 := 5) (lv' := [(0, .ref a0), (1, .int x1), (2, .int x2), (3, .int x3), (4, .int y10), (5, .int 0)]) (by decide +kernel) (by decide) rfl ?_
    exact tt_mono h (fun r S' q => ⟨hm.tr q.1, q.2⟩)
set_option maxRecDepth 100000 in
theorem v_M_block_II_146 {G : pG} (a0 : Nat) (x1 : Int32) (x2 : Int32) (x3 : Int32) (x4 : Int32) (S : TS) (Q : Option Value → TS → Prop)
    (h : ((4 ≤ x4 → T0 G J_M_block_II 181 [(0, .ref a0), (1, .int x1), (2, .int x2), (3, .int x3), (4, .int 0)] [] S Q) ∧ (¬ (4 ≤ x4) → te S a0 = some (.inr 11) ∧ C0 G J_M_mix [.ref a0, .int x4, .int ((4 : Int32) + x4), .int ((8 : Int32) + x4), .int ((12 : Int32) + x4)] S (fun r S2 => r = none ∧ ∀ y3 : Int32, y3 = x4 + 1 → T0 G J_M_block_II 146 [(0, .ref a0), (1, .int x1), (2, .int x2), (3, .int x3), (4, .int y3)] [] S2 Q)))) :
    T0 G J_M_block_II 146 [(0, .ref a0), (1, .int x1), (2, .int x2), (3, .int x3), (4, .int x4)] [] S Q := by
  unfold T0
  have hm : Sm0 S S := Sm0.rf S
  refine tt_iload (k0 := 4) (by decide +kernel) rfl ?_
  refine tt_iconst (n := 4) (v := 4) (by decide +kernel) (by decide) ?_
  refine tt_icmp_ge (off := 29) 178 (by decide +kernel) (by decide) (fun c => ?_) (fun c => ?_)
  · have h := h.1 c
    refine tt_iconst (n := 0) (v := 0) (by decide +kernel) (by decide) ?_
    refine tt_istore (k0 := 4) (lv' := [(0, .ref a0), (1, .int x1), (2, .int x2), (3, .int x3), (4, .int 0)]) (by decide +kernel) (by decide) rfl ?_
    exact tt_mono h (fun r S' q => ⟨hm.tr q.1, q.2⟩)
  · have h := h.2 c
    refine tt_aload_n (k0 := 0) (by decide +kernel) rfl ?_
    refine tt_iload (k0 := 4) (by decide +kernel) rfl ?_
    refine tt_iconst (n := 4) (v := 4) (by decide +kernel) (by decide) ?_
    refine tt_iload (k0 := 4) (by decide +kernel) rfl ?_
    refine tt_iadd (by decide +kernel) ?_
    refine tt_bipush (n := 8) (v := 8) (by decide +kernel) (by decide) ?_
    refine tt_iload (k0 := 4) (by decide +kernel) rfl ?_
    refine tt_iadd (by decide +kernel) ?_
    refine tt_bipush (n := 12) (v := 12) (by decide +kernel) (by decide) ?_
    refine tt_iload (k0 := 4) (by decide +kernel) rfl ?_
    refine tt_iadd (by decide +kernel) ?_
    obtain ⟨f1, h⟩ := h
    refine tt_callV (As := [.int x4, .int ((4 : Int32) + x4), .int ((8 : Int32) + x4), .int ((12 : Int32) + x4)]) (rest := []) (ci := 11) (r0 := (R_11, F_11, 55)) (by decide +kernel) LK_M_mix w_1147 w_1149 (in_p (n := 55) 42 rfl) (by decide) (by decide) rfl rfl (Nat.le_of_ble_eq_true rfl) rfl rfl f1 (ct_mono h (fun r S2 h => ?_))
    obtain ⟨hm2, h⟩ := h
    obtain ⟨rfl, h⟩ := h
    show T G J_M_block_II 172 [(0, .ref a0), (1, .int x1), (2, .int x2), (3, .int x3), (4, .int x4)] [] S2 _
    have hm := hm.tr hm2
    have f1 : te S2 a0 = some (.inr 11) := by rw [hm2.1]; exact f1
    obtain ⟨y3, ey3⟩ : ∃ y : Int32, y = x4 + 1 := ⟨_, rfl⟩
    have h := h y3 ey3
    refine tt_iinc (i := 4) (n := 1) (v := y3) (lv' := [(0, .ref a0), (1, .int x1), (2, .int x2), (3, .int x3), (4, .int y3)]) (by decide +kernel) (by decide) rfl ey3.symm rfl ?_
    refine tt_goto (off := -29) (tgt := 146) (by decide +kernel) (by decide) ?_
    exact tt_mono h (fun r S' q => ⟨hm.tr q.1, q.2⟩)
set_option maxRecDepth 100000 in
theorem v_M_block_II_257 {G : pG} (a0 : Nat) (x1 : Int32) (x2 : Int32) (x3 : Int32) (x4 : Int32) (x5 : Int32) (S : TS) (Q : Option Value → TS → Prop)
    (h : ((4 ≤ x5 → ∀ y1 : Int32, y1 = x3 + 1 → T0 G J_M_block_II 233 [(0, .ref a0), (1, .int x1), (2, .int x2), (3, .int y1)] [] S Q) ∧ (¬ (4 ≤ x5) → te S a0 = some (.inr 11) ∧ ∃ b3 : Nat, tR S a0 38 = some b3 ∧ ∃ n5 : Nat, te S b3 = some (.inl (.byte, n5)) ∧ vp_in (((4 : Int32) * x3) + x5) n5 ∧ ∀ S7 : TS, S7 = sI S b3 (upd (tI S b3) (((4 : Int32) * x3) + x5).toNatClampNeg ((x4 >>> (((8 : Int32) * x5) &&& 31) : Int32).toInt8.toInt32 : Int32).toInt8.toInt32) → ∀ y8 : Int32, y8 = x5 + 1 → T0 G J_M_block_II 257 [(0, .ref a0), (1, .int x1), (2, .int x2), (3, .int x3), (4, .int x4), (5, .int y8)] [] S7 Q))) :
    T0 G J_M_block_II 257 [(0, .ref a0), (1, .int x1), (2, .int x2), (3, .int x3), (4, .int x4), (5, .int x5)] [] S Q := by
  unfold T0
  have hm : Sm0 S S := Sm0.rf S
  refine tt_iload (k0 := 5) (by decide +kernel) rfl ?_
  refine tt_iconst (n := 4) (v := 4) (by decide +kernel) (by decide) ?_
  refine tt_icmp_ge (off := 29) 289 (by decide +kernel) (by decide) (fun c => ?_) (fun c => ?_)
  · have h := h.1 c
    obtain ⟨y1, ey1⟩ : ∃ y : Int32, y = x3 + 1 := ⟨_, rfl⟩
    have h := h y1 ey1
    refine tt_iinc (i := 3) (n := 1) (v := y1) (lv' := [(0, .ref a0), (1, .int x1), (2, .int x2), (3, .int y1), (4, .int x4), (5, .int x5)]) (by decide +kernel) (by decide) rfl ey1.symm rfl ?_
    refine tt_goto (off := -59) (tgt := 233) (by decide +kernel) (by decide) ?_
    refine tt_lv [(0, .ref a0), (1, .int x1), (2, .int x2), (3, .int y1)] (by simp) ?_
    exact tt_mono h (fun r S' q => ⟨hm.tr q.1, q.2⟩)
  · have h := h.2 c
    refine tt_aload_n (k0 := 0) (by decide +kernel) rfl ?_
    obtain ⟨f2, h⟩ := h
    obtain ⟨b3, f4, h⟩ := h
    refine tt_getR (k := 38) (by decide +kernel) KC_11 (by decide) w_903 (fun _ => rfl) f2 f4 ?_
    refine tt_iconst (n := 4) (v := 4) (by decide +kernel) (by decide) ?_
    refine tt_iload_n (k0 := 3) (by decide +kernel) rfl ?_
    refine tt_imul (by decide +kernel) ?_
    refine tt_iload (k0 := 5) (by decide +kernel) rfl ?_
    refine tt_iadd (by decide +kernel) ?_
    refine tt_iload (k0 := 4) (by decide +kernel) rfl ?_
    refine tt_bipush (n := 8) (v := 8) (by decide +kernel) (by decide) ?_
    refine tt_iload (k0 := 5) (by decide +kernel) rfl ?_
    refine tt_imul (by decide +kernel) ?_
    refine tt_ishr (by decide +kernel) ?_
    refine tt_i2b (by decide +kernel) ?_
    obtain ⟨n5, f6, h⟩ := h
    obtain ⟨g2, h⟩ := h
    refine tt_bast (by decide +kernel) f6 g2 ?_
    generalize eS7 : sI S b3 (upd (tI S b3) (((4 : Int32) * x3) + x5).toNatClampNeg ((x4 >>> (((8 : Int32) * x5) &&& 31) : Int32).toInt8.toInt32 : Int32).toInt8.toInt32) = S7
    have h := h S7 eS7.symm
    have hm : Sm0 S S7 := by rw [← eS7]; exact hm.I
    have f2 : te S7 a0 = some (.inr 11) := by rw [← eS7, te_sI]; exact f2
    have f4 : tR S7 a0 38 = some b3 := by rw [← eS7, tR_sI]; exact f4
    have f6 : te S7 b3 = some (.inl (.byte, n5)) := by rw [← eS7, te_sI]; exact f6
    obtain ⟨y8, ey8⟩ : ∃ y : Int32, y = x5 + 1 := ⟨_, rfl⟩
    have h := h y8 ey8
    refine tt_iinc (i := 5) (n := 1) (v := y8) (lv' := [(0, .ref a0), (1, .int x1), (2, .int x2), (3, .int x3), (4, .int x4), (5, .int y8)]) (by decide +kernel) (by decide) rfl ey8.symm rfl ?_
    refine tt_goto (off := -29) (tgt := 257) (by decide +kernel) (by decide) ?_
    exact tt_mono h (fun r S' q => ⟨hm.tr q.1, q.2⟩)
set_option maxRecDepth 100000 in
theorem v_M_block_II_181 {G : pG} (a0 : Nat) (x1 : Int32) (x2 : Int32) (x3 : Int32) (x4 : Int32) (S : TS) (Q : Option Value → TS → Prop)
    (h : ((4 ≤ x4 → ∀ y1 : Int32, y1 = x3 + 1 → T0 G J_M_block_II 137 [(0, .ref a0), (1, .int x1), (2, .int x2), (3, .int y1)] [] S Q) ∧ (¬ (4 ≤ x4) → te S a0 = some (.inr 11) ∧ C0 G J_M_mix [.ref a0, .int x4, .int ((4 : Int32) + ((x4 + (1 : Int32)) - (x4 + (1 : Int32)) / (4 : Int32) * (4 : Int32))), .int ((8 : Int32) + ((x4 + (2 : Int32)) - (x4 + (2 : Int32)) / (4 : Int32) * (4 : Int32))), .int ((12 : Int32) + ((x4 + (3 : Int32)) - (x4 + (3 : Int32)) / (4 : Int32) * (4 : Int32)))] S (fun r S3 => r = none ∧ ∀ y4 : Int32, y4 = x4 + 1 → T0 G J_M_block_II 181 [(0, .ref a0), (1, .int x1), (2, .int x2), (3, .int x3), (4, .int y4)] [] S3 Q)))) :
    T0 G J_M_block_II 181 [(0, .ref a0), (1, .int x1), (2, .int x2), (3, .int x3), (4, .int x4)] [] S Q := by
  unfold T0
  have hm : Sm0 S S := Sm0.rf S
  refine tt_iload (k0 := 4) (by decide +kernel) rfl ?_
  refine tt_iconst (n := 4) (v := 4) (by decide +kernel) (by decide) ?_
  refine tt_icmp_ge (off := 41) 225 (by decide +kernel) (by decide) (fun c => ?_) (fun c => ?_)
  · have h := h.1 c
    obtain ⟨y1, ey1⟩ : ∃ y : Int32, y = x3 + 1 := ⟨_, rfl⟩
    have h := h y1 ey1
    refine tt_iinc (i := 3) (n := 1) (v := y1) (lv' := [(0, .ref a0), (1, .int x1), (2, .int x2), (3, .int y1), (4, .int x4)]) (by decide +kernel) (by decide) rfl ey1.symm rfl ?_
    refine tt_goto (off := -91) (tgt := 137) (by decide +kernel) (by decide) ?_
    refine tt_lv [(0, .ref a0), (1, .int x1), (2, .int x2), (3, .int y1)] (by simp) ?_
    exact tt_mono h (fun r S' q => ⟨hm.tr q.1, q.2⟩)
  · have h := h.2 c
    refine tt_aload_n (k0 := 0) (by decide +kernel) rfl ?_
    refine tt_iload (k0 := 4) (by decide +kernel) rfl ?_
    refine tt_iconst (n := 4) (v := 4) (by decide +kernel) (by decide) ?_
    refine tt_iload (k0 := 4) (by decide +kernel) rfl ?_
    refine tt_iconst (n := 1) (v := 1) (by decide +kernel) (by decide) ?_
    refine tt_iadd (by decide +kernel) ?_
    refine tt_iconst (n := 4) (v := 4) (by decide +kernel) (by decide) ?_
    refine tt_irem (by decide +kernel) (by decide) ?_
    refine tt_iadd (by decide +kernel) ?_
    refine tt_bipush (n := 8) (v := 8) (by decide +kernel) (by decide) ?_
    refine tt_iload (k0 := 4) (by decide +kernel) rfl ?_
    refine tt_iconst (n := 2) (v := 2) (by decide +kernel) (by decide) ?_
    refine tt_iadd (by decide +kernel) ?_
    refine tt_iconst (n := 4) (v := 4) (by decide +kernel) (by decide) ?_
    refine tt_irem (by decide +kernel) (by decide) ?_
    refine tt_iadd (by decide +kernel) ?_
    refine tt_bipush (n := 12) (v := 12) (by decide +kernel) (by decide) ?_
    refine tt_iload (k0 := 4) (by decide +kernel) rfl ?_
    refine tt_iconst (n := 3) (v := 3) (by decide +kernel) (by decide) ?_
    refine tt_iadd (by decide +kernel) ?_
    refine tt_iconst (n := 4) (v := 4) (by decide +kernel) (by decide) ?_
    refine tt_irem (by decide +kernel) (by decide) ?_
    refine tt_iadd (by decide +kernel) ?_
    obtain ⟨f2, h⟩ := h
    refine tt_callV (As := [.int x4, .int ((4 : Int32) + ((x4 + (1 : Int32)) - (x4 + (1 : Int32)) / (4 : Int32) * (4 : Int32))), .int ((8 : Int32) + ((x4 + (2 : Int32)) - (x4 + (2 : Int32)) / (4 : Int32) * (4 : Int32))), .int ((12 : Int32) + ((x4 + (3 : Int32)) - (x4 + (3 : Int32)) / (4 : Int32) * (4 : Int32)))]) (rest := []) (ci := 11) (r0 := (R_11, F_11, 55)) (by decide +kernel) LK_M_mix w_1147 w_1149 (in_p (n := 55) 42 rfl) (by decide) (by decide) rfl rfl (Nat.le_of_ble_eq_true rfl) rfl rfl f2 (ct_mono h (fun r S3 h => ?_))
    obtain ⟨hm2, h⟩ := h
    obtain ⟨rfl, h⟩ := h
    show T G J_M_block_II 219 [(0, .ref a0), (1, .int x1), (2, .int x2), (3, .int x3), (4, .int x4)] [] S3 _
    have hm := hm.tr hm2
    have f2 : te S3 a0 = some (.inr 11) := by rw [hm2.1]; exact f2
    obtain ⟨y4, ey4⟩ : ∃ y : Int32, y = x4 + 1 := ⟨_, rfl⟩
    have h := h y4 ey4
    refine tt_iinc (i := 4) (n := 1) (v := y4) (lv' := [(0, .ref a0), (1, .int x1), (2, .int x2), (3, .int x3), (4, .int y4)]) (by decide +kernel) (by decide) rfl ey4.symm rfl ?_
    refine tt_goto (off := -41) (tgt := 181) (by decide +kernel) (by decide) ?_
    exact tt_mono h (fun r S' q => ⟨hm.tr q.1, q.2⟩)
set_option maxRecDepth 100000 in
theorem v_M_swapped {G : pG} (x0 : Int32) (S : TS) (Q : Option Value → Prop)
    (h : Q (some (.int ((((x0 <<< ((24 : Int32) &&& 31)) ||| ((x0 &&& (65280 : Int32)) <<< ((8 : Int32) &&& 31))) ||| ((x0 >>> ((8 : Int32) &&& 31)) &&& (65280 : Int32))) ||| (ushr x0 24))))) :
    CP G J_M_swapped [.int x0] S Q := by
  unfold CP
  refine ct_of (by decide +kernel) (Nat.le_of_ble_eq_true rfl) (lv := [(0, .int x0)]) rfl ?_
  refine tt_iload_n (k0 := 0) (by decide +kernel) rfl ?_
  refine tt_bipush (n := 24) (v := 24) (by decide +kernel) (by decide) ?_
  refine tt_ishl (by decide +kernel) ?_
  refine tt_iload_n (k0 := 0) (by decide +kernel) rfl ?_
  refine tt_ldc (v := 65280) (by decide +kernel) w_1146 ?_
  refine tt_iand (by decide +kernel) ?_
  refine tt_bipush (n := 8) (v := 8) (by decide +kernel) (by decide) ?_
  refine tt_ishl (by decide +kernel) ?_
  refine tt_ior (by decide +kernel) ?_
  refine tt_iload_n (k0 := 0) (by decide +kernel) rfl ?_
  refine tt_bipush (n := 8) (v := 8) (by decide +kernel) (by decide) ?_
  refine tt_ishr (by decide +kernel) ?_
  refine tt_ldc (v := 65280) (by decide +kernel) w_1146 ?_
  refine tt_iand (by decide +kernel) ?_
  refine tt_ior (by decide +kernel) ?_
  refine tt_iload_n (k0 := 0) (by decide +kernel) rfl ?_
  refine tt_bipush (n := 24) (v := 24) (by decide +kernel) (by decide) ?_
  refine tt_iushr (by decide +kernel) ?_
  refine tt_ior (by decide +kernel) ?_
  exact tt_iret (by decide +kernel) rfl ⟨rfl, h⟩
set_option maxRecDepth 100000 in
theorem v_M_turned {G : pG} (x0 : Int32) (x1 : Int32) (S : TS) (Q : Option Value → Prop)
    (h : Q (some (.int ((x0 <<< (x1 &&& 31)) ||| (ushr x0 ((32 : Int32) - x1)))))) :
    CP G J_M_turned [.int x0, .int x1] S Q := by
  unfold CP
  refine ct_of (by decide +kernel) (Nat.le_of_ble_eq_true rfl) (lv := [(0, .int x0), (1, .int x1)]) rfl ?_
  refine tt_iload_n (k0 := 0) (by decide +kernel) rfl ?_
  refine tt_iload_n (k0 := 1) (by decide +kernel) rfl ?_
  refine tt_ishl (by decide +kernel) ?_
  refine tt_iload_n (k0 := 0) (by decide +kernel) rfl ?_
  refine tt_bipush (n := 32) (v := 32) (by decide +kernel) (by decide) ?_
  refine tt_iload_n (k0 := 1) (by decide +kernel) rfl ?_
  refine tt_isub (by decide +kernel) ?_
  refine tt_iushr (by decide +kernel) ?_
  refine tt_ior (by decide +kernel) ?_
  exact tt_iret (by decide +kernel) rfl ⟨rfl, h⟩
set_option maxRecDepth 100000 in
theorem v_M_tagRecord {G : pG} (a0 : Nat) (a1 : Nat) (x2 : Int32) (x3 : Int32) (x4 : Int32) (S : TS) (Q : Option Value → TS → Prop)
    (h : T0 G J_M_tagRecord 6 [(0, .ref a0), (1, .ref a1), (2, .int x2), (3, .int x3), (4, .int x4), (5, .int 0), (6, .int 0)] [] S Q) :
    C0 G J_M_tagRecord [.ref a0, .ref a1, .int x2, .int x3, .int x4] S Q := by
  unfold C0
  refine ct_of (by decide +kernel) (Nat.le_of_ble_eq_true rfl) (lv := [(0, .ref a0), (1, .ref a1), (2, .int x2), (3, .int x3), (4, .int x4)]) rfl ?_
  have hm : Sm0 S S := Sm0.rf S
  refine tt_iconst (n := 0) (v := 0) (by decide +kernel) (by decide) ?_
  refine tt_istore (k0 := 5) (lv' := [(0, .ref a0), (1, .ref a1), (2, .int x2), (3, .int x3), (4, .int x4), (5, .int 0)]) (by decide +kernel) (by decide) rfl ?_
  refine tt_iconst (n := 0) (v := 0) (by decide +kernel) (by decide) ?_
  refine tt_istore (k0 := 6) (lv' := [(0, .ref a0), (1, .ref a1), (2, .int x2), (3, .int x3), (4, .int x4), (5, .int 0), (6, .int 0)]) (by decide +kernel) (by decide) rfl ?_
  exact tt_mono h (fun r S' q => ⟨hm.tr q.1, q.2⟩)
set_option maxRecDepth 100000 in
theorem v_M_tagRecord_6 {G : pG} (a0 : Nat) (a1 : Nat) (x2 : Int32) (x3 : Int32) (x4 : Int32) (x5 : Int32) (x6 : Int32) (S : TS) (Q : Option Value → TS → Prop)
    (h : ((16 ≤ x6 → T0 G J_M_tagRecord 49 [(0, .ref a0), (1, .ref a1), (2, .int x2), (3, .int x3), (4, .int x4), (5, .int 16), (6, .int 0)] [] S Q) ∧ (¬ (16 ≤ x6) → te S a0 = some (.inr 11) ∧ ∃ b2 : Nat, tR S a0 42 = some b2 ∧ ((3 ≤ x6 → ∃ n4 : Nat, te S b2 = some (.inl (.byte, n4)) ∧ vp_in x6 n4 ∧ ∀ S6 : TS, S6 = sI S b2 (upd (tI S b2) x6.toNatClampNeg (0 : Int32).toInt8.toInt32) → ∀ y7 : Int32, y7 = x6 + 1 → T0 G J_M_tagRecord 6 [(0, .ref a0), (1, .ref a1), (2, .int x2), (3, .int x3), (4, .int x4), (5, .int x5), (6, .int y7)] [] S6 Q) ∧ (¬ (3 ≤ x6) → ∃ n8 : Nat, te S a1 = some (.inl (.byte, n8)) ∧ vp_in (x2 + x6) n8 ∧ ∃ n10 : Nat, te S b2 = some (.inl (.byte, n10)) ∧ vp_in x6 n10 ∧ ∀ S12 : TS, S12 = sI S b2 (upd (tI S b2) x6.toNatClampNeg (tI S a1 (x2 + x6).toNatClampNeg : Int32).toInt8.toInt32) → ∀ y13 : Int32, y13 = x6 + 1 → T0 G J_M_tagRecord 6 [(0, .ref a0), (1, .ref a1), (2, .int x2), (3, .int x3), (4, .int x4), (5, .int x5), (6, .int y13)] [] S12 Q))))) :
    T0 G J_M_tagRecord 6 [(0, .ref a0), (1, .ref a1), (2, .int x2), (3, .int x3), (4, .int x4), (5, .int x5), (6, .int x6)] [] S Q := by
  unfold T0
  have hm : Sm0 S S := Sm0.rf S
  refine tt_iload (k0 := 6) (by decide +kernel) rfl ?_
  refine tt_bipush (n := 16) (v := 16) (by decide +kernel) (by decide) ?_
  refine tt_icmp_ge (off := 32) 42 (by decide +kernel) (by decide) (fun c => ?_) (fun c => ?_)
  · have h := h.1 c
    refine tt_bipush (n := 16) (v := 16) (by decide +kernel) (by decide) ?_
    refine tt_istore (k0 := 5) (lv' := [(0, .ref a0), (1, .ref a1), (2, .int x2), (3, .int x3), (4, .int x4), (5, .int 16), (6, .int x6)]) (by decide +kernel) (by decide) rfl ?_
    refine tt_iconst (n := 0) (v := 0) (by decide +kernel) (by decide) ?_
    refine tt_istore (k0 := 6) (lv' := [(0, .ref a0), (1, .ref a1), (2, .int x2), (3, .int x3), (4, .int x4), (5, .int 16), (6, .int 0)]) (by decide +kernel) (by decide) rfl ?_
    exact tt_mono h (fun r S' q => ⟨hm.tr q.1, q.2⟩)
  · have h := h.2 c
    refine tt_aload_n (k0 := 0) (by decide +kernel) rfl ?_
    obtain ⟨f1, h⟩ := h
    obtain ⟨b2, f3, h⟩ := h
    refine tt_getR (k := 42) (by decide +kernel) KC_11 (by decide) w_907 (fun _ => rfl) f1 f3 ?_
    refine tt_iload (k0 := 6) (by decide +kernel) rfl ?_
    refine tt_iload (k0 := 6) (by decide +kernel) rfl ?_
    refine tt_iconst (n := 3) (v := 3) (by decide +kernel) (by decide) ?_
    refine tt_icmp_ge (off := 12) 34 (by decide +kernel) (by decide) (fun c => ?_) (fun c => ?_)
    · have h := h.1 c
      refine tt_iconst (n := 0) (v := 0) (by decide +kernel) (by decide) ?_
      obtain ⟨n4, f5, h⟩ := h
      obtain ⟨g2, h⟩ := h
      refine tt_bast (by decide +kernel) f5 g2 ?_
      generalize eS6 : sI S b2 (upd (tI S b2) x6.toNatClampNeg (0 : Int32).toInt8.toInt32) = S6
      have h := h S6 eS6.symm
      have hm : Sm0 S S6 := by rw [← eS6]; exact hm.I
      have f1 : te S6 a0 = some (.inr 11) := by rw [← eS6, te_sI]; exact f1
      have f3 : tR S6 a0 42 = some b2 := by rw [← eS6, tR_sI]; exact f3
      have f5 : te S6 b2 = some (.inl (.byte, n4)) := by rw [← eS6, te_sI]; exact f5
      obtain ⟨y7, ey7⟩ : ∃ y : Int32, y = x6 + 1 := ⟨_, rfl⟩
      have h := h y7 ey7
      refine tt_iinc (i := 6) (n := 1) (v := y7) (lv' := [(0, .ref a0), (1, .ref a1), (2, .int x2), (3, .int x3), (4, .int x4), (5, .int x5), (6, .int y7)]) (by decide +kernel) (by decide) rfl ey7.symm rfl ?_
      refine tt_goto (off := -33) (tgt := 6) (by decide +kernel) (by decide) ?_
      exact tt_mono h (fun r S' q => ⟨hm.tr q.1, q.2⟩)
    · have h := h.2 c
      refine tt_aload_n (k0 := 1) (by decide +kernel) rfl ?_
      refine tt_iload_n (k0 := 2) (by decide +kernel) rfl ?_
      refine tt_iload (k0 := 6) (by decide +kernel) rfl ?_
      refine tt_iadd (by decide +kernel) ?_
      obtain ⟨n8, f9, h⟩ := h
      obtain ⟨g2, h⟩ := h
      refine tt_bald (by decide +kernel) f9 g2 ?_
      refine tt_goto (off := 4) (tgt := 35) (by decide +kernel) (by decide) ?_
      obtain ⟨n10, f11, h⟩ := h
      obtain ⟨g2, h⟩ := h
      refine tt_bast (by decide +kernel) f11 g2 ?_
      generalize eS12 : sI S b2 (upd (tI S b2) x6.toNatClampNeg (tI S a1 (x2 + x6).toNatClampNeg : Int32).toInt8.toInt32) = S12
      have h := h S12 eS12.symm
      have hm : Sm0 S S12 := by rw [← eS12]; exact hm.I
      have f1 : te S12 a0 = some (.inr 11) := by rw [← eS12, te_sI]; exact f1
      have f3 : tR S12 a0 42 = some b2 := by rw [← eS12, tR_sI]; exact f3
      have f9 : te S12 a1 = some (.inl (.byte, n8)) := by rw [← eS12, te_sI]; exact f9
      have f11 : te S12 b2 = some (.inl (.byte, n10)) := by rw [← eS12, te_sI]; exact f11
      obtain ⟨y13, ey13⟩ : ∃ y : Int32, y = x6 + 1 := ⟨_, rfl⟩
      have h := h y13 ey13
      refine tt_iinc (i := 6) (n := 1) (v := y13) (lv' := [(0, .ref a0), (1, .ref a1), (2, .int x2), (3, .int x3), (4, .int x4), (5, .int x5), (6, .int y13)]) (by decide +kernel) (by decide) rfl ey13.symm rfl ?_
      refine tt_goto (off := -33) (tgt := 6) (by decide +kernel) (by decide) ?_
      exact tt_mono h (fun r S' q => ⟨hm.tr q.1, q.2⟩)
set_option maxRecDepth 100000 in
theorem v_M_tagRecord_49 {G : pG} (a0 : Nat) (a1 : Nat) (x2 : Int32) (x3 : Int32) (x4 : Int32) (x5 : Int32) (x6 : Int32) (S : TS) (Q : Option Value → TS → Prop)
    (h : ((x6 < x3 → te S a0 = some (.inr 11) ∧ ∃ b2 : Nat, tR S a0 42 = some b2 ∧ ((x3 ≤ x6 → ∃ n4 : Nat, te S b2 = some (.inl (.byte, n4)) ∧ vp_in x5 n4 ∧ ∀ S6 : TS, S6 = sI S b2 (upd (tI S b2) x5.toNatClampNeg (0 : Int32).toInt8.toInt32) → ∀ y7 : Int32, y7 = x5 + 1 → ∀ y8 : Int32, y8 = x6 + 1 → T0 G J_M_tagRecord 49 [(0, .ref a0), (1, .ref a1), (2, .int x2), (3, .int x3), (4, .int x4), (5, .int y7), (6, .int y8)] [] S6 Q) ∧ (¬ (x3 ≤ x6) → ∃ n9 : Nat, te S a1 = some (.inl (.byte, n9)) ∧ vp_in ((x2 + (3 : Int32)) + x6) n9 ∧ ∃ n11 : Nat, te S b2 = some (.inl (.byte, n11)) ∧ vp_in x5 n11 ∧ ∀ S13 : TS, S13 = sI S b2 (upd (tI S b2) x5.toNatClampNeg (tI S a1 ((x2 + (3 : Int32)) + x6).toNatClampNeg : Int32).toInt8.toInt32) → ∀ y14 : Int32, y14 = x5 + 1 → ∀ y15 : Int32, y15 = x6 + 1 → T0 G J_M_tagRecord 49 [(0, .ref a0), (1, .ref a1), (2, .int x2), (3, .int x3), (4, .int x4), (5, .int y14), (6, .int y15)] [] S13 Q))) ∧ (¬ (x6 < x3) → ((x5 &&& (15 : Int32) = 0 → T0 G J_M_tagRecord 100 [(0, .ref a0), (1, .ref a1), (2, .int x2), (3, .int x3), (4, .int x4), (5, .int x5), (6, .int 0)] [] S Q) ∧ (¬ (x5 &&& (15 : Int32) = 0) → te S a0 = some (.inr 11) ∧ ∃ b17 : Nat, tR S a0 42 = some b17 ∧ ((x3 ≤ x6 → ∃ n19 : Nat, te S b17 = some (.inl (.byte, n19)) ∧ vp_in x5 n19 ∧ ∀ S21 : TS, S21 = sI S b17 (upd (tI S b17) x5.toNatClampNeg (0 : Int32).toInt8.toInt32) → ∀ y22 : Int32, y22 = x5 + 1 → ∀ y23 : Int32, y23 = x6 + 1 → T0 G J_M_tagRecord 49 [(0, .ref a0), (1, .ref a1), (2, .int x2), (3, .int x3), (4, .int x4), (5, .int y22), (6, .int y23)] [] S21 Q) ∧ (¬ (x3 ≤ x6) → ∃ n24 : Nat, te S a1 = some (.inl (.byte, n24)) ∧ vp_in ((x2 + (3 : Int32)) + x6) n24 ∧ ∃ n26 : Nat, te S b17 = some (.inl (.byte, n26)) ∧ vp_in x5 n26 ∧ ∀ S28 : TS, S28 = sI S b17 (upd (tI S b17) x5.toNatClampNeg (tI S a1 ((x2 + (3 : Int32)) + x6).toNatClampNeg : Int32).toInt8.toInt32) → ∀ y29 : Int32, y29 = x5 + 1 → ∀ y30 : Int32, y30 = x6 + 1 → T0 G J_M_tagRecord 49 [(0, .ref a0), (1, .ref a1), (2, .int x2), (3, .int x3), (4, .int x4), (5, .int y29), (6, .int y30)] [] S28 Q))))))) :
    T0 G J_M_tagRecord 49 [(0, .ref a0), (1, .ref a1), (2, .int x2), (3, .int x3), (4, .int x4), (5, .int x5), (6, .int x6)] [] S Q := by
  unfold T0
  have hm : Sm0 S S := Sm0.rf S
  refine tt_iload (k0 := 6) (by decide +kernel) rfl ?_
  refine tt_iload_n (k0 := 3) (by decide +kernel) rfl ?_
  refine tt_icmp_lt (off := 11) 63 (by decide +kernel) (by decide) (fun c => ?_) (fun c => ?_)
  · have h := h.1 c
    refine tt_aload_n (k0 := 0) (by decide +kernel) rfl ?_
    obtain ⟨f1, h⟩ := h
    obtain ⟨b2, f3, h⟩ := h
    refine tt_getR (k := 42) (by decide +kernel) KC_11 (by decide) w_907 (fun _ => rfl) f1 f3 ?_
    refine tt_iload (k0 := 5) (by decide +kernel) rfl ?_
    refine tt_iload (k0 := 6) (by decide +kernel) rfl ?_
    refine tt_iload_n (k0 := 3) (by decide +kernel) rfl ?_
    refine tt_icmp_ge (off := 14) 86 (by decide +kernel) (by decide) (fun c => ?_) (fun c => ?_)
    · have h := h.1 c
      refine tt_iconst (n := 0) (v := 0) (by decide +kernel) (by decide) ?_
      obtain ⟨n4, f5, h⟩ := h
      obtain ⟨g2, h⟩ := h
      refine tt_bast (by decide +kernel) f5 g2 ?_
      generalize eS6 : sI S b2 (upd (tI S b2) x5.toNatClampNeg (0 : Int32).toInt8.toInt32) = S6
      have h := h S6 eS6.symm
      have hm : Sm0 S S6 := by rw [← eS6]; exact hm.I
      have f1 : te S6 a0 = some (.inr 11) := by rw [← eS6, te_sI]; exact f1
      have f3 : tR S6 a0 42 = some b2 := by rw [← eS6, tR_sI]; exact f3
      have f5 : te S6 b2 = some (.inl (.byte, n4)) := by rw [← eS6, te_sI]; exact f5
      obtain ⟨y7, ey7⟩ : ∃ y : Int32, y = x5 + 1 := ⟨_, rfl⟩
      have h := h y7 ey7
      refine tt_iinc (i := 5) (n := 1) (v := y7) (lv' := [(0, .ref a0), (1, .ref a1), (2, .int x2), (3, .int x3), (4, .int x4), (5, .int y7), (6, .int x6)]) (by decide +kernel) (by decide) rfl ey7.symm rfl ?_
      obtain ⟨y8, ey8⟩ : ∃ y : Int32, y = x6 + 1 := ⟨_, rfl⟩
      have h := h y8 ey8
      refine tt_iinc (i := 6) (n := 1) (v := y8) (lv' := [(0, .ref a0), (1, .ref a1), (2, .int x2), (3, .int x3), (4, .int x4), (5, .int y7), (6, .int y8)]) (by decide +kernel) (by decide) rfl ey8.symm rfl ?_
      refine tt_goto (off := -45) (tgt := 49) (by decide +kernel) (by decide) ?_
      exact tt_mono h (fun r S' q => ⟨hm.tr q.1, q.2⟩)
    · have h := h.2 c
      refine tt_aload_n (k0 := 1) (by decide +kernel) rfl ?_
      refine tt_iload_n (k0 := 2) (by decide +kernel) rfl ?_
      refine tt_iconst (n := 3) (v := 3) (by decide +kernel) (by decide) ?_
      refine tt_iadd (by decide +kernel) ?_
      refine tt_iload (k0 := 6) (by decide +kernel) rfl ?_
      refine tt_iadd (by decide +kernel) ?_
      obtain ⟨n9, f10, h⟩ := h
      obtain ⟨g2, h⟩ := h
      refine tt_bald (by decide +kernel) f10 g2 ?_
      refine tt_goto (off := 4) (tgt := 87) (by decide +kernel) (by decide) ?_
      obtain ⟨n11, f12, h⟩ := h
      obtain ⟨g2, h⟩ := h
      refine tt_bast (by decide +kernel) f12 g2 ?_
      generalize eS13 : sI S b2 (upd (tI S b2) x5.toNatClampNeg (tI S a1 ((x2 + (3 : Int32)) + x6).toNatClampNeg : Int32).toInt8.toInt32) = S13
      have h := h S13 eS13.symm
      have hm : Sm0 S S13 := by rw [← eS13]; exact hm.I
      have f1 : te S13 a0 = some (.inr 11) := by rw [← eS13, te_sI]; exact f1
      have f3 : tR S13 a0 42 = some b2 := by rw [← eS13, tR_sI]; exact f3
      have f10 : te S13 a1 = some (.inl (.byte, n9)) := by rw [← eS13, te_sI]; exact f10
      have f12 : te S13 b2 = some (.inl (.byte, n11)) := by rw [← eS13, te_sI]; exact f12
      obtain ⟨y14, ey14⟩ : ∃ y : Int32, y = x5 + 1 := ⟨_, rfl⟩
      have h := h y14 ey14
      refine tt_iinc (i := 5) (n := 1) (v := y14) (lv' := [(0, .ref a0), (1, .ref a1), (2, .int x2), (3, .int x3), (4, .int x4), (5, .int y14), (6, .int x6)]) (by decide +kernel) (by decide) rfl ey14.symm rfl ?_
      obtain ⟨y15, ey15⟩ : ∃ y : Int32, y = x6 + 1 := ⟨_, rfl⟩
      have h := h y15 ey15
      refine tt_iinc (i := 6) (n := 1) (v := y15) (lv' := [(0, .ref a0), (1, .ref a1), (2, .int x2), (3, .int x3), (4, .int x4), (5, .int y14), (6, .int y15)]) (by decide +kernel) (by decide) rfl ey15.symm rfl ?_
      refine tt_goto (off := -45) (tgt := 49) (by decide +kernel) (by decide) ?_
      exact tt_mono h (fun r S' q => ⟨hm.tr q.1, q.2⟩)
  · have h := h.2 c
    refine tt_iload (k0 := 5) (by decide +kernel) rfl ?_
    refine tt_bipush (n := 15) (v := 15) (by decide +kernel) (by decide) ?_
    refine tt_iand (by decide +kernel) ?_
    refine tt_if_eq (off := 37) 97 (by decide +kernel) (by decide) (fun c => ?_) (fun c => ?_)
    · have h := h.1 c
      refine tt_iconst (n := 0) (v := 0) (by decide +kernel) (by decide) ?_
      refine tt_istore (k0 := 6) (lv' := [(0, .ref a0), (1, .ref a1), (2, .int x2), (3, .int x3), (4, .int x4), (5, .int x5), (6, .int 0)]) (by decide +kernel) (by decide) rfl ?_
      exact tt_mono h (fun r S' q => ⟨hm.tr q.1, q.2⟩)
    · have h := h.2 c
      refine tt_aload_n (k0 := 0) (by decide +kernel) rfl ?_
      obtain ⟨f16, h⟩ := h
      obtain ⟨b17, f18, h⟩ := h
      refine tt_getR (k := 42) (by decide +kernel) KC_11 (by decide) w_907 (fun _ => rfl) f16 f18 ?_
      refine tt_iload (k0 := 5) (by decide +kernel) rfl ?_
      refine tt_iload (k0 := 6) (by decide +kernel) rfl ?_
      refine tt_iload_n (k0 := 3) (by decide +kernel) rfl ?_
      refine tt_icmp_ge (off := 14) 86 (by decide +kernel) (by decide) (fun c => ?_) (fun c => ?_)
      · have h := h.1 c
        refine tt_iconst (n := 0) (v := 0) (by decide +kernel) (by decide) ?_
        obtain ⟨n19, f20, h⟩ := h
        obtain ⟨g2, h⟩ := h
        refine tt_bast (by decide +kernel) f20 g2 ?_
        generalize eS21 : sI S b17 (upd (tI S b17) x5.toNatClampNeg (0 : Int32).toInt8.toInt32) = S21
        have h := h S21 eS21.symm
        have hm : Sm0 S S21 := by rw [← eS21]; exact hm.I
        have f16 : te S21 a0 = some (.inr 11) := by rw [← eS21, te_sI]; exact f16
        have f18 : tR S21 a0 42 = some b17 := by rw [← eS21, tR_sI]; exact f18
        have f20 : te S21 b17 = some (.inl (.byte, n19)) := by rw [← eS21, te_sI]; exact f20
        obtain ⟨y22, ey22⟩ : ∃ y : Int32, y = x5 + 1 := ⟨_, rfl⟩
        have h := h y22 ey22
        refine tt_iinc (i := 5) (n := 1) (v := y22) (lv' := [(0, .ref a0), (1, .ref a1), (2, .int x2), (3, .int x3), (4, .int x4), (5, .int y22), (6, .int x6)]) (by decide +kernel) (by decide) rfl ey22.symm rfl ?_
        obtain ⟨y23, ey23⟩ : ∃ y : Int32, y = x6 + 1 := ⟨_, rfl⟩
        have h := h y23 ey23
        refine tt_iinc (i := 6) (n := 1) (v := y23) (lv' := [(0, .ref a0), (1, .ref a1), (2, .int x2), (3, .int x3), (4, .int x4), (5, .int y22), (6, .int y23)]) (by decide +kernel) (by decide) rfl ey23.symm rfl ?_
        refine tt_goto (off := -45) (tgt := 49) (by decide +kernel) (by decide) ?_
        exact tt_mono h (fun r S' q => ⟨hm.tr q.1, q.2⟩)
      · have h := h.2 c
        refine tt_aload_n (k0 := 1) (by decide +kernel) rfl ?_
        refine tt_iload_n (k0 := 2) (by decide +kernel) rfl ?_
        refine tt_iconst (n := 3) (v := 3) (by decide +kernel) (by decide) ?_
        refine tt_iadd (by decide +kernel) ?_
        refine tt_iload (k0 := 6) (by decide +kernel) rfl ?_
        refine tt_iadd (by decide +kernel) ?_
        obtain ⟨n24, f25, h⟩ := h
        obtain ⟨g2, h⟩ := h
        refine tt_bald (by decide +kernel) f25 g2 ?_
        refine tt_goto (off := 4) (tgt := 87) (by decide +kernel) (by decide) ?_
        obtain ⟨n26, f27, h⟩ := h
        obtain ⟨g2, h⟩ := h
        refine tt_bast (by decide +kernel) f27 g2 ?_
        generalize eS28 : sI S b17 (upd (tI S b17) x5.toNatClampNeg (tI S a1 ((x2 + (3 : Int32)) + x6).toNatClampNeg : Int32).toInt8.toInt32) = S28
        have h := h S28 eS28.symm
        have hm : Sm0 S S28 := by rw [← eS28]; exact hm.I
        have f16 : te S28 a0 = some (.inr 11) := by rw [← eS28, te_sI]; exact f16
        have f18 : tR S28 a0 42 = some b17 := by rw [← eS28, tR_sI]; exact f18
        have f25 : te S28 a1 = some (.inl (.byte, n24)) := by rw [← eS28, te_sI]; exact f25
        have f27 : te S28 b17 = some (.inl (.byte, n26)) := by rw [← eS28, te_sI]; exact f27
        obtain ⟨y29, ey29⟩ : ∃ y : Int32, y = x5 + 1 := ⟨_, rfl⟩
        have h := h y29 ey29
        refine tt_iinc (i := 5) (n := 1) (v := y29) (lv' := [(0, .ref a0), (1, .ref a1), (2, .int x2), (3, .int x3), (4, .int x4), (5, .int y29), (6, .int x6)]) (by decide +kernel) (by decide) rfl ey29.symm rfl ?_
        obtain ⟨y30, ey30⟩ : ∃ y : Int32, y = x6 + 1 := ⟨_, rfl⟩
        have h := h y30 ey30
        refine tt_iinc (i := 6) (n := 1) (v := y30) (lv' := [(0, .ref a0), (1, .ref a1), (2, .int x2), (3, .int x3), (4, .int x4), (5, .int y29), (6, .int y30)]) (by decide +kernel) (by decide) rfl ey30.symm rfl ?_
        refine tt_goto (off := -45) (tgt := 49) (by decide +kernel) (by decide) ?_
        exact tt_mono h (fun r S' q => ⟨hm.tr q.1, q.2⟩)
set_option maxRecDepth 100000 in
theorem v_M_tagRecord_100 {G : pG} (a0 : Nat) (a1 : Nat) (x2 : Int32) (x3 : Int32) (x4 : Int32) (x5 : Int32) (x6 : Int32) (S : TS) (Q : Option Value → TS → Prop)
    (h : ((16 ≤ x6 → te S a0 = some (.inr 11) ∧ ∃ b2 : Nat, tR S a0 42 = some b2 ∧ ∃ n4 : Nat, te S b2 = some (.inl (.byte, n4)) ∧ vp_in x5 n4 ∧ ∀ S6 : TS, S6 = sI S b2 (upd (tI S b2) x5.toNatClampNeg (3 : Int32).toInt8.toInt32) → vp_in (x5 + (8 : Int32)) n4 ∧ ∀ S7 : TS, S7 = sI S6 b2 (upd (tI S6 b2) (x5 + (8 : Int32)).toNatClampNeg ((x3 : Int32).toInt8.toInt32 : Int32).toInt8.toInt32) → vp_in (x5 + (9 : Int32)) n4 ∧ ∀ S8 : TS, S8 = sI S7 b2 (upd (tI S7 b2) (x5 + (9 : Int32)).toNatClampNeg ((x3 >>> ((8 : Int32) &&& 31) : Int32).toInt8.toInt32 : Int32).toInt8.toInt32) → C0 G J_M_block_II [.ref a0, .int x4, .int 0] S8 (fun r S9 => r = none ∧ C0 G J_M_tagOf [.ref a0, .int (x5 + (16 : Int32))] S9 (fun r S10 => r = none ∧ Q none S10))) ∧ (¬ (16 ≤ x6) → te S a0 = some (.inr 11) ∧ ∃ b12 : Nat, tR S a0 42 = some b12 ∧ ∃ n14 : Nat, te S b12 = some (.inl (.byte, n14)) ∧ vp_in (x5 + x6) n14 ∧ ∀ S16 : TS, S16 = sI S b12 (upd (tI S b12) (x5 + x6).toNatClampNeg (0 : Int32).toInt8.toInt32) → ∀ y17 : Int32, y17 = x6 + 1 → T0 G J_M_tagRecord 100 [(0, .ref a0), (1, .ref a1), (2, .int x2), (3, .int x3), (4, .int x4), (5, .int x5), (6, .int y17)] [] S16 Q))) :
    T0 G J_M_tagRecord 100 [(0, .ref a0), (1, .ref a1), (2, .int x2), (3, .int x3), (4, .int x4), (5, .int x5), (6, .int x6)] [] S Q := by
  unfold T0
  have hm : Sm0 S S := Sm0.rf S
  refine tt_iload (k0 := 6) (by decide +kernel) rfl ?_
  refine tt_bipush (n := 16) (v := 16) (by decide +kernel) (by decide) ?_
  refine tt_icmp_ge (off := 20) 124 (by decide +kernel) (by decide) (fun c => ?_) (fun c => ?_)
  · have h := h.1 c
    refine tt_aload_n (k0 := 0) (by decide +kernel) rfl ?_
    obtain ⟨f1, h⟩ := h
    obtain ⟨b2, f3, h⟩ := h
    refine tt_getR (k := 42) (by decide +kernel) KC_11 (by decide) w_907 (fun _ => rfl) f1 f3 ?_
    refine tt_iload (k0 := 5) (by decide +kernel) rfl ?_
    refine tt_iconst (n := 3) (v := 3) (by decide +kernel) (by decide) ?_
    obtain ⟨n4, f5, h⟩ := h
    obtain ⟨g2, h⟩ := h
    refine tt_bast (by decide +kernel) f5 g2 ?_
    generalize eS6 : sI S b2 (upd (tI S b2) x5.toNatClampNeg (3 : Int32).toInt8.toInt32) = S6
    have h := h S6 eS6.symm
    have hm : Sm0 S S6 := by rw [← eS6]; exact hm.I
    have f1 : te S6 a0 = some (.inr 11) := by rw [← eS6, te_sI]; exact f1
    have f3 : tR S6 a0 42 = some b2 := by rw [← eS6, tR_sI]; exact f3
    have f5 : te S6 b2 = some (.inl (.byte, n4)) := by rw [← eS6, te_sI]; exact f5
    refine tt_aload_n (k0 := 0) (by decide +kernel) rfl ?_
    refine tt_getR (k := 42) (by decide +kernel) KC_11 (by decide) w_907 (fun _ => rfl) f1 f3 ?_
    refine tt_iload (k0 := 5) (by decide +kernel) rfl ?_
    refine tt_bipush (n := 8) (v := 8) (by decide +kernel) (by decide) ?_
    refine tt_iadd (by decide +kernel) ?_
    refine tt_iload_n (k0 := 3) (by decide +kernel) rfl ?_
    refine tt_i2b (by decide +kernel) ?_
    obtain ⟨g2, h⟩ := h
    refine tt_bast (by decide +kernel) f5 g2 ?_
    generalize eS7 : sI S6 b2 (upd (tI S6 b2) (x5 + (8 : Int32)).toNatClampNeg ((x3 : Int32).toInt8.toInt32 : Int32).toInt8.toInt32) = S7
    have h := h S7 eS7.symm
    have hm : Sm0 S S7 := by rw [← eS7]; exact hm.I
    have f1 : te S7 a0 = some (.inr 11) := by rw [← eS7, te_sI]; exact f1
    have f3 : tR S7 a0 42 = some b2 := by rw [← eS7, tR_sI]; exact f3
    have f5 : te S7 b2 = some (.inl (.byte, n4)) := by rw [← eS7, te_sI]; exact f5
    refine tt_aload_n (k0 := 0) (by decide +kernel) rfl ?_
    refine tt_getR (k := 42) (by decide +kernel) KC_11 (by decide) w_907 (fun _ => rfl) f1 f3 ?_
    refine tt_iload (k0 := 5) (by decide +kernel) rfl ?_
    refine tt_bipush (n := 9) (v := 9) (by decide +kernel) (by decide) ?_
    refine tt_iadd (by decide +kernel) ?_
    refine tt_iload_n (k0 := 3) (by decide +kernel) rfl ?_
    refine tt_bipush (n := 8) (v := 8) (by decide +kernel) (by decide) ?_
    refine tt_ishr (by decide +kernel) ?_
    refine tt_i2b (by decide +kernel) ?_
    obtain ⟨g2, h⟩ := h
    refine tt_bast (by decide +kernel) f5 g2 ?_
    generalize eS8 : sI S7 b2 (upd (tI S7 b2) (x5 + (9 : Int32)).toNatClampNeg ((x3 >>> ((8 : Int32) &&& 31) : Int32).toInt8.toInt32 : Int32).toInt8.toInt32) = S8
    have h := h S8 eS8.symm
    have hm : Sm0 S S8 := by rw [← eS8]; exact hm.I
    have f1 : te S8 a0 = some (.inr 11) := by rw [← eS8, te_sI]; exact f1
    have f3 : tR S8 a0 42 = some b2 := by rw [← eS8, tR_sI]; exact f3
    have f5 : te S8 b2 = some (.inl (.byte, n4)) := by rw [← eS8, te_sI]; exact f5
    refine tt_aload_n (k0 := 0) (by decide +kernel) rfl ?_
    refine tt_iload (k0 := 4) (by decide +kernel) rfl ?_
    refine tt_iconst (n := 0) (v := 0) (by decide +kernel) (by decide) ?_
    refine tt_callV (As := [.int x4, .int 0]) (rest := []) (ci := 11) (r0 := (R_11, F_11, 55)) (by decide +kernel) LK_M_block_II w_1132 w_1134 (in_p (n := 55) 41 rfl) (by decide) (by decide) rfl rfl (Nat.le_of_ble_eq_true rfl) rfl rfl f1 (ct_mono h (fun r S9 h => ?_))
    obtain ⟨hm2, h⟩ := h
    obtain ⟨rfl, h⟩ := h
    show T G J_M_tagRecord 166 [(0, .ref a0), (1, .ref a1), (2, .int x2), (3, .int x3), (4, .int x4), (5, .int x5), (6, .int x6)] [] S9 _
    have hm := hm.tr hm2
    have f1 : te S9 a0 = some (.inr 11) := by rw [hm2.1]; exact f1
    have f3 : tR S9 a0 42 = some b2 := by rw [hm2.R]; exact f3
    have f5 : te S9 b2 = some (.inl (.byte, n4)) := by rw [hm2.1]; exact f5
    refine tt_aload_n (k0 := 0) (by decide +kernel) rfl ?_
    refine tt_iload (k0 := 5) (by decide +kernel) rfl ?_
    refine tt_bipush (n := 16) (v := 16) (by decide +kernel) (by decide) ?_
    refine tt_iadd (by decide +kernel) ?_
    refine tt_callV (As := [.int (x5 + (16 : Int32))]) (rest := []) (ci := 11) (r0 := (R_11, F_11, 55)) (by decide +kernel) LK_M_tagOf w_1158 w_1160 (in_p (n := 55) 44 rfl) (by decide) (by decide) rfl rfl (Nat.le_of_ble_eq_true rfl) rfl rfl f1 (ct_mono h (fun r S10 h => ?_))
    obtain ⟨hm2, h⟩ := h
    obtain ⟨rfl, h⟩ := h
    show T G J_M_tagRecord 175 [(0, .ref a0), (1, .ref a1), (2, .int x2), (3, .int x3), (4, .int x4), (5, .int x5), (6, .int x6)] [] S10 _
    have hm := hm.tr hm2
    have f1 : te S10 a0 = some (.inr 11) := by rw [hm2.1]; exact f1
    have f3 : tR S10 a0 42 = some b2 := by rw [hm2.R]; exact f3
    have f5 : te S10 b2 = some (.inl (.byte, n4)) := by rw [hm2.1]; exact f5
    exact tt_vret (by decide +kernel) rfl ⟨hm, h⟩
  · have h := h.2 c
    refine tt_aload_n (k0 := 0) (by decide +kernel) rfl ?_
    obtain ⟨f11, h⟩ := h
    obtain ⟨b12, f13, h⟩ := h
    refine tt_getR (k := 42) (by decide +kernel) KC_11 (by decide) w_907 (fun _ => rfl) f11 f13 ?_
    refine tt_iload (k0 := 5) (by decide +kernel) rfl ?_
    refine tt_iload (k0 := 6) (by decide +kernel) rfl ?_
    refine tt_iadd (by decide +kernel) ?_
    refine tt_iconst (n := 0) (v := 0) (by decide +kernel) (by decide) ?_
    obtain ⟨n14, f15, h⟩ := h
    obtain ⟨g2, h⟩ := h
    refine tt_bast (by decide +kernel) f15 g2 ?_
    generalize eS16 : sI S b12 (upd (tI S b12) (x5 + x6).toNatClampNeg (0 : Int32).toInt8.toInt32) = S16
    have h := h S16 eS16.symm
    have hm : Sm0 S S16 := by rw [← eS16]; exact hm.I
    have f11 : te S16 a0 = some (.inr 11) := by rw [← eS16, te_sI]; exact f11
    have f13 : tR S16 a0 42 = some b12 := by rw [← eS16, tR_sI]; exact f13
    have f15 : te S16 b12 = some (.inl (.byte, n14)) := by rw [← eS16, te_sI]; exact f15
    obtain ⟨y17, ey17⟩ : ∃ y : Int32, y = x6 + 1 := ⟨_, rfl⟩
    have h := h y17 ey17
    refine tt_iinc (i := 6) (n := 1) (v := y17) (lv' := [(0, .ref a0), (1, .ref a1), (2, .int x2), (3, .int x3), (4, .int x4), (5, .int x5), (6, .int y17)]) (by decide +kernel) (by decide) rfl ey17.symm rfl ?_
    refine tt_goto (off := -21) (tgt := 100) (by decide +kernel) (by decide) ?_
    exact tt_mono h (fun r S' q => ⟨hm.tr q.1, q.2⟩)
set_option maxRecDepth 100000 in
theorem v_M_tagOf {G : pG} (a0 : Nat) (x1 : Int32) (S : TS) (Q : Option Value → TS → Prop)
    (h : T0 G J_M_tagOf 2 [(0, .ref a0), (1, .int x1), (2, .int 0)] [] S Q) :
    C0 G J_M_tagOf [.ref a0, .int x1] S Q := by
  unfold C0
  refine ct_of (by decide +kernel) (Nat.le_of_ble_eq_true rfl) (lv := [(0, .ref a0), (1, .int x1)]) rfl ?_
  have hm : Sm0 S S := Sm0.rf S
  refine tt_iconst (n := 0) (v := 0) (by decide +kernel) (by decide) ?_
  refine tt_istore_n (k0 := 2) (lv' := [(0, .ref a0), (1, .int x1), (2, .int 0)]) (by decide +kernel) (by decide) rfl ?_
  exact tt_mono h (fun r S' q => ⟨hm.tr q.1, q.2⟩)
set_option maxRecDepth 100000 in
theorem v_M_tagOf_2 {G : pG} (a0 : Nat) (x1 : Int32) (x2 : Int32) (S : TS) (Q : Option Value → TS → Prop)
    (h : ((16 ≤ x2 → T0 G J_M_tagOf 60 [(0, .ref a0), (1, .int x1), (2, .int 0)] [] S Q) ∧ (¬ (16 ≤ x2) → te S a0 = some (.inr 11) ∧ ∃ b2 : Nat, tR S a0 41 = some b2 ∧ ∃ b4 : Nat, tR S a0 38 = some b4 ∧ ∃ n6 : Nat, te S b4 = some (.inl (.byte, n6)) ∧ vp_in x2 n6 ∧ ((¬ x2 - x2 / (4 : Int32) * (4 : Int32) = 3 → ((x2 ≤ 0 → ∃ n8 : Nat, te S b2 = some (.inl (.int, n8)) ∧ vp_in x2 n8 ∧ ∀ S10 : TS, S10 = sI S b2 (upd (tI S b2) x2.toNatClampNeg ((tI S b4 x2.toNatClampNeg) &&& (255 : Int32))) → ∀ y11 : Int32, y11 = x2 + 1 → T0 G J_M_tagOf 2 [(0, .ref a0), (1, .int x1), (2, .int y11)] [] S10 Q) ∧ (¬ (x2 ≤ 0) → ((¬ x2 - x2 / (4 : Int32) * (4 : Int32) = 0 → ∃ n12 : Nat, te S b2 = some (.inl (.int, n12)) ∧ vp_in x2 n12 ∧ ∀ S14 : TS, S14 = sI S b2 (upd (tI S b2) x2.toNatClampNeg ((tI S b4 x2.toNatClampNeg) &&& (255 : Int32))) → ∀ y15 : Int32, y15 = x2 + 1 → T0 G J_M_tagOf 2 [(0, .ref a0), (1, .int x1), (2, .int y15)] [] S14 Q) ∧ (x2 - x2 / (4 : Int32) * (4 : Int32) = 0 → ∃ n16 : Nat, te S b2 = some (.inl (.int, n16)) ∧ vp_in x2 n16 ∧ ∀ S18 : TS, S18 = sI S b2 (upd (tI S b2) x2.toNatClampNeg ((tI S b4 x2.toNatClampNeg) &&& (252 : Int32))) → ∀ y19 : Int32, y19 = x2 + 1 → T0 G J_M_tagOf 2 [(0, .ref a0), (1, .int x1), (2, .int y19)] [] S18 Q))))) ∧ (x2 - x2 / (4 : Int32) * (4 : Int32) = 3 → ∃ n20 : Nat, te S b2 = some (.inl (.int, n20)) ∧ vp_in x2 n20 ∧ ∀ S22 : TS, S22 = sI S b2 (upd (tI S b2) x2.toNatClampNeg ((tI S b4 x2.toNatClampNeg) &&& (15 : Int32))) → ∀ y23 : Int32, y23 = x2 + 1 → T0 G J_M_tagOf 2 [(0, .ref a0), (1, .int x1), (2, .int y23)] [] S22 Q))))) :
    T0 G J_M_tagOf 2 [(0, .ref a0), (1, .int x1), (2, .int x2)] [] S Q := by
  unfold T0
  have hm : Sm0 S S := Sm0.rf S
  refine tt_iload_n (k0 := 2) (by decide +kernel) rfl ?_
  refine tt_bipush (n := 16) (v := 16) (by decide +kernel) (by decide) ?_
  refine tt_icmp_ge (off := 53) 58 (by decide +kernel) (by decide) (fun c => ?_) (fun c => ?_)
  · have h := h.1 c
    refine tt_iconst (n := 0) (v := 0) (by decide +kernel) (by decide) ?_
    refine tt_istore_n (k0 := 2) (lv' := [(0, .ref a0), (1, .int x1), (2, .int 0)]) (by decide +kernel) (by decide) rfl ?_
    exact tt_mono h (fun r S' q => ⟨hm.tr q.1, q.2⟩)
  · have h := h.2 c
    refine tt_aload_n (k0 := 0) (by decide +kernel) rfl ?_
    obtain ⟨f1, h⟩ := h
    obtain ⟨b2, f3, h⟩ := h
    refine tt_getR (k := 41) (by decide +kernel) KC_11 (by decide) w_906 (fun _ => rfl) f1 f3 ?_
    refine tt_iload_n (k0 := 2) (by decide +kernel) rfl ?_
    refine tt_aload_n (k0 := 0) (by decide +kernel) rfl ?_
    obtain ⟨b4, f5, h⟩ := h
    refine tt_getR (k := 38) (by decide +kernel) KC_11 (by decide) w_903 (fun _ => rfl) f1 f5 ?_
    refine tt_iload_n (k0 := 2) (by decide +kernel) rfl ?_
    obtain ⟨n6, f7, h⟩ := h
    obtain ⟨g2, h⟩ := h
    refine tt_bald (by decide +kernel) f7 g2 ?_
    refine tt_iload_n (k0 := 2) (by decide +kernel) rfl ?_
    refine tt_iconst (n := 4) (v := 4) (by decide +kernel) (by decide) ?_
    refine tt_irem (by decide +kernel) (by decide) ?_
    refine tt_iconst (n := 3) (v := 3) (by decide +kernel) (by decide) ?_
    refine tt_icmp_ne (off := 8) 31 (by decide +kernel) (by decide) (fun c => ?_) (fun c => ?_)
    · have h := h.1 c
      refine tt_iload_n (k0 := 2) (by decide +kernel) rfl ?_
      refine tt_if_le (off := 15) 47 (by decide +kernel) (by decide) (fun c => ?_) (fun c => ?_)
      · have h := h.1 c
        refine tt_sipush (n := 255) (v := 255) (by decide +kernel) (by decide) ?_
        refine tt_iand (by decide +kernel) ?_
        obtain ⟨n8, f9, h⟩ := h
        obtain ⟨g2, h⟩ := h
        refine tt_iast (by decide +kernel) f9 g2 ?_
        generalize eS10 : sI S b2 (upd (tI S b2) x2.toNatClampNeg ((tI S b4 x2.toNatClampNeg) &&& (255 : Int32))) = S10
        have h := h S10 eS10.symm
        have hm : Sm0 S S10 := by rw [← eS10]; exact hm.I
        have f1 : te S10 a0 = some (.inr 11) := by rw [← eS10, te_sI]; exact f1
        have f3 : tR S10 a0 41 = some b2 := by rw [← eS10, tR_sI]; exact f3
        have f5 : tR S10 a0 38 = some b4 := by rw [← eS10, tR_sI]; exact f5
        have f7 : te S10 b4 = some (.inl (.byte, n6)) := by rw [← eS10, te_sI]; exact f7
        have f9 : te S10 b2 = some (.inl (.int, n8)) := by rw [← eS10, te_sI]; exact f9
        obtain ⟨y11, ey11⟩ : ∃ y : Int32, y = x2 + 1 := ⟨_, rfl⟩
        have h := h y11 ey11
        refine tt_iinc (i := 2) (n := 1) (v := y11) (lv' := [(0, .ref a0), (1, .int x1), (2, .int y11)]) (by decide +kernel) (by decide) rfl ey11.symm rfl ?_
        refine tt_goto (off := -53) (tgt := 2) (by decide +kernel) (by decide) ?_
        exact tt_mono h (fun r S' q => ⟨hm.tr q.1, q.2⟩)
      · have h := h.2 c
        refine tt_iload_n (k0 := 2) (by decide +kernel) rfl ?_
        refine tt_iconst (n := 4) (v := 4) (by decide +kernel) (by decide) ?_
        refine tt_irem (by decide +kernel) (by decide) ?_
        refine tt_if_ne (off := 9) 47 (by decide +kernel) (by decide) (fun c => ?_) (fun c => ?_)
        · have h := h.1 c
          refine tt_sipush (n := 255) (v := 255) (by decide +kernel) (by decide) ?_
          refine tt_iand (by decide +kernel) ?_
          obtain ⟨n12, f13, h⟩ := h
          obtain ⟨g2, h⟩ := h
          refine tt_iast (by decide +kernel) f13 g2 ?_
          generalize eS14 : sI S b2 (upd (tI S b2) x2.toNatClampNeg ((tI S b4 x2.toNatClampNeg) &&& (255 : Int32))) = S14
          have h := h S14 eS14.symm
          have hm : Sm0 S S14 := by rw [← eS14]; exact hm.I
          have f1 : te S14 a0 = some (.inr 11) := by rw [← eS14, te_sI]; exact f1
          have f3 : tR S14 a0 41 = some b2 := by rw [← eS14, tR_sI]; exact f3
          have f5 : tR S14 a0 38 = some b4 := by rw [← eS14, tR_sI]; exact f5
          have f7 : te S14 b4 = some (.inl (.byte, n6)) := by rw [← eS14, te_sI]; exact f7
          have f13 : te S14 b2 = some (.inl (.int, n12)) := by rw [← eS14, te_sI]; exact f13
          obtain ⟨y15, ey15⟩ : ∃ y : Int32, y = x2 + 1 := ⟨_, rfl⟩
          have h := h y15 ey15
          refine tt_iinc (i := 2) (n := 1) (v := y15) (lv' := [(0, .ref a0), (1, .int x1), (2, .int y15)]) (by decide +kernel) (by decide) rfl ey15.symm rfl ?_
          refine tt_goto (off := -53) (tgt := 2) (by decide +kernel) (by decide) ?_
          exact tt_mono h (fun r S' q => ⟨hm.tr q.1, q.2⟩)
        · have h := h.2 c
          refine tt_sipush (n := 252) (v := 252) (by decide +kernel) (by decide) ?_
          refine tt_goto (off := 6) (tgt := 50) (by decide +kernel) (by decide) ?_
          refine tt_iand (by decide +kernel) ?_
          obtain ⟨n16, f17, h⟩ := h
          obtain ⟨g2, h⟩ := h
          refine tt_iast (by decide +kernel) f17 g2 ?_
          generalize eS18 : sI S b2 (upd (tI S b2) x2.toNatClampNeg ((tI S b4 x2.toNatClampNeg) &&& (252 : Int32))) = S18
          have h := h S18 eS18.symm
          have hm : Sm0 S S18 := by rw [← eS18]; exact hm.I
          have f1 : te S18 a0 = some (.inr 11) := by rw [← eS18, te_sI]; exact f1
          have f3 : tR S18 a0 41 = some b2 := by rw [← eS18, tR_sI]; exact f3
          have f5 : tR S18 a0 38 = some b4 := by rw [← eS18, tR_sI]; exact f5
          have f7 : te S18 b4 = some (.inl (.byte, n6)) := by rw [← eS18, te_sI]; exact f7
          have f17 : te S18 b2 = some (.inl (.int, n16)) := by rw [← eS18, te_sI]; exact f17
          obtain ⟨y19, ey19⟩ : ∃ y : Int32, y = x2 + 1 := ⟨_, rfl⟩
          have h := h y19 ey19
          refine tt_iinc (i := 2) (n := 1) (v := y19) (lv' := [(0, .ref a0), (1, .int x1), (2, .int y19)]) (by decide +kernel) (by decide) rfl ey19.symm rfl ?_
          refine tt_goto (off := -53) (tgt := 2) (by decide +kernel) (by decide) ?_
          exact tt_mono h (fun r S' q => ⟨hm.tr q.1, q.2⟩)
    · have h := h.2 c
      refine tt_bipush (n := 15) (v := 15) (by decide +kernel) (by decide) ?_
      refine tt_goto (off := 22) (tgt := 50) (by decide +kernel) (by decide) ?_
      refine tt_iand (by decide +kernel) ?_
      obtain ⟨n20, f21, h⟩ := h
      obtain ⟨g2, h⟩ := h
      refine tt_iast (by decide +kernel) f21 g2 ?_
      generalize eS22 : sI S b2 (upd (tI S b2) x2.toNatClampNeg ((tI S b4 x2.toNatClampNeg) &&& (15 : Int32))) = S22
      have h := h S22 eS22.symm
      have hm : Sm0 S S22 := by rw [← eS22]; exact hm.I
      have f1 : te S22 a0 = some (.inr 11) := by rw [← eS22, te_sI]; exact f1
      have f3 : tR S22 a0 41 = some b2 := by rw [← eS22, tR_sI]; exact f3
      have f5 : tR S22 a0 38 = some b4 := by rw [← eS22, tR_sI]; exact f5
      have f7 : te S22 b4 = some (.inl (.byte, n6)) := by rw [← eS22, te_sI]; exact f7
      have f21 : te S22 b2 = some (.inl (.int, n20)) := by rw [← eS22, te_sI]; exact f21
      obtain ⟨y23, ey23⟩ : ∃ y : Int32, y = x2 + 1 := ⟨_, rfl⟩
      have h := h y23 ey23
      refine tt_iinc (i := 2) (n := 1) (v := y23) (lv' := [(0, .ref a0), (1, .int x1), (2, .int y23)]) (by decide +kernel) (by decide) rfl ey23.symm rfl ?_
      refine tt_goto (off := -53) (tgt := 2) (by decide +kernel) (by decide) ?_
      exact tt_mono h (fun r S' q => ⟨hm.tr q.1, q.2⟩)
set_option maxRecDepth 100000 in
theorem v_M_tagOf_60 {G : pG} (a0 : Nat) (x1 : Int32) (x2 : Int32) (S : TS) (Q : Option Value → TS → Prop)
    (h : ((17 ≤ x2 → T0 G J_M_tagOf 81 [(0, .ref a0), (1, .int x1), (2, .int 0)] [] S Q) ∧ (¬ (17 ≤ x2) → te S a0 = some (.inr 11) ∧ ∃ b2 : Nat, tR S a0 39 = some b2 ∧ ∃ n4 : Nat, te S b2 = some (.inl (.int, n4)) ∧ vp_in x2 n4 ∧ ∀ S6 : TS, S6 = sI S b2 (upd (tI S b2) x2.toNatClampNeg 0) → ∀ y7 : Int32, y7 = x2 + 1 → T0 G J_M_tagOf 60 [(0, .ref a0), (1, .int x1), (2, .int y7)] [] S6 Q))) :
    T0 G J_M_tagOf 60 [(0, .ref a0), (1, .int x1), (2, .int x2)] [] S Q := by
  unfold T0
  have hm : Sm0 S S := Sm0.rf S
  refine tt_iload_n (k0 := 2) (by decide +kernel) rfl ?_
  refine tt_bipush (n := 17) (v := 17) (by decide +kernel) (by decide) ?_
  refine tt_icmp_ge (off := 16) 79 (by decide +kernel) (by decide) (fun c => ?_) (fun c => ?_)
  · have h := h.1 c
    refine tt_iconst (n := 0) (v := 0) (by decide +kernel) (by decide) ?_
    refine tt_istore_n (k0 := 2) (lv' := [(0, .ref a0), (1, .int x1), (2, .int 0)]) (by decide +kernel) (by decide) rfl ?_
    exact tt_mono h (fun r S' q => ⟨hm.tr q.1, q.2⟩)
  · have h := h.2 c
    refine tt_aload_n (k0 := 0) (by decide +kernel) rfl ?_
    obtain ⟨f1, h⟩ := h
    obtain ⟨b2, f3, h⟩ := h
    refine tt_getR (k := 39) (by decide +kernel) KC_11 (by decide) w_904 (fun _ => rfl) f1 f3 ?_
    refine tt_iload_n (k0 := 2) (by decide +kernel) rfl ?_
    refine tt_iconst (n := 0) (v := 0) (by decide +kernel) (by decide) ?_
    obtain ⟨n4, f5, h⟩ := h
    obtain ⟨g2, h⟩ := h
    refine tt_iast (by decide +kernel) f5 g2 ?_
    generalize eS6 : sI S b2 (upd (tI S b2) x2.toNatClampNeg 0) = S6
    have h := h S6 eS6.symm
    have hm : Sm0 S S6 := by rw [← eS6]; exact hm.I
    have f1 : te S6 a0 = some (.inr 11) := by rw [← eS6, te_sI]; exact f1
    have f3 : tR S6 a0 39 = some b2 := by rw [← eS6, tR_sI]; exact f3
    have f5 : te S6 b2 = some (.inl (.int, n4)) := by rw [← eS6, te_sI]; exact f5
    obtain ⟨y7, ey7⟩ : ∃ y : Int32, y = x2 + 1 := ⟨_, rfl⟩
    have h := h y7 ey7
    refine tt_iinc (i := 2) (n := 1) (v := y7) (lv' := [(0, .ref a0), (1, .int x1), (2, .int y7)]) (by decide +kernel) (by decide) rfl ey7.symm rfl ?_
    refine tt_goto (off := -16) (tgt := 60) (by decide +kernel) (by decide) ?_
    exact tt_mono h (fun r S' q => ⟨hm.tr q.1, q.2⟩)
set_option maxRecDepth 100000 in
theorem v_M_tagOf_81 {G : pG} (a0 : Nat) (x1 : Int32) (x2 : Int32) (S : TS) (Q : Option Value → TS → Prop)
    (h : ((x1 ≤ x2 → T0 G J_M_tagOf 247 [(0, .ref a0), (1, .int x1), (2, .int 0)] [] S Q) ∧ (¬ (x1 ≤ x2) → T0 G J_M_tagOf 88 [(0, .ref a0), (1, .int x1), (2, .int x2), (3, .int 0)] [] S Q))) :
    T0 G J_M_tagOf 81 [(0, .ref a0), (1, .int x1), (2, .int x2)] [] S Q := by
  unfold T0
  have hm : Sm0 S S := Sm0.rf S
  refine tt_iload_n (k0 := 2) (by decide +kernel) rfl ?_
  refine tt_iload_n (k0 := 1) (by decide +kernel) rfl ?_
  refine tt_icmp_ge (off := 162) 245 (by decide +kernel) (by decide) (fun c => ?_) (fun c => ?_)
  · have h := h.1 c
    refine tt_iconst (n := 0) (v := 0) (by decide +kernel) (by decide) ?_
    refine tt_istore_n (k0 := 2) (lv' := [(0, .ref a0), (1, .int x1), (2, .int 0)]) (by decide +kernel) (by decide) rfl ?_
    exact tt_mono h (fun r S' q => ⟨hm.tr q.1, q.2⟩)
  · have h := h.2 c
    refine tt_iconst (n := 0) (v := 0) (by decide +kernel) (by decide) ?_
    refine tt_istore_n (k0 := 3) (lv' := [(0, .ref a0), (1, .int x1), (2, .int x2), (3, .int 0)]) (by decide +kernel) (by decide) rfl ?_
    exact tt_mono h (fun r S' q => ⟨hm.tr q.1, q.2⟩)
set_option maxRecDepth 100000 in
theorem v_M_tagOf_247 {G : pG} (a0 : Nat) (x1 : Int32) (x2 : Int32) (S : TS) (Q : Option Value → TS → Prop)
    (h : ((35 ≤ x2 → te S a0 = some (.inr 11) ∧ C0 G J_M_settle [.ref a0] S (fun r S2 => r = none ∧ T0 G J_M_tagOf 287 [(0, .ref a0), (1, .int x1), (2, .int 0)] [] S2 Q)) ∧ (¬ (35 ≤ x2) → te S a0 = some (.inr 11) ∧ ∃ b4 : Nat, tR S a0 40 = some b4 ∧ ((17 ≤ x2 → ∃ n6 : Nat, te S b4 = some (.inl (.int, n6)) ∧ vp_in x2 n6 ∧ ∀ S8 : TS, S8 = sI S b4 (upd (tI S b4) x2.toNatClampNeg 0) → ∀ y9 : Int32, y9 = x2 + 1 → T0 G J_M_tagOf 247 [(0, .ref a0), (1, .int x1), (2, .int y9)] [] S8 Q) ∧ (¬ (17 ≤ x2) → ∃ b10 : Nat, tR S a0 39 = some b10 ∧ ∃ n12 : Nat, te S b10 = some (.inl (.int, n12)) ∧ vp_in x2 n12 ∧ ∃ n14 : Nat, te S b4 = some (.inl (.int, n14)) ∧ vp_in x2 n14 ∧ ∀ S16 : TS, S16 = sI S b4 (upd (tI S b4) x2.toNatClampNeg (tI S b10 x2.toNatClampNeg)) → ∀ y17 : Int32, y17 = x2 + 1 → T0 G J_M_tagOf 247 [(0, .ref a0), (1, .int x1), (2, .int y17)] [] S16 Q))))) :
    T0 G J_M_tagOf 247 [(0, .ref a0), (1, .int x1), (2, .int x2)] [] S Q := by
  unfold T0
  have hm : Sm0 S S := Sm0.rf S
  refine tt_iload_n (k0 := 2) (by decide +kernel) rfl ?_
  refine tt_bipush (n := 35) (v := 35) (by decide +kernel) (by decide) ?_
  refine tt_icmp_ge (off := 31) 281 (by decide +kernel) (by decide) (fun c => ?_) (fun c => ?_)
  · have h := h.1 c
    refine tt_aload_n (k0 := 0) (by decide +kernel) rfl ?_
    obtain ⟨f1, h⟩ := h
    refine tt_callV (As := []) (rest := []) (ci := 11) (r0 := (R_11, F_11, 55)) (by decide +kernel) LK_M_settle w_1162 w_1164 (in_p (n := 55) 45 rfl) (by decide) (by decide) rfl rfl (Nat.le_of_ble_eq_true rfl) rfl rfl f1 (ct_mono h (fun r S2 h => ?_))
    obtain ⟨hm2, h⟩ := h
    obtain ⟨rfl, h⟩ := h
    show T G J_M_tagOf 285 [(0, .ref a0), (1, .int x1), (2, .int x2)] [] S2 _
    have hm := hm.tr hm2
    have f1 : te S2 a0 = some (.inr 11) := by rw [hm2.1]; exact f1
    refine tt_iconst (n := 0) (v := 0) (by decide +kernel) (by decide) ?_
    refine tt_istore_n (k0 := 2) (lv' := [(0, .ref a0), (1, .int x1), (2, .int 0)]) (by decide +kernel) (by decide) rfl ?_
    exact tt_mono h (fun r S' q => ⟨hm.tr q.1, q.2⟩)
  · have h := h.2 c
    refine tt_aload_n (k0 := 0) (by decide +kernel) rfl ?_
    obtain ⟨f3, h⟩ := h
    obtain ⟨b4, f5, h⟩ := h
    refine tt_getR (k := 40) (by decide +kernel) KC_11 (by decide) w_905 (fun _ => rfl) f3 f5 ?_
    refine tt_iload_n (k0 := 2) (by decide +kernel) rfl ?_
    refine tt_iload_n (k0 := 2) (by decide +kernel) rfl ?_
    refine tt_bipush (n := 17) (v := 17) (by decide +kernel) (by decide) ?_
    refine tt_icmp_ge (off := 12) 273 (by decide +kernel) (by decide) (fun c => ?_) (fun c => ?_)
    · have h := h.1 c
      refine tt_iconst (n := 0) (v := 0) (by decide +kernel) (by decide) ?_
      obtain ⟨n6, f7, h⟩ := h
      obtain ⟨g2, h⟩ := h
      refine tt_iast (by decide +kernel) f7 g2 ?_
      generalize eS8 : sI S b4 (upd (tI S b4) x2.toNatClampNeg 0) = S8
      have h := h S8 eS8.symm
      have hm : Sm0 S S8 := by rw [← eS8]; exact hm.I
      have f3 : te S8 a0 = some (.inr 11) := by rw [← eS8, te_sI]; exact f3
      have f5 : tR S8 a0 40 = some b4 := by rw [← eS8, tR_sI]; exact f5
      have f7 : te S8 b4 = some (.inl (.int, n6)) := by rw [← eS8, te_sI]; exact f7
      obtain ⟨y9, ey9⟩ : ∃ y : Int32, y = x2 + 1 := ⟨_, rfl⟩
      have h := h y9 ey9
      refine tt_iinc (i := 2) (n := 1) (v := y9) (lv' := [(0, .ref a0), (1, .int x1), (2, .int y9)]) (by decide +kernel) (by decide) rfl ey9.symm rfl ?_
      refine tt_goto (off := -31) (tgt := 247) (by decide +kernel) (by decide) ?_
      exact tt_mono h (fun r S' q => ⟨hm.tr q.1, q.2⟩)
    · have h := h.2 c
      refine tt_aload_n (k0 := 0) (by decide +kernel) rfl ?_
      obtain ⟨b10, f11, h⟩ := h
      refine tt_getR (k := 39) (by decide +kernel) KC_11 (by decide) w_904 (fun _ => rfl) f3 f11 ?_
      refine tt_iload_n (k0 := 2) (by decide +kernel) rfl ?_
      obtain ⟨n12, f13, h⟩ := h
      obtain ⟨g2, h⟩ := h
      refine tt_iald (by decide +kernel) f13 g2 ?_
      refine tt_goto (off := 4) (tgt := 274) (by decide +kernel) (by decide) ?_
      obtain ⟨n14, f15, h⟩ := h
      obtain ⟨g2, h⟩ := h
      refine tt_iast (by decide +kernel) f15 g2 ?_
      generalize eS16 : sI S b4 (upd (tI S b4) x2.toNatClampNeg (tI S b10 x2.toNatClampNeg)) = S16
      have h := h S16 eS16.symm
      have hm : Sm0 S S16 := by rw [← eS16]; exact hm.I
      have f3 : te S16 a0 = some (.inr 11) := by rw [← eS16, te_sI]; exact f3
      have f5 : tR S16 a0 40 = some b4 := by rw [← eS16, tR_sI]; exact f5
      have f11 : tR S16 a0 39 = some b10 := by rw [← eS16, tR_sI]; exact f11
      have f13 : te S16 b10 = some (.inl (.int, n12)) := by rw [← eS16, te_sI]; exact f13
      have f15 : te S16 b4 = some (.inl (.int, n14)) := by rw [← eS16, te_sI]; exact f15
      obtain ⟨y17, ey17⟩ : ∃ y : Int32, y = x2 + 1 := ⟨_, rfl⟩
      have h := h y17 ey17
      refine tt_iinc (i := 2) (n := 1) (v := y17) (lv' := [(0, .ref a0), (1, .int x1), (2, .int y17)]) (by decide +kernel) (by decide) rfl ey17.symm rfl ?_
      refine tt_goto (off := -31) (tgt := 247) (by decide +kernel) (by decide) ?_
      exact tt_mono h (fun r S' q => ⟨hm.tr q.1, q.2⟩)
set_option maxRecDepth 100000 in
theorem v_M_tagOf_88 {G : pG} (a0 : Nat) (x1 : Int32) (x2 : Int32) (x3 : Int32) (S : TS) (Q : Option Value → TS → Prop)
    (h : ((16 ≤ x3 → te S a0 = some (.inr 11) ∧ ∃ b2 : Nat, tR S a0 39 = some b2 ∧ ∃ n4 : Nat, te S b2 = some (.inl (.int, n4)) ∧ vp_in 16 n4 ∧ vp_in 16 n4 ∧ ∀ S6 : TS, S6 = sI S b2 (upd (tI S b2) 16 ((tI S b2 16) + (1 : Int32))) → T0 G J_M_tagOf 134 [(0, .ref a0), (1, .int x1), (2, .int x2), (3, .int 0)] [] S6 Q) ∧ (¬ (16 ≤ x3) → te S a0 = some (.inr 11) ∧ ∃ b8 : Nat, tR S a0 39 = some b8 ∧ ∃ n10 : Nat, te S b8 = some (.inl (.int, n10)) ∧ vp_in x3 n10 ∧ ∃ b12 : Nat, tR S a0 42 = some b12 ∧ ∃ n14 : Nat, te S b12 = some (.inl (.byte, n14)) ∧ vp_in (x2 + x3) n14 ∧ vp_in x3 n10 ∧ ∀ S16 : TS, S16 = sI S b8 (upd (tI S b8) x3.toNatClampNeg ((tI S b8 x3.toNatClampNeg) + ((tI S b12 (x2 + x3).toNatClampNeg) &&& (255 : Int32)))) → ∀ y17 : Int32, y17 = x3 + 1 → T0 G J_M_tagOf 88 [(0, .ref a0), (1, .int x1), (2, .int x2), (3, .int y17)] [] S16 Q))) :
    T0 G J_M_tagOf 88 [(0, .ref a0), (1, .int x1), (2, .int x2), (3, .int x3)] [] S Q := by
  unfold T0
  have hm : Sm0 S S := Sm0.rf S
  refine tt_iload_n (k0 := 3) (by decide +kernel) rfl ?_
  refine tt_bipush (n := 16) (v := 16) (by decide +kernel) (by decide) ?_
  refine tt_icmp_ge (off := 30) 121 (by decide +kernel) (by decide) (fun c => ?_) (fun c => ?_)
  · have h := h.1 c
    refine tt_aload_n (k0 := 0) (by decide +kernel) rfl ?_
    obtain ⟨f1, h⟩ := h
    obtain ⟨b2, f3, h⟩ := h
    refine tt_getR (k := 39) (by decide +kernel) KC_11 (by decide) w_904 (fun _ => rfl) f1 f3 ?_
    refine tt_bipush (n := 16) (v := 16) (by decide +kernel) (by decide) ?_
    refine tt_dup2_11 (by decide +kernel) rfl rfl ?_
    obtain ⟨n4, f5, h⟩ := h
    obtain ⟨g2, h⟩ := h
    refine tt_iald (by decide +kernel) f5 g2 ?_
    show T G J_M_tagOf 129 [(0, .ref a0), (1, .int x1), (2, .int x2), (3, .int x3)] [.int (tI S b2 16), .int 16, .ref b2] S _
    refine tt_iconst (n := 1) (v := 1) (by decide +kernel) (by decide) ?_
    refine tt_iadd (by decide +kernel) ?_
    obtain ⟨g2, h⟩ := h
    refine tt_iast (by decide +kernel) f5 g2 ?_
    show T G J_M_tagOf 132 [(0, .ref a0), (1, .int x1), (2, .int x2), (3, .int x3)] [] (sI S b2 (upd (tI S b2) 16 ((tI S b2 16) + (1 : Int32)))) _
    generalize eS6 : sI S b2 (upd (tI S b2) 16 ((tI S b2 16) + (1 : Int32))) = S6
    have h := h S6 eS6.symm
    have hm : Sm0 S S6 := by rw [← eS6]; exact hm.I
    have f1 : te S6 a0 = some (.inr 11) := by rw [← eS6, te_sI]; exact f1
    have f3 : tR S6 a0 39 = some b2 := by rw [← eS6, tR_sI]; exact f3
    have f5 : te S6 b2 = some (.inl (.int, n4)) := by rw [← eS6, te_sI]; exact f5
    refine tt_iconst (n := 0) (v := 0) (by decide +kernel) (by decide) ?_
    refine tt_istore_n (k0 := 3) (lv' := [(0, .ref a0), (1, .int x1), (2, .int x2), (3, .int 0)]) (by decide +kernel) (by decide) rfl ?_
    exact tt_mono h (fun r S' q => ⟨hm.tr q.1, q.2⟩)
  · have h := h.2 c
    refine tt_aload_n (k0 := 0) (by decide +kernel) rfl ?_
    obtain ⟨f7, h⟩ := h
    obtain ⟨b8, f9, h⟩ := h
    refine tt_getR (k := 39) (by decide +kernel) KC_11 (by decide) w_904 (fun _ => rfl) f7 f9 ?_
    refine tt_iload_n (k0 := 3) (by decide +kernel) rfl ?_
    refine tt_dup2_11 (by decide +kernel) rfl rfl ?_
    obtain ⟨n10, f11, h⟩ := h
    obtain ⟨g2, h⟩ := h
    refine tt_iald (by decide +kernel) f11 g2 ?_
    refine tt_aload_n (k0 := 0) (by decide +kernel) rfl ?_
    obtain ⟨b12, f13, h⟩ := h
    refine tt_getR (k := 42) (by decide +kernel) KC_11 (by decide) w_907 (fun _ => rfl) f7 f13 ?_
    refine tt_iload_n (k0 := 2) (by decide +kernel) rfl ?_
    refine tt_iload_n (k0 := 3) (by decide +kernel) rfl ?_
    refine tt_iadd (by decide +kernel) ?_
    obtain ⟨n14, f15, h⟩ := h
    obtain ⟨g2, h⟩ := h
    refine tt_bald (by decide +kernel) f15 g2 ?_
    refine tt_sipush (n := 255) (v := 255) (by decide +kernel) (by decide) ?_
    refine tt_iand (by decide +kernel) ?_
    refine tt_iadd (by decide +kernel) ?_
    obtain ⟨g2, h⟩ := h
    refine tt_iast (by decide +kernel) f11 g2 ?_
    generalize eS16 : sI S b8 (upd (tI S b8) x3.toNatClampNeg ((tI S b8 x3.toNatClampNeg) + ((tI S b12 (x2 + x3).toNatClampNeg) &&& (255 : Int32)))) = S16
    have h := h S16 eS16.symm
    have hm : Sm0 S S16 := by rw [← eS16]; exact hm.I
    have f7 : te S16 a0 = some (.inr 11) := by rw [← eS16, te_sI]; exact f7
    have f9 : tR S16 a0 39 = some b8 := by rw [← eS16, tR_sI]; exact f9
    have f11 : te S16 b8 = some (.inl (.int, n10)) := by rw [← eS16, te_sI]; exact f11
    have f13 : tR S16 a0 42 = some b12 := by rw [← eS16, tR_sI]; exact f13
    have f15 : te S16 b12 = some (.inl (.byte, n14)) := by rw [← eS16, te_sI]; exact f15
    obtain ⟨y17, ey17⟩ : ∃ y : Int32, y = x3 + 1 := ⟨_, rfl⟩
    have h := h y17 ey17
    refine tt_iinc (i := 3) (n := 1) (v := y17) (lv' := [(0, .ref a0), (1, .int x1), (2, .int x2), (3, .int y17)]) (by decide +kernel) (by decide) rfl ey17.symm rfl ?_
    refine tt_goto (off := -30) (tgt := 88) (by decide +kernel) (by decide) ?_
    exact tt_mono h (fun r S' q => ⟨hm.tr q.1, q.2⟩)
set_option maxRecDepth 100000 in
theorem v_M_tagOf_287 {G : pG} (a0 : Nat) (x1 : Int32) (x2 : Int32) (S : TS) (Q : Option Value → TS → Prop)
    (h : ((17 ≤ x2 → te S a0 = some (.inr 11) ∧ ∃ b2 : Nat, tR S a0 39 = some b2 ∧ ∃ n4 : Nat, te S b2 = some (.inl (.int, n4)) ∧ vp_in 16 n4 ∧ ((¬ tI S b2 16 = 3 → T0 G J_M_tagOf 342 [(0, .ref a0), (1, .int x1), (2, .int 0), (3, .int 1)] [] S Q) ∧ (tI S b2 16 = 3 → vp_in 0 n4 ∧ ((tI S b2 0 < 251 → T0 G J_M_tagOf 342 [(0, .ref a0), (1, .int x1), (2, .int 0), (3, .int 1)] [] S Q) ∧ (¬ (tI S b2 0 < 251) → T0 G J_M_tagOf 342 [(0, .ref a0), (1, .int x1), (2, .int 1), (3, .int 1)] [] S Q))))) ∧ (¬ (17 ≤ x2) → te S a0 = some (.inr 11) ∧ ∃ b7 : Nat, tR S a0 39 = some b7 ∧ ∃ b9 : Nat, tR S a0 40 = some b9 ∧ ∃ n11 : Nat, te S b9 = some (.inl (.int, n11)) ∧ vp_in x2 n11 ∧ ∃ n13 : Nat, te S b7 = some (.inl (.int, n13)) ∧ vp_in x2 n13 ∧ ∀ S15 : TS, S15 = sI S b7 (upd (tI S b7) x2.toNatClampNeg (tI S b9 x2.toNatClampNeg)) → ∀ y16 : Int32, y16 = x2 + 1 → T0 G J_M_tagOf 287 [(0, .ref a0), (1, .int x1), (2, .int y16)] [] S15 Q))) :
    T0 G J_M_tagOf 287 [(0, .ref a0), (1, .int x1), (2, .int x2)] [] S Q := by
  unfold T0
  have hm : Sm0 S S := Sm0.rf S
  refine tt_iload_n (k0 := 2) (by decide +kernel) rfl ?_
  refine tt_bipush (n := 17) (v := 17) (by decide +kernel) (by decide) ?_
  refine tt_icmp_ge (off := 21) 311 (by decide +kernel) (by decide) (fun c => ?_) (fun c => ?_)
  · have h := h.1 c
    refine tt_aload_n (k0 := 0) (by decide +kernel) rfl ?_
    obtain ⟨f1, h⟩ := h
    obtain ⟨b2, f3, h⟩ := h
    refine tt_getR (k := 39) (by decide +kernel) KC_11 (by decide) w_904 (fun _ => rfl) f1 f3 ?_
    refine tt_bipush (n := 16) (v := 16) (by decide +kernel) (by decide) ?_
    obtain ⟨n4, f5, h⟩ := h
    obtain ⟨g2, h⟩ := h
    refine tt_iald (by decide +kernel) f5 g2 ?_
    show T G J_M_tagOf 318 [(0, .ref a0), (1, .int x1), (2, .int x2)] [.int (tI S b2 16)] S _
    refine tt_iconst (n := 3) (v := 3) (by decide +kernel) (by decide) ?_
    refine tt_icmp_ne (off := 19) 338 (by decide +kernel) (by decide) (fun c => ?_) (fun c => ?_)
    · have h := h.1 c
      refine tt_iconst (n := 0) (v := 0) (by decide +kernel) (by decide) ?_
      refine tt_istore_n (k0 := 2) (lv' := [(0, .ref a0), (1, .int x1), (2, .int 0)]) (by decide +kernel) (by decide) rfl ?_
      refine tt_iconst (n := 1) (v := 1) (by decide +kernel) (by decide) ?_
      refine tt_istore_n (k0 := 3) (lv' := [(0, .ref a0), (1, .int x1), (2, .int 0), (3, .int 1)]) (by decide +kernel) (by decide) rfl ?_
      exact tt_mono h (fun r S' q => ⟨hm.tr q.1, q.2⟩)
    · have h := h.2 c
      refine tt_aload_n (k0 := 0) (by decide +kernel) rfl ?_
      refine tt_getR (k := 39) (by decide +kernel) KC_11 (by decide) w_904 (fun _ => rfl) f1 f3 ?_
      refine tt_iconst (n := 0) (v := 0) (by decide +kernel) (by decide) ?_
      obtain ⟨g2, h⟩ := h
      refine tt_iald (by decide +kernel) f5 g2 ?_
      show T G J_M_tagOf 328 [(0, .ref a0), (1, .int x1), (2, .int x2)] [.int (tI S b2 0)] S _
      refine tt_sipush (n := 251) (v := 251) (by decide +kernel) (by decide) ?_
      refine tt_icmp_lt (off := 7) 338 (by decide +kernel) (by decide) (fun c => ?_) (fun c => ?_)
      · have h := h.1 c
        refine tt_iconst (n := 0) (v := 0) (by decide +kernel) (by decide) ?_
        refine tt_istore_n (k0 := 2) (lv' := [(0, .ref a0), (1, .int x1), (2, .int 0)]) (by decide +kernel) (by decide) rfl ?_
        refine tt_iconst (n := 1) (v := 1) (by decide +kernel) (by decide) ?_
        refine tt_istore_n (k0 := 3) (lv' := [(0, .ref a0), (1, .int x1), (2, .int 0), (3, .int 1)]) (by decide +kernel) (by decide) rfl ?_
        exact tt_mono h (fun r S' q => ⟨hm.tr q.1, q.2⟩)
      · have h := h.2 c
        refine tt_iconst (n := 1) (v := 1) (by decide +kernel) (by decide) ?_
        refine tt_goto (off := 4) (tgt := 339) (by decide +kernel) (by decide) ?_
        refine tt_istore_n (k0 := 2) (lv' := [(0, .ref a0), (1, .int x1), (2, .int 1)]) (by decide +kernel) (by decide) rfl ?_
        refine tt_iconst (n := 1) (v := 1) (by decide +kernel) (by decide) ?_
        refine tt_istore_n (k0 := 3) (lv' := [(0, .ref a0), (1, .int x1), (2, .int 1), (3, .int 1)]) (by decide +kernel) (by decide) rfl ?_
        exact tt_mono h (fun r S' q => ⟨hm.tr q.1, q.2⟩)
  · have h := h.2 c
    refine tt_aload_n (k0 := 0) (by decide +kernel) rfl ?_
    obtain ⟨f6, h⟩ := h
    obtain ⟨b7, f8, h⟩ := h
    refine tt_getR (k := 39) (by decide +kernel) KC_11 (by decide) w_904 (fun _ => rfl) f6 f8 ?_
    refine tt_iload_n (k0 := 2) (by decide +kernel) rfl ?_
    refine tt_aload_n (k0 := 0) (by decide +kernel) rfl ?_
    obtain ⟨b9, f10, h⟩ := h
    refine tt_getR (k := 40) (by decide +kernel) KC_11 (by decide) w_905 (fun _ => rfl) f6 f10 ?_
    refine tt_iload_n (k0 := 2) (by decide +kernel) rfl ?_
    obtain ⟨n11, f12, h⟩ := h
    obtain ⟨g2, h⟩ := h
    refine tt_iald (by decide +kernel) f12 g2 ?_
    obtain ⟨n13, f14, h⟩ := h
    obtain ⟨g2, h⟩ := h
    refine tt_iast (by decide +kernel) f14 g2 ?_
    generalize eS15 : sI S b7 (upd (tI S b7) x2.toNatClampNeg (tI S b9 x2.toNatClampNeg)) = S15
    have h := h S15 eS15.symm
    have hm : Sm0 S S15 := by rw [← eS15]; exact hm.I
    have f6 : te S15 a0 = some (.inr 11) := by rw [← eS15, te_sI]; exact f6
    have f8 : tR S15 a0 39 = some b7 := by rw [← eS15, tR_sI]; exact f8
    have f10 : tR S15 a0 40 = some b9 := by rw [← eS15, tR_sI]; exact f10
    have f12 : te S15 b9 = some (.inl (.int, n11)) := by rw [← eS15, te_sI]; exact f12
    have f14 : te S15 b7 = some (.inl (.int, n13)) := by rw [← eS15, te_sI]; exact f14
    obtain ⟨y16, ey16⟩ : ∃ y : Int32, y = x2 + 1 := ⟨_, rfl⟩
    have h := h y16 ey16
    refine tt_iinc (i := 2) (n := 1) (v := y16) (lv' := [(0, .ref a0), (1, .int x1), (2, .int y16)]) (by decide +kernel) (by decide) rfl ey16.symm rfl ?_
    refine tt_goto (off := -21) (tgt := 287) (by decide +kernel) (by decide) ?_
    exact tt_mono h (fun r S' q => ⟨hm.tr q.1, q.2⟩)
set_option maxRecDepth 100000 in
theorem v_M_tagOf_134 {G : pG} (a0 : Nat) (x1 : Int32) (x2 : Int32) (x3 : Int32) (S : TS) (Q : Option Value → TS → Prop)
    (h : ((35 ≤ x3 → T0 G J_M_tagOf 155 [(0, .ref a0), (1, .int x1), (2, .int x2), (3, .int 0)] [] S Q) ∧ (¬ (35 ≤ x3) → te S a0 = some (.inr 11) ∧ ∃ b2 : Nat, tR S a0 40 = some b2 ∧ ∃ n4 : Nat, te S b2 = some (.inl (.int, n4)) ∧ vp_in x3 n4 ∧ ∀ S6 : TS, S6 = sI S b2 (upd (tI S b2) x3.toNatClampNeg 0) → ∀ y7 : Int32, y7 = x3 + 1 → T0 G J_M_tagOf 134 [(0, .ref a0), (1, .int x1), (2, .int x2), (3, .int y7)] [] S6 Q))) :
    T0 G J_M_tagOf 134 [(0, .ref a0), (1, .int x1), (2, .int x2), (3, .int x3)] [] S Q := by
  unfold T0
  have hm : Sm0 S S := Sm0.rf S
  refine tt_iload_n (k0 := 3) (by decide +kernel) rfl ?_
  refine tt_bipush (n := 35) (v := 35) (by decide +kernel) (by decide) ?_
  refine tt_icmp_ge (off := 16) 153 (by decide +kernel) (by decide) (fun c => ?_) (fun c => ?_)
  · have h := h.1 c
    refine tt_iconst (n := 0) (v := 0) (by decide +kernel) (by decide) ?_
    refine tt_istore_n (k0 := 3) (lv' := [(0, .ref a0), (1, .int x1), (2, .int x2), (3, .int 0)]) (by decide +kernel) (by decide) rfl ?_
    exact tt_mono h (fun r S' q => ⟨hm.tr q.1, q.2⟩)
  · have h := h.2 c
    refine tt_aload_n (k0 := 0) (by decide +kernel) rfl ?_
    obtain ⟨f1, h⟩ := h
    obtain ⟨b2, f3, h⟩ := h
    refine tt_getR (k := 40) (by decide +kernel) KC_11 (by decide) w_905 (fun _ => rfl) f1 f3 ?_
    refine tt_iload_n (k0 := 3) (by decide +kernel) rfl ?_
    refine tt_iconst (n := 0) (v := 0) (by decide +kernel) (by decide) ?_
    obtain ⟨n4, f5, h⟩ := h
    obtain ⟨g2, h⟩ := h
    refine tt_iast (by decide +kernel) f5 g2 ?_
    generalize eS6 : sI S b2 (upd (tI S b2) x3.toNatClampNeg 0) = S6
    have h := h S6 eS6.symm
    have hm : Sm0 S S6 := by rw [← eS6]; exact hm.I
    have f1 : te S6 a0 = some (.inr 11) := by rw [← eS6, te_sI]; exact f1
    have f3 : tR S6 a0 40 = some b2 := by rw [← eS6, tR_sI]; exact f3
    have f5 : te S6 b2 = some (.inl (.int, n4)) := by rw [← eS6, te_sI]; exact f5
    obtain ⟨y7, ey7⟩ : ∃ y : Int32, y = x3 + 1 := ⟨_, rfl⟩
    have h := h y7 ey7
    refine tt_iinc (i := 3) (n := 1) (v := y7) (lv' := [(0, .ref a0), (1, .int x1), (2, .int x2), (3, .int y7)]) (by decide +kernel) (by decide) rfl ey7.symm rfl ?_
    refine tt_goto (off := -16) (tgt := 134) (by decide +kernel) (by decide) ?_
    exact tt_mono h (fun r S' q => ⟨hm.tr q.1, q.2⟩)
set_option maxRecDepth 100000 in
theorem v_M_tagOf_342 {G : pG} (a0 : Nat) (x1 : Int32) (x2 : Int32) (x3 : Int32) (S : TS) (Q : Option Value → TS → Prop)
    (h : ((16 ≤ x3 → ((x2 = 0 → T0 G J_M_tagOf 418 [(0, .ref a0), (1, .int x1), (2, .int x2), (3, .int 0), (4, .int 0)] [] S Q) ∧ (¬ (x2 = 0) → te S a0 = some (.inr 11) ∧ ∃ b2 : Nat, tR S a0 39 = some b2 ∧ ∃ n4 : Nat, te S b2 = some (.inl (.int, n4)) ∧ vp_in 0 n4 ∧ vp_in 0 n4 ∧ ∀ S6 : TS, S6 = sI S b2 (upd (tI S b2) 0 ((tI S b2 0) - (251 : Int32))) → T0 G J_M_tagOf 394 [(0, .ref a0), (1, .int x1), (2, .int x2), (3, .int 1)] [] S6 Q))) ∧ (¬ (16 ≤ x3) → ((x2 = 0 → ∀ y7 : Int32, y7 = x3 + 1 → T0 G J_M_tagOf 342 [(0, .ref a0), (1, .int x1), (2, .int 0), (3, .int y7)] [] S Q) ∧ (¬ (x2 = 0) → te S a0 = some (.inr 11) ∧ ∃ b9 : Nat, tR S a0 39 = some b9 ∧ ∃ n11 : Nat, te S b9 = some (.inl (.int, n11)) ∧ vp_in x3 n11 ∧ ((¬ tI S b9 x3.toNatClampNeg = 255 → ∀ y13 : Int32, y13 = x3 + 1 → T0 G J_M_tagOf 342 [(0, .ref a0), (1, .int x1), (2, .int 0), (3, .int y13)] [] S Q) ∧ (tI S b9 x3.toNatClampNeg = 255 → ∀ y14 : Int32, y14 = x3 + 1 → T0 G J_M_tagOf 342 [(0, .ref a0), (1, .int x1), (2, .int 1), (3, .int y14)] [] S Q))))))) :
    T0 G J_M_tagOf 342 [(0, .ref a0), (1, .int x1), (2, .int x2), (3, .int x3)] [] S Q := by
  unfold T0
  have hm : Sm0 S S := Sm0.rf S
  refine tt_iload_n (k0 := 3) (by decide +kernel) rfl ?_
  refine tt_bipush (n := 16) (v := 16) (by decide +kernel) (by decide) ?_
  refine tt_icmp_ge (off := 31) 376 (by decide +kernel) (by decide) (fun c => ?_) (fun c => ?_)
  · have h := h.1 c
    refine tt_iload_n (k0 := 2) (by decide +kernel) rfl ?_
    refine tt_if_eq (off := 36) 413 (by decide +kernel) (by decide) (fun c => ?_) (fun c => ?_)
    · have h := h.1 c
      refine tt_iconst (n := 0) (v := 0) (by decide +kernel) (by decide) ?_
      refine tt_istore_n (k0 := 3) (lv' := [(0, .ref a0), (1, .int x1), (2, .int x2), (3, .int 0)]) (by decide +kernel) (by decide) rfl ?_
      refine tt_iconst (n := 0) (v := 0) (by decide +kernel) (by decide) ?_
      refine tt_istore (k0 := 4) (lv' := [(0, .ref a0), (1, .int x1), (2, .int x2), (3, .int 0), (4, .int 0)]) (by decide +kernel) (by decide) rfl ?_
      exact tt_mono h (fun r S' q => ⟨hm.tr q.1, q.2⟩)
    · have h := h.2 c
      refine tt_aload_n (k0 := 0) (by decide +kernel) rfl ?_
      obtain ⟨f1, h⟩ := h
      obtain ⟨b2, f3, h⟩ := h
      refine tt_getR (k := 39) (by decide +kernel) KC_11 (by decide) w_904 (fun _ => rfl) f1 f3 ?_
      refine tt_iconst (n := 0) (v := 0) (by decide +kernel) (by decide) ?_
      refine tt_dup2_11 (by decide +kernel) rfl rfl ?_
      obtain ⟨n4, f5, h⟩ := h
      obtain ⟨g2, h⟩ := h
      refine tt_iald (by decide +kernel) f5 g2 ?_
      show T G J_M_tagOf 387 [(0, .ref a0), (1, .int x1), (2, .int x2), (3, .int x3)] [.int (tI S b2 0), .int 0, .ref b2] S _
      refine tt_sipush (n := 251) (v := 251) (by decide +kernel) (by decide) ?_
      refine tt_isub (by decide +kernel) ?_
      obtain ⟨g2, h⟩ := h
      refine tt_iast (by decide +kernel) f5 g2 ?_
      show T G J_M_tagOf 392 [(0, .ref a0), (1, .int x1), (2, .int x2), (3, .int x3)] [] (sI S b2 (upd (tI S b2) 0 ((tI S b2 0) - (251 : Int32)))) _
      generalize eS6 : sI S b2 (upd (tI S b2) 0 ((tI S b2 0) - (251 : Int32))) = S6
      have h := h S6 eS6.symm
      have hm : Sm0 S S6 := by rw [← eS6]; exact hm.I
      have f1 : te S6 a0 = some (.inr 11) := by rw [← eS6, te_sI]; exact f1
      have f3 : tR S6 a0 39 = some b2 := by rw [← eS6, tR_sI]; exact f3
      have f5 : te S6 b2 = some (.inl (.int, n4)) := by rw [← eS6, te_sI]; exact f5
      refine tt_iconst (n := 1) (v := 1) (by decide +kernel) (by decide) ?_
      refine tt_istore_n (k0 := 3) (lv' := [(0, .ref a0), (1, .int x1), (2, .int x2), (3, .int 1)]) (by decide +kernel) (by decide) rfl ?_
      exact tt_mono h (fun r S' q => ⟨hm.tr q.1, q.2⟩)
  · have h := h.2 c
    refine tt_iload_n (k0 := 2) (by decide +kernel) rfl ?_
    refine tt_if_eq (off := 19) 368 (by decide +kernel) (by decide) (fun c => ?_) (fun c => ?_)
    · have h := h.1 c
      refine tt_iconst (n := 0) (v := 0) (by decide +kernel) (by decide) ?_
      refine tt_istore_n (k0 := 2) (lv' := [(0, .ref a0), (1, .int x1), (2, .int 0), (3, .int x3)]) (by decide +kernel) (by decide) rfl ?_
      obtain ⟨y7, ey7⟩ : ∃ y : Int32, y = x3 + 1 := ⟨_, rfl⟩
      have h := h y7 ey7
      refine tt_iinc (i := 3) (n := 1) (v := y7) (lv' := [(0, .ref a0), (1, .int x1), (2, .int 0), (3, .int y7)]) (by decide +kernel) (by decide) rfl ey7.symm rfl ?_
      refine tt_goto (off := -31) (tgt := 342) (by decide +kernel) (by decide) ?_
      exact tt_mono h (fun r S' q => ⟨hm.tr q.1, q.2⟩)
    · have h := h.2 c
      refine tt_aload_n (k0 := 0) (by decide +kernel) rfl ?_
      obtain ⟨f8, h⟩ := h
      obtain ⟨b9, f10, h⟩ := h
      refine tt_getR (k := 39) (by decide +kernel) KC_11 (by decide) w_904 (fun _ => rfl) f8 f10 ?_
      refine tt_iload_n (k0 := 3) (by decide +kernel) rfl ?_
      obtain ⟨n11, f12, h⟩ := h
      obtain ⟨g2, h⟩ := h
      refine tt_iald (by decide +kernel) f12 g2 ?_
      refine tt_sipush (n := 255) (v := 255) (by decide +kernel) (by decide) ?_
      refine tt_icmp_ne (off := 7) 368 (by decide +kernel) (by decide) (fun c => ?_) (fun c => ?_)
      · have h := h.1 c
        refine tt_iconst (n := 0) (v := 0) (by decide +kernel) (by decide) ?_
        refine tt_istore_n (k0 := 2) (lv' := [(0, .ref a0), (1, .int x1), (2, .int 0), (3, .int x3)]) (by decide +kernel) (by decide) rfl ?_
        obtain ⟨y13, ey13⟩ : ∃ y : Int32, y = x3 + 1 := ⟨_, rfl⟩
        have h := h y13 ey13
        refine tt_iinc (i := 3) (n := 1) (v := y13) (lv' := [(0, .ref a0), (1, .int x1), (2, .int 0), (3, .int y13)]) (by decide +kernel) (by decide) rfl ey13.symm rfl ?_
        refine tt_goto (off := -31) (tgt := 342) (by decide +kernel) (by decide) ?_
        exact tt_mono h (fun r S' q => ⟨hm.tr q.1, q.2⟩)
      · have h := h.2 c
        refine tt_iconst (n := 1) (v := 1) (by decide +kernel) (by decide) ?_
        refine tt_goto (off := 4) (tgt := 369) (by decide +kernel) (by decide) ?_
        refine tt_istore_n (k0 := 2) (lv' := [(0, .ref a0), (1, .int x1), (2, .int 1), (3, .int x3)]) (by decide +kernel) (by decide) rfl ?_
        obtain ⟨y14, ey14⟩ : ∃ y : Int32, y = x3 + 1 := ⟨_, rfl⟩
        have h := h y14 ey14
        refine tt_iinc (i := 3) (n := 1) (v := y14) (lv' := [(0, .ref a0), (1, .int x1), (2, .int 1), (3, .int y14)]) (by decide +kernel) (by decide) rfl ey14.symm rfl ?_
        refine tt_goto (off := -31) (tgt := 342) (by decide +kernel) (by decide) ?_
        exact tt_mono h (fun r S' q => ⟨hm.tr q.1, q.2⟩)
set_option maxRecDepth 100000 in
theorem v_M_tagOf_155 {G : pG} (a0 : Nat) (x1 : Int32) (x2 : Int32) (x3 : Int32) (S : TS) (Q : Option Value → TS → Prop)
    (h : ((17 ≤ x3 → te S a0 = some (.inr 11) ∧ C0 G J_M_settle [.ref a0] S (fun r S2 => r = none ∧ T0 G J_M_tagOf 215 [(0, .ref a0), (1, .int x1), (2, .int x2), (3, .int 0)] [] S2 Q)) ∧ (¬ (17 ≤ x3) → T0 G J_M_tagOf 164 [(0, .ref a0), (1, .int x1), (2, .int x2), (3, .int x3), (4, .int 0)] [] S Q))) :
    T0 G J_M_tagOf 155 [(0, .ref a0), (1, .int x1), (2, .int x2), (3, .int x3)] [] S Q := by
  unfold T0
  have hm : Sm0 S S := Sm0.rf S
  refine tt_iload_n (k0 := 3) (by decide +kernel) rfl ?_
  refine tt_bipush (n := 17) (v := 17) (by decide +kernel) (by decide) ?_
  refine tt_icmp_ge (off := 51) 209 (by decide +kernel) (by decide) (fun c => ?_) (fun c => ?_)
  · have h := h.1 c
    refine tt_aload_n (k0 := 0) (by decide +kernel) rfl ?_
    obtain ⟨f1, h⟩ := h
    refine tt_callV (As := []) (rest := []) (ci := 11) (r0 := (R_11, F_11, 55)) (by decide +kernel) LK_M_settle w_1162 w_1164 (in_p (n := 55) 45 rfl) (by decide) (by decide) rfl rfl (Nat.le_of_ble_eq_true rfl) rfl rfl f1 (ct_mono h (fun r S2 h => ?_))
    obtain ⟨hm2, h⟩ := h
    obtain ⟨rfl, h⟩ := h
    show T G J_M_tagOf 213 [(0, .ref a0), (1, .int x1), (2, .int x2), (3, .int x3)] [] S2 _
    have hm := hm.tr hm2
    have f1 : te S2 a0 = some (.inr 11) := by rw [hm2.1]; exact f1
    refine tt_iconst (n := 0) (v := 0) (by decide +kernel) (by decide) ?_
    refine tt_istore_n (k0 := 3) (lv' := [(0, .ref a0), (1, .int x1), (2, .int x2), (3, .int 0)]) (by decide +kernel) (by decide) rfl ?_
    exact tt_mono h (fun r S' q => ⟨hm.tr q.1, q.2⟩)
  · have h := h.2 c
    refine tt_iconst (n := 0) (v := 0) (by decide +kernel) (by decide) ?_
    refine tt_istore (k0 := 4) (lv' := [(0, .ref a0), (1, .int x1), (2, .int x2), (3, .int x3), (4, .int 0)]) (by decide +kernel) (by decide) rfl ?_
    exact tt_mono h (fun r S' q => ⟨hm.tr q.1, q.2⟩)
set_option maxRecDepth 100000 in
theorem v_M_tagOf_418 {G : pG} (a0 : Nat) (x1 : Int32) (x2 : Int32) (x3 : Int32) (x4 : Int32) (S : TS) (Q : Option Value → TS → Prop)
    (h : ((16 ≤ x4 → Q none S) ∧ (¬ (16 ≤ x4) → te S a0 = some (.inr 11) ∧ ∃ b2 : Nat, tR S a0 39 = some b2 ∧ ∃ n4 : Nat, te S b2 = some (.inl (.int, n4)) ∧ vp_in x4 n4 ∧ ∃ b6 : Nat, tR S a0 38 = some b6 ∧ ∃ n8 : Nat, te S b6 = some (.inl (.byte, n8)) ∧ vp_in ((16 : Int32) + x4) n8 ∧ ∀ y10 : Int32, y10 = x3 + ((tI S b2 x4.toNatClampNeg) + ((tI S b6 ((16 : Int32) + x4).toNatClampNeg) &&& (255 : Int32))) → ∃ b11 : Nat, tR S a0 43 = some b11 ∧ ∃ n13 : Nat, te S b11 = some (.inl (.byte, n13)) ∧ vp_in x4 n13 ∧ ∀ S15 : TS, S15 = sI S b11 (upd (tI S b11) x4.toNatClampNeg ((y10 : Int32).toInt8.toInt32 : Int32).toInt8.toInt32) → ∀ y16 : Int32, y16 = y10 >>> ((8 : Int32) &&& 31) → ∀ y17 : Int32, y17 = x4 + 1 → T0 G J_M_tagOf 418 [(0, .ref a0), (1, .int x1), (2, .int x2), (3, .int y16), (4, .int y17)] [] S15 Q))) :
    T0 G J_M_tagOf 418 [(0, .ref a0), (1, .int x1), (2, .int x2), (3, .int x3), (4, .int x4)] [] S Q := by
  unfold T0
  have hm : Sm0 S S := Sm0.rf S
  refine tt_iload (k0 := 4) (by decide +kernel) rfl ?_
  refine tt_bipush (n := 16) (v := 16) (by decide +kernel) (by decide) ?_
  refine tt_icmp_ge (off := 48) 470 (by decide +kernel) (by decide) (fun c => ?_) (fun c => ?_)
  · have h := h.1 c
    exact tt_vret (by decide +kernel) rfl ⟨hm, h⟩
  · have h := h.2 c
    refine tt_iload_n (k0 := 3) (by decide +kernel) rfl ?_
    refine tt_aload_n (k0 := 0) (by decide +kernel) rfl ?_
    obtain ⟨f1, h⟩ := h
    obtain ⟨b2, f3, h⟩ := h
    refine tt_getR (k := 39) (by decide +kernel) KC_11 (by decide) w_904 (fun _ => rfl) f1 f3 ?_
    refine tt_iload (k0 := 4) (by decide +kernel) rfl ?_
    obtain ⟨n4, f5, h⟩ := h
    obtain ⟨g2, h⟩ := h
    refine tt_iald (by decide +kernel) f5 g2 ?_
    refine tt_aload_n (k0 := 0) (by decide +kernel) rfl ?_
    obtain ⟨b6, f7, h⟩ := h
    refine tt_getR (k := 38) (by decide +kernel) KC_11 (by decide) w_903 (fun _ => rfl) f1 f7 ?_
    refine tt_bipush (n := 16) (v := 16) (by decide +kernel) (by decide) ?_
    refine tt_iload (k0 := 4) (by decide +kernel) rfl ?_
    refine tt_iadd (by decide +kernel) ?_
    obtain ⟨n8, f9, h⟩ := h
    obtain ⟨g2, h⟩ := h
    refine tt_bald (by decide +kernel) f9 g2 ?_
    refine tt_sipush (n := 255) (v := 255) (by decide +kernel) (by decide) ?_
    refine tt_iand (by decide +kernel) ?_
    refine tt_iadd (by decide +kernel) ?_
    refine tt_iadd (by decide +kernel) ?_
    refine tt_topi (fun y10 ey10 => ?_)
    have h := h y10 ey10
    refine tt_istore_n (k0 := 3) (lv' := [(0, .ref a0), (1, .int x1), (2, .int x2), (3, .int y10), (4, .int x4)]) (by decide +kernel) (by decide) rfl ?_
    refine tt_aload_n (k0 := 0) (by decide +kernel) rfl ?_
    obtain ⟨b11, f12, h⟩ := h
    refine tt_getR (k := 43) (by decide +kernel) KC_11 (by decide) w_908 (fun _ => rfl) f1 f12 ?_
    refine tt_iload (k0 := 4) (by decide +kernel) rfl ?_
    refine tt_iload_n (k0 := 3) (by decide +kernel) rfl ?_
    refine tt_i2b (by decide +kernel) ?_
    obtain ⟨n13, f14, h⟩ := h
    obtain ⟨g2, h⟩ := h
    refine tt_bast (by decide +kernel) f14 g2 ?_
    generalize eS15 : sI S b11 (upd (tI S b11) x4.toNatClampNeg ((y10 : Int32).toInt8.toInt32 : Int32).toInt8.toInt32) = S15
    have h := h S15 eS15.symm
    have hm : Sm0 S S15 := by rw [← eS15]; exact hm.I
    have f1 : te S15 a0 = some (.inr 11) := by rw [← eS15, te_sI]; exact f1
    have f3 : tR S15 a0 39 = some b2 := by rw [← eS15, tR_sI]; exact f3
    have f5 : te S15 b2 = some (.inl (.int, n4)) := by rw [← eS15, te_sI]; exact f5
    have f7 : tR S15 a0 38 = some b6 := by rw [← eS15, tR_sI]; exact f7
    have f9 : te S15 b6 = some (.inl (.byte, n8)) := by rw [← eS15, te_sI]; exact f9
    have f12 : tR S15 a0 43 = some b11 := by rw [← eS15, tR_sI]; exact f12
    have f14 : te S15 b11 = some (.inl (.byte, n13)) := by rw [← eS15, te_sI]; exact f14
    refine tt_iload_n (k0 := 3) (by decide +kernel) rfl ?_
    refine tt_bipush (n := 8) (v := 8) (by decide +kernel) (by decide) ?_
    refine tt_ishr (by decide +kernel) ?_
    refine tt_topi (fun y16 ey16 => ?_)
    have h := h y16 ey16
    refine tt_istore_n (k0 := 3) (lv' := [(0, .ref a0), (1, .int x1), (2, .int x2), (3, .int y16), (4, .int x4)]) (by decide +kernel) (by decide) rfl ?_
    obtain ⟨y17, ey17⟩ : ∃ y : Int32, y = x4 + 1 := ⟨_, rfl⟩
    have h := h y17 ey17
    refine tt_iinc (i := 4) (n := 1) (v := y17) (lv' := [(0, .ref a0), (1, .int x1), (2, .int x2), (3, .int y16), (4, .int y17)]) (by decide +kernel) (by decide) rfl ey17.symm rfl ?_
    refine tt_goto (off := -49) (tgt := 418) (by decide +kernel) (by decide) ?_
    exact tt_mono h (fun r S' q => ⟨hm.tr q.1, q.2⟩)
set_option maxRecDepth 100000 in
theorem v_M_tagOf_394 {G : pG} (a0 : Nat) (x1 : Int32) (x2 : Int32) (x3 : Int32) (S : TS) (Q : Option Value → TS → Prop)
    (h : ((17 ≤ x3 → T0 G J_M_tagOf 418 [(0, .ref a0), (1, .int x1), (2, .int x2), (3, .int 0), (4, .int 0)] [] S Q) ∧ (¬ (17 ≤ x3) → te S a0 = some (.inr 11) ∧ ∃ b2 : Nat, tR S a0 39 = some b2 ∧ ∃ n4 : Nat, te S b2 = some (.inl (.int, n4)) ∧ vp_in x3 n4 ∧ ∀ S6 : TS, S6 = sI S b2 (upd (tI S b2) x3.toNatClampNeg 0) → ∀ y7 : Int32, y7 = x3 + 1 → T0 G J_M_tagOf 394 [(0, .ref a0), (1, .int x1), (2, .int x2), (3, .int y7)] [] S6 Q))) :
    T0 G J_M_tagOf 394 [(0, .ref a0), (1, .int x1), (2, .int x2), (3, .int x3)] [] S Q := by
  unfold T0
  have hm : Sm0 S S := Sm0.rf S
  refine tt_iload_n (k0 := 3) (by decide +kernel) rfl ?_
  refine tt_bipush (n := 17) (v := 17) (by decide +kernel) (by decide) ?_
  refine tt_icmp_ge (off := 16) 413 (by decide +kernel) (by decide) (fun c => ?_) (fun c => ?_)
  · have h := h.1 c
    refine tt_iconst (n := 0) (v := 0) (by decide +kernel) (by decide) ?_
    refine tt_istore_n (k0 := 3) (lv' := [(0, .ref a0), (1, .int x1), (2, .int x2), (3, .int 0)]) (by decide +kernel) (by decide) rfl ?_
    refine tt_iconst (n := 0) (v := 0) (by decide +kernel) (by decide) ?_
    refine tt_istore (k0 := 4) (lv' := [(0, .ref a0), (1, .int x1), (2, .int x2), (3, .int 0), (4, .int 0)]) (by decide +kernel) (by decide) rfl ?_
    exact tt_mono h (fun r S' q => ⟨hm.tr q.1, q.2⟩)
  · have h := h.2 c
    refine tt_aload_n (k0 := 0) (by decide +kernel) rfl ?_
    obtain ⟨f1, h⟩ := h
    obtain ⟨b2, f3, h⟩ := h
    refine tt_getR (k := 39) (by decide +kernel) KC_11 (by decide) w_904 (fun _ => rfl) f1 f3 ?_
    refine tt_iload_n (k0 := 3) (by decide +kernel) rfl ?_
    refine tt_iconst (n := 0) (v := 0) (by decide +kernel) (by decide) ?_
    obtain ⟨n4, f5, h⟩ := h
    obtain ⟨g2, h⟩ := h
    refine tt_iast (by decide +kernel) f5 g2 ?_
    generalize eS6 : sI S b2 (upd (tI S b2) x3.toNatClampNeg 0) = S6
    have h := h S6 eS6.symm
    have hm : Sm0 S S6 := by rw [← eS6]; exact hm.I
    have f1 : te S6 a0 = some (.inr 11) := by rw [← eS6, te_sI]; exact f1
    have f3 : tR S6 a0 39 = some b2 := by rw [← eS6, tR_sI]; exact f3
    have f5 : te S6 b2 = some (.inl (.int, n4)) := by rw [← eS6, te_sI]; exact f5
    obtain ⟨y7, ey7⟩ : ∃ y : Int32, y = x3 + 1 := ⟨_, rfl⟩
    have h := h y7 ey7
    refine tt_iinc (i := 3) (n := 1) (v := y7) (lv' := [(0, .ref a0), (1, .int x1), (2, .int x2), (3, .int y7)]) (by decide +kernel) (by decide) rfl ey7.symm rfl ?_
    refine tt_goto (off := -16) (tgt := 394) (by decide +kernel) (by decide) ?_
    exact tt_mono h (fun r S' q => ⟨hm.tr q.1, q.2⟩)
set_option maxRecDepth 100000 in
theorem v_M_tagOf_215 {G : pG} (a0 : Nat) (x1 : Int32) (x2 : Int32) (x3 : Int32) (S : TS) (Q : Option Value → TS → Prop)
    (h : ((17 ≤ x3 → ∀ y1 : Int32, y1 = x2 + 16 → T0 G J_M_tagOf 81 [(0, .ref a0), (1, .int x1), (2, .int y1)] [] S Q) ∧ (¬ (17 ≤ x3) → te S a0 = some (.inr 11) ∧ ∃ b3 : Nat, tR S a0 39 = some b3 ∧ ∃ b5 : Nat, tR S a0 40 = some b5 ∧ ∃ n7 : Nat, te S b5 = some (.inl (.int, n7)) ∧ vp_in x3 n7 ∧ ∃ n9 : Nat, te S b3 = some (.inl (.int, n9)) ∧ vp_in x3 n9 ∧ ∀ S11 : TS, S11 = sI S b3 (upd (tI S b3) x3.toNatClampNeg (tI S b5 x3.toNatClampNeg)) → ∀ y12 : Int32, y12 = x3 + 1 → T0 G J_M_tagOf 215 [(0, .ref a0), (1, .int x1), (2, .int x2), (3, .int y12)] [] S11 Q))) :
    T0 G J_M_tagOf 215 [(0, .ref a0), (1, .int x1), (2, .int x2), (3, .int x3)] [] S Q := by
  unfold T0
  have hm : Sm0 S S := Sm0.rf S
  refine tt_iload_n (k0 := 3) (by decide +kernel) rfl ?_
  refine tt_bipush (n := 17) (v := 17) (by decide +kernel) (by decide) ?_
  refine tt_icmp_ge (off := 21) 239 (by decide +kernel) (by decide) (fun c => ?_) (fun c => ?_)
  · have h := h.1 c
    obtain ⟨y1, ey1⟩ : ∃ y : Int32, y = x2 + 16 := ⟨_, rfl⟩
    have h := h y1 ey1
    refine tt_iinc (i := 2) (n := 16) (v := y1) (lv' := [(0, .ref a0), (1, .int x1), (2, .int y1), (3, .int x3)]) (by decide +kernel) (by decide) rfl ey1.symm rfl ?_
    refine tt_goto (off := -161) (tgt := 81) (by decide +kernel) (by decide) ?_
    refine tt_lv [(0, .ref a0), (1, .int x1), (2, .int y1)] (by simp) ?_
    exact tt_mono h (fun r S' q => ⟨hm.tr q.1, q.2⟩)
  · have h := h.2 c
    refine tt_aload_n (k0 := 0) (by decide +kernel) rfl ?_
    obtain ⟨f2, h⟩ := h
    obtain ⟨b3, f4, h⟩ := h
    refine tt_getR (k := 39) (by decide +kernel) KC_11 (by decide) w_904 (fun _ => rfl) f2 f4 ?_
    refine tt_iload_n (k0 := 3) (by decide +kernel) rfl ?_
    refine tt_aload_n (k0 := 0) (by decide +kernel) rfl ?_
    obtain ⟨b5, f6, h⟩ := h
    refine tt_getR (k := 40) (by decide +kernel) KC_11 (by decide) w_905 (fun _ => rfl) f2 f6 ?_
    refine tt_iload_n (k0 := 3) (by decide +kernel) rfl ?_
    obtain ⟨n7, f8, h⟩ := h
    obtain ⟨g2, h⟩ := h
    refine tt_iald (by decide +kernel) f8 g2 ?_
    obtain ⟨n9, f10, h⟩ := h
    obtain ⟨g2, h⟩ := h
    refine tt_iast (by decide +kernel) f10 g2 ?_
    generalize eS11 : sI S b3 (upd (tI S b3) x3.toNatClampNeg (tI S b5 x3.toNatClampNeg)) = S11
    have h := h S11 eS11.symm
    have hm : Sm0 S S11 := by rw [← eS11]; exact hm.I
    have f2 : te S11 a0 = some (.inr 11) := by rw [← eS11, te_sI]; exact f2
    have f4 : tR S11 a0 39 = some b3 := by rw [← eS11, tR_sI]; exact f4
    have f6 : tR S11 a0 40 = some b5 := by rw [← eS11, tR_sI]; exact f6
    have f8 : te S11 b5 = some (.inl (.int, n7)) := by rw [← eS11, te_sI]; exact f8
    have f10 : te S11 b3 = some (.inl (.int, n9)) := by rw [← eS11, te_sI]; exact f10
    obtain ⟨y12, ey12⟩ : ∃ y : Int32, y = x3 + 1 := ⟨_, rfl⟩
    have h := h y12 ey12
    refine tt_iinc (i := 3) (n := 1) (v := y12) (lv' := [(0, .ref a0), (1, .int x1), (2, .int x2), (3, .int y12)]) (by decide +kernel) (by decide) rfl ey12.symm rfl ?_
    refine tt_goto (off := -21) (tgt := 215) (by decide +kernel) (by decide) ?_
    exact tt_mono h (fun r S' q => ⟨hm.tr q.1, q.2⟩)
set_option maxRecDepth 100000 in
theorem v_M_tagOf_164 {G : pG} (a0 : Nat) (x1 : Int32) (x2 : Int32) (x3 : Int32) (x4 : Int32) (S : TS) (Q : Option Value → TS → Prop)
    (h : ((16 ≤ x4 → ∀ y1 : Int32, y1 = x3 + 1 → T0 G J_M_tagOf 155 [(0, .ref a0), (1, .int x1), (2, .int x2), (3, .int y1)] [] S Q) ∧ (¬ (16 ≤ x4) → te S a0 = some (.inr 11) ∧ ∃ b3 : Nat, tR S a0 40 = some b3 ∧ ∃ n5 : Nat, te S b3 = some (.inl (.int, n5)) ∧ vp_in (x3 + x4) n5 ∧ ∃ b7 : Nat, tR S a0 39 = some b7 ∧ ∃ n9 : Nat, te S b7 = some (.inl (.int, n9)) ∧ vp_in x3 n9 ∧ ∃ b11 : Nat, tR S a0 41 = some b11 ∧ ∃ n13 : Nat, te S b11 = some (.inl (.int, n13)) ∧ vp_in x4 n13 ∧ vp_in (x3 + x4) n5 ∧ ∀ S15 : TS, S15 = sI S b3 (upd (tI S b3) (x3 + x4).toNatClampNeg ((tI S b3 (x3 + x4).toNatClampNeg) + ((tI S b7 x3.toNatClampNeg) * (tI S b11 x4.toNatClampNeg)))) → ∀ y16 : Int32, y16 = x4 + 1 → T0 G J_M_tagOf 164 [(0, .ref a0), (1, .int x1), (2, .int x2), (3, .int x3), (4, .int y16)] [] S15 Q))) :
    T0 G J_M_tagOf 164 [(0, .ref a0), (1, .int x1), (2, .int x2), (3, .int x3), (4, .int x4)] [] S Q := by
  unfold T0
  have hm : Sm0 S S := Sm0.rf S
  refine tt_iload (k0 := 4) (by decide +kernel) rfl ?_
  refine tt_bipush (n := 16) (v := 16) (by decide +kernel) (by decide) ?_
  refine tt_icmp_ge (off := 35) 203 (by decide +kernel) (by decide) (fun c => ?_) (fun c => ?_)
  · have h := h.1 c
    obtain ⟨y1, ey1⟩ : ∃ y : Int32, y = x3 + 1 := ⟨_, rfl⟩
    have h := h y1 ey1
    refine tt_iinc (i := 3) (n := 1) (v := y1) (lv' := [(0, .ref a0), (1, .int x1), (2, .int x2), (3, .int y1), (4, .int x4)]) (by decide +kernel) (by decide) rfl ey1.symm rfl ?_
    refine tt_goto (off := -51) (tgt := 155) (by decide +kernel) (by decide) ?_
    refine tt_lv [(0, .ref a0), (1, .int x1), (2, .int x2), (3, .int y1)] (by simp) ?_
    exact tt_mono h (fun r S' q => ⟨hm.tr q.1, q.2⟩)
  · have h := h.2 c
    refine tt_aload_n (k0 := 0) (by decide +kernel) rfl ?_
    obtain ⟨f2, h⟩ := h
    obtain ⟨b3, f4, h⟩ := h
    refine tt_getR (k := 40) (by decide +kernel) KC_11 (by decide) w_905 (fun _ => rfl) f2 f4 ?_
    refine tt_iload_n (k0 := 3) (by decide +kernel) rfl ?_
    refine tt_iload (k0 := 4) (by decide +kernel) rfl ?_
    refine tt_iadd (by decide +kernel) ?_
    refine tt_dup2_11 (by decide +kernel) rfl rfl ?_
    obtain ⟨n5, f6, h⟩ := h
    obtain ⟨g2, h⟩ := h
    refine tt_iald (by decide +kernel) f6 g2 ?_
    refine tt_aload_n (k0 := 0) (by decide +kernel) rfl ?_
    obtain ⟨b7, f8, h⟩ := h
    refine tt_getR (k := 39) (by decide +kernel) KC_11 (by decide) w_904 (fun _ => rfl) f2 f8 ?_
    refine tt_iload_n (k0 := 3) (by decide +kernel) rfl ?_
    obtain ⟨n9, f10, h⟩ := h
    obtain ⟨g2, h⟩ := h
    refine tt_iald (by decide +kernel) f10 g2 ?_
    refine tt_aload_n (k0 := 0) (by decide +kernel) rfl ?_
    obtain ⟨b11, f12, h⟩ := h
    refine tt_getR (k := 41) (by decide +kernel) KC_11 (by decide) w_906 (fun _ => rfl) f2 f12 ?_
    refine tt_iload (k0 := 4) (by decide +kernel) rfl ?_
    obtain ⟨n13, f14, h⟩ := h
    obtain ⟨g2, h⟩ := h
    refine tt_iald (by decide +kernel) f14 g2 ?_
    refine tt_imul (by decide +kernel) ?_
    refine tt_iadd (by decide +kernel) ?_
    obtain ⟨g2, h⟩ := h
    refine tt_iast (by decide +kernel) f6 g2 ?_
    generalize eS15 : sI S b3 (upd (tI S b3) (x3 + x4).toNatClampNeg ((tI S b3 (x3 + x4).toNatClampNeg) + ((tI S b7 x3.toNatClampNeg) * (tI S b11 x4.toNatClampNeg)))) = S15
    have h := h S15 eS15.symm
    have hm : Sm0 S S15 := by rw [← eS15]; exact hm.I
    have f2 : te S15 a0 = some (.inr 11) := by rw [← eS15, te_sI]; exact f2
    have f4 : tR S15 a0 40 = some b3 := by rw [← eS15, tR_sI]; exact f4
    have f6 : te S15 b3 = some (.inl (.int, n5)) := by rw [← eS15, te_sI]; exact f6
    have f8 : tR S15 a0 39 = some b7 := by rw [← eS15, tR_sI]; exact f8
    have f10 : te S15 b7 = some (.inl (.int, n9)) := by rw [← eS15, te_sI]; exact f10
    have f12 : tR S15 a0 41 = some b11 := by rw [← eS15, tR_sI]; exact f12
    have f14 : te S15 b11 = some (.inl (.int, n13)) := by rw [← eS15, te_sI]; exact f14
    obtain ⟨y16, ey16⟩ : ∃ y : Int32, y = x4 + 1 := ⟨_, rfl⟩
    have h := h y16 ey16
    refine tt_iinc (i := 4) (n := 1) (v := y16) (lv' := [(0, .ref a0), (1, .int x1), (2, .int x2), (3, .int x3), (4, .int y16)]) (by decide +kernel) (by decide) rfl ey16.symm rfl ?_
    refine tt_goto (off := -36) (tgt := 164) (by decide +kernel) (by decide) ?_
    exact tt_mono h (fun r S' q => ⟨hm.tr q.1, q.2⟩)
set_option maxRecDepth 100000 in
theorem v_M_settle {G : pG} (a0 : Nat) (S : TS) (Q : Option Value → TS → Prop)
    (h : T0 G J_M_settle 2 [(0, .ref a0), (1, .int 0)] [] S Q) :
    C0 G J_M_settle [.ref a0] S Q := by
  unfold C0
  refine ct_of (by decide +kernel) (Nat.le_of_ble_eq_true rfl) (lv := [(0, .ref a0)]) rfl ?_
  have hm : Sm0 S S := Sm0.rf S
  refine tt_iconst (n := 0) (v := 0) (by decide +kernel) (by decide) ?_
  refine tt_istore_n (k0 := 1) (lv' := [(0, .ref a0), (1, .int 0)]) (by decide +kernel) (by decide) rfl ?_
  exact tt_mono h (fun r S' q => ⟨hm.tr q.1, q.2⟩)
set_option maxRecDepth 100000 in
theorem v_M_settle_2 {G : pG} (a0 : Nat) (x1 : Int32) (S : TS) (Q : Option Value → TS → Prop)
    (h : ((3 ≤ x1 → te S a0 = some (.inr 11) ∧ C0 G J_M_carry [.ref a0] S (fun r S2 => r = none ∧ Q none S2)) ∧ (¬ (3 ≤ x1) → te S a0 = some (.inr 11) ∧ C0 G J_M_carry [.ref a0] S (fun r S4 => r = none ∧ T0 G J_M_settle 13 [(0, .ref a0), (1, .int x1), (2, .int 0)] [] S4 Q)))) :
    T0 G J_M_settle 2 [(0, .ref a0), (1, .int x1)] [] S Q := by
  unfold T0
  have hm : Sm0 S S := Sm0.rf S
  refine tt_iload_n (k0 := 1) (by decide +kernel) rfl ?_
  refine tt_iconst (n := 3) (v := 3) (by decide +kernel) (by decide) ?_
  refine tt_icmp_ge (off := 125) 129 (by decide +kernel) (by decide) (fun c => ?_) (fun c => ?_)
  · have h := h.1 c
    refine tt_aload_n (k0 := 0) (by decide +kernel) rfl ?_
    obtain ⟨f1, h⟩ := h
    refine tt_callV (As := []) (rest := []) (ci := 11) (r0 := (R_11, F_11, 55)) (by decide +kernel) LK_M_carry w_1166 w_1168 (in_p (n := 55) 46 rfl) (by decide) (by decide) rfl rfl (Nat.le_of_ble_eq_true rfl) rfl rfl f1 (ct_mono h (fun r S2 h => ?_))
    obtain ⟨hm2, h⟩ := h
    obtain ⟨rfl, h⟩ := h
    show T G J_M_settle 133 [(0, .ref a0), (1, .int x1)] [] S2 _
    have hm := hm.tr hm2
    have f1 : te S2 a0 = some (.inr 11) := by rw [hm2.1]; exact f1
    exact tt_vret (by decide +kernel) rfl ⟨hm, h⟩
  · have h := h.2 c
    refine tt_aload_n (k0 := 0) (by decide +kernel) rfl ?_
    obtain ⟨f3, h⟩ := h
    refine tt_callV (As := []) (rest := []) (ci := 11) (r0 := (R_11, F_11, 55)) (by decide +kernel) LK_M_carry w_1166 w_1168 (in_p (n := 55) 46 rfl) (by decide) (by decide) rfl rfl (Nat.le_of_ble_eq_true rfl) rfl rfl f3 (ct_mono h (fun r S4 h => ?_))
    obtain ⟨hm2, h⟩ := h
    obtain ⟨rfl, h⟩ := h
    show T G J_M_settle 11 [(0, .ref a0), (1, .int x1)] [] S4 _
    have hm := hm.tr hm2
    have f3 : te S4 a0 = some (.inr 11) := by rw [hm2.1]; exact f3
    refine tt_iconst (n := 0) (v := 0) (by decide +kernel) (by decide) ?_
    refine tt_istore_n (k0 := 2) (lv' := [(0, .ref a0), (1, .int x1), (2, .int 0)]) (by decide +kernel) (by decide) rfl ?_
    exact tt_mono h (fun r S' q => ⟨hm.tr q.1, q.2⟩)
set_option maxRecDepth 100000 in
theorem v_M_settle_13 {G : pG} (a0 : Nat) (x1 : Int32) (x2 : Int32) (S : TS) (Q : Option Value → TS → Prop)
    (h : ((18 ≤ x2 → T0 G J_M_settle 62 [(0, .ref a0), (1, .int x1), (2, .int 17)] [] S Q) ∧ (¬ (18 ≤ x2) → te S a0 = some (.inr 11) ∧ ∃ b2 : Nat, tR S a0 44 = some b2 ∧ ∃ b4 : Nat, tR S a0 40 = some b4 ∧ ∃ n6 : Nat, te S b4 = some (.inl (.int, n6)) ∧ vp_in ((16 : Int32) + x2) n6 ∧ vp_in ((17 : Int32) + x2) n6 ∧ ∃ n8 : Nat, te S b2 = some (.inl (.int, n8)) ∧ vp_in x2 n8 ∧ ∀ S10 : TS, S10 = sI S b2 (upd (tI S b2) x2.toNatClampNeg (((tI S b4 ((16 : Int32) + x2).toNatClampNeg) >>> ((2 : Int32) &&& 31)) ||| (((tI S b4 ((17 : Int32) + x2).toNatClampNeg) <<< ((6 : Int32) &&& 31)) &&& (255 : Int32)))) → ∀ y11 : Int32, y11 = x2 + 1 → T0 G J_M_settle 13 [(0, .ref a0), (1, .int x1), (2, .int y11)] [] S10 Q))) :
    T0 G J_M_settle 13 [(0, .ref a0), (1, .int x1), (2, .int x2)] [] S Q := by
  unfold T0
  have hm : Sm0 S S := Sm0.rf S
  refine tt_iload_n (k0 := 2) (by decide +kernel) rfl ?_
  refine tt_bipush (n := 18) (v := 18) (by decide +kernel) (by decide) ?_
  refine tt_icmp_ge (off := 43) 59 (by decide +kernel) (by decide) (fun c => ?_) (fun c => ?_)
  · have h := h.1 c
    refine tt_bipush (n := 17) (v := 17) (by decide +kernel) (by decide) ?_
    refine tt_istore_n (k0 := 2) (lv' := [(0, .ref a0), (1, .int x1), (2, .int 17)]) (by decide +kernel) (by decide) rfl ?_
    exact tt_mono h (fun r S' q => ⟨hm.tr q.1, q.2⟩)
  · have h := h.2 c
    refine tt_aload_n (k0 := 0) (by decide +kernel) rfl ?_
    obtain ⟨f1, h⟩ := h
    obtain ⟨b2, f3, h⟩ := h
    refine tt_getR (k := 44) (by decide +kernel) KC_11 (by decide) w_909 (fun _ => rfl) f1 f3 ?_
    refine tt_iload_n (k0 := 2) (by decide +kernel) rfl ?_
    refine tt_aload_n (k0 := 0) (by decide +kernel) rfl ?_
    obtain ⟨b4, f5, h⟩ := h
    refine tt_getR (k := 40) (by decide +kernel) KC_11 (by decide) w_905 (fun _ => rfl) f1 f5 ?_
    refine tt_bipush (n := 16) (v := 16) (by decide +kernel) (by decide) ?_
    refine tt_iload_n (k0 := 2) (by decide +kernel) rfl ?_
    refine tt_iadd (by decide +kernel) ?_
    obtain ⟨n6, f7, h⟩ := h
    obtain ⟨g2, h⟩ := h
    refine tt_iald (by decide +kernel) f7 g2 ?_
    refine tt_iconst (n := 2) (v := 2) (by decide +kernel) (by decide) ?_
    refine tt_ishr (by decide +kernel) ?_
    refine tt_aload_n (k0 := 0) (by decide +kernel) rfl ?_
    refine tt_getR (k := 40) (by decide +kernel) KC_11 (by decide) w_905 (fun _ => rfl) f1 f5 ?_
    refine tt_bipush (n := 17) (v := 17) (by decide +kernel) (by decide) ?_
    refine tt_iload_n (k0 := 2) (by decide +kernel) rfl ?_
    refine tt_iadd (by decide +kernel) ?_
    obtain ⟨g2, h⟩ := h
    refine tt_iald (by decide +kernel) f7 g2 ?_
    refine tt_bipush (n := 6) (v := 6) (by decide +kernel) (by decide) ?_
    refine tt_ishl (by decide +kernel) ?_
    refine tt_sipush (n := 255) (v := 255) (by decide +kernel) (by decide) ?_
    refine tt_iand (by decide +kernel) ?_
    refine tt_ior (by decide +kernel) ?_
    obtain ⟨n8, f9, h⟩ := h
    obtain ⟨g2, h⟩ := h
    refine tt_iast (by decide +kernel) f9 g2 ?_
    generalize eS10 : sI S b2 (upd (tI S b2) x2.toNatClampNeg (((tI S b4 ((16 : Int32) + x2).toNatClampNeg) >>> ((2 : Int32) &&& 31)) ||| (((tI S b4 ((17 : Int32) + x2).toNatClampNeg) <<< ((6 : Int32) &&& 31)) &&& (255 : Int32)))) = S10
    have h := h S10 eS10.symm
    have hm : Sm0 S S10 := by rw [← eS10]; exact hm.I
    have f1 : te S10 a0 = some (.inr 11) := by rw [← eS10, te_sI]; exact f1
    have f3 : tR S10 a0 44 = some b2 := by rw [← eS10, tR_sI]; exact f3
    have f5 : tR S10 a0 40 = some b4 := by rw [← eS10, tR_sI]; exact f5
    have f7 : te S10 b4 = some (.inl (.int, n6)) := by rw [← eS10, te_sI]; exact f7
    have f9 : te S10 b2 = some (.inl (.int, n8)) := by rw [← eS10, te_sI]; exact f9
    obtain ⟨y11, ey11⟩ : ∃ y : Int32, y = x2 + 1 := ⟨_, rfl⟩
    have h := h y11 ey11
    refine tt_iinc (i := 2) (n := 1) (v := y11) (lv' := [(0, .ref a0), (1, .int x1), (2, .int y11)]) (by decide +kernel) (by decide) rfl ey11.symm rfl ?_
    refine tt_goto (off := -43) (tgt := 13) (by decide +kernel) (by decide) ?_
    exact tt_mono h (fun r S' q => ⟨hm.tr q.1, q.2⟩)
set_option maxRecDepth 100000 in
theorem v_M_settle_62 {G : pG} (a0 : Nat) (x1 : Int32) (x2 : Int32) (S : TS) (Q : Option Value → TS → Prop)
    (h : ((35 ≤ x2 → te S a0 = some (.inr 11) ∧ ∃ b2 : Nat, tR S a0 40 = some b2 ∧ ∃ n4 : Nat, te S b2 = some (.inl (.int, n4)) ∧ vp_in 16 n4 ∧ vp_in 16 n4 ∧ ∀ S6 : TS, S6 = sI S b2 (upd (tI S b2) 16 ((tI S b2 16) &&& (3 : Int32))) → T0 G J_M_settle 94 [(0, .ref a0), (1, .int x1), (2, .int 0)] [] S6 Q) ∧ (¬ (35 ≤ x2) → te S a0 = some (.inr 11) ∧ ∃ b8 : Nat, tR S a0 40 = some b8 ∧ ∃ n10 : Nat, te S b8 = some (.inl (.int, n10)) ∧ vp_in x2 n10 ∧ ∀ S12 : TS, S12 = sI S b8 (upd (tI S b8) x2.toNatClampNeg 0) → ∀ y13 : Int32, y13 = x2 + 1 → T0 G J_M_settle 62 [(0, .ref a0), (1, .int x1), (2, .int y13)] [] S12 Q))) :
    T0 G J_M_settle 62 [(0, .ref a0), (1, .int x1), (2, .int x2)] [] S Q := by
  unfold T0
  have hm : Sm0 S S := Sm0.rf S
  refine tt_iload_n (k0 := 2) (by decide +kernel) rfl ?_
  refine tt_bipush (n := 35) (v := 35) (by decide +kernel) (by decide) ?_
  refine tt_icmp_ge (off := 16) 81 (by decide +kernel) (by decide) (fun c => ?_) (fun c => ?_)
  · have h := h.1 c
    refine tt_aload_n (k0 := 0) (by decide +kernel) rfl ?_
    obtain ⟨f1, h⟩ := h
    obtain ⟨b2, f3, h⟩ := h
    refine tt_getR (k := 40) (by decide +kernel) KC_11 (by decide) w_905 (fun _ => rfl) f1 f3 ?_
    refine tt_bipush (n := 16) (v := 16) (by decide +kernel) (by decide) ?_
    refine tt_dup2_11 (by decide +kernel) rfl rfl ?_
    obtain ⟨n4, f5, h⟩ := h
    obtain ⟨g2, h⟩ := h
    refine tt_iald (by decide +kernel) f5 g2 ?_
    show T G J_M_settle 89 [(0, .ref a0), (1, .int x1), (2, .int x2)] [.int (tI S b2 16), .int 16, .ref b2] S _
    refine tt_iconst (n := 3) (v := 3) (by decide +kernel) (by decide) ?_
    refine tt_iand (by decide +kernel) ?_
    obtain ⟨g2, h⟩ := h
    refine tt_iast (by decide +kernel) f5 g2 ?_
    show T G J_M_settle 92 [(0, .ref a0), (1, .int x1), (2, .int x2)] [] (sI S b2 (upd (tI S b2) 16 ((tI S b2 16) &&& (3 : Int32)))) _
    generalize eS6 : sI S b2 (upd (tI S b2) 16 ((tI S b2 16) &&& (3 : Int32))) = S6
    have h := h S6 eS6.symm
    have hm : Sm0 S S6 := by rw [← eS6]; exact hm.I
    have f1 : te S6 a0 = some (.inr 11) := by rw [← eS6, te_sI]; exact f1
    have f3 : tR S6 a0 40 = some b2 := by rw [← eS6, tR_sI]; exact f3
    have f5 : te S6 b2 = some (.inl (.int, n4)) := by rw [← eS6, te_sI]; exact f5
    refine tt_iconst (n := 0) (v := 0) (by decide +kernel) (by decide) ?_
    refine tt_istore_n (k0 := 2) (lv' := [(0, .ref a0), (1, .int x1), (2, .int 0)]) (by decide +kernel) (by decide) rfl ?_
    exact tt_mono h (fun r S' q => ⟨hm.tr q.1, q.2⟩)
  · have h := h.2 c
    refine tt_aload_n (k0 := 0) (by decide +kernel) rfl ?_
    obtain ⟨f7, h⟩ := h
    obtain ⟨b8, f9, h⟩ := h
    refine tt_getR (k := 40) (by decide +kernel) KC_11 (by decide) w_905 (fun _ => rfl) f7 f9 ?_
    refine tt_iload_n (k0 := 2) (by decide +kernel) rfl ?_
    refine tt_iconst (n := 0) (v := 0) (by decide +kernel) (by decide) ?_
    obtain ⟨n10, f11, h⟩ := h
    obtain ⟨g2, h⟩ := h
    refine tt_iast (by decide +kernel) f11 g2 ?_
    generalize eS12 : sI S b8 (upd (tI S b8) x2.toNatClampNeg 0) = S12
    have h := h S12 eS12.symm
    have hm : Sm0 S S12 := by rw [← eS12]; exact hm.I
    have f7 : te S12 a0 = some (.inr 11) := by rw [← eS12, te_sI]; exact f7
    have f9 : tR S12 a0 40 = some b8 := by rw [← eS12, tR_sI]; exact f9
    have f11 : te S12 b8 = some (.inl (.int, n10)) := by rw [← eS12, te_sI]; exact f11
    obtain ⟨y13, ey13⟩ : ∃ y : Int32, y = x2 + 1 := ⟨_, rfl⟩
    have h := h y13 ey13
    refine tt_iinc (i := 2) (n := 1) (v := y13) (lv' := [(0, .ref a0), (1, .int x1), (2, .int y13)]) (by decide +kernel) (by decide) rfl ey13.symm rfl ?_
    refine tt_goto (off := -16) (tgt := 62) (by decide +kernel) (by decide) ?_
    exact tt_mono h (fun r S' q => ⟨hm.tr q.1, q.2⟩)
set_option maxRecDepth 100000 in
theorem v_M_settle_94 {G : pG} (a0 : Nat) (x1 : Int32) (x2 : Int32) (S : TS) (Q : Option Value → TS → Prop)
    (h : ((18 ≤ x2 → ∀ y1 : Int32, y1 = x1 + 1 → T0 G J_M_settle 2 [(0, .ref a0), (1, .int y1)] [] S Q) ∧ (¬ (18 ≤ x2) → te S a0 = some (.inr 11) ∧ ∃ b3 : Nat, tR S a0 40 = some b3 ∧ ∃ n5 : Nat, te S b3 = some (.inl (.int, n5)) ∧ vp_in x2 n5 ∧ ∃ b7 : Nat, tR S a0 44 = some b7 ∧ ∃ n9 : Nat, te S b7 = some (.inl (.int, n9)) ∧ vp_in x2 n9 ∧ vp_in x2 n5 ∧ ∀ S11 : TS, S11 = sI S b3 (upd (tI S b3) x2.toNatClampNeg ((tI S b3 x2.toNatClampNeg) + ((5 : Int32) * (tI S b7 x2.toNatClampNeg)))) → ∀ y12 : Int32, y12 = x2 + 1 → T0 G J_M_settle 94 [(0, .ref a0), (1, .int x1), (2, .int y12)] [] S11 Q))) :
    T0 G J_M_settle 94 [(0, .ref a0), (1, .int x1), (2, .int x2)] [] S Q := by
  unfold T0
  have hm : Sm0 S S := Sm0.rf S
  refine tt_iload_n (k0 := 2) (by decide +kernel) rfl ?_
  refine tt_bipush (n := 18) (v := 18) (by decide +kernel) (by decide) ?_
  refine tt_icmp_ge (off := 26) 123 (by decide +kernel) (by decide) (fun c => ?_) (fun c => ?_)
  · have h := h.1 c
    obtain ⟨y1, ey1⟩ : ∃ y : Int32, y = x1 + 1 := ⟨_, rfl⟩
    have h := h y1 ey1
    refine tt_iinc (i := 1) (n := 1) (v := y1) (lv' := [(0, .ref a0), (1, .int y1), (2, .int x2)]) (by decide +kernel) (by decide) rfl ey1.symm rfl ?_
    refine tt_goto (off := -124) (tgt := 2) (by decide +kernel) (by decide) ?_
    refine tt_lv [(0, .ref a0), (1, .int y1)] (by simp) ?_
    exact tt_mono h (fun r S' q => ⟨hm.tr q.1, q.2⟩)
  · have h := h.2 c
    refine tt_aload_n (k0 := 0) (by decide +kernel) rfl ?_
    obtain ⟨f2, h⟩ := h
    obtain ⟨b3, f4, h⟩ := h
    refine tt_getR (k := 40) (by decide +kernel) KC_11 (by decide) w_905 (fun _ => rfl) f2 f4 ?_
    refine tt_iload_n (k0 := 2) (by decide +kernel) rfl ?_
    refine tt_dup2_11 (by decide +kernel) rfl rfl ?_
    obtain ⟨n5, f6, h⟩ := h
    obtain ⟨g2, h⟩ := h
    refine tt_iald (by decide +kernel) f6 g2 ?_
    refine tt_iconst (n := 5) (v := 5) (by decide +kernel) (by decide) ?_
    refine tt_aload_n (k0 := 0) (by decide +kernel) rfl ?_
    obtain ⟨b7, f8, h⟩ := h
    refine tt_getR (k := 44) (by decide +kernel) KC_11 (by decide) w_909 (fun _ => rfl) f2 f8 ?_
    refine tt_iload_n (k0 := 2) (by decide +kernel) rfl ?_
    obtain ⟨n9, f10, h⟩ := h
    obtain ⟨g2, h⟩ := h
    refine tt_iald (by decide +kernel) f10 g2 ?_
    refine tt_imul (by decide +kernel) ?_
    refine tt_iadd (by decide +kernel) ?_
    obtain ⟨g2, h⟩ := h
    refine tt_iast (by decide +kernel) f6 g2 ?_
    generalize eS11 : sI S b3 (upd (tI S b3) x2.toNatClampNeg ((tI S b3 x2.toNatClampNeg) + ((5 : Int32) * (tI S b7 x2.toNatClampNeg)))) = S11
    have h := h S11 eS11.symm
    have hm : Sm0 S S11 := by rw [← eS11]; exact hm.I
    have f2 : te S11 a0 = some (.inr 11) := by rw [← eS11, te_sI]; exact f2
    have f4 : tR S11 a0 40 = some b3 := by rw [← eS11, tR_sI]; exact f4
    have f6 : te S11 b3 = some (.inl (.int, n5)) := by rw [← eS11, te_sI]; exact f6
    have f8 : tR S11 a0 44 = some b7 := by rw [← eS11, tR_sI]; exact f8
    have f10 : te S11 b7 = some (.inl (.int, n9)) := by rw [← eS11, te_sI]; exact f10
    obtain ⟨y12, ey12⟩ : ∃ y : Int32, y = x2 + 1 := ⟨_, rfl⟩
    have h := h y12 ey12
    refine tt_iinc (i := 2) (n := 1) (v := y12) (lv' := [(0, .ref a0), (1, .int x1), (2, .int y12)]) (by decide +kernel) (by decide) rfl ey12.symm rfl ?_
    refine tt_goto (off := -26) (tgt := 94) (by decide +kernel) (by decide) ?_
    exact tt_mono h (fun r S' q => ⟨hm.tr q.1, q.2⟩)
set_option maxRecDepth 100000 in
theorem v_M_carry {G : pG} (a0 : Nat) (S : TS) (Q : Option Value → TS → Prop)
    (h : T0 G J_M_carry 2 [(0, .ref a0), (1, .int 0)] [] S Q) :
    C0 G J_M_carry [.ref a0] S Q := by
  unfold C0
  refine ct_of (by decide +kernel) (Nat.le_of_ble_eq_true rfl) (lv := [(0, .ref a0)]) rfl ?_
  have hm : Sm0 S S := Sm0.rf S
  refine tt_iconst (n := 0) (v := 0) (by decide +kernel) (by decide) ?_
  refine tt_istore_n (k0 := 1) (lv' := [(0, .ref a0), (1, .int 0)]) (by decide +kernel) (by decide) rfl ?_
  exact tt_mono h (fun r S' q => ⟨hm.tr q.1, q.2⟩)
set_option maxRecDepth 100000 in
theorem v_M_carry_2 {G : pG} (a0 : Nat) (x1 : Int32) (S : TS) (Q : Option Value → TS → Prop)
    (h : ((34 ≤ x1 → Q none S) ∧ (¬ (34 ≤ x1) → te S a0 = some (.inr 11) ∧ ∃ b2 : Nat, tR S a0 40 = some b2 ∧ ∃ n4 : Nat, te S b2 = some (.inl (.int, n4)) ∧ vp_in (x1 + (1 : Int32)) n4 ∧ vp_in x1 n4 ∧ vp_in (x1 + (1 : Int32)) n4 ∧ ∀ S6 : TS, S6 = sI S b2 (upd (tI S b2) (x1 + (1 : Int32)).toNatClampNeg ((tI S b2 (x1 + (1 : Int32)).toNatClampNeg) + ((tI S b2 x1.toNatClampNeg) >>> ((8 : Int32) &&& 31)))) → vp_in x1 n4 ∧ vp_in x1 n4 ∧ ∀ S7 : TS, S7 = sI S6 b2 (upd (tI S6 b2) x1.toNatClampNeg ((tI S6 b2 x1.toNatClampNeg) &&& (255 : Int32))) → ∀ y8 : Int32, y8 = x1 + 1 → T0 G J_M_carry 2 [(0, .ref a0), (1, .int y8)] [] S7 Q))) :
    T0 G J_M_carry 2 [(0, .ref a0), (1, .int x1)] [] S Q := by
  unfold T0
  have hm : Sm0 S S := Sm0.rf S
  refine tt_iload_n (k0 := 1) (by decide +kernel) rfl ?_
  refine tt_bipush (n := 34) (v := 34) (by decide +kernel) (by decide) ?_
  refine tt_icmp_ge (off := 41) 46 (by decide +kernel) (by decide) (fun c => ?_) (fun c => ?_)
  · have h := h.1 c
    exact tt_vret (by decide +kernel) rfl ⟨hm, h⟩
  · have h := h.2 c
    refine tt_aload_n (k0 := 0) (by decide +kernel) rfl ?_
    obtain ⟨f1, h⟩ := h
    obtain ⟨b2, f3, h⟩ := h
    refine tt_getR (k := 40) (by decide +kernel) KC_11 (by decide) w_905 (fun _ => rfl) f1 f3 ?_
    refine tt_iload_n (k0 := 1) (by decide +kernel) rfl ?_
    refine tt_iconst (n := 1) (v := 1) (by decide +kernel) (by decide) ?_
    refine tt_iadd (by decide +kernel) ?_
    refine tt_dup2_11 (by decide +kernel) rfl rfl ?_
    obtain ⟨n4, f5, h⟩ := h
    obtain ⟨g2, h⟩ := h
    refine tt_iald (by decide +kernel) f5 g2 ?_
    refine tt_aload_n (k0 := 0) (by decide +kernel) rfl ?_
    refine tt_getR (k := 40) (by decide +kernel) KC_11 (by decide) w_905 (fun _ => rfl) f1 f3 ?_
    refine tt_iload_n (k0 := 1) (by decide +kernel) rfl ?_
    obtain ⟨g2, h⟩ := h
    refine tt_iald (by decide +kernel) f5 g2 ?_
    refine tt_bipush (n := 8) (v := 8) (by decide +kernel) (by decide) ?_
    refine tt_ishr (by decide +kernel) ?_
    refine tt_iadd (by decide +kernel) ?_
    obtain ⟨g2, h⟩ := h
    refine tt_iast (by decide +kernel) f5 g2 ?_
    generalize eS6 : sI S b2 (upd (tI S b2) (x1 + (1 : Int32)).toNatClampNeg ((tI S b2 (x1 + (1 : Int32)).toNatClampNeg) + ((tI S b2 x1.toNatClampNeg) >>> ((8 : Int32) &&& 31)))) = S6
    have h := h S6 eS6.symm
    have hm : Sm0 S S6 := by rw [← eS6]; exact hm.I
    have f1 : te S6 a0 = some (.inr 11) := by rw [← eS6, te_sI]; exact f1
    have f3 : tR S6 a0 40 = some b2 := by rw [← eS6, tR_sI]; exact f3
    have f5 : te S6 b2 = some (.inl (.int, n4)) := by rw [← eS6, te_sI]; exact f5
    refine tt_aload_n (k0 := 0) (by decide +kernel) rfl ?_
    refine tt_getR (k := 40) (by decide +kernel) KC_11 (by decide) w_905 (fun _ => rfl) f1 f3 ?_
    refine tt_iload_n (k0 := 1) (by decide +kernel) rfl ?_
    refine tt_dup2_11 (by decide +kernel) rfl rfl ?_
    obtain ⟨g2, h⟩ := h
    refine tt_iald (by decide +kernel) f5 g2 ?_
    refine tt_sipush (n := 255) (v := 255) (by decide +kernel) (by decide) ?_
    refine tt_iand (by decide +kernel) ?_
    obtain ⟨g2, h⟩ := h
    refine tt_iast (by decide +kernel) f5 g2 ?_
    generalize eS7 : sI S6 b2 (upd (tI S6 b2) x1.toNatClampNeg ((tI S6 b2 x1.toNatClampNeg) &&& (255 : Int32))) = S7
    have h := h S7 eS7.symm
    have hm : Sm0 S S7 := by rw [← eS7]; exact hm.I
    have f1 : te S7 a0 = some (.inr 11) := by rw [← eS7, te_sI]; exact f1
    have f3 : tR S7 a0 40 = some b2 := by rw [← eS7, tR_sI]; exact f3
    have f5 : te S7 b2 = some (.inl (.int, n4)) := by rw [← eS7, te_sI]; exact f5
    obtain ⟨y8, ey8⟩ : ∃ y : Int32, y = x1 + 1 := ⟨_, rfl⟩
    have h := h y8 ey8
    refine tt_iinc (i := 1) (n := 1) (v := y8) (lv' := [(0, .ref a0), (1, .int y8)]) (by decide +kernel) (by decide) rfl ey8.symm rfl ?_
    refine tt_goto (off := -41) (tgt := 2) (by decide +kernel) (by decide) ?_
    exact tt_mono h (fun r S' q => ⟨hm.tr q.1, q.2⟩)
set_option maxRecDepth 100000 in
theorem v_M_renew {G : pG} (a0 : Nat) (x1 : Int32) (S : TS) (Q : Option Value → TS → Prop)
    (h : te S a0 = some (.inr 11) ∧ C0 G J_M_kind [.ref a0, .int x1, .int 1] S (fun r S2 => ∃ r3 : Int32, r = some (.int r3) ∧ ((¬ r3 = 0 → Q (some (.int r3)) S2) ∧ (r3 = 0 → C0 G J_M_next [.ref a0, .int ((3 : Int32) * x1), .int x1] S2 (fun r S4 => r = none ∧ Q (some (.int r3)) S4))))) :
    C0 G J_M_renew [.ref a0, .int x1] S Q := by
  unfold C0
  refine ct_of (by decide +kernel) (Nat.le_of_ble_eq_true rfl) (lv := [(0, .ref a0), (1, .int x1)]) rfl ?_
  have hm : Sm0 S S := Sm0.rf S
  refine tt_aload_n (k0 := 0) (by decide +kernel) rfl ?_
  refine tt_iload_n (k0 := 1) (by decide +kernel) rfl ?_
  refine tt_iconst (n := 1) (v := 1) (by decide +kernel) (by decide) ?_
  obtain ⟨f1, h⟩ := h
  refine tt_callV (As := [.int x1, .int 1]) (rest := []) (ci := 11) (r0 := (R_11, F_11, 55)) (by decide +kernel) LK_M_kind w_1174 w_1176 (in_p (n := 55) 47 rfl) (by decide) (by decide) rfl rfl (Nat.le_of_ble_eq_true rfl) rfl rfl f1 (ct_mono h (fun r S2 h => ?_))
  obtain ⟨hm2, h⟩ := h
  obtain ⟨r3, rfl, h⟩ := h
  show T G J_M_renew 6 [(0, .ref a0), (1, .int x1)] [.int r3] S2 _
  have hm := hm.tr hm2
  have f1 : te S2 a0 = some (.inr 11) := by rw [hm2.1]; exact f1
  refine tt_istore_n (k0 := 2) (lv' := [(0, .ref a0), (1, .int x1), (2, .int r3)]) (by decide +kernel) (by decide) rfl ?_
  refine tt_iload_n (k0 := 2) (by decide +kernel) rfl ?_
  refine tt_if_ne (off := 11) 19 (by decide +kernel) (by decide) (fun c => ?_) (fun c => ?_)
  · have h := h.1 c
    refine tt_iload_n (k0 := 2) (by decide +kernel) rfl ?_
    exact tt_iret (by decide +kernel) rfl ⟨hm, h⟩
  · have h := h.2 c
    refine tt_aload_n (k0 := 0) (by decide +kernel) rfl ?_
    refine tt_iconst (n := 3) (v := 3) (by decide +kernel) (by decide) ?_
    refine tt_iload_n (k0 := 1) (by decide +kernel) rfl ?_
    refine tt_imul (by decide +kernel) ?_
    refine tt_iload_n (k0 := 1) (by decide +kernel) rfl ?_
    refine tt_callV (As := [.int ((3 : Int32) * x1), .int x1]) (rest := []) (ci := 11) (r0 := (R_11, F_11, 55)) (by decide +kernel) LK_M_next w_1178 w_1180 (in_p (n := 55) 48 rfl) (by decide) (by decide) rfl rfl (Nat.le_of_ble_eq_true rfl) rfl rfl f1 (ct_mono h (fun r S4 h => ?_))
    obtain ⟨hm2, h⟩ := h
    obtain ⟨rfl, h⟩ := h
    show T G J_M_renew 19 [(0, .ref a0), (1, .int x1), (2, .int r3)] [] S4 _
    have hm := hm.tr hm2
    have f1 : te S4 a0 = some (.inr 11) := by rw [hm2.1]; exact f1
    refine tt_iload_n (k0 := 2) (by decide +kernel) rfl ?_
    exact tt_iret (by decide +kernel) rfl ⟨hm, h⟩
set_option maxRecDepth 100000 in
theorem v_M_kind {G : pG} (a0 : Nat) (x1 : Int32) (x2 : Int32) (S : TS) (Q : Option Value → TS → Prop)
    (h : CP G J_M_side [.int x1] S (fun r => ∃ r1 : Int32, r = some (.int r1) ∧ ((¬ r1 = 0 → te S a0 = some (.inr 11) ∧ ∃ b3 : Nat, tR S a0 15 = some b3 ∧ ∃ n5 : Nat, te S b3 = some (.inl (.int, n5)) ∧ vp_in x1 n5 ∧ ((tI S b3 x1.toNatClampNeg = 2 → CP G J_M_full [.ref a0, .int x1] S (fun r => ∃ r7 : Int32, r = some (.int r7) ∧ ((r7 = 0 → ∀ S8 : TS, S8 = sI S a0 (upd (tI S a0) 46 0) → C0 G J_M_say [.ref a0, .int x2] S8 (fun r S9 => r = none ∧ C0 G J_M_sendSealed [.ref a0, .int x1] S9 (fun r S10 => r = none ∧ Q (some (.int 0)) S10))) ∧ (¬ (r7 = 0) → Q (some (.int ((-3)))) S)))) ∧ (¬ (tI S b3 x1.toNatClampNeg = 2) → Q (some (.int ((-5)))) S))) ∧ (r1 = 0 → Q (some (.int ((-1)))) S)))) :
    C0 G J_M_kind [.ref a0, .int x1, .int x2] S Q := by
  unfold C0
  refine ct_of (by decide +kernel) (Nat.le_of_ble_eq_true rfl) (lv := [(0, .ref a0), (1, .int x1), (2, .int x2)]) rfl ?_
  have hm : Sm0 S S := Sm0.rf S
  refine tt_iload_n (k0 := 1) (by decide +kernel) rfl ?_
  refine tt_callS (As := [.int x1]) (rest := []) (by decide +kernel) LK_M_side w_1053 w_1054 (by decide) (by decide) rfl rfl (Nat.le_of_ble_eq_true rfl) (ct_mono h (fun r Sb h => ?_))
  obtain ⟨eb, h⟩ := h
  obtain ⟨r1, rfl, h⟩ := h
  rw [eb]
  show T G J_M_kind 4 [(0, .ref a0), (1, .int x1), (2, .int x2)] [.int r1] S _
  refine tt_if_ne (off := 5) 9 (by decide +kernel) (by decide) (fun c => ?_) (fun c => ?_)
  · have h := h.1 c
    refine tt_aload_n (k0 := 0) (by decide +kernel) rfl ?_
    obtain ⟨f2, h⟩ := h
    obtain ⟨b3, f4, h⟩ := h
    refine tt_getR (k := 15) (by decide +kernel) KC_11 (by decide) w_880 (fun _ => rfl) f2 f4 ?_
    refine tt_iload_n (k0 := 1) (by decide +kernel) rfl ?_
    obtain ⟨n5, f6, h⟩ := h
    obtain ⟨g2, h⟩ := h
    refine tt_iald (by decide +kernel) f6 g2 ?_
    refine tt_iconst (n := 2) (v := 2) (by decide +kernel) (by decide) ?_
    refine tt_icmp_eq (off := 6) 22 (by decide +kernel) (by decide) (fun c => ?_) (fun c => ?_)
    · have h := h.1 c
      refine tt_aload_n (k0 := 0) (by decide +kernel) rfl ?_
      refine tt_iload_n (k0 := 1) (by decide +kernel) rfl ?_
      refine tt_callV (As := [.int x1]) (rest := []) (ci := 11) (r0 := (R_11, F_11, 55)) (by decide +kernel) LK_M_full w_1088 w_1090 (in_p (n := 55) 33 rfl) (by decide) (by decide) rfl rfl (Nat.le_of_ble_eq_true rfl) rfl rfl f2 (ct_mono h (fun r Sb h => ?_))
      obtain ⟨eb, h⟩ := h
      obtain ⟨r7, rfl, h⟩ := h
      rw [eb]
      show T G J_M_kind 27 [(0, .ref a0), (1, .int x1), (2, .int x2)] [.int r7] S _
      refine tt_if_eq (off := 6) 33 (by decide +kernel) (by decide) (fun c => ?_) (fun c => ?_)
      · have h := h.1 c
        refine tt_aload_n (k0 := 0) (by decide +kernel) rfl ?_
        refine tt_iconst (n := 0) (v := 0) (by decide +kernel) (by decide) ?_
        refine tt_putI (k := 46) (by decide +kernel) KC_11 (by decide) w_911 rfl rfl f2 ?_
        generalize eS8 : sI S a0 (upd (tI S a0) 46 0) = S8
        have h := h S8 eS8.symm
        have hm : Sm0 S S8 := by rw [← eS8]; exact hm.I
        have f2 : te S8 a0 = some (.inr 11) := by rw [← eS8, te_sI]; exact f2
        have f4 : tR S8 a0 15 = some b3 := by rw [← eS8, tR_sI]; exact f4
        have f6 : te S8 b3 = some (.inl (.int, n5)) := by rw [← eS8, te_sI]; exact f6
        refine tt_aload_n (k0 := 0) (by decide +kernel) rfl ?_
        refine tt_iload_n (k0 := 2) (by decide +kernel) rfl ?_
        refine tt_callV (As := [.int x2]) (rest := []) (ci := 11) (r0 := (R_11, F_11, 55)) (by decide +kernel) LK_M_say w_1120 w_1122 (in_p (n := 55) 38 rfl) (by decide) (by decide) rfl rfl (Nat.le_of_ble_eq_true rfl) rfl rfl f2 (ct_mono h (fun r S9 h => ?_))
        obtain ⟨hm2, h⟩ := h
        obtain ⟨rfl, h⟩ := h
        show T G J_M_kind 43 [(0, .ref a0), (1, .int x1), (2, .int x2)] [] S9 _
        have hm := hm.tr hm2
        have f2 : te S9 a0 = some (.inr 11) := by rw [hm2.1]; exact f2
        have f4 : tR S9 a0 15 = some b3 := by rw [hm2.R]; exact f4
        have f6 : te S9 b3 = some (.inl (.int, n5)) := by rw [hm2.1]; exact f6
        refine tt_aload_n (k0 := 0) (by decide +kernel) rfl ?_
        refine tt_iload_n (k0 := 1) (by decide +kernel) rfl ?_
        refine tt_callV (As := [.int x1]) (rest := []) (ci := 11) (r0 := (R_11, F_11, 55)) (by decide +kernel) LK_M_sendSealed w_1124 w_1126 (in_p (n := 55) 39 rfl) (by decide) (by decide) rfl rfl (Nat.le_of_ble_eq_true rfl) rfl rfl f2 (ct_mono h (fun r S10 h => ?_))
        obtain ⟨hm2, h⟩ := h
        obtain ⟨rfl, h⟩ := h
        show T G J_M_kind 48 [(0, .ref a0), (1, .int x1), (2, .int x2)] [] S10 _
        have hm := hm.tr hm2
        have f2 : te S10 a0 = some (.inr 11) := by rw [hm2.1]; exact f2
        have f4 : tR S10 a0 15 = some b3 := by rw [hm2.R]; exact f4
        have f6 : te S10 b3 = some (.inl (.int, n5)) := by rw [hm2.1]; exact f6
        refine tt_iconst (n := 0) (v := 0) (by decide +kernel) (by decide) ?_
        exact tt_iret (by decide +kernel) rfl ⟨hm, h⟩
      · have h := h.2 c
        refine tt_bipush (n := -3) (v := -3) (by decide +kernel) (by decide) ?_
        exact tt_iret (by decide +kernel) rfl ⟨hm, h⟩
    · have h := h.2 c
      refine tt_bipush (n := -5) (v := -5) (by decide +kernel) (by decide) ?_
      exact tt_iret (by decide +kernel) rfl ⟨hm, h⟩
  · have h := h.2 c
    refine tt_iconst (n := -1) (v := -1) (by decide +kernel) (by decide) ?_
    exact tt_iret (by decide +kernel) rfl ⟨hm, h⟩
set_option maxRecDepth 100000 in
theorem v_M_next {G : pG} (a0 : Nat) (x1 : Int32) (x2 : Int32) (S : TS) (Q : Option Value → TS → Prop)
    (h : te S a0 = some (.inr 11) ∧ ∃ b2 : Nat, tR S a0 21 = some b2 ∧ ∃ n4 : Nat, te S b2 = some (.inl (.int, n4)) ∧ vp_in x1 n4 ∧ vp_in x1 n4 ∧ ∀ S6 : TS, S6 = sI S b2 (upd (tI S b2) x1.toNatClampNeg ((tI S b2 x1.toNatClampNeg) + (1 : Int32))) → ∃ b7 : Nat, tR S6 a0 20 = some b7 ∧ ∃ n9 : Nat, te S6 b7 = some (.inl (.int, n9)) ∧ vp_in x1 n9 ∧ ∀ S11 : TS, S11 = sI S6 b7 (upd (tI S6 b7) x1.toNatClampNeg 0) → T0 G J_M_next 19 [(0, .ref a0), (1, .int x1), (2, .int x2), (3, .int 0)] [] S11 Q) :
    C0 G J_M_next [.ref a0, .int x1, .int x2] S Q := by
  unfold C0
  refine ct_of (by decide +kernel) (Nat.le_of_ble_eq_true rfl) (lv := [(0, .ref a0), (1, .int x1), (2, .int x2)]) rfl ?_
  have hm : Sm0 S S := Sm0.rf S
  refine tt_aload_n (k0 := 0) (by decide +kernel) rfl ?_
  obtain ⟨f1, h⟩ := h
  obtain ⟨b2, f3, h⟩ := h
  refine tt_getR (k := 21) (by decide +kernel) KC_11 (by decide) w_886 (fun _ => rfl) f1 f3 ?_
  refine tt_iload_n (k0 := 1) (by decide +kernel) rfl ?_
  refine tt_dup2_11 (by decide +kernel) rfl rfl ?_
  obtain ⟨n4, f5, h⟩ := h
  obtain ⟨g2, h⟩ := h
  refine tt_iald (by decide +kernel) f5 g2 ?_
  refine tt_iconst (n := 1) (v := 1) (by decide +kernel) (by decide) ?_
  refine tt_iadd (by decide +kernel) ?_
  obtain ⟨g2, h⟩ := h
  refine tt_iast (by decide +kernel) f5 g2 ?_
  generalize eS6 : sI S b2 (upd (tI S b2) x1.toNatClampNeg ((tI S b2 x1.toNatClampNeg) + (1 : Int32))) = S6
  have h := h S6 eS6.symm
  have hm : Sm0 S S6 := by rw [← eS6]; exact hm.I
  have f1 : te S6 a0 = some (.inr 11) := by rw [← eS6, te_sI]; exact f1
  have f3 : tR S6 a0 21 = some b2 := by rw [← eS6, tR_sI]; exact f3
  have f5 : te S6 b2 = some (.inl (.int, n4)) := by rw [← eS6, te_sI]; exact f5
  refine tt_aload_n (k0 := 0) (by decide +kernel) rfl ?_
  obtain ⟨b7, f8, h⟩ := h
  refine tt_getR (k := 20) (by decide +kernel) KC_11 (by decide) w_885 (fun _ => rfl) f1 f8 ?_
  refine tt_iload_n (k0 := 1) (by decide +kernel) rfl ?_
  refine tt_iconst (n := 0) (v := 0) (by decide +kernel) (by decide) ?_
  obtain ⟨n9, f10, h⟩ := h
  obtain ⟨g2, h⟩ := h
  refine tt_iast (by decide +kernel) f10 g2 ?_
  generalize eS11 : sI S6 b7 (upd (tI S6 b7) x1.toNatClampNeg 0) = S11
  have h := h S11 eS11.symm
  have hm : Sm0 S S11 := by rw [← eS11]; exact hm.I
  have f1 : te S11 a0 = some (.inr 11) := by rw [← eS11, te_sI]; exact f1
  have f3 : tR S11 a0 21 = some b2 := by rw [← eS11, tR_sI]; exact f3
  have f5 : te S11 b2 = some (.inl (.int, n4)) := by rw [← eS11, te_sI]; exact f5
  have f8 : tR S11 a0 20 = some b7 := by rw [← eS11, tR_sI]; exact f8
  have f10 : te S11 b7 = some (.inl (.int, n9)) := by rw [← eS11, te_sI]; exact f10
  refine tt_iconst (n := 0) (v := 0) (by decide +kernel) (by decide) ?_
  refine tt_istore_n (k0 := 3) (lv' := [(0, .ref a0), (1, .int x1), (2, .int x2), (3, .int 0)]) (by decide +kernel) (by decide) rfl ?_
  exact tt_mono h (fun r S' q => ⟨hm.tr q.1, q.2⟩)
set_option maxRecDepth 100000 in
theorem v_M_next_19 {G : pG} (a0 : Nat) (x1 : Int32) (x2 : Int32) (x3 : Int32) (S : TS) (Q : Option Value → TS → Prop)
    (h : ((32 ≤ x3 → te S a0 = some (.inr 11) ∧ ∃ b2 : Nat, tR S a0 11 = some b2 ∧ ∃ n4 : Nat, te S b2 = some (.inl (.byte, n4)) ∧ vp_in 0 n4 ∧ ∀ S6 : TS, S6 = sI S b2 (upd (tI S b2) 0 (107 : Int32).toInt8.toInt32) → vp_in 1 n4 ∧ ∀ S7 : TS, S7 = sI S6 b2 (upd (tI S6 b2) 1 ((x2 : Int32).toInt8.toInt32 : Int32).toInt8.toInt32) → ∃ b8 : Nat, tR S7 a0 21 = some b8 ∧ ∃ n10 : Nat, te S7 b8 = some (.inl (.int, n10)) ∧ vp_in x1 n10 ∧ vp_in 2 n4 ∧ ∀ S12 : TS, S12 = sI S7 b2 (upd (tI S7 b2) 2 ((tI S7 b8 x1.toNatClampNeg : Int32).toInt8.toInt32 : Int32).toInt8.toInt32) → ∀ S13 : TS, S13 = sI S12 a0 (upd (tI S12 a0) 12 3) → ∃ b14 : Nat, tR S13 a0 19 = some b14 ∧ C0 G J_M_macTo [.ref a0, .ref b14, .int ((32 : Int32) * x1)] S13 (fun r S16 => r = none ∧ Q none S16)) ∧ (¬ (32 ≤ x3) → te S a0 = some (.inr 11) ∧ ∃ b18 : Nat, tR S a0 10 = some b18 ∧ ∃ b20 : Nat, tR S a0 19 = some b20 ∧ ∃ n22 : Nat, te S b20 = some (.inl (.byte, n22)) ∧ vp_in (((32 : Int32) * x1) + x3) n22 ∧ ∃ n24 : Nat, te S b18 = some (.inl (.byte, n24)) ∧ vp_in x3 n24 ∧ ∀ S26 : TS, S26 = sI S b18 (upd (tI S b18) x3.toNatClampNeg (tI S b20 (((32 : Int32) * x1) + x3).toNatClampNeg : Int32).toInt8.toInt32) → ∀ y27 : Int32, y27 = x3 + 1 → T0 G J_M_next 19 [(0, .ref a0), (1, .int x1), (2, .int x2), (3, .int y27)] [] S26 Q))) :
    T0 G J_M_next 19 [(0, .ref a0), (1, .int x1), (2, .int x2), (3, .int x3)] [] S Q := by
  unfold T0
  have hm : Sm0 S S := Sm0.rf S
  refine tt_iload_n (k0 := 3) (by decide +kernel) rfl ?_
  refine tt_bipush (n := 32) (v := 32) (by decide +kernel) (by decide) ?_
  refine tt_icmp_ge (off := 26) 48 (by decide +kernel) (by decide) (fun c => ?_) (fun c => ?_)
  · have h := h.1 c
    refine tt_aload_n (k0 := 0) (by decide +kernel) rfl ?_
    obtain ⟨f1, h⟩ := h
    obtain ⟨b2, f3, h⟩ := h
    refine tt_getR (k := 11) (by decide +kernel) KC_11 (by decide) w_876 (fun _ => rfl) f1 f3 ?_
    refine tt_iconst (n := 0) (v := 0) (by decide +kernel) (by decide) ?_
    refine tt_bipush (n := 107) (v := 107) (by decide +kernel) (by decide) ?_
    obtain ⟨n4, f5, h⟩ := h
    obtain ⟨g2, h⟩ := h
    refine tt_bast (by decide +kernel) f5 g2 ?_
    show T G J_M_next 56 [(0, .ref a0), (1, .int x1), (2, .int x2), (3, .int x3)] [] (sI S b2 (upd (tI S b2) 0 (107 : Int32).toInt8.toInt32)) _
    generalize eS6 : sI S b2 (upd (tI S b2) 0 (107 : Int32).toInt8.toInt32) = S6
    have h := h S6 eS6.symm
    have hm : Sm0 S S6 := by rw [← eS6]; exact hm.I
    have f1 : te S6 a0 = some (.inr 11) := by rw [← eS6, te_sI]; exact f1
    have f3 : tR S6 a0 11 = some b2 := by rw [← eS6, tR_sI]; exact f3
    have f5 : te S6 b2 = some (.inl (.byte, n4)) := by rw [← eS6, te_sI]; exact f5
    refine tt_aload_n (k0 := 0) (by decide +kernel) rfl ?_
    refine tt_getR (k := 11) (by decide +kernel) KC_11 (by decide) w_876 (fun _ => rfl) f1 f3 ?_
    refine tt_iconst (n := 1) (v := 1) (by decide +kernel) (by decide) ?_
    refine tt_iload_n (k0 := 2) (by decide +kernel) rfl ?_
    refine tt_i2b (by decide +kernel) ?_
    obtain ⟨g2, h⟩ := h
    refine tt_bast (by decide +kernel) f5 g2 ?_
    show T G J_M_next 64 [(0, .ref a0), (1, .int x1), (2, .int x2), (3, .int x3)] [] (sI S6 b2 (upd (tI S6 b2) 1 ((x2 : Int32).toInt8.toInt32 : Int32).toInt8.toInt32)) _
    generalize eS7 : sI S6 b2 (upd (tI S6 b2) 1 ((x2 : Int32).toInt8.toInt32 : Int32).toInt8.toInt32) = S7
    have h := h S7 eS7.symm
    have hm : Sm0 S S7 := by rw [← eS7]; exact hm.I
    have f1 : te S7 a0 = some (.inr 11) := by rw [← eS7, te_sI]; exact f1
    have f3 : tR S7 a0 11 = some b2 := by rw [← eS7, tR_sI]; exact f3
    have f5 : te S7 b2 = some (.inl (.byte, n4)) := by rw [← eS7, te_sI]; exact f5
    refine tt_aload_n (k0 := 0) (by decide +kernel) rfl ?_
    refine tt_getR (k := 11) (by decide +kernel) KC_11 (by decide) w_876 (fun _ => rfl) f1 f3 ?_
    refine tt_iconst (n := 2) (v := 2) (by decide +kernel) (by decide) ?_
    refine tt_aload_n (k0 := 0) (by decide +kernel) rfl ?_
    obtain ⟨b8, f9, h⟩ := h
    refine tt_getR (k := 21) (by decide +kernel) KC_11 (by decide) w_886 (fun _ => rfl) f1 f9 ?_
    refine tt_iload_n (k0 := 1) (by decide +kernel) rfl ?_
    obtain ⟨n10, f11, h⟩ := h
    obtain ⟨g2, h⟩ := h
    refine tt_iald (by decide +kernel) f11 g2 ?_
    refine tt_i2b (by decide +kernel) ?_
    obtain ⟨g2, h⟩ := h
    refine tt_bast (by decide +kernel) f5 g2 ?_
    show T G J_M_next 77 [(0, .ref a0), (1, .int x1), (2, .int x2), (3, .int x3)] [] (sI S7 b2 (upd (tI S7 b2) 2 ((tI S7 b8 x1.toNatClampNeg : Int32).toInt8.toInt32 : Int32).toInt8.toInt32)) _
    generalize eS12 : sI S7 b2 (upd (tI S7 b2) 2 ((tI S7 b8 x1.toNatClampNeg : Int32).toInt8.toInt32 : Int32).toInt8.toInt32) = S12
    have h := h S12 eS12.symm
    have hm : Sm0 S S12 := by rw [← eS12]; exact hm.I
    have f1 : te S12 a0 = some (.inr 11) := by rw [← eS12, te_sI]; exact f1
    have f3 : tR S12 a0 11 = some b2 := by rw [← eS12, tR_sI]; exact f3
    have f5 : te S12 b2 = some (.inl (.byte, n4)) := by rw [← eS12, te_sI]; exact f5
    have f9 : tR S12 a0 21 = some b8 := by rw [← eS12, tR_sI]; exact f9
    have f11 : te S12 b8 = some (.inl (.int, n10)) := by rw [← eS12, te_sI]; exact f11
    refine tt_aload_n (k0 := 0) (by decide +kernel) rfl ?_
    refine tt_iconst (n := 3) (v := 3) (by decide +kernel) (by decide) ?_
    refine tt_putI (k := 12) (by decide +kernel) KC_11 (by decide) w_877 rfl rfl f1 ?_
    generalize eS13 : sI S12 a0 (upd (tI S12 a0) 12 3) = S13
    have h := h S13 eS13.symm
    have hm : Sm0 S S13 := by rw [← eS13]; exact hm.I
    have f1 : te S13 a0 = some (.inr 11) := by rw [← eS13, te_sI]; exact f1
    have f3 : tR S13 a0 11 = some b2 := by rw [← eS13, tR_sI]; exact f3
    have f5 : te S13 b2 = some (.inl (.byte, n4)) := by rw [← eS13, te_sI]; exact f5
    have f9 : tR S13 a0 21 = some b8 := by rw [← eS13, tR_sI]; exact f9
    have f11 : te S13 b8 = some (.inl (.int, n10)) := by rw [← eS13, te_sI]; exact f11
    refine tt_aload_n (k0 := 0) (by decide +kernel) rfl ?_
    refine tt_aload_n (k0 := 0) (by decide +kernel) rfl ?_
    obtain ⟨b14, f15, h⟩ := h
    refine tt_getR (k := 19) (by decide +kernel) KC_11 (by decide) w_884 (fun _ => rfl) f1 f15 ?_
    refine tt_bipush (n := 32) (v := 32) (by decide +kernel) (by decide) ?_
    refine tt_iload_n (k0 := 1) (by decide +kernel) rfl ?_
    refine tt_imul (by decide +kernel) ?_
    refine tt_callV (As := [.ref b14, .int ((32 : Int32) * x1)]) (rest := []) (ci := 11) (r0 := (R_11, F_11, 55)) (by decide +kernel) LK_M_macTo w_1182 w_1184 (in_p (n := 55) 49 rfl) (by decide) (by decide) rfl rfl (Nat.le_of_ble_eq_true rfl) rfl rfl f1 (ct_mono h (fun r S16 h => ?_))
    obtain ⟨hm2, h⟩ := h
    obtain ⟨rfl, h⟩ := h
    show T G J_M_next 94 [(0, .ref a0), (1, .int x1), (2, .int x2), (3, .int x3)] [] S16 _
    have hm := hm.tr hm2
    have f1 : te S16 a0 = some (.inr 11) := by rw [hm2.1]; exact f1
    have f3 : tR S16 a0 11 = some b2 := by rw [hm2.R]; exact f3
    have f5 : te S16 b2 = some (.inl (.byte, n4)) := by rw [hm2.1]; exact f5
    have f9 : tR S16 a0 21 = some b8 := by rw [hm2.R]; exact f9
    have f11 : te S16 b8 = some (.inl (.int, n10)) := by rw [hm2.1]; exact f11
    have f15 : tR S16 a0 19 = some b14 := by rw [hm2.R]; exact f15
    exact tt_vret (by decide +kernel) rfl ⟨hm, h⟩
  · have h := h.2 c
    refine tt_aload_n (k0 := 0) (by decide +kernel) rfl ?_
    obtain ⟨f17, h⟩ := h
    obtain ⟨b18, f19, h⟩ := h
    refine tt_getR (k := 10) (by decide +kernel) KC_11 (by decide) w_875 (fun _ => rfl) f17 f19 ?_
    refine tt_iload_n (k0 := 3) (by decide +kernel) rfl ?_
    refine tt_aload_n (k0 := 0) (by decide +kernel) rfl ?_
    obtain ⟨b20, f21, h⟩ := h
    refine tt_getR (k := 19) (by decide +kernel) KC_11 (by decide) w_884 (fun _ => rfl) f17 f21 ?_
    refine tt_bipush (n := 32) (v := 32) (by decide +kernel) (by decide) ?_
    refine tt_iload_n (k0 := 1) (by decide +kernel) rfl ?_
    refine tt_imul (by decide +kernel) ?_
    refine tt_iload_n (k0 := 3) (by decide +kernel) rfl ?_
    refine tt_iadd (by decide +kernel) ?_
    obtain ⟨n22, f23, h⟩ := h
    obtain ⟨g2, h⟩ := h
    refine tt_bald (by decide +kernel) f23 g2 ?_
    obtain ⟨n24, f25, h⟩ := h
    obtain ⟨g2, h⟩ := h
    refine tt_bast (by decide +kernel) f25 g2 ?_
    generalize eS26 : sI S b18 (upd (tI S b18) x3.toNatClampNeg (tI S b20 (((32 : Int32) * x1) + x3).toNatClampNeg : Int32).toInt8.toInt32) = S26
    have h := h S26 eS26.symm
    have hm : Sm0 S S26 := by rw [← eS26]; exact hm.I
    have f17 : te S26 a0 = some (.inr 11) := by rw [← eS26, te_sI]; exact f17
    have f19 : tR S26 a0 10 = some b18 := by rw [← eS26, tR_sI]; exact f19
    have f21 : tR S26 a0 19 = some b20 := by rw [← eS26, tR_sI]; exact f21
    have f23 : te S26 b20 = some (.inl (.byte, n22)) := by rw [← eS26, te_sI]; exact f23
    have f25 : te S26 b18 = some (.inl (.byte, n24)) := by rw [← eS26, te_sI]; exact f25
    obtain ⟨y27, ey27⟩ : ∃ y : Int32, y = x3 + 1 := ⟨_, rfl⟩
    have h := h y27 ey27
    refine tt_iinc (i := 3) (n := 1) (v := y27) (lv' := [(0, .ref a0), (1, .int x1), (2, .int x2), (3, .int y27)]) (by decide +kernel) (by decide) rfl ey27.symm rfl ?_
    refine tt_goto (off := -26) (tgt := 19) (by decide +kernel) (by decide) ?_
    exact tt_mono h (fun r S' q => ⟨hm.tr q.1, q.2⟩)
set_option maxRecDepth 100000 in
theorem v_M_macTo {G : pG} (a0 : Nat) (a1 : Nat) (x2 : Int32) (S : TS) (Q : Option Value → TS → Prop)
    (h : te S a0 = some (.inr 11) ∧ ∀ S2 : TS, S2 = sI S a0 (upd (tI S a0) 6 0) → T0 G J_M_macTo 7 [(0, .ref a0), (1, .ref a1), (2, .int x2), (3, .int 0)] [] S2 Q) :
    C0 G J_M_macTo [.ref a0, .ref a1, .int x2] S Q := by
  unfold C0
  refine ct_of (by decide +kernel) (Nat.le_of_ble_eq_true rfl) (lv := [(0, .ref a0), (1, .ref a1), (2, .int x2)]) rfl ?_
  have hm : Sm0 S S := Sm0.rf S
  refine tt_aload_n (k0 := 0) (by decide +kernel) rfl ?_
  refine tt_iconst (n := 0) (v := 0) (by decide +kernel) (by decide) ?_
  obtain ⟨f1, h⟩ := h
  refine tt_putI (k := 6) (by decide +kernel) KC_11 (by decide) w_871 rfl rfl f1 ?_
  generalize eS2 : sI S a0 (upd (tI S a0) 6 0) = S2
  have h := h S2 eS2.symm
  have hm : Sm0 S S2 := by rw [← eS2]; exact hm.I
  have f1 : te S2 a0 = some (.inr 11) := by rw [← eS2, te_sI]; exact f1
  refine tt_iconst (n := 0) (v := 0) (by decide +kernel) (by decide) ?_
  refine tt_istore_n (k0 := 3) (lv' := [(0, .ref a0), (1, .ref a1), (2, .int x2), (3, .int 0)]) (by decide +kernel) (by decide) rfl ?_
  exact tt_mono h (fun r S' q => ⟨hm.tr q.1, q.2⟩)
set_option maxRecDepth 100000 in
theorem v_M_macTo_7 {G : pG} (a0 : Nat) (a1 : Nat) (x2 : Int32) (x3 : Int32) (S : TS) (Q : Option Value → TS → Prop)
    (h : ((64 ≤ x3 → te S a0 = some (.inr 11) ∧ ∃ b2 : Nat, tR S a0 11 = some b2 ∧ C0 G J_M_add_ABII [.ref a0, .ref b2, .int 0, .int (tI S a0 12)] S (fun r S4 => r = none ∧ ∃ b5 : Nat, tR S4 a0 9 = some b5 ∧ C0 G J_M_hashTo [.ref a0, .ref b5, .int 0] S4 (fun r S7 => r = none ∧ ∀ S8 : TS, S8 = sI S7 a0 (upd (tI S7 a0) 6 0) → T0 G J_M_macTo 71 [(0, .ref a0), (1, .ref a1), (2, .int x2), (3, .int 0)] [] S8 Q))) ∧ (¬ (64 ≤ x3) → ((32 ≤ x3 → te S a0 = some (.inr 11) ∧ C0 G J_M_add_I [.ref a0, .int ((0 : Int32) ^^^ (54 : Int32))] S (fun r S10 => r = none ∧ ∀ y11 : Int32, y11 = x3 + 1 → T0 G J_M_macTo 7 [(0, .ref a0), (1, .ref a1), (2, .int x2), (3, .int y11)] [] S10 Q)) ∧ (¬ (32 ≤ x3) → te S a0 = some (.inr 11) ∧ ∃ b13 : Nat, tR S a0 10 = some b13 ∧ ∃ n15 : Nat, te S b13 = some (.inl (.byte, n15)) ∧ vp_in x3 n15 ∧ C0 G J_M_add_I [.ref a0, .int ((tI S b13 x3.toNatClampNeg) ^^^ (54 : Int32))] S (fun r S17 => r = none ∧ ∀ y18 : Int32, y18 = x3 + 1 → T0 G J_M_macTo 7 [(0, .ref a0), (1, .ref a1), (2, .int x2), (3, .int y18)] [] S17 Q)))))) :
    T0 G J_M_macTo 7 [(0, .ref a0), (1, .ref a1), (2, .int x2), (3, .int x3)] [] S Q := by
  unfold T0
  have hm : Sm0 S S := Sm0.rf S
  refine tt_iload_n (k0 := 3) (by decide +kernel) rfl ?_
  refine tt_bipush (n := 64) (v := 64) (by decide +kernel) (by decide) ?_
  refine tt_icmp_ge (off := 32) 42 (by decide +kernel) (by decide) (fun c => ?_) (fun c => ?_)
  · have h := h.1 c
    refine tt_aload_n (k0 := 0) (by decide +kernel) rfl ?_
    refine tt_aload_n (k0 := 0) (by decide +kernel) rfl ?_
    obtain ⟨f1, h⟩ := h
    obtain ⟨b2, f3, h⟩ := h
    refine tt_getR (k := 11) (by decide +kernel) KC_11 (by decide) w_876 (fun _ => rfl) f1 f3 ?_
    refine tt_iconst (n := 0) (v := 0) (by decide +kernel) (by decide) ?_
    refine tt_aload_n (k0 := 0) (by decide +kernel) rfl ?_
    refine tt_getI (k := 12) (by decide +kernel) KC_11 (by decide) w_877 (fun _ => rfl) f1 ?_
    refine tt_callV (As := [.ref b2, .int 0, .int (tI S a0 12)]) (rest := []) (ci := 11) (r0 := (R_11, F_11, 55)) (by decide +kernel) LK_M_add_ABII w_1056 w_1058 (in_p (n := 55) 29 rfl) (by decide) (by decide) rfl rfl (Nat.le_of_ble_eq_true rfl) rfl rfl f1 (ct_mono h (fun r S4 h => ?_))
    obtain ⟨hm2, h⟩ := h
    obtain ⟨rfl, h⟩ := h
    show T G J_M_macTo 55 [(0, .ref a0), (1, .ref a1), (2, .int x2), (3, .int x3)] [] S4 _
    have hm := hm.tr hm2
    have f1 : te S4 a0 = some (.inr 11) := by rw [hm2.1]; exact f1
    have f3 : tR S4 a0 11 = some b2 := by rw [hm2.R]; exact f3
    refine tt_aload_n (k0 := 0) (by decide +kernel) rfl ?_
    refine tt_aload_n (k0 := 0) (by decide +kernel) rfl ?_
    obtain ⟨b5, f6, h⟩ := h
    refine tt_getR (k := 9) (by decide +kernel) KC_11 (by decide) w_874 (fun _ => rfl) f1 f6 ?_
    refine tt_iconst (n := 0) (v := 0) (by decide +kernel) (by decide) ?_
    refine tt_callV (As := [.ref b5, .int 0]) (rest := []) (ci := 11) (r0 := (R_11, F_11, 55)) (by decide +kernel) LK_M_hashTo w_1064 w_1066 (in_p (n := 55) 31 rfl) (by decide) (by decide) rfl rfl (Nat.le_of_ble_eq_true rfl) rfl rfl f1 (ct_mono h (fun r S7 h => ?_))
    obtain ⟨hm2, h⟩ := h
    obtain ⟨rfl, h⟩ := h
    show T G J_M_macTo 64 [(0, .ref a0), (1, .ref a1), (2, .int x2), (3, .int x3)] [] S7 _
    have hm := hm.tr hm2
    have f1 : te S7 a0 = some (.inr 11) := by rw [hm2.1]; exact f1
    have f3 : tR S7 a0 11 = some b2 := by rw [hm2.R]; exact f3
    have f6 : tR S7 a0 9 = some b5 := by rw [hm2.R]; exact f6
    refine tt_aload_n (k0 := 0) (by decide +kernel) rfl ?_
    refine tt_iconst (n := 0) (v := 0) (by decide +kernel) (by decide) ?_
    refine tt_putI (k := 6) (by decide +kernel) KC_11 (by decide) w_871 rfl rfl f1 ?_
    generalize eS8 : sI S7 a0 (upd (tI S7 a0) 6 0) = S8
    have h := h S8 eS8.symm
    have hm : Sm0 S S8 := by rw [← eS8]; exact hm.I
    have f1 : te S8 a0 = some (.inr 11) := by rw [← eS8, te_sI]; exact f1
    have f3 : tR S8 a0 11 = some b2 := by rw [← eS8, tR_sI]; exact f3
    have f6 : tR S8 a0 9 = some b5 := by rw [← eS8, tR_sI]; exact f6
    refine tt_iconst (n := 0) (v := 0) (by decide +kernel) (by decide) ?_
    refine tt_istore_n (k0 := 3) (lv' := [(0, .ref a0), (1, .ref a1), (2, .int x2), (3, .int 0)]) (by decide +kernel) (by decide) rfl ?_
    exact tt_mono h (fun r S' q => ⟨hm.tr q.1, q.2⟩)
  · have h := h.2 c
    refine tt_aload_n (k0 := 0) (by decide +kernel) rfl ?_
    refine tt_iload_n (k0 := 3) (by decide +kernel) rfl ?_
    refine tt_bipush (n := 32) (v := 32) (by decide +kernel) (by decide) ?_
    refine tt_icmp_ge (off := 12) 29 (by decide +kernel) (by decide) (fun c => ?_) (fun c => ?_)
    · have h := h.1 c
      refine tt_iconst (n := 0) (v := 0) (by decide +kernel) (by decide) ?_
      refine tt_bipush (n := 54) (v := 54) (by decide +kernel) (by decide) ?_
      refine tt_ixor (by decide +kernel) ?_
      obtain ⟨f9, h⟩ := h
      refine tt_callV (As := [.int ((0 : Int32) ^^^ (54 : Int32))]) (rest := []) (ci := 11) (r0 := (R_11, F_11, 55)) (by decide +kernel) LK_M_add_I w_1060 w_1062 (in_p (n := 55) 30 rfl) (by decide) (by decide) rfl rfl (Nat.le_of_ble_eq_true rfl) rfl rfl f9 (ct_mono h (fun r S10 h => ?_))
      obtain ⟨hm2, h⟩ := h
      obtain ⟨rfl, h⟩ := h
      show T G J_M_macTo 36 [(0, .ref a0), (1, .ref a1), (2, .int x2), (3, .int x3)] [] S10 _
      have hm := hm.tr hm2
      have f9 : te S10 a0 = some (.inr 11) := by rw [hm2.1]; exact f9
      obtain ⟨y11, ey11⟩ : ∃ y : Int32, y = x3 + 1 := ⟨_, rfl⟩
      have h := h y11 ey11
      refine tt_iinc (i := 3) (n := 1) (v := y11) (lv' := [(0, .ref a0), (1, .ref a1), (2, .int x2), (3, .int y11)]) (by decide +kernel) (by decide) rfl ey11.symm rfl ?_
      refine tt_goto (off := -32) (tgt := 7) (by decide +kernel) (by decide) ?_
      exact tt_mono h (fun r S' q => ⟨hm.tr q.1, q.2⟩)
    · have h := h.2 c
      refine tt_aload_n (k0 := 0) (by decide +kernel) rfl ?_
      obtain ⟨f12, h⟩ := h
      obtain ⟨b13, f14, h⟩ := h
      refine tt_getR (k := 10) (by decide +kernel) KC_11 (by decide) w_875 (fun _ => rfl) f12 f14 ?_
      refine tt_iload_n (k0 := 3) (by decide +kernel) rfl ?_
      obtain ⟨n15, f16, h⟩ := h
      obtain ⟨g2, h⟩ := h
      refine tt_bald (by decide +kernel) f16 g2 ?_
      refine tt_goto (off := 4) (tgt := 30) (by decide +kernel) (by decide) ?_
      refine tt_bipush (n := 54) (v := 54) (by decide +kernel) (by decide) ?_
      refine tt_ixor (by decide +kernel) ?_
      refine tt_callV (As := [.int ((tI S b13 x3.toNatClampNeg) ^^^ (54 : Int32))]) (rest := []) (ci := 11) (r0 := (R_11, F_11, 55)) (by decide +kernel) LK_M_add_I w_1060 w_1062 (in_p (n := 55) 30 rfl) (by decide) (by decide) rfl rfl (Nat.le_of_ble_eq_true rfl) rfl rfl f12 (ct_mono h (fun r S17 h => ?_))
      obtain ⟨hm2, h⟩ := h
      obtain ⟨rfl, h⟩ := h
      show T G J_M_macTo 36 [(0, .ref a0), (1, .ref a1), (2, .int x2), (3, .int x3)] [] S17 _
      have hm := hm.tr hm2
      have f12 : te S17 a0 = some (.inr 11) := by rw [hm2.1]; exact f12
      have f14 : tR S17 a0 10 = some b13 := by rw [hm2.R]; exact f14
      have f16 : te S17 b13 = some (.inl (.byte, n15)) := by rw [hm2.1]; exact f16
      obtain ⟨y18, ey18⟩ : ∃ y : Int32, y = x3 + 1 := ⟨_, rfl⟩
      have h := h y18 ey18
      refine tt_iinc (i := 3) (n := 1) (v := y18) (lv' := [(0, .ref a0), (1, .ref a1), (2, .int x2), (3, .int y18)]) (by decide +kernel) (by decide) rfl ey18.symm rfl ?_
      refine tt_goto (off := -32) (tgt := 7) (by decide +kernel) (by decide) ?_
      exact tt_mono h (fun r S' q => ⟨hm.tr q.1, q.2⟩)
set_option maxRecDepth 100000 in
theorem v_M_macTo_71 {G : pG} (a0 : Nat) (a1 : Nat) (x2 : Int32) (x3 : Int32) (S : TS) (Q : Option Value → TS → Prop)
    (h : ((64 ≤ x3 → te S a0 = some (.inr 11) ∧ ∃ b2 : Nat, tR S a0 9 = some b2 ∧ C0 G J_M_add_ABII [.ref a0, .ref b2, .int 0, .int 32] S (fun r S4 => r = none ∧ C0 G J_M_hashTo [.ref a0, .ref a1, .int x2] S4 (fun r S5 => r = none ∧ Q none S5))) ∧ (¬ (64 ≤ x3) → ((32 ≤ x3 → te S a0 = some (.inr 11) ∧ C0 G J_M_add_I [.ref a0, .int ((0 : Int32) ^^^ (92 : Int32))] S (fun r S7 => r = none ∧ ∀ y8 : Int32, y8 = x3 + 1 → T0 G J_M_macTo 71 [(0, .ref a0), (1, .ref a1), (2, .int x2), (3, .int y8)] [] S7 Q)) ∧ (¬ (32 ≤ x3) → te S a0 = some (.inr 11) ∧ ∃ b10 : Nat, tR S a0 10 = some b10 ∧ ∃ n12 : Nat, te S b10 = some (.inl (.byte, n12)) ∧ vp_in x3 n12 ∧ C0 G J_M_add_I [.ref a0, .int ((tI S b10 x3.toNatClampNeg) ^^^ (92 : Int32))] S (fun r S14 => r = none ∧ ∀ y15 : Int32, y15 = x3 + 1 → T0 G J_M_macTo 71 [(0, .ref a0), (1, .ref a1), (2, .int x2), (3, .int y15)] [] S14 Q)))))) :
    T0 G J_M_macTo 71 [(0, .ref a0), (1, .ref a1), (2, .int x2), (3, .int x3)] [] S Q := by
  unfold T0
  have hm : Sm0 S S := Sm0.rf S
  refine tt_iload_n (k0 := 3) (by decide +kernel) rfl ?_
  refine tt_bipush (n := 64) (v := 64) (by decide +kernel) (by decide) ?_
  refine tt_icmp_ge (off := 32) 106 (by decide +kernel) (by decide) (fun c => ?_) (fun c => ?_)
  · have h := h.1 c
    refine tt_aload_n (k0 := 0) (by decide +kernel) rfl ?_
    refine tt_aload_n (k0 := 0) (by decide +kernel) rfl ?_
    obtain ⟨f1, h⟩ := h
    obtain ⟨b2, f3, h⟩ := h
    refine tt_getR (k := 9) (by decide +kernel) KC_11 (by decide) w_874 (fun _ => rfl) f1 f3 ?_
    refine tt_iconst (n := 0) (v := 0) (by decide +kernel) (by decide) ?_
    refine tt_bipush (n := 32) (v := 32) (by decide +kernel) (by decide) ?_
    refine tt_callV (As := [.ref b2, .int 0, .int 32]) (rest := []) (ci := 11) (r0 := (R_11, F_11, 55)) (by decide +kernel) LK_M_add_ABII w_1056 w_1058 (in_p (n := 55) 29 rfl) (by decide) (by decide) rfl rfl (Nat.le_of_ble_eq_true rfl) rfl rfl f1 (ct_mono h (fun r S4 h => ?_))
    obtain ⟨hm2, h⟩ := h
    obtain ⟨rfl, h⟩ := h
    show T G J_M_macTo 117 [(0, .ref a0), (1, .ref a1), (2, .int x2), (3, .int x3)] [] S4 _
    have hm := hm.tr hm2
    have f1 : te S4 a0 = some (.inr 11) := by rw [hm2.1]; exact f1
    have f3 : tR S4 a0 9 = some b2 := by rw [hm2.R]; exact f3
    refine tt_aload_n (k0 := 0) (by decide +kernel) rfl ?_
    refine tt_aload_n (k0 := 1) (by decide +kernel) rfl ?_
    refine tt_iload_n (k0 := 2) (by decide +kernel) rfl ?_
    refine tt_callV (As := [.ref a1, .int x2]) (rest := []) (ci := 11) (r0 := (R_11, F_11, 55)) (by decide +kernel) LK_M_hashTo w_1064 w_1066 (in_p (n := 55) 31 rfl) (by decide) (by decide) rfl rfl (Nat.le_of_ble_eq_true rfl) rfl rfl f1 (ct_mono h (fun r S5 h => ?_))
    obtain ⟨hm2, h⟩ := h
    obtain ⟨rfl, h⟩ := h
    show T G J_M_macTo 123 [(0, .ref a0), (1, .ref a1), (2, .int x2), (3, .int x3)] [] S5 _
    have hm := hm.tr hm2
    have f1 : te S5 a0 = some (.inr 11) := by rw [hm2.1]; exact f1
    have f3 : tR S5 a0 9 = some b2 := by rw [hm2.R]; exact f3
    exact tt_vret (by decide +kernel) rfl ⟨hm, h⟩
  · have h := h.2 c
    refine tt_aload_n (k0 := 0) (by decide +kernel) rfl ?_
    refine tt_iload_n (k0 := 3) (by decide +kernel) rfl ?_
    refine tt_bipush (n := 32) (v := 32) (by decide +kernel) (by decide) ?_
    refine tt_icmp_ge (off := 12) 93 (by decide +kernel) (by decide) (fun c => ?_) (fun c => ?_)
    · have h := h.1 c
      refine tt_iconst (n := 0) (v := 0) (by decide +kernel) (by decide) ?_
      refine tt_bipush (n := 92) (v := 92) (by decide +kernel) (by decide) ?_
      refine tt_ixor (by decide +kernel) ?_
      obtain ⟨f6, h⟩ := h
      refine tt_callV (As := [.int ((0 : Int32) ^^^ (92 : Int32))]) (rest := []) (ci := 11) (r0 := (R_11, F_11, 55)) (by decide +kernel) LK_M_add_I w_1060 w_1062 (in_p (n := 55) 30 rfl) (by decide) (by decide) rfl rfl (Nat.le_of_ble_eq_true rfl) rfl rfl f6 (ct_mono h (fun r S7 h => ?_))
      obtain ⟨hm2, h⟩ := h
      obtain ⟨rfl, h⟩ := h
      show T G J_M_macTo 100 [(0, .ref a0), (1, .ref a1), (2, .int x2), (3, .int x3)] [] S7 _
      have hm := hm.tr hm2
      have f6 : te S7 a0 = some (.inr 11) := by rw [hm2.1]; exact f6
      obtain ⟨y8, ey8⟩ : ∃ y : Int32, y = x3 + 1 := ⟨_, rfl⟩
      have h := h y8 ey8
      refine tt_iinc (i := 3) (n := 1) (v := y8) (lv' := [(0, .ref a0), (1, .ref a1), (2, .int x2), (3, .int y8)]) (by decide +kernel) (by decide) rfl ey8.symm rfl ?_
      refine tt_goto (off := -32) (tgt := 71) (by decide +kernel) (by decide) ?_
      exact tt_mono h (fun r S' q => ⟨hm.tr q.1, q.2⟩)
    · have h := h.2 c
      refine tt_aload_n (k0 := 0) (by decide +kernel) rfl ?_
      obtain ⟨f9, h⟩ := h
      obtain ⟨b10, f11, h⟩ := h
      refine tt_getR (k := 10) (by decide +kernel) KC_11 (by decide) w_875 (fun _ => rfl) f9 f11 ?_
      refine tt_iload_n (k0 := 3) (by decide +kernel) rfl ?_
      obtain ⟨n12, f13, h⟩ := h
      obtain ⟨g2, h⟩ := h
      refine tt_bald (by decide +kernel) f13 g2 ?_
      refine tt_goto (off := 4) (tgt := 94) (by decide +kernel) (by decide) ?_
      refine tt_bipush (n := 92) (v := 92) (by decide +kernel) (by decide) ?_
      refine tt_ixor (by decide +kernel) ?_
      refine tt_callV (As := [.int ((tI S b10 x3.toNatClampNeg) ^^^ (92 : Int32))]) (rest := []) (ci := 11) (r0 := (R_11, F_11, 55)) (by decide +kernel) LK_M_add_I w_1060 w_1062 (in_p (n := 55) 30 rfl) (by decide) (by decide) rfl rfl (Nat.le_of_ble_eq_true rfl) rfl rfl f9 (ct_mono h (fun r S14 h => ?_))
      obtain ⟨hm2, h⟩ := h
      obtain ⟨rfl, h⟩ := h
      show T G J_M_macTo 100 [(0, .ref a0), (1, .ref a1), (2, .int x2), (3, .int x3)] [] S14 _
      have hm := hm.tr hm2
      have f9 : te S14 a0 = some (.inr 11) := by rw [hm2.1]; exact f9
      have f11 : tR S14 a0 10 = some b10 := by rw [hm2.R]; exact f11
      have f13 : te S14 b10 = some (.inl (.byte, n12)) := by rw [hm2.1]; exact f13
      obtain ⟨y15, ey15⟩ : ∃ y : Int32, y = x3 + 1 := ⟨_, rfl⟩
      have h := h y15 ey15
      refine tt_iinc (i := 3) (n := 1) (v := y15) (lv' := [(0, .ref a0), (1, .ref a1), (2, .int x2), (3, .int y15)]) (by decide +kernel) (by decide) rfl ey15.symm rfl ?_
      refine tt_goto (off := -32) (tgt := 71) (by decide +kernel) (by decide) ?_
      exact tt_mono h (fun r S' q => ⟨hm.tr q.1, q.2⟩)
set_option maxRecDepth 100000 in
theorem v_M_close {G : pG} (a0 : Nat) (x1 : Int32) (S : TS) (Q : Option Value → TS → Prop)
    (h : te S a0 = some (.inr 11) ∧ C0 G J_M_kind [.ref a0, .int x1, .int 2] S (fun r S2 => ∃ r3 : Int32, r = some (.int r3) ∧ ((¬ r3 = 0 → Q (some (.int r3)) S2) ∧ (r3 = 0 → ∃ b4 : Nat, tR S2 a0 15 = some b4 ∧ ∃ n6 : Nat, te S2 b4 = some (.inl (.int, n6)) ∧ vp_in x1 n6 ∧ ∀ S8 : TS, S8 = sI S2 b4 (upd (tI S2 b4) x1.toNatClampNeg 3) → Q (some (.int r3)) S8)))) :
    C0 G J_M_close [.ref a0, .int x1] S Q := by
  unfold C0
  refine ct_of (by decide +kernel) (Nat.le_of_ble_eq_true rfl) (lv := [(0, .ref a0), (1, .int x1)]) rfl ?_
  have hm : Sm0 S S := Sm0.rf S
  refine tt_aload_n (k0 := 0) (by decide +kernel) rfl ?_
  refine tt_iload_n (k0 := 1) (by decide +kernel) rfl ?_
  refine tt_iconst (n := 2) (v := 2) (by decide +kernel) (by decide) ?_
  obtain ⟨f1, h⟩ := h
  refine tt_callV (As := [.int x1, .int 2]) (rest := []) (ci := 11) (r0 := (R_11, F_11, 55)) (by decide +kernel) LK_M_kind w_1174 w_1176 (in_p (n := 55) 47 rfl) (by decide) (by decide) rfl rfl (Nat.le_of_ble_eq_true rfl) rfl rfl f1 (ct_mono h (fun r S2 h => ?_))
  obtain ⟨hm2, h⟩ := h
  obtain ⟨r3, rfl, h⟩ := h
  show T G J_M_close 6 [(0, .ref a0), (1, .int x1)] [.int r3] S2 _
  have hm := hm.tr hm2
  have f1 : te S2 a0 = some (.inr 11) := by rw [hm2.1]; exact f1
  refine tt_istore_n (k0 := 2) (lv' := [(0, .ref a0), (1, .int x1), (2, .int r3)]) (by decide +kernel) (by decide) rfl ?_
  refine tt_iload_n (k0 := 2) (by decide +kernel) rfl ?_
  refine tt_if_ne (off := 10) 18 (by decide +kernel) (by decide) (fun c => ?_) (fun c => ?_)
  · have h := h.1 c
    refine tt_iload_n (k0 := 2) (by decide +kernel) rfl ?_
    exact tt_iret (by decide +kernel) rfl ⟨hm, h⟩
  · have h := h.2 c
    refine tt_aload_n (k0 := 0) (by decide +kernel) rfl ?_
    obtain ⟨b4, f5, h⟩ := h
    refine tt_getR (k := 15) (by decide +kernel) KC_11 (by decide) w_880 (fun _ => rfl) f1 f5 ?_
    refine tt_iload_n (k0 := 1) (by decide +kernel) rfl ?_
    refine tt_iconst (n := 3) (v := 3) (by decide +kernel) (by decide) ?_
    obtain ⟨n6, f7, h⟩ := h
    obtain ⟨g2, h⟩ := h
    refine tt_iast (by decide +kernel) f7 g2 ?_
    generalize eS8 : sI S2 b4 (upd (tI S2 b4) x1.toNatClampNeg 3) = S8
    have h := h S8 eS8.symm
    have hm : Sm0 S S8 := by rw [← eS8]; exact hm.I
    have f1 : te S8 a0 = some (.inr 11) := by rw [← eS8, te_sI]; exact f1
    have f5 : tR S8 a0 15 = some b4 := by rw [← eS8, tR_sI]; exact f5
    have f7 : te S8 b4 = some (.inl (.int, n6)) := by rw [← eS8, te_sI]; exact f7
    refine tt_iload_n (k0 := 2) (by decide +kernel) rfl ?_
    exact tt_iret (by decide +kernel) rfl ⟨hm, h⟩
set_option maxRecDepth 100000 in
theorem v_M_receive {G : pG} (a0 : Nat) (x1 : Int32) (S : TS) (Q : Option Value → TS → Prop)
    (h : CP G J_M_side [.int x1] S (fun r => ∃ r1 : Int32, r = some (.int r1) ∧ ((¬ r1 = 0 → te S a0 = some (.inr 11) ∧ ∃ b3 : Nat, tR S a0 24 = some b3 ∧ ∃ n5 : Nat, te S b3 = some (.inl (.int, n5)) ∧ vp_in x1 n5 ∧ ((¬ tI S b3 x1.toNatClampNeg = 0 → ∀ y7 : Int32, y7 = (1 : Int32) - x1 → CP G J_M_at [.ref a0, .int x1, .int 0] S (fun r => ∃ r8 : Int32, r = some (.int r8) ∧ ∃ b9 : Nat, tR S a0 22 = some b9 ∧ ∃ n11 : Nat, te S b9 = some (.inl (.byte, n11)) ∧ vp_in r8 n11 ∧ ∀ y13 : Int32, y13 = (tI S b9 r8.toNatClampNeg) &&& (255 : Int32) → ∃ b14 : Nat, tR S a0 15 = some b14 ∧ ∃ n16 : Nat, te S b14 = some (.inl (.int, n16)) ∧ vp_in y7 n16 ∧ ((tI S b14 y7.toNatClampNeg < 3 → ∃ b18 : Nat, tR S a0 23 = some b18 ∧ ∃ n20 : Nat, te S b18 = some (.inl (.int, n20)) ∧ vp_in (x1 * (12 : Int32)) n20 ∧ C0 G J_M_handle [.ref a0, .int y7, .int r8, .int ((tI S b18 (x1 * (12 : Int32)).toNatClampNeg) - (3 : Int32))] S (fun r S22 => ∃ r23 : Int32, r = some (.int r23) ∧ ((¬ r23 = (-3) → ((¬ r23 = (-4) → C0 G J_M_take [.ref a0, .int x1, .int 0] S22 (fun r S24 => r = none ∧ ((¬ r23 = (-4) → Q (some (.int y13)) S24) ∧ (r23 = (-4) → Q (some (.int ((-4)))) S24)))) ∧ (r23 = (-4) → vp_in y7 n16 ∧ ((3 ≤ tI S22 b14 y7.toNatClampNeg → C0 G J_M_take [.ref a0, .int x1, .int 0] S22 (fun r S25 => r = none ∧ ((¬ r23 = (-4) → Q (some (.int y13)) S25) ∧ (r23 = (-4) → Q (some (.int ((-4)))) S25)))) ∧ (¬ (3 ≤ tI S22 b14 y7.toNatClampNeg) → vp_in y7 n16 ∧ ∀ S26 : TS, S26 = sI S22 b14 (upd (tI S22 b14) y7.toNatClampNeg 4) → C0 G J_M_take [.ref a0, .int x1, .int 0] S26 (fun r S27 => r = none ∧ ((¬ r23 = (-4) → Q (some (.int y13)) S27) ∧ (r23 = (-4) → Q (some (.int ((-4)))) S27)))))))) ∧ (r23 = (-3) → Q (some (.int ((-3)))) S22)))) ∧ (¬ (tI S b14 y7.toNatClampNeg < 3) → vp_in y7 n16 ∧ ((3 ≤ tI S b14 y7.toNatClampNeg → C0 G J_M_take [.ref a0, .int x1, .int 0] S (fun r S28 => r = none ∧ Q (some (.int ((-4)))) S28)) ∧ (¬ (3 ≤ tI S b14 y7.toNatClampNeg) → vp_in y7 n16 ∧ ∀ S29 : TS, S29 = sI S b14 (upd (tI S b14) y7.toNatClampNeg 4) → C0 G J_M_take [.ref a0, .int x1, .int 0] S29 (fun r S30 => r = none ∧ Q (some (.int ((-4)))) S30))))))) ∧ (tI S b3 x1.toNatClampNeg = 0 → Q (some (.int ((-2)))) S))) ∧ (r1 = 0 → Q (some (.int ((-1)))) S)))) :
    C0 G J_M_receive [.ref a0, .int x1] S Q := by
  unfold C0
  refine ct_of (by decide +kernel) (Nat.le_of_ble_eq_true rfl) (lv := [(0, .ref a0), (1, .int x1)]) rfl ?_
  have hm : Sm0 S S := Sm0.rf S
  refine tt_iload_n (k0 := 1) (by decide +kernel) rfl ?_
  refine tt_callS (As := [.int x1]) (rest := []) (by decide +kernel) LK_M_side w_1053 w_1054 (by decide) (by decide) rfl rfl (Nat.le_of_ble_eq_true rfl) (ct_mono h (fun r Sb h => ?_))
  obtain ⟨eb, h⟩ := h
  obtain ⟨r1, rfl, h⟩ := h
  rw [eb]
  show T G J_M_receive 4 [(0, .ref a0), (1, .int x1)] [.int r1] S _
  refine tt_if_ne (off := 5) 9 (by decide +kernel) (by decide) (fun c => ?_) (fun c => ?_)
  · have h := h.1 c
    refine tt_aload_n (k0 := 0) (by decide +kernel) rfl ?_
    obtain ⟨f2, h⟩ := h
    obtain ⟨b3, f4, h⟩ := h
    refine tt_getR (k := 24) (by decide +kernel) KC_11 (by decide) w_889 (fun _ => rfl) f2 f4 ?_
    refine tt_iload_n (k0 := 1) (by decide +kernel) rfl ?_
    obtain ⟨n5, f6, h⟩ := h
    obtain ⟨g2, h⟩ := h
    refine tt_iald (by decide +kernel) f6 g2 ?_
    refine tt_if_ne (off := 6) 21 (by decide +kernel) (by decide) (fun c => ?_) (fun c => ?_)
    · have h := h.1 c
      refine tt_iconst (n := 1) (v := 1) (by decide +kernel) (by decide) ?_
      refine tt_iload_n (k0 := 1) (by decide +kernel) rfl ?_
      refine tt_isub (by decide +kernel) ?_
      refine tt_topi (fun y7 ey7 => ?_)
      have h := h y7 ey7
      refine tt_istore_n (k0 := 2) (lv' := [(0, .ref a0), (1, .int x1), (2, .int y7)]) (by decide +kernel) (by decide) rfl ?_
      refine tt_aload_n (k0 := 0) (by decide +kernel) rfl ?_
      refine tt_iload_n (k0 := 1) (by decide +kernel) rfl ?_
      refine tt_iconst (n := 0) (v := 0) (by decide +kernel) (by decide) ?_
      refine tt_callV (As := [.int x1, .int 0]) (rest := []) (ci := 11) (r0 := (R_11, F_11, 55)) (by decide +kernel) LK_M_at w_1104 w_1106 (in_p (n := 55) 37 rfl) (by decide) (by decide) rfl rfl (Nat.le_of_ble_eq_true rfl) rfl rfl f2 (ct_mono h (fun r Sb h => ?_))
      obtain ⟨eb, h⟩ := h
      obtain ⟨r8, rfl, h⟩ := h
      rw [eb]
      show T G J_M_receive 31 [(0, .ref a0), (1, .int x1), (2, .int y7)] [.int r8] S _
      refine tt_istore_n (k0 := 3) (lv' := [(0, .ref a0), (1, .int x1), (2, .int y7), (3, .int r8)]) (by decide +kernel) (by decide) rfl ?_
      refine tt_aload_n (k0 := 0) (by decide +kernel) rfl ?_
      obtain ⟨b9, f10, h⟩ := h
      refine tt_getR (k := 22) (by decide +kernel) KC_11 (by decide) w_887 (fun _ => rfl) f2 f10 ?_
      refine tt_iload_n (k0 := 3) (by decide +kernel) rfl ?_
      obtain ⟨n11, f12, h⟩ := h
      obtain ⟨g2, h⟩ := h
      refine tt_bald (by decide +kernel) f12 g2 ?_
      refine tt_sipush (n := 255) (v := 255) (by decide +kernel) (by decide) ?_
      refine tt_iand (by decide +kernel) ?_
      refine tt_topi (fun y13 ey13 => ?_)
      have h := h y13 ey13
      refine tt_istore (k0 := 4) (lv' := [(0, .ref a0), (1, .int x1), (2, .int y7), (3, .int r8), (4, .int y13)]) (by decide +kernel) (by decide) rfl ?_
      refine tt_aload_n (k0 := 0) (by decide +kernel) rfl ?_
      obtain ⟨b14, f15, h⟩ := h
      refine tt_getR (k := 15) (by decide +kernel) KC_11 (by decide) w_880 (fun _ => rfl) f2 f15 ?_
      refine tt_iload_n (k0 := 2) (by decide +kernel) rfl ?_
      obtain ⟨n16, f17, h⟩ := h
      obtain ⟨g2, h⟩ := h
      refine tt_iald (by decide +kernel) f17 g2 ?_
      refine tt_iconst (n := 3) (v := 3) (by decide +kernel) (by decide) ?_
      refine tt_icmp_lt (off := 8) 59 (by decide +kernel) (by decide) (fun c => ?_) (fun c => ?_)
      · have h := h.1 c
        refine tt_aload_n (k0 := 0) (by decide +kernel) rfl ?_
        refine tt_iload_n (k0 := 2) (by decide +kernel) rfl ?_
        refine tt_iload_n (k0 := 3) (by decide +kernel) rfl ?_
        refine tt_aload_n (k0 := 0) (by decide +kernel) rfl ?_
        obtain ⟨b18, f19, h⟩ := h
        refine tt_getR (k := 23) (by decide +kernel) KC_11 (by decide) w_888 (fun _ => rfl) f2 f19 ?_
        refine tt_iload_n (k0 := 1) (by decide +kernel) rfl ?_
        refine tt_bipush (n := 12) (v := 12) (by decide +kernel) (by decide) ?_
        refine tt_imul (by decide +kernel) ?_
        obtain ⟨n20, f21, h⟩ := h
        obtain ⟨g2, h⟩ := h
        refine tt_iald (by decide +kernel) f21 g2 ?_
        refine tt_iconst (n := 3) (v := 3) (by decide +kernel) (by decide) ?_
        refine tt_isub (by decide +kernel) ?_
        refine tt_callV (As := [.int y7, .int r8, .int ((tI S b18 (x1 * (12 : Int32)).toNatClampNeg) - (3 : Int32))]) (rest := []) (ci := 11) (r0 := (R_11, F_11, 55)) (by decide +kernel) LK_M_handle w_1194 w_1196 (in_p (n := 55) 50 rfl) (by decide) (by decide) rfl rfl (Nat.le_of_ble_eq_true rfl) rfl rfl f2 (ct_mono h (fun r S22 h => ?_))
        obtain ⟨hm2, h⟩ := h
        obtain ⟨r23, rfl, h⟩ := h
        show T G J_M_receive 76 [(0, .ref a0), (1, .int x1), (2, .int y7), (3, .int r8), (4, .int y13)] [.int r23] S22 _
        have hm := hm.tr hm2
        have f2 : te S22 a0 = some (.inr 11) := by rw [hm2.1]; exact f2
        have f4 : tR S22 a0 24 = some b3 := by rw [hm2.R]; exact f4
        have f6 : te S22 b3 = some (.inl (.int, n5)) := by rw [hm2.1]; exact f6
        have f10 : tR S22 a0 22 = some b9 := by rw [hm2.R]; exact f10
        have f12 : te S22 b9 = some (.inl (.byte, n11)) := by rw [hm2.1]; exact f12
        have f15 : tR S22 a0 15 = some b14 := by rw [hm2.R]; exact f15
        have f17 : te S22 b14 = some (.inl (.int, n16)) := by rw [hm2.1]; exact f17
        have f19 : tR S22 a0 23 = some b18 := by rw [hm2.R]; exact f19
        have f21 : te S22 b18 = some (.inl (.int, n20)) := by rw [hm2.1]; exact f21
        refine tt_istore (k0 := 5) (lv' := [(0, .ref a0), (1, .int x1), (2, .int y7), (3, .int r8), (4, .int y13), (5, .int r23)]) (by decide +kernel) (by decide) rfl ?_
        refine tt_iload (k0 := 5) (by decide +kernel) rfl ?_
        refine tt_bipush (n := -3) (v := -3) (by decide +kernel) (by decide) ?_
        refine tt_icmp_ne (off := 6) 88 (by decide +kernel) (by decide) (fun c => ?_) (fun c => ?_)
        · have h := h.1 c
          refine tt_iload (k0 := 5) (by decide +kernel) rfl ?_
          refine tt_bipush (n := -4) (v := -4) (by decide +kernel) (by decide) ?_
          refine tt_icmp_ne (off := 20) 112 (by decide +kernel) (by decide) (fun c => ?_) (fun c => ?_)
          · have h := h.1 c
            refine tt_aload_n (k0 := 0) (by decide +kernel) rfl ?_
            refine tt_iload_n (k0 := 1) (by decide +kernel) rfl ?_
            refine tt_iconst (n := 0) (v := 0) (by decide +kernel) (by decide) ?_
            refine tt_callV (As := [.int x1, .int 0]) (rest := []) (ci := 11) (r0 := (R_11, F_11, 55)) (by decide +kernel) LK_M_take w_1245 w_1247 (in_p (n := 55) 62 rfl) (by decide) (by decide) rfl rfl (Nat.le_of_ble_eq_true rfl) rfl rfl f2 (ct_mono h (fun r S24 h => ?_))
            obtain ⟨hm2, h⟩ := h
            obtain ⟨rfl, h⟩ := h
            show T G J_M_receive 118 [(0, .ref a0), (1, .int x1), (2, .int y7), (3, .int r8), (4, .int y13), (5, .int r23)] [] S24 _
            have hm := hm.tr hm2
            have f2 : te S24 a0 = some (.inr 11) := by rw [hm2.1]; exact f2
            have f4 : tR S24 a0 24 = some b3 := by rw [hm2.R]; exact f4
            have f6 : te S24 b3 = some (.inl (.int, n5)) := by rw [hm2.1]; exact f6
            have f10 : tR S24 a0 22 = some b9 := by rw [hm2.R]; exact f10
            have f12 : te S24 b9 = some (.inl (.byte, n11)) := by rw [hm2.1]; exact f12
            have f15 : tR S24 a0 15 = some b14 := by rw [hm2.R]; exact f15
            have f17 : te S24 b14 = some (.inl (.int, n16)) := by rw [hm2.1]; exact f17
            have f19 : tR S24 a0 23 = some b18 := by rw [hm2.R]; exact f19
            have f21 : te S24 b18 = some (.inl (.int, n20)) := by rw [hm2.1]; exact f21
            refine tt_iload (k0 := 5) (by decide +kernel) rfl ?_
            refine tt_bipush (n := -4) (v := -4) (by decide +kernel) (by decide) ?_
            refine tt_icmp_ne (off := 8) 130 (by decide +kernel) (by decide) (fun c => ?_) (fun c => ?_)
            · have h := h.1 c
              refine tt_iload (k0 := 4) (by decide +kernel) rfl ?_
              exact tt_iret (by decide +kernel) rfl ⟨hm, h⟩
            · have h := h.2 c
              refine tt_bipush (n := -4) (v := -4) (by decide +kernel) (by decide) ?_
              refine tt_goto (off := 5) (tgt := 132) (by decide +kernel) (by decide) ?_
              exact tt_iret (by decide +kernel) rfl ⟨hm, h⟩
          · have h := h.2 c
            refine tt_aload_n (k0 := 0) (by decide +kernel) rfl ?_
            refine tt_getR (k := 15) (by decide +kernel) KC_11 (by decide) w_880 (fun _ => rfl) f2 f15 ?_
            refine tt_iload_n (k0 := 2) (by decide +kernel) rfl ?_
            obtain ⟨g2, h⟩ := h
            refine tt_iald (by decide +kernel) f17 g2 ?_
            refine tt_iconst (n := 3) (v := 3) (by decide +kernel) (by decide) ?_
            refine tt_icmp_ge (off := 10) 112 (by decide +kernel) (by decide) (fun c => ?_) (fun c => ?_)
            · have h := h.1 c
              refine tt_aload_n (k0 := 0) (by decide +kernel) rfl ?_
              refine tt_iload_n (k0 := 1) (by decide +kernel) rfl ?_
              refine tt_iconst (n := 0) (v := 0) (by decide +kernel) (by decide) ?_
              refine tt_callV (As := [.int x1, .int 0]) (rest := []) (ci := 11) (r0 := (R_11, F_11, 55)) (by decide +kernel) LK_M_take w_1245 w_1247 (in_p (n := 55) 62 rfl) (by decide) (by decide) rfl rfl (Nat.le_of_ble_eq_true rfl) rfl rfl f2 (ct_mono h (fun r S25 h => ?_))
              obtain ⟨hm2, h⟩ := h
              obtain ⟨rfl, h⟩ := h
              show T G J_M_receive 118 [(0, .ref a0), (1, .int x1), (2, .int y7), (3, .int r8), (4, .int y13), (5, .int r23)] [] S25 _
              have hm := hm.tr hm2
              have f2 : te S25 a0 = some (.inr 11) := by rw [hm2.1]; exact f2
              have f4 : tR S25 a0 24 = some b3 := by rw [hm2.R]; exact f4
              have f6 : te S25 b3 = some (.inl (.int, n5)) := by rw [hm2.1]; exact f6
              have f10 : tR S25 a0 22 = some b9 := by rw [hm2.R]; exact f10
              have f12 : te S25 b9 = some (.inl (.byte, n11)) := by rw [hm2.1]; exact f12
              have f15 : tR S25 a0 15 = some b14 := by rw [hm2.R]; exact f15
              have f17 : te S25 b14 = some (.inl (.int, n16)) := by rw [hm2.1]; exact f17
              have f19 : tR S25 a0 23 = some b18 := by rw [hm2.R]; exact f19
              have f21 : te S25 b18 = some (.inl (.int, n20)) := by rw [hm2.1]; exact f21
              refine tt_iload (k0 := 5) (by decide +kernel) rfl ?_
              refine tt_bipush (n := -4) (v := -4) (by decide +kernel) (by decide) ?_
              refine tt_icmp_ne (off := 8) 130 (by decide +kernel) (by decide) (fun c => ?_) (fun c => ?_)
              · have h := h.1 c
                refine tt_iload (k0 := 4) (by decide +kernel) rfl ?_
                exact tt_iret (by decide +kernel) rfl ⟨hm, h⟩
              · have h := h.2 c
                refine tt_bipush (n := -4) (v := -4) (by decide +kernel) (by decide) ?_
                refine tt_goto (off := 5) (tgt := 132) (by decide +kernel) (by decide) ?_
                exact tt_iret (by decide +kernel) rfl ⟨hm, h⟩
            · have h := h.2 c
              refine tt_aload_n (k0 := 0) (by decide +kernel) rfl ?_
              refine tt_getR (k := 15) (by decide +kernel) KC_11 (by decide) w_880 (fun _ => rfl) f2 f15 ?_
              refine tt_iload_n (k0 := 2) (by decide +kernel) rfl ?_
              refine tt_iconst (n := 4) (v := 4) (by decide +kernel) (by decide) ?_
              obtain ⟨g2, h⟩ := h
              refine tt_iast (by decide +kernel) f17 g2 ?_
              generalize eS26 : sI S22 b14 (upd (tI S22 b14) y7.toNatClampNeg 4) = S26
              have h := h S26 eS26.symm
              have hm : Sm0 S S26 := by rw [← eS26]; exact hm.I
              have f2 : te S26 a0 = some (.inr 11) := by rw [← eS26, te_sI]; exact f2
              have f4 : tR S26 a0 24 = some b3 := by rw [← eS26, tR_sI]; exact f4
              have f6 : te S26 b3 = some (.inl (.int, n5)) := by rw [← eS26, te_sI]; exact f6
              have f10 : tR S26 a0 22 = some b9 := by rw [← eS26, tR_sI]; exact f10
              have f12 : te S26 b9 = some (.inl (.byte, n11)) := by rw [← eS26, te_sI]; exact f12
              have f15 : tR S26 a0 15 = some b14 := by rw [← eS26, tR_sI]; exact f15
              have f17 : te S26 b14 = some (.inl (.int, n16)) := by rw [← eS26, te_sI]; exact f17
              have f19 : tR S26 a0 23 = some b18 := by rw [← eS26, tR_sI]; exact f19
              have f21 : te S26 b18 = some (.inl (.int, n20)) := by rw [← eS26, te_sI]; exact f21
              refine tt_aload_n (k0 := 0) (by decide +kernel) rfl ?_
              refine tt_iload_n (k0 := 1) (by decide +kernel) rfl ?_
              refine tt_iconst (n := 0) (v := 0) (by decide +kernel) (by decide) ?_
              refine tt_callV (As := [.int x1, .int 0]) (rest := []) (ci := 11) (r0 := (R_11, F_11, 55)) (by decide +kernel) LK_M_take w_1245 w_1247 (in_p (n := 55) 62 rfl) (by decide) (by decide) rfl rfl (Nat.le_of_ble_eq_true rfl) rfl rfl f2 (ct_mono h (fun r S27 h => ?_))
              obtain ⟨hm2, h⟩ := h
              obtain ⟨rfl, h⟩ := h
              show T G J_M_receive 118 [(0, .ref a0), (1, .int x1), (2, .int y7), (3, .int r8), (4, .int y13), (5, .int r23)] [] S27 _
              have hm := hm.tr hm2
              have f2 : te S27 a0 = some (.inr 11) := by rw [hm2.1]; exact f2
              have f4 : tR S27 a0 24 = some b3 := by rw [hm2.R]; exact f4
              have f6 : te S27 b3 = some (.inl (.int, n5)) := by rw [hm2.1]; exact f6
              have f10 : tR S27 a0 22 = some b9 := by rw [hm2.R]; exact f10
              have f12 : te S27 b9 = some (.inl (.byte, n11)) := by rw [hm2.1]; exact f12
              have f15 : tR S27 a0 15 = some b14 := by rw [hm2.R]; exact f15
              have f17 : te S27 b14 = some (.inl (.int, n16)) := by rw [hm2.1]; exact f17
              have f19 : tR S27 a0 23 = some b18 := by rw [hm2.R]; exact f19
              have f21 : te S27 b18 = some (.inl (.int, n20)) := by rw [hm2.1]; exact f21
              refine tt_iload (k0 := 5) (by decide +kernel) rfl ?_
              refine tt_bipush (n := -4) (v := -4) (by decide +kernel) (by decide) ?_
              refine tt_icmp_ne (off := 8) 130 (by decide +kernel) (by decide) (fun c => ?_) (fun c => ?_)
              · have h := h.1 c
                refine tt_iload (k0 := 4) (by decide +kernel) rfl ?_
                exact tt_iret (by decide +kernel) rfl ⟨hm, h⟩
              · have h := h.2 c
                refine tt_bipush (n := -4) (v := -4) (by decide +kernel) (by decide) ?_
                refine tt_goto (off := 5) (tgt := 132) (by decide +kernel) (by decide) ?_
                exact tt_iret (by decide +kernel) rfl ⟨hm, h⟩
        · have h := h.2 c
          refine tt_bipush (n := -3) (v := -3) (by decide +kernel) (by decide) ?_
          exact tt_iret (by decide +kernel) rfl ⟨hm, h⟩
      · have h := h.2 c
        refine tt_bipush (n := -4) (v := -4) (by decide +kernel) (by decide) ?_
        refine tt_goto (off := 20) (tgt := 76) (by decide +kernel) (by decide) ?_
        refine tt_istore (k0 := 5) (lv' := [(0, .ref a0), (1, .int x1), (2, .int y7), (3, .int r8), (4, .int y13), (5, .int ((-4)))]) (by decide +kernel) (by decide) rfl ?_
        refine tt_iload (k0 := 5) (by decide +kernel) rfl ?_
        refine tt_bipush (n := -3) (v := -3) (by decide +kernel) (by decide) ?_
        refine tt_icmp_ne (off := 6) 88 (by decide +kernel) (by decide) (fun c => ?_) (fun c => ?_)
        · refine tt_iload (k0 := 5) (by decide +kernel) rfl ?_
          refine tt_bipush (n := -4) (v := -4) (by decide +kernel) (by decide) ?_
          refine tt_icmp_ne (off := 20) 112 (by decide +kernel) (by decide) (fun c => ?_) (fun c => ?_)
          · exact absurd c (by decide)
          · refine tt_aload_n (k0 := 0) (by decide +kernel) rfl ?_
            refine tt_getR (k := 15) (by decide +kernel) KC_11 (by decide) w_880 (fun _ => rfl) f2 f15 ?_
            refine tt_iload_n (k0 := 2) (by decide +kernel) rfl ?_
            obtain ⟨g2, h⟩ := h
            refine tt_iald (by decide +kernel) f17 g2 ?_
            refine tt_iconst (n := 3) (v := 3) (by decide +kernel) (by decide) ?_
            refine tt_icmp_ge (off := 10) 112 (by decide +kernel) (by decide) (fun c => ?_) (fun c => ?_)
            · have h := h.1 c
              refine tt_aload_n (k0 := 0) (by decide +kernel) rfl ?_
              refine tt_iload_n (k0 := 1) (by decide +kernel) rfl ?_
              refine tt_iconst (n := 0) (v := 0) (by decide +kernel) (by decide) ?_
              refine tt_callV (As := [.int x1, .int 0]) (rest := []) (ci := 11) (r0 := (R_11, F_11, 55)) (by decide +kernel) LK_M_take w_1245 w_1247 (in_p (n := 55) 62 rfl) (by decide) (by decide) rfl rfl (Nat.le_of_ble_eq_true rfl) rfl rfl f2 (ct_mono h (fun r S28 h => ?_))
              obtain ⟨hm2, h⟩ := h
              obtain ⟨rfl, h⟩ := h
              show T G J_M_receive 118 [(0, .ref a0), (1, .int x1), (2, .int y7), (3, .int r8), (4, .int y13), (5, .int ((-4)))] [] S28 _
              have hm := hm.tr hm2
              have f2 : te S28 a0 = some (.inr 11) := by rw [hm2.1]; exact f2
              have f4 : tR S28 a0 24 = some b3 := by rw [hm2.R]; exact f4
              have f6 : te S28 b3 = some (.inl (.int, n5)) := by rw [hm2.1]; exact f6
              have f10 : tR S28 a0 22 = some b9 := by rw [hm2.R]; exact f10
              have f12 : te S28 b9 = some (.inl (.byte, n11)) := by rw [hm2.1]; exact f12
              have f15 : tR S28 a0 15 = some b14 := by rw [hm2.R]; exact f15
              have f17 : te S28 b14 = some (.inl (.int, n16)) := by rw [hm2.1]; exact f17
              refine tt_iload (k0 := 5) (by decide +kernel) rfl ?_
              refine tt_bipush (n := -4) (v := -4) (by decide +kernel) (by decide) ?_
              refine tt_icmp_ne (off := 8) 130 (by decide +kernel) (by decide) (fun c => ?_) (fun c => ?_)
              · exact absurd c (by decide)
              · refine tt_bipush (n := -4) (v := -4) (by decide +kernel) (by decide) ?_
                refine tt_goto (off := 5) (tgt := 132) (by decide +kernel) (by decide) ?_
                exact tt_iret (by decide +kernel) rfl ⟨hm, h⟩
            · have h := h.2 c
              refine tt_aload_n (k0 := 0) (by decide +kernel) rfl ?_
              refine tt_getR (k := 15) (by decide +kernel) KC_11 (by decide) w_880 (fun _ => rfl) f2 f15 ?_
              refine tt_iload_n (k0 := 2) (by decide +kernel) rfl ?_
              refine tt_iconst (n := 4) (v := 4) (by decide +kernel) (by decide) ?_
              obtain ⟨g2, h⟩ := h
              refine tt_iast (by decide +kernel) f17 g2 ?_
              generalize eS29 : sI S b14 (upd (tI S b14) y7.toNatClampNeg 4) = S29
              have h := h S29 eS29.symm
              have hm : Sm0 S S29 := by rw [← eS29]; exact hm.I
              have f2 : te S29 a0 = some (.inr 11) := by rw [← eS29, te_sI]; exact f2
              have f4 : tR S29 a0 24 = some b3 := by rw [← eS29, tR_sI]; exact f4
              have f6 : te S29 b3 = some (.inl (.int, n5)) := by rw [← eS29, te_sI]; exact f6
              have f10 : tR S29 a0 22 = some b9 := by rw [← eS29, tR_sI]; exact f10
              have f12 : te S29 b9 = some (.inl (.byte, n11)) := by rw [← eS29, te_sI]; exact f12
              have f15 : tR S29 a0 15 = some b14 := by rw [← eS29, tR_sI]; exact f15
              have f17 : te S29 b14 = some (.inl (.int, n16)) := by rw [← eS29, te_sI]; exact f17
              refine tt_aload_n (k0 := 0) (by decide +kernel) rfl ?_
              refine tt_iload_n (k0 := 1) (by decide +kernel) rfl ?_
              refine tt_iconst (n := 0) (v := 0) (by decide +kernel) (by decide) ?_
              refine tt_callV (As := [.int x1, .int 0]) (rest := []) (ci := 11) (r0 := (R_11, F_11, 55)) (by decide +kernel) LK_M_take w_1245 w_1247 (in_p (n := 55) 62 rfl) (by decide) (by decide) rfl rfl (Nat.le_of_ble_eq_true rfl) rfl rfl f2 (ct_mono h (fun r S30 h => ?_))
              obtain ⟨hm2, h⟩ := h
              obtain ⟨rfl, h⟩ := h
              show T G J_M_receive 118 [(0, .ref a0), (1, .int x1), (2, .int y7), (3, .int r8), (4, .int y13), (5, .int ((-4)))] [] S30 _
              have hm := hm.tr hm2
              have f2 : te S30 a0 = some (.inr 11) := by rw [hm2.1]; exact f2
              have f4 : tR S30 a0 24 = some b3 := by rw [hm2.R]; exact f4
              have f6 : te S30 b3 = some (.inl (.int, n5)) := by rw [hm2.1]; exact f6
              have f10 : tR S30 a0 22 = some b9 := by rw [hm2.R]; exact f10
              have f12 : te S30 b9 = some (.inl (.byte, n11)) := by rw [hm2.1]; exact f12
              have f15 : tR S30 a0 15 = some b14 := by rw [hm2.R]; exact f15
              have f17 : te S30 b14 = some (.inl (.int, n16)) := by rw [hm2.1]; exact f17
              refine tt_iload (k0 := 5) (by decide +kernel) rfl ?_
              refine tt_bipush (n := -4) (v := -4) (by decide +kernel) (by decide) ?_
              refine tt_icmp_ne (off := 8) 130 (by decide +kernel) (by decide) (fun c => ?_) (fun c => ?_)
              · exact absurd c (by decide)
              · refine tt_bipush (n := -4) (v := -4) (by decide +kernel) (by decide) ?_
                refine tt_goto (off := 5) (tgt := 132) (by decide +kernel) (by decide) ?_
                exact tt_iret (by decide +kernel) rfl ⟨hm, h⟩
        · exact absurd c (by decide)
    · have h := h.2 c
      refine tt_bipush (n := -2) (v := -2) (by decide +kernel) (by decide) ?_
      exact tt_iret (by decide +kernel) rfl ⟨hm, h⟩
  · have h := h.2 c
    refine tt_iconst (n := -1) (v := -1) (by decide +kernel) (by decide) ?_
    exact tt_iret (by decide +kernel) rfl ⟨hm, h⟩
set_option maxRecDepth 100000 in
theorem v_M_handle {G : pG} (a0 : Nat) (x1 : Int32) (x2 : Int32) (x3 : Int32) (S : TS) (Q : Option Value → TS → Prop)
    (h : ((x3 < 0 → T0 G J_M_handle 36 [(0, .ref a0), (1, .int x1), (2, .int x2), (3, .int x3)] [] S Q) ∧ (¬ (x3 < 0) → te S a0 = some (.inr 11) ∧ ∃ b2 : Nat, tR S a0 22 = some b2 ∧ ∃ n4 : Nat, te S b2 = some (.inl (.byte, n4)) ∧ vp_in (x2 + (1 : Int32)) n4 ∧ vp_in (x2 + (2 : Int32)) n4 ∧ ((x3 = (((tI S b2 (x2 + (1 : Int32)).toNatClampNeg) &&& (255 : Int32)) <<< ((8 : Int32) &&& 31)) ||| ((tI S b2 (x2 + (2 : Int32)).toNatClampNeg) &&& (255 : Int32)) → T0 G J_M_handle 39 [(0, .ref a0), (1, .int x1), (2, .int x2), (3, .int x3)] [] S Q) ∧ (¬ (x3 = (((tI S b2 (x2 + (1 : Int32)).toNatClampNeg) &&& (255 : Int32)) <<< ((8 : Int32) &&& 31)) ||| ((tI S b2 (x2 + (2 : Int32)).toNatClampNeg) &&& (255 : Int32))) → T0 G J_M_handle 36 [(0, .ref a0), (1, .int x1), (2, .int x2), (3, .int x3)] [] S Q))))) :
    C0 G J_M_handle [.ref a0, .int x1, .int x2, .int x3] S Q := by
  unfold C0
  refine ct_of (by decide +kernel) (Nat.le_of_ble_eq_true rfl) (lv := [(0, .ref a0), (1, .int x1), (2, .int x2), (3, .int x3)]) rfl ?_
  have hm : Sm0 S S := Sm0.rf S
  refine tt_iload_n (k0 := 3) (by decide +kernel) rfl ?_
  refine tt_if_lt (off := 35) 36 (by decide +kernel) (by decide) (fun c => ?_) (fun c => ?_)
  · have h := h.1 c
    exact tt_mono h (fun r S' q => ⟨hm.tr q.1, q.2⟩)
  · have h := h.2 c
    refine tt_iload_n (k0 := 3) (by decide +kernel) rfl ?_
    refine tt_aload_n (k0 := 0) (by decide +kernel) rfl ?_
    obtain ⟨f1, h⟩ := h
    obtain ⟨b2, f3, h⟩ := h
    refine tt_getR (k := 22) (by decide +kernel) KC_11 (by decide) w_887 (fun _ => rfl) f1 f3 ?_
    refine tt_iload_n (k0 := 2) (by decide +kernel) rfl ?_
    refine tt_iconst (n := 1) (v := 1) (by decide +kernel) (by decide) ?_
    refine tt_iadd (by decide +kernel) ?_
    obtain ⟨n4, f5, h⟩ := h
    obtain ⟨g2, h⟩ := h
    refine tt_bald (by decide +kernel) f5 g2 ?_
    refine tt_sipush (n := 255) (v := 255) (by decide +kernel) (by decide) ?_
    refine tt_iand (by decide +kernel) ?_
    refine tt_bipush (n := 8) (v := 8) (by decide +kernel) (by decide) ?_
    refine tt_ishl (by decide +kernel) ?_
    refine tt_aload_n (k0 := 0) (by decide +kernel) rfl ?_
    refine tt_getR (k := 22) (by decide +kernel) KC_11 (by decide) w_887 (fun _ => rfl) f1 f3 ?_
    refine tt_iload_n (k0 := 2) (by decide +kernel) rfl ?_
    refine tt_iconst (n := 2) (v := 2) (by decide +kernel) (by decide) ?_
    refine tt_iadd (by decide +kernel) ?_
    obtain ⟨g2, h⟩ := h
    refine tt_bald (by decide +kernel) f5 g2 ?_
    refine tt_sipush (n := 255) (v := 255) (by decide +kernel) (by decide) ?_
    refine tt_iand (by decide +kernel) ?_
    refine tt_ior (by decide +kernel) ?_
    refine tt_icmp_eq (off := 6) 39 (by decide +kernel) (by decide) (fun c => ?_) (fun c => ?_)
    · have h := h.1 c
      exact tt_mono h (fun r S' q => ⟨hm.tr q.1, q.2⟩)
    · have h := h.2 c
      exact tt_mono h (fun r S' q => ⟨hm.tr q.1, q.2⟩)
set_option maxRecDepth 100000 in
theorem v_M_handle_36 {G : pG} (a0 : Nat) (x1 : Int32) (x2 : Int32) (x3 : Int32) (S : TS) (Q : Option Value → TS → Prop)
    (h : Q (some (.int ((-4)))) S) :
    T0 G J_M_handle 36 [(0, .ref a0), (1, .int x1), (2, .int x2), (3, .int x3)] [] S Q := by
  unfold T0
  have hm : Sm0 S S := Sm0.rf S
  refine tt_bipush (n := -4) (v := -4) (by decide +kernel) (by decide) ?_
  exact tt_iret (by decide +kernel) rfl ⟨hm, h⟩
set_option maxRecDepth 100000 in
theorem v_M_handle_39 {G : pG} (a0 : Nat) (x1 : Int32) (x2 : Int32) (x3 : Int32) (S : TS) (Q : Option Value → TS → Prop)
    (h : te S a0 = some (.inr 11) ∧ ∃ b2 : Nat, tR S a0 22 = some b2 ∧ ∃ n4 : Nat, te S b2 = some (.inl (.byte, n4)) ∧ vp_in x2 n4 ∧ ∀ y6 : Int32, y6 = tI S b2 x2.toNatClampNeg → ((¬ x1 = 1 → T0 G J_M_handle 74 [(0, .ref a0), (1, .int x1), (2, .int x2), (3, .int x3), (4, .int y6)] [] S Q) ∧ (x1 = 1 → ∃ b7 : Nat, tR S a0 15 = some b7 ∧ ∃ n9 : Nat, te S b7 = some (.inl (.int, n9)) ∧ vp_in 1 n9 ∧ ((¬ tI S b7 1 = 0 → T0 G J_M_handle 74 [(0, .ref a0), (1, .int x1), (2, .int x2), (3, .int x3), (4, .int y6)] [] S Q) ∧ (tI S b7 1 = 0 → ((¬ y6 = 1 → T0 G J_M_handle 74 [(0, .ref a0), (1, .int x1), (2, .int x2), (3, .int x3), (4, .int y6)] [] S Q) ∧ (y6 = 1 → C0 G J_M_greeted [.ref a0, .int x2, .int x3] S (fun r S11 => ∃ r12 : Int32, r = some (.int r12) ∧ Q (some (.int r12)) S11)))))))) :
    T0 G J_M_handle 39 [(0, .ref a0), (1, .int x1), (2, .int x2), (3, .int x3)] [] S Q := by
  unfold T0
  have hm : Sm0 S S := Sm0.rf S
  refine tt_aload_n (k0 := 0) (by decide +kernel) rfl ?_
  obtain ⟨f1, h⟩ := h
  obtain ⟨b2, f3, h⟩ := h
  refine tt_getR (k := 22) (by decide +kernel) KC_11 (by decide) w_887 (fun _ => rfl) f1 f3 ?_
  refine tt_iload_n (k0 := 2) (by decide +kernel) rfl ?_
  obtain ⟨n4, f5, h⟩ := h
  obtain ⟨g2, h⟩ := h
  refine tt_bald (by decide +kernel) f5 g2 ?_
  refine tt_topi (fun y6 ey6 => ?_)
  have h := h y6 ey6
  refine tt_istore (k0 := 4) (lv' := [(0, .ref a0), (1, .int x1), (2, .int x2), (3, .int x3), (4, .int y6)]) (by decide +kernel) (by decide) rfl ?_
  refine tt_iload_n (k0 := 1) (by decide +kernel) rfl ?_
  refine tt_iconst (n := 1) (v := 1) (by decide +kernel) (by decide) ?_
  refine tt_icmp_ne (off := 25) 74 (by decide +kernel) (by decide) (fun c => ?_) (fun c => ?_)
  · have h := h.1 c
    exact tt_mono h (fun r S' q => ⟨hm.tr q.1, q.2⟩)
  · have h := h.2 c
    refine tt_aload_n (k0 := 0) (by decide +kernel) rfl ?_
    obtain ⟨b7, f8, h⟩ := h
    refine tt_getR (k := 15) (by decide +kernel) KC_11 (by decide) w_880 (fun _ => rfl) f1 f8 ?_
    refine tt_iconst (n := 1) (v := 1) (by decide +kernel) (by decide) ?_
    obtain ⟨n9, f10, h⟩ := h
    obtain ⟨g2, h⟩ := h
    refine tt_iald (by decide +kernel) f10 g2 ?_
    show T G J_M_handle 58 [(0, .ref a0), (1, .int x1), (2, .int x2), (3, .int x3), (4, .int y6)] [.int (tI S b7 1)] S _
    refine tt_if_ne (off := 16) 74 (by decide +kernel) (by decide) (fun c => ?_) (fun c => ?_)
    · have h := h.1 c
      exact tt_mono h (fun r S' q => ⟨hm.tr q.1, q.2⟩)
    · have h := h.2 c
      refine tt_iload (k0 := 4) (by decide +kernel) rfl ?_
      refine tt_iconst (n := 1) (v := 1) (by decide +kernel) (by decide) ?_
      refine tt_icmp_ne (off := 10) 74 (by decide +kernel) (by decide) (fun c => ?_) (fun c => ?_)
      · have h := h.1 c
        exact tt_mono h (fun r S' q => ⟨hm.tr q.1, q.2⟩)
      · have h := h.2 c
        refine tt_aload_n (k0 := 0) (by decide +kernel) rfl ?_
        refine tt_iload_n (k0 := 2) (by decide +kernel) rfl ?_
        refine tt_iload_n (k0 := 3) (by decide +kernel) rfl ?_
        refine tt_callV (As := [.int x2, .int x3]) (rest := []) (ci := 11) (r0 := (R_11, F_11, 55)) (by decide +kernel) LK_M_greeted w_1198 w_1200 (in_p (n := 55) 51 rfl) (by decide) (by decide) rfl rfl (Nat.le_of_ble_eq_true rfl) rfl rfl f1 (ct_mono h (fun r S11 h => ?_))
        obtain ⟨hm2, h⟩ := h
        obtain ⟨r12, rfl, h⟩ := h
        show T G J_M_handle 73 [(0, .ref a0), (1, .int x1), (2, .int x2), (3, .int x3), (4, .int y6)] [.int r12] S11 _
        have hm := hm.tr hm2
        have f1 : te S11 a0 = some (.inr 11) := by rw [hm2.1]; exact f1
        have f3 : tR S11 a0 22 = some b2 := by rw [hm2.R]; exact f3
        have f5 : te S11 b2 = some (.inl (.byte, n4)) := by rw [hm2.1]; exact f5
        have f8 : tR S11 a0 15 = some b7 := by rw [hm2.R]; exact f8
        have f10 : te S11 b7 = some (.inl (.int, n9)) := by rw [hm2.1]; exact f10
        exact tt_iret (by decide +kernel) rfl ⟨hm, h⟩
set_option maxRecDepth 100000 in
theorem v_M_handle_74 {G : pG} (a0 : Nat) (x1 : Int32) (x2 : Int32) (x3 : Int32) (x4 : Int32) (S : TS) (Q : Option Value → TS → Prop)
    (h : ((¬ x1 = 0 → T0 G J_M_handle 101 [(0, .ref a0), (1, .int x1), (2, .int x2), (3, .int x3), (4, .int x4)] [] S Q) ∧ (x1 = 0 → te S a0 = some (.inr 11) ∧ ∃ b2 : Nat, tR S a0 15 = some b2 ∧ ∃ n4 : Nat, te S b2 = some (.inl (.int, n4)) ∧ vp_in 0 n4 ∧ ((¬ tI S b2 0 = 1 → T0 G J_M_handle 101 [(0, .ref a0), (1, .int x1), (2, .int x2), (3, .int x3), (4, .int x4)] [] S Q) ∧ (tI S b2 0 = 1 → ((¬ x4 = 2 → T0 G J_M_handle 101 [(0, .ref a0), (1, .int x1), (2, .int x2), (3, .int x3), (4, .int x4)] [] S Q) ∧ (x4 = 2 → C0 G J_M_answered [.ref a0, .int x2, .int x3] S (fun r S6 => ∃ r7 : Int32, r = some (.int r7) ∧ Q (some (.int r7)) S6)))))))) :
    T0 G J_M_handle 74 [(0, .ref a0), (1, .int x1), (2, .int x2), (3, .int x3), (4, .int x4)] [] S Q := by
  unfold T0
  have hm : Sm0 S S := Sm0.rf S
  refine tt_iload_n (k0 := 1) (by decide +kernel) rfl ?_
  refine tt_if_ne (off := 26) 101 (by decide +kernel) (by decide) (fun c => ?_) (fun c => ?_)
  · have h := h.1 c
    exact tt_mono h (fun r S' q => ⟨hm.tr q.1, q.2⟩)
  · have h := h.2 c
    refine tt_aload_n (k0 := 0) (by decide +kernel) rfl ?_
    obtain ⟨f1, h⟩ := h
    obtain ⟨b2, f3, h⟩ := h
    refine tt_getR (k := 15) (by decide +kernel) KC_11 (by decide) w_880 (fun _ => rfl) f1 f3 ?_
    refine tt_iconst (n := 0) (v := 0) (by decide +kernel) (by decide) ?_
    obtain ⟨n4, f5, h⟩ := h
    obtain ⟨g2, h⟩ := h
    refine tt_iald (by decide +kernel) f5 g2 ?_
    show T G J_M_handle 84 [(0, .ref a0), (1, .int x1), (2, .int x2), (3, .int x3), (4, .int x4)] [.int (tI S b2 0)] S _
    refine tt_iconst (n := 1) (v := 1) (by decide +kernel) (by decide) ?_
    refine tt_icmp_ne (off := 16) 101 (by decide +kernel) (by decide) (fun c => ?_) (fun c => ?_)
    · have h := h.1 c
      exact tt_mono h (fun r S' q => ⟨hm.tr q.1, q.2⟩)
    · have h := h.2 c
      refine tt_iload (k0 := 4) (by decide +kernel) rfl ?_
      refine tt_iconst (n := 2) (v := 2) (by decide +kernel) (by decide) ?_
      refine tt_icmp_ne (off := 10) 101 (by decide +kernel) (by decide) (fun c => ?_) (fun c => ?_)
      · have h := h.1 c
        exact tt_mono h (fun r S' q => ⟨hm.tr q.1, q.2⟩)
      · have h := h.2 c
        refine tt_aload_n (k0 := 0) (by decide +kernel) rfl ?_
        refine tt_iload_n (k0 := 2) (by decide +kernel) rfl ?_
        refine tt_iload_n (k0 := 3) (by decide +kernel) rfl ?_
        refine tt_callV (As := [.int x2, .int x3]) (rest := []) (ci := 11) (r0 := (R_11, F_11, 55)) (by decide +kernel) LK_M_answered w_1206 w_1208 (in_p (n := 55) 53 rfl) (by decide) (by decide) rfl rfl (Nat.le_of_ble_eq_true rfl) rfl rfl f1 (ct_mono h (fun r S6 h => ?_))
        obtain ⟨hm2, h⟩ := h
        obtain ⟨r7, rfl, h⟩ := h
        show T G J_M_handle 100 [(0, .ref a0), (1, .int x1), (2, .int x2), (3, .int x3), (4, .int x4)] [.int r7] S6 _
        have hm := hm.tr hm2
        have f1 : te S6 a0 = some (.inr 11) := by rw [hm2.1]; exact f1
        have f3 : tR S6 a0 15 = some b2 := by rw [hm2.R]; exact f3
        have f5 : te S6 b2 = some (.inl (.int, n4)) := by rw [hm2.1]; exact f5
        exact tt_iret (by decide +kernel) rfl ⟨hm, h⟩
set_option maxRecDepth 100000 in
theorem v_M_handle_101 {G : pG} (a0 : Nat) (x1 : Int32) (x2 : Int32) (x3 : Int32) (x4 : Int32) (S : TS) (Q : Option Value → TS → Prop)
    (h : ((¬ x1 = 1 → T0 G J_M_handle 160 [(0, .ref a0), (1, .int x1), (2, .int x2), (3, .int x3), (4, .int x4)] [] S Q) ∧ (x1 = 1 → te S a0 = some (.inr 11) ∧ ∃ b2 : Nat, tR S a0 15 = some b2 ∧ ∃ n4 : Nat, te S b2 = some (.inl (.int, n4)) ∧ vp_in 1 n4 ∧ ((¬ tI S b2 1 = 1 → T0 G J_M_handle 160 [(0, .ref a0), (1, .int x1), (2, .int x2), (3, .int x3), (4, .int x4)] [] S Q) ∧ (tI S b2 1 = 1 → ((¬ x4 = 3 → T0 G J_M_handle 160 [(0, .ref a0), (1, .int x1), (2, .int x2), (3, .int x3), (4, .int x4)] [] S Q) ∧ (x4 = 3 → ((¬ x3 = 32 → T0 G J_M_handle 146 [(0, .ref a0), (1, .int x1), (2, .int x2), (3, .int x3), (4, .int x4)] [] S Q) ∧ (x3 = 32 → ∃ b6 : Nat, tR S a0 18 = some b6 ∧ ∃ b8 : Nat, tR S a0 22 = some b8 ∧ CP G J_M_same [.ref b6, .int 0, .ref b8, .int (x2 + (3 : Int32))] S (fun r => ∃ r10 : Int32, r = some (.int r10) ∧ ((¬ r10 = 0 → T0 G J_M_handle 149 [(0, .ref a0), (1, .int x1), (2, .int x2), (3, .int x3), (4, .int x4)] [] S Q) ∧ (r10 = 0 → T0 G J_M_handle 146 [(0, .ref a0), (1, .int x1), (2, .int x2), (3, .int x3), (4, .int x4)] [] S Q)))))))))))) :
    T0 G J_M_handle 101 [(0, .ref a0), (1, .int x1), (2, .int x2), (3, .int x3), (4, .int x4)] [] S Q := by
  unfold T0
  have hm : Sm0 S S := Sm0.rf S
  refine tt_iload_n (k0 := 1) (by decide +kernel) rfl ?_
  refine tt_iconst (n := 1) (v := 1) (by decide +kernel) (by decide) ?_
  refine tt_icmp_ne (off := 57) 160 (by decide +kernel) (by decide) (fun c => ?_) (fun c => ?_)
  · have h := h.1 c
    exact tt_mono h (fun r S' q => ⟨hm.tr q.1, q.2⟩)
  · have h := h.2 c
    refine tt_aload_n (k0 := 0) (by decide +kernel) rfl ?_
    obtain ⟨f1, h⟩ := h
    obtain ⟨b2, f3, h⟩ := h
    refine tt_getR (k := 15) (by decide +kernel) KC_11 (by decide) w_880 (fun _ => rfl) f1 f3 ?_
    refine tt_iconst (n := 1) (v := 1) (by decide +kernel) (by decide) ?_
    obtain ⟨n4, f5, h⟩ := h
    obtain ⟨g2, h⟩ := h
    refine tt_iald (by decide +kernel) f5 g2 ?_
    show T G J_M_handle 112 [(0, .ref a0), (1, .int x1), (2, .int x2), (3, .int x3), (4, .int x4)] [.int (tI S b2 1)] S _
    refine tt_iconst (n := 1) (v := 1) (by decide +kernel) (by decide) ?_
    refine tt_icmp_ne (off := 47) 160 (by decide +kernel) (by decide) (fun c => ?_) (fun c => ?_)
    · have h := h.1 c
      exact tt_mono h (fun r S' q => ⟨hm.tr q.1, q.2⟩)
    · have h := h.2 c
      refine tt_iload (k0 := 4) (by decide +kernel) rfl ?_
      refine tt_iconst (n := 3) (v := 3) (by decide +kernel) (by decide) ?_
      refine tt_icmp_ne (off := 41) 160 (by decide +kernel) (by decide) (fun c => ?_) (fun c => ?_)
      · have h := h.1 c
        exact tt_mono h (fun r S' q => ⟨hm.tr q.1, q.2⟩)
      · have h := h.2 c
        refine tt_iload_n (k0 := 3) (by decide +kernel) rfl ?_
        refine tt_bipush (n := 32) (v := 32) (by decide +kernel) (by decide) ?_
        refine tt_icmp_ne (off := 21) 146 (by decide +kernel) (by decide) (fun c => ?_) (fun c => ?_)
        · have h := h.1 c
          exact tt_mono h (fun r S' q => ⟨hm.tr q.1, q.2⟩)
        · have h := h.2 c
          refine tt_aload_n (k0 := 0) (by decide +kernel) rfl ?_
          obtain ⟨b6, f7, h⟩ := h
          refine tt_getR (k := 18) (by decide +kernel) KC_11 (by decide) w_883 (fun _ => rfl) f1 f7 ?_
          refine tt_iconst (n := 0) (v := 0) (by decide +kernel) (by decide) ?_
          refine tt_aload_n (k0 := 0) (by decide +kernel) rfl ?_
          obtain ⟨b8, f9, h⟩ := h
          refine tt_getR (k := 22) (by decide +kernel) KC_11 (by decide) w_887 (fun _ => rfl) f1 f9 ?_
          refine tt_iload_n (k0 := 2) (by decide +kernel) rfl ?_
          refine tt_iconst (n := 3) (v := 3) (by decide +kernel) (by decide) ?_
          refine tt_iadd (by decide +kernel) ?_
          refine tt_callS (As := [.ref b6, .int 0, .ref b8, .int (x2 + (3 : Int32))]) (rest := []) (by decide +kernel) LK_M_same w_1210 w_1211 (by decide) (by decide) rfl rfl (Nat.le_of_ble_eq_true rfl) (ct_mono h (fun r Sb h => ?_))
          obtain ⟨eb, h⟩ := h
          obtain ⟨r10, rfl, h⟩ := h
          rw [eb]
          show T G J_M_handle 143 [(0, .ref a0), (1, .int x1), (2, .int x2), (3, .int x3), (4, .int x4)] [.int r10] S _
          refine tt_if_ne (off := 6) 149 (by decide +kernel) (by decide) (fun c => ?_) (fun c => ?_)
          · have h := h.1 c
            exact tt_mono h (fun r S' q => ⟨hm.tr q.1, q.2⟩)
          · have h := h.2 c
            exact tt_mono h (fun r S' q => ⟨hm.tr q.1, q.2⟩)
set_option maxRecDepth 100000 in
theorem v_M_handle_160 {G : pG} (a0 : Nat) (x1 : Int32) (x2 : Int32) (x3 : Int32) (x4 : Int32) (S : TS) (Q : Option Value → TS → Prop)
    (h : te S a0 = some (.inr 11) ∧ ∃ b2 : Nat, tR S a0 15 = some b2 ∧ ∃ n4 : Nat, te S b2 = some (.inl (.int, n4)) ∧ vp_in x1 n4 ∧ ((¬ tI S b2 x1.toNatClampNeg = 2 → T0 G J_M_handle 186 [(0, .ref a0), (1, .int x1), (2, .int x2), (3, .int x3), (4, .int x4)] [] S Q) ∧ (tI S b2 x1.toNatClampNeg = 2 → ((¬ x4 = 4 → T0 G J_M_handle 186 [(0, .ref a0), (1, .int x1), (2, .int x2), (3, .int x3), (4, .int x4)] [] S Q) ∧ (x4 = 4 → C0 G J_M_sealed [.ref a0, .int x1, .int x2, .int x3] S (fun r S6 => ∃ r7 : Int32, r = some (.int r7) ∧ Q (some (.int r7)) S6)))))) :
    T0 G J_M_handle 160 [(0, .ref a0), (1, .int x1), (2, .int x2), (3, .int x3), (4, .int x4)] [] S Q := by
  unfold T0
  have hm : Sm0 S S := Sm0.rf S
  refine tt_aload_n (k0 := 0) (by decide +kernel) rfl ?_
  obtain ⟨f1, h⟩ := h
  obtain ⟨b2, f3, h⟩ := h
  refine tt_getR (k := 15) (by decide +kernel) KC_11 (by decide) w_880 (fun _ => rfl) f1 f3 ?_
  refine tt_iload_n (k0 := 1) (by decide +kernel) rfl ?_
  obtain ⟨n4, f5, h⟩ := h
  obtain ⟨g2, h⟩ := h
  refine tt_iald (by decide +kernel) f5 g2 ?_
  refine tt_iconst (n := 2) (v := 2) (by decide +kernel) (by decide) ?_
  refine tt_icmp_ne (off := 19) 186 (by decide +kernel) (by decide) (fun c => ?_) (fun c => ?_)
  · have h := h.1 c
    exact tt_mono h (fun r S' q => ⟨hm.tr q.1, q.2⟩)
  · have h := h.2 c
    refine tt_iload (k0 := 4) (by decide +kernel) rfl ?_
    refine tt_iconst (n := 4) (v := 4) (by decide +kernel) (by decide) ?_
    refine tt_icmp_ne (off := 13) 186 (by decide +kernel) (by decide) (fun c => ?_) (fun c => ?_)
    · have h := h.1 c
      exact tt_mono h (fun r S' q => ⟨hm.tr q.1, q.2⟩)
    · have h := h.2 c
      refine tt_aload_n (k0 := 0) (by decide +kernel) rfl ?_
      refine tt_iload_n (k0 := 1) (by decide +kernel) rfl ?_
      refine tt_iload_n (k0 := 2) (by decide +kernel) rfl ?_
      refine tt_iload_n (k0 := 3) (by decide +kernel) rfl ?_
      refine tt_callV (As := [.int x1, .int x2, .int x3]) (rest := []) (ci := 11) (r0 := (R_11, F_11, 55)) (by decide +kernel) LK_M_sealed w_1217 w_1219 (in_p (n := 55) 55 rfl) (by decide) (by decide) rfl rfl (Nat.le_of_ble_eq_true rfl) rfl rfl f1 (ct_mono h (fun r S6 h => ?_))
      obtain ⟨hm2, h⟩ := h
      obtain ⟨r7, rfl, h⟩ := h
      show T G J_M_handle 183 [(0, .ref a0), (1, .int x1), (2, .int x2), (3, .int x3), (4, .int x4)] [.int r7] S6 _
      have hm := hm.tr hm2
      have f1 : te S6 a0 = some (.inr 11) := by rw [hm2.1]; exact f1
      have f3 : tR S6 a0 15 = some b2 := by rw [hm2.R]; exact f3
      have f5 : te S6 b2 = some (.inl (.int, n4)) := by rw [hm2.1]; exact f5
      refine tt_goto (off := 5) (tgt := 188) (by decide +kernel) (by decide) ?_
      exact tt_iret (by decide +kernel) rfl ⟨hm, h⟩
set_option maxRecDepth 100000 in
theorem v_M_handle_146 {G : pG} (a0 : Nat) (x1 : Int32) (x2 : Int32) (x3 : Int32) (x4 : Int32) (S : TS) (Q : Option Value → TS → Prop)
    (h : Q (some (.int ((-4)))) S) :
    T0 G J_M_handle 146 [(0, .ref a0), (1, .int x1), (2, .int x2), (3, .int x3), (4, .int x4)] [] S Q := by
  unfold T0
  have hm : Sm0 S S := Sm0.rf S
  refine tt_bipush (n := -4) (v := -4) (by decide +kernel) (by decide) ?_
  exact tt_iret (by decide +kernel) rfl ⟨hm, h⟩
set_option maxRecDepth 100000 in
theorem v_M_handle_149 {G : pG} (a0 : Nat) (x1 : Int32) (x2 : Int32) (x3 : Int32) (x4 : Int32) (S : TS) (Q : Option Value → TS → Prop)
    (h : te S a0 = some (.inr 11) ∧ ∃ b2 : Nat, tR S a0 50 = some b2 ∧ C0 G J_M_opens [.ref a0, .int 1, .ref b2] S (fun r S4 => r = none ∧ Q (some (.int 0)) S4)) :
    T0 G J_M_handle 149 [(0, .ref a0), (1, .int x1), (2, .int x2), (3, .int x3), (4, .int x4)] [] S Q := by
  unfold T0
  have hm : Sm0 S S := Sm0.rf S
  refine tt_aload_n (k0 := 0) (by decide +kernel) rfl ?_
  refine tt_iconst (n := 1) (v := 1) (by decide +kernel) (by decide) ?_
  refine tt_aload_n (k0 := 0) (by decide +kernel) rfl ?_
  obtain ⟨f1, h⟩ := h
  obtain ⟨b2, f3, h⟩ := h
  refine tt_getR (k := 50) (by decide +kernel) KC_11 (by decide) w_915 (fun _ => rfl) f1 f3 ?_
  refine tt_callV (As := [.int 1, .ref b2]) (rest := []) (ci := 11) (r0 := (R_11, F_11, 55)) (by decide +kernel) LK_M_opens w_1213 w_1215 (in_p (n := 55) 54 rfl) (by decide) (by decide) rfl rfl (Nat.le_of_ble_eq_true rfl) rfl rfl f1 (ct_mono h (fun r S4 h => ?_))
  obtain ⟨hm2, h⟩ := h
  obtain ⟨rfl, h⟩ := h
  show T G J_M_handle 158 [(0, .ref a0), (1, .int x1), (2, .int x2), (3, .int x3), (4, .int x4)] [] S4 _
  have hm := hm.tr hm2
  have f1 : te S4 a0 = some (.inr 11) := by rw [hm2.1]; exact f1
  have f3 : tR S4 a0 50 = some b2 := by rw [hm2.R]; exact f3
  refine tt_iconst (n := 0) (v := 0) (by decide +kernel) (by decide) ?_
  exact tt_iret (by decide +kernel) rfl ⟨hm, h⟩
set_option maxRecDepth 100000 in
theorem v_M_handle_186 {G : pG} (a0 : Nat) (x1 : Int32) (x2 : Int32) (x3 : Int32) (x4 : Int32) (S : TS) (Q : Option Value → TS → Prop)
    (h : Q (some (.int ((-4)))) S) :
    T0 G J_M_handle 186 [(0, .ref a0), (1, .int x1), (2, .int x2), (3, .int x3), (4, .int x4)] [] S Q := by
  unfold T0
  have hm : Sm0 S S := Sm0.rf S
  refine tt_bipush (n := -4) (v := -4) (by decide +kernel) (by decide) ?_
  exact tt_iret (by decide +kernel) rfl ⟨hm, h⟩
set_option maxRecDepth 100000 in
theorem v_M_greeted {G : pG} (a0 : Nat) (x1 : Int32) (x2 : Int32) (S : TS) (Q : Option Value → TS → Prop)
    (h : te S a0 = some (.inr 11) ∧ ∃ b2 : Nat, tR S a0 22 = some b2 ∧ ∃ n4 : Nat, te S b2 = some (.inl (.byte, n4)) ∧ vp_in (x1 + (35 : Int32)) n4 ∧ ∀ y6 : Int32, y6 = tI S b2 (x1 + (35 : Int32)).toNatClampNeg → ((¬ x2 = 33 → Q (some (.int ((-4)))) S) ∧ (x2 = 33 → ((y6 < 0 → Q (some (.int ((-4)))) S) ∧ (¬ (y6 < 0) → ((7 < y6 → Q (some (.int ((-4)))) S) ∧ (¬ (7 < y6) → ∃ b7 : Nat, tR S a0 13 = some b7 ∧ ∃ n9 : Nat, te S b7 = some (.inl (.boolean, n9)) ∧ vp_in ((8 : Int32) + y6) n9 ∧ ((¬ tI S b7 ((8 : Int32) + y6).toNatClampNeg = 0 → CP G J_M_full [.ref a0, .int 1] S (fun r => ∃ r11 : Int32, r = some (.int r11) ∧ ((r11 = 0 → T0 G J_M_greeted 55 [(0, .ref a0), (1, .int x1), (2, .int x2), (3, .int y6), (4, .int 0)] [] S Q) ∧ (¬ (r11 = 0) → Q (some (.int ((-3)))) S)))) ∧ (tI S b7 ((8 : Int32) + y6).toNatClampNeg = 0 → Q (some (.int ((-4)))) S))))))))) :
    C0 G J_M_greeted [.ref a0, .int x1, .int x2] S Q := by
  unfold C0
  refine ct_of (by decide +kernel) (Nat.le_of_ble_eq_true rfl) (lv := [(0, .ref a0), (1, .int x1), (2, .int x2)]) rfl ?_
  have hm : Sm0 S S := Sm0.rf S
  refine tt_aload_n (k0 := 0) (by decide +kernel) rfl ?_
  obtain ⟨f1, h⟩ := h
  obtain ⟨b2, f3, h⟩ := h
  refine tt_getR (k := 22) (by decide +kernel) KC_11 (by decide) w_887 (fun _ => rfl) f1 f3 ?_
  refine tt_iload_n (k0 := 1) (by decide +kernel) rfl ?_
  refine tt_bipush (n := 35) (v := 35) (by decide +kernel) (by decide) ?_
  refine tt_iadd (by decide +kernel) ?_
  obtain ⟨n4, f5, h⟩ := h
  obtain ⟨g2, h⟩ := h
  refine tt_bald (by decide +kernel) f5 g2 ?_
  refine tt_topi (fun y6 ey6 => ?_)
  have h := h y6 ey6
  refine tt_istore_n (k0 := 3) (lv' := [(0, .ref a0), (1, .int x1), (2, .int x2), (3, .int y6)]) (by decide +kernel) (by decide) rfl ?_
  refine tt_iload_n (k0 := 2) (by decide +kernel) rfl ?_
  refine tt_bipush (n := 33) (v := 33) (by decide +kernel) (by decide) ?_
  refine tt_icmp_ne (off := 25) 38 (by decide +kernel) (by decide) (fun c => ?_) (fun c => ?_)
  · have h := h.1 c
    refine tt_bipush (n := -4) (v := -4) (by decide +kernel) (by decide) ?_
    exact tt_iret (by decide +kernel) rfl ⟨hm, h⟩
  · have h := h.2 c
    refine tt_iload_n (k0 := 3) (by decide +kernel) rfl ?_
    refine tt_if_lt (off := 21) 38 (by decide +kernel) (by decide) (fun c => ?_) (fun c => ?_)
    · have h := h.1 c
      refine tt_bipush (n := -4) (v := -4) (by decide +kernel) (by decide) ?_
      exact tt_iret (by decide +kernel) rfl ⟨hm, h⟩
    · have h := h.2 c
      refine tt_iload_n (k0 := 3) (by decide +kernel) rfl ?_
      refine tt_bipush (n := 7) (v := 7) (by decide +kernel) (by decide) ?_
      refine tt_icmp_gt (off := 15) 38 (by decide +kernel) (by decide) (fun c => ?_) (fun c => ?_)
      · have h := h.1 c
        refine tt_bipush (n := -4) (v := -4) (by decide +kernel) (by decide) ?_
        exact tt_iret (by decide +kernel) rfl ⟨hm, h⟩
      · have h := h.2 c
        refine tt_aload_n (k0 := 0) (by decide +kernel) rfl ?_
        obtain ⟨b7, f8, h⟩ := h
        refine tt_getR (k := 13) (by decide +kernel) KC_11 (by decide) w_878 (fun _ => rfl) f1 f8 ?_
        refine tt_bipush (n := 8) (v := 8) (by decide +kernel) (by decide) ?_
        refine tt_iload_n (k0 := 3) (by decide +kernel) rfl ?_
        refine tt_iadd (by decide +kernel) ?_
        obtain ⟨n9, f10, h⟩ := h
        obtain ⟨g2, h⟩ := h
        refine tt_zald (by decide +kernel) f10 g2 ?_
        refine tt_if_ne (off := 6) 41 (by decide +kernel) (by decide) (fun c => ?_) (fun c => ?_)
        · have h := h.1 c
          refine tt_aload_n (k0 := 0) (by decide +kernel) rfl ?_
          refine tt_iconst (n := 1) (v := 1) (by decide +kernel) (by decide) ?_
          refine tt_callV (As := [.int 1]) (rest := []) (ci := 11) (r0 := (R_11, F_11, 55)) (by decide +kernel) LK_M_full w_1088 w_1090 (in_p (n := 55) 33 rfl) (by decide) (by decide) rfl rfl (Nat.le_of_ble_eq_true rfl) rfl rfl f1 (ct_mono h (fun r Sb h => ?_))
          obtain ⟨eb, h⟩ := h
          obtain ⟨r11, rfl, h⟩ := h
          rw [eb]
          show T G J_M_greeted 46 [(0, .ref a0), (1, .int x1), (2, .int x2), (3, .int y6)] [.int r11] S _
          refine tt_if_eq (off := 6) 52 (by decide +kernel) (by decide) (fun c => ?_) (fun c => ?_)
          · have h := h.1 c
            refine tt_iconst (n := 0) (v := 0) (by decide +kernel) (by decide) ?_
            refine tt_istore (k0 := 4) (lv' := [(0, .ref a0), (1, .int x1), (2, .int x2), (3, .int y6), (4, .int 0)]) (by decide +kernel) (by decide) rfl ?_
            exact tt_mono h (fun r S' q => ⟨hm.tr q.1, q.2⟩)
          · have h := h.2 c
            refine tt_bipush (n := -3) (v := -3) (by decide +kernel) (by decide) ?_
            exact tt_iret (by decide +kernel) rfl ⟨hm, h⟩
        · have h := h.2 c
          refine tt_bipush (n := -4) (v := -4) (by decide +kernel) (by decide) ?_
          exact tt_iret (by decide +kernel) rfl ⟨hm, h⟩
set_option maxRecDepth 100000 in
theorem v_M_greeted_55 {G : pG} (a0 : Nat) (x1 : Int32) (x2 : Int32) (x3 : Int32) (x4 : Int32) (S : TS) (Q : Option Value → TS → Prop)
    (h : ((33 ≤ x4 → te S a0 = some (.inr 11) ∧ ∃ b2 : Nat, tR S a0 51 = some b2 ∧ C0 G J_M_randomTo [.ref a0, .int 1, .ref b2, .int 0] S (fun r S4 => r = none ∧ C0 G J_M_send [.ref a0, .int 1, .int 2, .int 64] S4 (fun r S5 => ∃ r6 : Int32, r = some (.int r6) ∧ T0 G J_M_greeted 109 [(0, .ref a0), (1, .int x1), (2, .int x2), (3, .int x3), (4, .int r6), (5, .int 0)] [] S5 Q))) ∧ (¬ (33 ≤ x4) → te S a0 = some (.inr 11) ∧ ∃ b8 : Nat, tR S a0 49 = some b8 ∧ ∃ b10 : Nat, tR S a0 22 = some b10 ∧ ∃ n12 : Nat, te S b10 = some (.inl (.byte, n12)) ∧ vp_in ((x1 + (3 : Int32)) + x4) n12 ∧ ∃ n14 : Nat, te S b8 = some (.inl (.byte, n14)) ∧ vp_in x4 n14 ∧ ∀ S16 : TS, S16 = sI S b8 (upd (tI S b8) x4.toNatClampNeg (tI S b10 ((x1 + (3 : Int32)) + x4).toNatClampNeg : Int32).toInt8.toInt32) → ∀ y17 : Int32, y17 = x4 + 1 → T0 G J_M_greeted 55 [(0, .ref a0), (1, .int x1), (2, .int x2), (3, .int x3), (4, .int y17)] [] S16 Q))) :
    T0 G J_M_greeted 55 [(0, .ref a0), (1, .int x1), (2, .int x2), (3, .int x3), (4, .int x4)] [] S Q := by
  unfold T0
  have hm : Sm0 S S := Sm0.rf S
  refine tt_iload (k0 := 4) (by decide +kernel) rfl ?_
  refine tt_bipush (n := 33) (v := 33) (by decide +kernel) (by decide) ?_
  refine tt_icmp_ge (off := 27) 86 (by decide +kernel) (by decide) (fun c => ?_) (fun c => ?_)
  · have h := h.1 c
    refine tt_aload_n (k0 := 0) (by decide +kernel) rfl ?_
    refine tt_iconst (n := 1) (v := 1) (by decide +kernel) (by decide) ?_
    refine tt_aload_n (k0 := 0) (by decide +kernel) rfl ?_
    obtain ⟨f1, h⟩ := h
    obtain ⟨b2, f3, h⟩ := h
    refine tt_getR (k := 51) (by decide +kernel) KC_11 (by decide) w_916 (fun _ => rfl) f1 f3 ?_
    refine tt_iconst (n := 0) (v := 0) (by decide +kernel) (by decide) ?_
    refine tt_callV (As := [.int 1, .ref b2, .int 0]) (rest := []) (ci := 11) (r0 := (R_11, F_11, 55)) (by decide +kernel) LK_M_randomTo w_1092 w_1094 (in_p (n := 55) 34 rfl) (by decide) (by decide) rfl rfl (Nat.le_of_ble_eq_true rfl) rfl rfl f1 (ct_mono h (fun r S4 h => ?_))
    obtain ⟨hm2, h⟩ := h
    obtain ⟨rfl, h⟩ := h
    show T G J_M_greeted 96 [(0, .ref a0), (1, .int x1), (2, .int x2), (3, .int x3), (4, .int x4)] [] S4 _
    have hm := hm.tr hm2
    have f1 : te S4 a0 = some (.inr 11) := by rw [hm2.1]; exact f1
    have f3 : tR S4 a0 51 = some b2 := by rw [hm2.R]; exact f3
    refine tt_aload_n (k0 := 0) (by decide +kernel) rfl ?_
    refine tt_iconst (n := 1) (v := 1) (by decide +kernel) (by decide) ?_
    refine tt_iconst (n := 2) (v := 2) (by decide +kernel) (by decide) ?_
    refine tt_bipush (n := 64) (v := 64) (by decide +kernel) (by decide) ?_
    refine tt_callV (As := [.int 1, .int 2, .int 64]) (rest := []) (ci := 11) (r0 := (R_11, F_11, 55)) (by decide +kernel) LK_M_send w_1100 w_1102 (in_p (n := 55) 36 rfl) (by decide) (by decide) rfl rfl (Nat.le_of_ble_eq_true rfl) rfl rfl f1 (ct_mono h (fun r S5 h => ?_))
    obtain ⟨hm2, h⟩ := h
    obtain ⟨r6, rfl, h⟩ := h
    show T G J_M_greeted 104 [(0, .ref a0), (1, .int x1), (2, .int x2), (3, .int x3), (4, .int x4)] [.int r6] S5 _
    have hm := hm.tr hm2
    have f1 : te S5 a0 = some (.inr 11) := by rw [hm2.1]; exact f1
    have f3 : tR S5 a0 51 = some b2 := by rw [hm2.R]; exact f3
    refine tt_istore (k0 := 4) (lv' := [(0, .ref a0), (1, .int x1), (2, .int x2), (3, .int x3), (4, .int r6)]) (by decide +kernel) (by decide) rfl ?_
    refine tt_iconst (n := 0) (v := 0) (by decide +kernel) (by decide) ?_
    refine tt_istore (k0 := 5) (lv' := [(0, .ref a0), (1, .int x1), (2, .int x2), (3, .int x3), (4, .int r6), (5, .int 0)]) (by decide +kernel) (by decide) rfl ?_
    exact tt_mono h (fun r S' q => ⟨hm.tr q.1, q.2⟩)
  · have h := h.2 c
    refine tt_aload_n (k0 := 0) (by decide +kernel) rfl ?_
    obtain ⟨f7, h⟩ := h
    obtain ⟨b8, f9, h⟩ := h
    refine tt_getR (k := 49) (by decide +kernel) KC_11 (by decide) w_914 (fun _ => rfl) f7 f9 ?_
    refine tt_iload (k0 := 4) (by decide +kernel) rfl ?_
    refine tt_aload_n (k0 := 0) (by decide +kernel) rfl ?_
    obtain ⟨b10, f11, h⟩ := h
    refine tt_getR (k := 22) (by decide +kernel) KC_11 (by decide) w_887 (fun _ => rfl) f7 f11 ?_
    refine tt_iload_n (k0 := 1) (by decide +kernel) rfl ?_
    refine tt_iconst (n := 3) (v := 3) (by decide +kernel) (by decide) ?_
    refine tt_iadd (by decide +kernel) ?_
    refine tt_iload (k0 := 4) (by decide +kernel) rfl ?_
    refine tt_iadd (by decide +kernel) ?_
    obtain ⟨n12, f13, h⟩ := h
    obtain ⟨g2, h⟩ := h
    refine tt_bald (by decide +kernel) f13 g2 ?_
    obtain ⟨n14, f15, h⟩ := h
    obtain ⟨g2, h⟩ := h
    refine tt_bast (by decide +kernel) f15 g2 ?_
    generalize eS16 : sI S b8 (upd (tI S b8) x4.toNatClampNeg (tI S b10 ((x1 + (3 : Int32)) + x4).toNatClampNeg : Int32).toInt8.toInt32) = S16
    have h := h S16 eS16.symm
    have hm : Sm0 S S16 := by rw [← eS16]; exact hm.I
    have f7 : te S16 a0 = some (.inr 11) := by rw [← eS16, te_sI]; exact f7
    have f9 : tR S16 a0 49 = some b8 := by rw [← eS16, tR_sI]; exact f9
    have f11 : tR S16 a0 22 = some b10 := by rw [← eS16, tR_sI]; exact f11
    have f13 : te S16 b10 = some (.inl (.byte, n12)) := by rw [← eS16, te_sI]; exact f13
    have f15 : te S16 b8 = some (.inl (.byte, n14)) := by rw [← eS16, te_sI]; exact f15
    obtain ⟨y17, ey17⟩ : ∃ y : Int32, y = x4 + 1 := ⟨_, rfl⟩
    have h := h y17 ey17
    refine tt_iinc (i := 4) (n := 1) (v := y17) (lv' := [(0, .ref a0), (1, .int x1), (2, .int x2), (3, .int x3), (4, .int y17)]) (by decide +kernel) (by decide) rfl ey17.symm rfl ?_
    refine tt_goto (off := -28) (tgt := 55) (by decide +kernel) (by decide) ?_
    exact tt_mono h (fun r S' q => ⟨hm.tr q.1, q.2⟩)
set_option maxRecDepth 100000 in
theorem v_M_greeted_109 {G : pG} (a0 : Nat) (x1 : Int32) (x2 : Int32) (x3 : Int32) (x4 : Int32) (x5 : Int32) (S : TS) (Q : Option Value → TS → Prop)
    (h : ((32 ≤ x5 → te S a0 = some (.inr 11) ∧ ∃ b2 : Nat, tR S a0 51 = some b2 ∧ ∃ b4 : Nat, tR S a0 22 = some b4 ∧ C0 G J_M_prove [.ref a0, .int ((8 : Int32) + x3), .ref b2, .int 0, .int 115, .ref b4, .int (x4 + (32 : Int32))] S (fun r S6 => r = none ∧ ∃ b7 : Nat, tR S6 a0 18 = some b7 ∧ C0 G J_M_prove [.ref a0, .int ((8 : Int32) + x3), .ref b2, .int 0, .int 99, .ref b7, .int 0] S6 (fun r S9 => r = none ∧ T0 G J_M_greeted 186 [(0, .ref a0), (1, .int x1), (2, .int x2), (3, .int x3), (4, .int x4), (5, .int 0)] [] S9 Q))) ∧ (¬ (32 ≤ x5) → te S a0 = some (.inr 11) ∧ ∃ b11 : Nat, tR S a0 22 = some b11 ∧ ∃ b13 : Nat, tR S a0 51 = some b13 ∧ ∃ n15 : Nat, te S b13 = some (.inl (.byte, n15)) ∧ vp_in x5 n15 ∧ ∃ n17 : Nat, te S b11 = some (.inl (.byte, n17)) ∧ vp_in (x4 + x5) n17 ∧ ∀ S19 : TS, S19 = sI S b11 (upd (tI S b11) (x4 + x5).toNatClampNeg (tI S b13 x5.toNatClampNeg : Int32).toInt8.toInt32) → ∀ y20 : Int32, y20 = x5 + 1 → T0 G J_M_greeted 109 [(0, .ref a0), (1, .int x1), (2, .int x2), (3, .int x3), (4, .int x4), (5, .int y20)] [] S19 Q))) :
    T0 G J_M_greeted 109 [(0, .ref a0), (1, .int x1), (2, .int x2), (3, .int x3), (4, .int x4), (5, .int x5)] [] S Q := by
  unfold T0
  have hm : Sm0 S S := Sm0.rf S
  refine tt_iload (k0 := 5) (by decide +kernel) rfl ?_
  refine tt_bipush (n := 32) (v := 32) (by decide +kernel) (by decide) ?_
  refine tt_icmp_ge (off := 26) 139 (by decide +kernel) (by decide) (fun c => ?_) (fun c => ?_)
  · have h := h.1 c
    refine tt_aload_n (k0 := 0) (by decide +kernel) rfl ?_
    refine tt_bipush (n := 8) (v := 8) (by decide +kernel) (by decide) ?_
    refine tt_iload_n (k0 := 3) (by decide +kernel) rfl ?_
    refine tt_iadd (by decide +kernel) ?_
    refine tt_aload_n (k0 := 0) (by decide +kernel) rfl ?_
    obtain ⟨f1, h⟩ := h
    obtain ⟨b2, f3, h⟩ := h
    refine tt_getR (k := 51) (by decide +kernel) KC_11 (by decide) w_916 (fun _ => rfl) f1 f3 ?_
    refine tt_iconst (n := 0) (v := 0) (by decide +kernel) (by decide) ?_
    refine tt_bipush (n := 115) (v := 115) (by decide +kernel) (by decide) ?_
    refine tt_aload_n (k0 := 0) (by decide +kernel) rfl ?_
    obtain ⟨b4, f5, h⟩ := h
    refine tt_getR (k := 22) (by decide +kernel) KC_11 (by decide) w_887 (fun _ => rfl) f1 f5 ?_
    refine tt_iload (k0 := 4) (by decide +kernel) rfl ?_
    refine tt_bipush (n := 32) (v := 32) (by decide +kernel) (by decide) ?_
    refine tt_iadd (by decide +kernel) ?_
    refine tt_callV (As := [.int ((8 : Int32) + x3), .ref b2, .int 0, .int 115, .ref b4, .int (x4 + (32 : Int32))]) (rest := []) (ci := 11) (r0 := (R_11, F_11, 55)) (by decide +kernel) LK_M_prove w_1202 w_1204 (in_p (n := 55) 52 rfl) (by decide) (by decide) rfl rfl (Nat.le_of_ble_eq_true rfl) rfl rfl f1 (ct_mono h (fun r S6 h => ?_))
    obtain ⟨hm2, h⟩ := h
    obtain ⟨rfl, h⟩ := h
    show T G J_M_greeted 163 [(0, .ref a0), (1, .int x1), (2, .int x2), (3, .int x3), (4, .int x4), (5, .int x5)] [] S6 _
    have hm := hm.tr hm2
    have f1 : te S6 a0 = some (.inr 11) := by rw [hm2.1]; exact f1
    have f3 : tR S6 a0 51 = some b2 := by rw [hm2.R]; exact f3
    have f5 : tR S6 a0 22 = some b4 := by rw [hm2.R]; exact f5
    refine tt_aload_n (k0 := 0) (by decide +kernel) rfl ?_
    refine tt_bipush (n := 8) (v := 8) (by decide +kernel) (by decide) ?_
    refine tt_iload_n (k0 := 3) (by decide +kernel) rfl ?_
    refine tt_iadd (by decide +kernel) ?_
    refine tt_aload_n (k0 := 0) (by decide +kernel) rfl ?_
    refine tt_getR (k := 51) (by decide +kernel) KC_11 (by decide) w_916 (fun _ => rfl) f1 f3 ?_
    refine tt_iconst (n := 0) (v := 0) (by decide +kernel) (by decide) ?_
    refine tt_bipush (n := 99) (v := 99) (by decide +kernel) (by decide) ?_
    refine tt_aload_n (k0 := 0) (by decide +kernel) rfl ?_
    obtain ⟨b7, f8, h⟩ := h
    refine tt_getR (k := 18) (by decide +kernel) KC_11 (by decide) w_883 (fun _ => rfl) f1 f8 ?_
    refine tt_iconst (n := 0) (v := 0) (by decide +kernel) (by decide) ?_
    refine tt_callV (As := [.int ((8 : Int32) + x3), .ref b2, .int 0, .int 99, .ref b7, .int 0]) (rest := []) (ci := 11) (r0 := (R_11, F_11, 55)) (by decide +kernel) LK_M_prove w_1202 w_1204 (in_p (n := 55) 52 rfl) (by decide) (by decide) rfl rfl (Nat.le_of_ble_eq_true rfl) rfl rfl f1 (ct_mono h (fun r S9 h => ?_))
    obtain ⟨hm2, h⟩ := h
    obtain ⟨rfl, h⟩ := h
    show T G J_M_greeted 183 [(0, .ref a0), (1, .int x1), (2, .int x2), (3, .int x3), (4, .int x4), (5, .int x5)] [] S9 _
    have hm := hm.tr hm2
    have f1 : te S9 a0 = some (.inr 11) := by rw [hm2.1]; exact f1
    have f3 : tR S9 a0 51 = some b2 := by rw [hm2.R]; exact f3
    have f5 : tR S9 a0 22 = some b4 := by rw [hm2.R]; exact f5
    have f8 : tR S9 a0 18 = some b7 := by rw [hm2.R]; exact f8
    refine tt_iconst (n := 0) (v := 0) (by decide +kernel) (by decide) ?_
    refine tt_istore (k0 := 5) (lv' := [(0, .ref a0), (1, .int x1), (2, .int x2), (3, .int x3), (4, .int x4), (5, .int 0)]) (by decide +kernel) (by decide) rfl ?_
    exact tt_mono h (fun r S' q => ⟨hm.tr q.1, q.2⟩)
  · have h := h.2 c
    refine tt_aload_n (k0 := 0) (by decide +kernel) rfl ?_
    obtain ⟨f10, h⟩ := h
    obtain ⟨b11, f12, h⟩ := h
    refine tt_getR (k := 22) (by decide +kernel) KC_11 (by decide) w_887 (fun _ => rfl) f10 f12 ?_
    refine tt_iload (k0 := 4) (by decide +kernel) rfl ?_
    refine tt_iload (k0 := 5) (by decide +kernel) rfl ?_
    refine tt_iadd (by decide +kernel) ?_
    refine tt_aload_n (k0 := 0) (by decide +kernel) rfl ?_
    obtain ⟨b13, f14, h⟩ := h
    refine tt_getR (k := 51) (by decide +kernel) KC_11 (by decide) w_916 (fun _ => rfl) f10 f14 ?_
    refine tt_iload (k0 := 5) (by decide +kernel) rfl ?_
    obtain ⟨n15, f16, h⟩ := h
    obtain ⟨g2, h⟩ := h
    refine tt_bald (by decide +kernel) f16 g2 ?_
    obtain ⟨n17, f18, h⟩ := h
    obtain ⟨g2, h⟩ := h
    refine tt_bast (by decide +kernel) f18 g2 ?_
    generalize eS19 : sI S b11 (upd (tI S b11) (x4 + x5).toNatClampNeg (tI S b13 x5.toNatClampNeg : Int32).toInt8.toInt32) = S19
    have h := h S19 eS19.symm
    have hm : Sm0 S S19 := by rw [← eS19]; exact hm.I
    have f10 : te S19 a0 = some (.inr 11) := by rw [← eS19, te_sI]; exact f10
    have f12 : tR S19 a0 22 = some b11 := by rw [← eS19, tR_sI]; exact f12
    have f14 : tR S19 a0 51 = some b13 := by rw [← eS19, tR_sI]; exact f14
    have f16 : te S19 b13 = some (.inl (.byte, n15)) := by rw [← eS19, te_sI]; exact f16
    have f18 : te S19 b11 = some (.inl (.byte, n17)) := by rw [← eS19, te_sI]; exact f18
    obtain ⟨y20, ey20⟩ : ∃ y : Int32, y = x5 + 1 := ⟨_, rfl⟩
    have h := h y20 ey20
    refine tt_iinc (i := 5) (n := 1) (v := y20) (lv' := [(0, .ref a0), (1, .int x1), (2, .int x2), (3, .int x3), (4, .int x4), (5, .int y20)]) (by decide +kernel) (by decide) rfl ey20.symm rfl ?_
    refine tt_goto (off := -27) (tgt := 109) (by decide +kernel) (by decide) ?_
    exact tt_mono h (fun r S' q => ⟨hm.tr q.1, q.2⟩)
set_option maxRecDepth 100000 in
theorem v_M_greeted_186 {G : pG} (a0 : Nat) (x1 : Int32) (x2 : Int32) (x3 : Int32) (x4 : Int32) (x5 : Int32) (S : TS) (Q : Option Value → TS → Prop)
    (h : ((32 ≤ x5 → te S a0 = some (.inr 11) ∧ ∃ b2 : Nat, tR S a0 15 = some b2 ∧ ∃ n4 : Nat, te S b2 = some (.inl (.int, n4)) ∧ vp_in 1 n4 ∧ ∀ S6 : TS, S6 = sI S b2 (upd (tI S b2) 1 1) → Q (some (.int 2)) S6) ∧ (¬ (32 ≤ x5) → te S a0 = some (.inr 11) ∧ ∃ b8 : Nat, tR S a0 50 = some b8 ∧ ∃ b10 : Nat, tR S a0 47 = some b10 ∧ ∃ n12 : Nat, te S b10 = some (.inl (.byte, n12)) ∧ vp_in x5 n12 ∧ ∃ n14 : Nat, te S b8 = some (.inl (.byte, n14)) ∧ vp_in x5 n14 ∧ ∀ S16 : TS, S16 = sI S b8 (upd (tI S b8) x5.toNatClampNeg (tI S b10 x5.toNatClampNeg : Int32).toInt8.toInt32) → ∀ y17 : Int32, y17 = x5 + 1 → T0 G J_M_greeted 186 [(0, .ref a0), (1, .int x1), (2, .int x2), (3, .int x3), (4, .int x4), (5, .int y17)] [] S16 Q))) :
    T0 G J_M_greeted 186 [(0, .ref a0), (1, .int x1), (2, .int x2), (3, .int x3), (4, .int x4), (5, .int x5)] [] S Q := by
  unfold T0
  have hm : Sm0 S S := Sm0.rf S
  refine tt_iload (k0 := 5) (by decide +kernel) rfl ?_
  refine tt_bipush (n := 32) (v := 32) (by decide +kernel) (by decide) ?_
  refine tt_icmp_ge (off := 23) 213 (by decide +kernel) (by decide) (fun c => ?_) (fun c => ?_)
  · have h := h.1 c
    refine tt_aload_n (k0 := 0) (by decide +kernel) rfl ?_
    obtain ⟨f1, h⟩ := h
    obtain ⟨b2, f3, h⟩ := h
    refine tt_getR (k := 15) (by decide +kernel) KC_11 (by decide) w_880 (fun _ => rfl) f1 f3 ?_
    refine tt_iconst (n := 1) (v := 1) (by decide +kernel) (by decide) ?_
    refine tt_iconst (n := 1) (v := 1) (by decide +kernel) (by decide) ?_
    obtain ⟨n4, f5, h⟩ := h
    obtain ⟨g2, h⟩ := h
    refine tt_iast (by decide +kernel) f5 g2 ?_
    show T G J_M_greeted 220 [(0, .ref a0), (1, .int x1), (2, .int x2), (3, .int x3), (4, .int x4), (5, .int x5)] [] (sI S b2 (upd (tI S b2) 1 1)) _
    generalize eS6 : sI S b2 (upd (tI S b2) 1 1) = S6
    have h := h S6 eS6.symm
    have hm : Sm0 S S6 := by rw [← eS6]; exact hm.I
    have f1 : te S6 a0 = some (.inr 11) := by rw [← eS6, te_sI]; exact f1
    have f3 : tR S6 a0 15 = some b2 := by rw [← eS6, tR_sI]; exact f3
    have f5 : te S6 b2 = some (.inl (.int, n4)) := by rw [← eS6, te_sI]; exact f5
    refine tt_iconst (n := 2) (v := 2) (by decide +kernel) (by decide) ?_
    exact tt_iret (by decide +kernel) rfl ⟨hm, h⟩
  · have h := h.2 c
    refine tt_aload_n (k0 := 0) (by decide +kernel) rfl ?_
    obtain ⟨f7, h⟩ := h
    obtain ⟨b8, f9, h⟩ := h
    refine tt_getR (k := 50) (by decide +kernel) KC_11 (by decide) w_915 (fun _ => rfl) f7 f9 ?_
    refine tt_iload (k0 := 5) (by decide +kernel) rfl ?_
    refine tt_aload_n (k0 := 0) (by decide +kernel) rfl ?_
    obtain ⟨b10, f11, h⟩ := h
    refine tt_getR (k := 47) (by decide +kernel) KC_11 (by decide) w_912 (fun _ => rfl) f7 f11 ?_
    refine tt_iload (k0 := 5) (by decide +kernel) rfl ?_
    obtain ⟨n12, f13, h⟩ := h
    obtain ⟨g2, h⟩ := h
    refine tt_bald (by decide +kernel) f13 g2 ?_
    obtain ⟨n14, f15, h⟩ := h
    obtain ⟨g2, h⟩ := h
    refine tt_bast (by decide +kernel) f15 g2 ?_
    generalize eS16 : sI S b8 (upd (tI S b8) x5.toNatClampNeg (tI S b10 x5.toNatClampNeg : Int32).toInt8.toInt32) = S16
    have h := h S16 eS16.symm
    have hm : Sm0 S S16 := by rw [← eS16]; exact hm.I
    have f7 : te S16 a0 = some (.inr 11) := by rw [← eS16, te_sI]; exact f7
    have f9 : tR S16 a0 50 = some b8 := by rw [← eS16, tR_sI]; exact f9
    have f11 : tR S16 a0 47 = some b10 := by rw [← eS16, tR_sI]; exact f11
    have f13 : te S16 b10 = some (.inl (.byte, n12)) := by rw [← eS16, te_sI]; exact f13
    have f15 : te S16 b8 = some (.inl (.byte, n14)) := by rw [← eS16, te_sI]; exact f15
    obtain ⟨y17, ey17⟩ : ∃ y : Int32, y = x5 + 1 := ⟨_, rfl⟩
    have h := h y17 ey17
    refine tt_iinc (i := 5) (n := 1) (v := y17) (lv' := [(0, .ref a0), (1, .int x1), (2, .int x2), (3, .int x3), (4, .int x4), (5, .int y17)]) (by decide +kernel) (by decide) rfl ey17.symm rfl ?_
    refine tt_goto (off := -24) (tgt := 186) (by decide +kernel) (by decide) ?_
    exact tt_mono h (fun r S' q => ⟨hm.tr q.1, q.2⟩)
set_option maxRecDepth 100000 in
theorem v_M_prove {G : pG} (a0 : Nat) (x1 : Int32) (a2 : Nat) (x3 : Int32) (x4 : Int32) (a5 : Nat) (x6 : Int32) (S : TS) (Q : Option Value → TS → Prop)
    (h : te S a0 = some (.inr 11) ∧ ∀ S2 : TS, S2 = sI S a0 (upd (tI S a0) 6 0) → ∃ b3 : Nat, tR S2 a0 49 = some b3 ∧ C0 G J_M_add_ABII [.ref a0, .ref b3, .int 0, .int 33] S2 (fun r S5 => r = none ∧ C0 G J_M_add_ABII [.ref a0, .ref a2, .int x3, .int 32] S5 (fun r S6 => r = none ∧ ∃ b7 : Nat, tR S6 a0 11 = some b7 ∧ C0 G J_M_hashTo [.ref a0, .ref b7, .int 0] S6 (fun r S9 => r = none ∧ ∀ S10 : TS, S10 = sI S9 a0 (upd (tI S9 a0) 12 32) → T0 G J_M_prove 42 [(0, .ref a0), (1, .int x1), (2, .ref a2), (3, .int x3), (4, .int x4), (5, .ref a5), (6, .int x6), (7, .int 0)] [] S10 Q)))) :
    C0 G J_M_prove [.ref a0, .int x1, .ref a2, .int x3, .int x4, .ref a5, .int x6] S Q := by
  unfold C0
  refine ct_of (by decide +kernel) (Nat.le_of_ble_eq_true rfl) (lv := [(0, .ref a0), (1, .int x1), (2, .ref a2), (3, .int x3), (4, .int x4), (5, .ref a5), (6, .int x6)]) rfl ?_
  have hm : Sm0 S S := Sm0.rf S
  refine tt_aload_n (k0 := 0) (by decide +kernel) rfl ?_
  refine tt_iconst (n := 0) (v := 0) (by decide +kernel) (by decide) ?_
  obtain ⟨f1, h⟩ := h
  refine tt_putI (k := 6) (by decide +kernel) KC_11 (by decide) w_871 rfl rfl f1 ?_
  generalize eS2 : sI S a0 (upd (tI S a0) 6 0) = S2
  have h := h S2 eS2.symm
  have hm : Sm0 S S2 := by rw [← eS2]; exact hm.I
  have f1 : te S2 a0 = some (.inr 11) := by rw [← eS2, te_sI]; exact f1
  refine tt_aload_n (k0 := 0) (by decide +kernel) rfl ?_
  refine tt_aload_n (k0 := 0) (by decide +kernel) rfl ?_
  obtain ⟨b3, f4, h⟩ := h
  refine tt_getR (k := 49) (by decide +kernel) KC_11 (by decide) w_914 (fun _ => rfl) f1 f4 ?_
  refine tt_iconst (n := 0) (v := 0) (by decide +kernel) (by decide) ?_
  refine tt_bipush (n := 33) (v := 33) (by decide +kernel) (by decide) ?_
  refine tt_callV (As := [.ref b3, .int 0, .int 33]) (rest := []) (ci := 11) (r0 := (R_11, F_11, 55)) (by decide +kernel) LK_M_add_ABII w_1056 w_1058 (in_p (n := 55) 29 rfl) (by decide) (by decide) rfl rfl (Nat.le_of_ble_eq_true rfl) rfl rfl f1 (ct_mono h (fun r S5 h => ?_))
  obtain ⟨hm2, h⟩ := h
  obtain ⟨rfl, h⟩ := h
  show T G J_M_prove 16 [(0, .ref a0), (1, .int x1), (2, .ref a2), (3, .int x3), (4, .int x4), (5, .ref a5), (6, .int x6)] [] S5 _
  have hm := hm.tr hm2
  have f1 : te S5 a0 = some (.inr 11) := by rw [hm2.1]; exact f1
  have f4 : tR S5 a0 49 = some b3 := by rw [hm2.R]; exact f4
  refine tt_aload_n (k0 := 0) (by decide +kernel) rfl ?_
  refine tt_aload_n (k0 := 2) (by decide +kernel) rfl ?_
  refine tt_iload_n (k0 := 3) (by decide +kernel) rfl ?_
  refine tt_bipush (n := 32) (v := 32) (by decide +kernel) (by decide) ?_
  refine tt_callV (As := [.ref a2, .int x3, .int 32]) (rest := []) (ci := 11) (r0 := (R_11, F_11, 55)) (by decide +kernel) LK_M_add_ABII w_1056 w_1058 (in_p (n := 55) 29 rfl) (by decide) (by decide) rfl rfl (Nat.le_of_ble_eq_true rfl) rfl rfl f1 (ct_mono h (fun r S6 h => ?_))
  obtain ⟨hm2, h⟩ := h
  obtain ⟨rfl, h⟩ := h
  show T G J_M_prove 24 [(0, .ref a0), (1, .int x1), (2, .ref a2), (3, .int x3), (4, .int x4), (5, .ref a5), (6, .int x6)] [] S6 _
  have hm := hm.tr hm2
  have f1 : te S6 a0 = some (.inr 11) := by rw [hm2.1]; exact f1
  have f4 : tR S6 a0 49 = some b3 := by rw [hm2.R]; exact f4
  refine tt_aload_n (k0 := 0) (by decide +kernel) rfl ?_
  refine tt_aload_n (k0 := 0) (by decide +kernel) rfl ?_
  obtain ⟨b7, f8, h⟩ := h
  refine tt_getR (k := 11) (by decide +kernel) KC_11 (by decide) w_876 (fun _ => rfl) f1 f8 ?_
  refine tt_iconst (n := 0) (v := 0) (by decide +kernel) (by decide) ?_
  refine tt_callV (As := [.ref b7, .int 0]) (rest := []) (ci := 11) (r0 := (R_11, F_11, 55)) (by decide +kernel) LK_M_hashTo w_1064 w_1066 (in_p (n := 55) 31 rfl) (by decide) (by decide) rfl rfl (Nat.le_of_ble_eq_true rfl) rfl rfl f1 (ct_mono h (fun r S9 h => ?_))
  obtain ⟨hm2, h⟩ := h
  obtain ⟨rfl, h⟩ := h
  show T G J_M_prove 33 [(0, .ref a0), (1, .int x1), (2, .ref a2), (3, .int x3), (4, .int x4), (5, .ref a5), (6, .int x6)] [] S9 _
  have hm := hm.tr hm2
  have f1 : te S9 a0 = some (.inr 11) := by rw [hm2.1]; exact f1
  have f4 : tR S9 a0 49 = some b3 := by rw [hm2.R]; exact f4
  have f8 : tR S9 a0 11 = some b7 := by rw [hm2.R]; exact f8
  refine tt_aload_n (k0 := 0) (by decide +kernel) rfl ?_
  refine tt_bipush (n := 32) (v := 32) (by decide +kernel) (by decide) ?_
  refine tt_putI (k := 12) (by decide +kernel) KC_11 (by decide) w_877 rfl rfl f1 ?_
  generalize eS10 : sI S9 a0 (upd (tI S9 a0) 12 32) = S10
  have h := h S10 eS10.symm
  have hm : Sm0 S S10 := by rw [← eS10]; exact hm.I
  have f1 : te S10 a0 = some (.inr 11) := by rw [← eS10, te_sI]; exact f1
  have f4 : tR S10 a0 49 = some b3 := by rw [← eS10, tR_sI]; exact f4
  have f8 : tR S10 a0 11 = some b7 := by rw [← eS10, tR_sI]; exact f8
  refine tt_iconst (n := 0) (v := 0) (by decide +kernel) (by decide) ?_
  refine tt_istore (k0 := 7) (lv' := [(0, .ref a0), (1, .int x1), (2, .ref a2), (3, .int x3), (4, .int x4), (5, .ref a5), (6, .int x6), (7, .int 0)]) (by decide +kernel) (by decide) rfl ?_
  exact tt_mono h (fun r S' q => ⟨hm.tr q.1, q.2⟩)
set_option maxRecDepth 100000 in
theorem v_M_prove_42 {G : pG} (a0 : Nat) (x1 : Int32) (a2 : Nat) (x3 : Int32) (x4 : Int32) (a5 : Nat) (x6 : Int32) (x7 : Int32) (S : TS) (Q : Option Value → TS → Prop)
    (h : ((32 ≤ x7 → te S a0 = some (.inr 11) ∧ ∃ b2 : Nat, tR S a0 47 = some b2 ∧ C0 G J_M_macTo [.ref a0, .ref b2, .int 0] S (fun r S4 => r = none ∧ T0 G J_M_prove 86 [(0, .ref a0), (1, .int x1), (2, .ref a2), (3, .int x3), (4, .int x4), (5, .ref a5), (6, .int x6), (7, .int 0)] [] S4 Q)) ∧ (¬ (32 ≤ x7) → te S a0 = some (.inr 11) ∧ ∃ b6 : Nat, tR S a0 10 = some b6 ∧ ∃ b8 : Nat, tR S a0 14 = some b8 ∧ ∃ n10 : Nat, te S b8 = some (.inl (.byte, n10)) ∧ vp_in (((32 : Int32) * x1) + x7) n10 ∧ ∃ n12 : Nat, te S b6 = some (.inl (.byte, n12)) ∧ vp_in x7 n12 ∧ ∀ S14 : TS, S14 = sI S b6 (upd (tI S b6) x7.toNatClampNeg (tI S b8 (((32 : Int32) * x1) + x7).toNatClampNeg : Int32).toInt8.toInt32) → ∀ y15 : Int32, y15 = x7 + 1 → T0 G J_M_prove 42 [(0, .ref a0), (1, .int x1), (2, .ref a2), (3, .int x3), (4, .int x4), (5, .ref a5), (6, .int x6), (7, .int y15)] [] S14 Q))) :
    T0 G J_M_prove 42 [(0, .ref a0), (1, .int x1), (2, .ref a2), (3, .int x3), (4, .int x4), (5, .ref a5), (6, .int x6), (7, .int x7)] [] S Q := by
  unfold T0
  have hm : Sm0 S S := Sm0.rf S
  refine tt_iload (k0 := 7) (by decide +kernel) rfl ?_
  refine tt_bipush (n := 32) (v := 32) (by decide +kernel) (by decide) ?_
  refine tt_icmp_ge (off := 28) 74 (by decide +kernel) (by decide) (fun c => ?_) (fun c => ?_)
  · have h := h.1 c
    refine tt_aload_n (k0 := 0) (by decide +kernel) rfl ?_
    refine tt_aload_n (k0 := 0) (by decide +kernel) rfl ?_
    obtain ⟨f1, h⟩ := h
    obtain ⟨b2, f3, h⟩ := h
    refine tt_getR (k := 47) (by decide +kernel) KC_11 (by decide) w_912 (fun _ => rfl) f1 f3 ?_
    refine tt_iconst (n := 0) (v := 0) (by decide +kernel) (by decide) ?_
    refine tt_callV (As := [.ref b2, .int 0]) (rest := []) (ci := 11) (r0 := (R_11, F_11, 55)) (by decide +kernel) LK_M_macTo w_1182 w_1184 (in_p (n := 55) 49 rfl) (by decide) (by decide) rfl rfl (Nat.le_of_ble_eq_true rfl) rfl rfl f1 (ct_mono h (fun r S4 h => ?_))
    obtain ⟨hm2, h⟩ := h
    obtain ⟨rfl, h⟩ := h
    show T G J_M_prove 83 [(0, .ref a0), (1, .int x1), (2, .ref a2), (3, .int x3), (4, .int x4), (5, .ref a5), (6, .int x6), (7, .int x7)] [] S4 _
    have hm := hm.tr hm2
    have f1 : te S4 a0 = some (.inr 11) := by rw [hm2.1]; exact f1
    have f3 : tR S4 a0 47 = some b2 := by rw [hm2.R]; exact f3
    refine tt_iconst (n := 0) (v := 0) (by decide +kernel) (by decide) ?_
    refine tt_istore (k0 := 7) (lv' := [(0, .ref a0), (1, .int x1), (2, .ref a2), (3, .int x3), (4, .int x4), (5, .ref a5), (6, .int x6), (7, .int 0)]) (by decide +kernel) (by decide) rfl ?_
    exact tt_mono h (fun r S' q => ⟨hm.tr q.1, q.2⟩)
  · have h := h.2 c
    refine tt_aload_n (k0 := 0) (by decide +kernel) rfl ?_
    obtain ⟨f5, h⟩ := h
    obtain ⟨b6, f7, h⟩ := h
    refine tt_getR (k := 10) (by decide +kernel) KC_11 (by decide) w_875 (fun _ => rfl) f5 f7 ?_
    refine tt_iload (k0 := 7) (by decide +kernel) rfl ?_
    refine tt_aload_n (k0 := 0) (by decide +kernel) rfl ?_
    obtain ⟨b8, f9, h⟩ := h
    refine tt_getR (k := 14) (by decide +kernel) KC_11 (by decide) w_879 (fun _ => rfl) f5 f9 ?_
    refine tt_bipush (n := 32) (v := 32) (by decide +kernel) (by decide) ?_
    refine tt_iload_n (k0 := 1) (by decide +kernel) rfl ?_
    refine tt_imul (by decide +kernel) ?_
    refine tt_iload (k0 := 7) (by decide +kernel) rfl ?_
    refine tt_iadd (by decide +kernel) ?_
    obtain ⟨n10, f11, h⟩ := h
    obtain ⟨g2, h⟩ := h
    refine tt_bald (by decide +kernel) f11 g2 ?_
    obtain ⟨n12, f13, h⟩ := h
    obtain ⟨g2, h⟩ := h
    refine tt_bast (by decide +kernel) f13 g2 ?_
    generalize eS14 : sI S b6 (upd (tI S b6) x7.toNatClampNeg (tI S b8 (((32 : Int32) * x1) + x7).toNatClampNeg : Int32).toInt8.toInt32) = S14
    have h := h S14 eS14.symm
    have hm : Sm0 S S14 := by rw [← eS14]; exact hm.I
    have f5 : te S14 a0 = some (.inr 11) := by rw [← eS14, te_sI]; exact f5
    have f7 : tR S14 a0 10 = some b6 := by rw [← eS14, tR_sI]; exact f7
    have f9 : tR S14 a0 14 = some b8 := by rw [← eS14, tR_sI]; exact f9
    have f11 : te S14 b8 = some (.inl (.byte, n10)) := by rw [← eS14, te_sI]; exact f11
    have f13 : te S14 b6 = some (.inl (.byte, n12)) := by rw [← eS14, te_sI]; exact f13
    obtain ⟨y15, ey15⟩ : ∃ y : Int32, y = x7 + 1 := ⟨_, rfl⟩
    have h := h y15 ey15
    refine tt_iinc (i := 7) (n := 1) (v := y15) (lv' := [(0, .ref a0), (1, .int x1), (2, .ref a2), (3, .int x3), (4, .int x4), (5, .ref a5), (6, .int x6), (7, .int y15)]) (by decide +kernel) (by decide) rfl ey15.symm rfl ?_
    refine tt_goto (off := -29) (tgt := 42) (by decide +kernel) (by decide) ?_
    exact tt_mono h (fun r S' q => ⟨hm.tr q.1, q.2⟩)
set_option maxRecDepth 100000 in
theorem v_M_prove_86 {G : pG} (a0 : Nat) (x1 : Int32) (a2 : Nat) (x3 : Int32) (x4 : Int32) (a5 : Nat) (x6 : Int32) (x7 : Int32) (S : TS) (Q : Option Value → TS → Prop)
    (h : ((32 ≤ x7 → T0 G J_M_prove 116 [(0, .ref a0), (1, .int x1), (2, .ref a2), (3, .int x3), (4, .int x4), (5, .ref a5), (6, .int x6), (7, .int 0)] [] S Q) ∧ (¬ (32 ≤ x7) → te S a0 = some (.inr 11) ∧ ∃ b2 : Nat, tR S a0 48 = some b2 ∧ ∃ b4 : Nat, tR S a0 11 = some b4 ∧ ∃ n6 : Nat, te S b4 = some (.inl (.byte, n6)) ∧ vp_in x7 n6 ∧ ∃ n8 : Nat, te S b2 = some (.inl (.byte, n8)) ∧ vp_in x7 n8 ∧ ∀ S10 : TS, S10 = sI S b2 (upd (tI S b2) x7.toNatClampNeg (tI S b4 x7.toNatClampNeg : Int32).toInt8.toInt32) → ∀ y11 : Int32, y11 = x7 + 1 → T0 G J_M_prove 86 [(0, .ref a0), (1, .int x1), (2, .ref a2), (3, .int x3), (4, .int x4), (5, .ref a5), (6, .int x6), (7, .int y11)] [] S10 Q))) :
    T0 G J_M_prove 86 [(0, .ref a0), (1, .int x1), (2, .ref a2), (3, .int x3), (4, .int x4), (5, .ref a5), (6, .int x6), (7, .int x7)] [] S Q := by
  unfold T0
  have hm : Sm0 S S := Sm0.rf S
  refine tt_iload (k0 := 7) (by decide +kernel) rfl ?_
  refine tt_bipush (n := 32) (v := 32) (by decide +kernel) (by decide) ?_
  refine tt_icmp_ge (off := 23) 113 (by decide +kernel) (by decide) (fun c => ?_) (fun c => ?_)
  · have h := h.1 c
    refine tt_iconst (n := 0) (v := 0) (by decide +kernel) (by decide) ?_
    refine tt_istore (k0 := 7) (lv' := [(0, .ref a0), (1, .int x1), (2, .ref a2), (3, .int x3), (4, .int x4), (5, .ref a5), (6, .int x6), (7, .int 0)]) (by decide +kernel) (by decide) rfl ?_
    exact tt_mono h (fun r S' q => ⟨hm.tr q.1, q.2⟩)
  · have h := h.2 c
    refine tt_aload_n (k0 := 0) (by decide +kernel) rfl ?_
    obtain ⟨f1, h⟩ := h
    obtain ⟨b2, f3, h⟩ := h
    refine tt_getR (k := 48) (by decide +kernel) KC_11 (by decide) w_913 (fun _ => rfl) f1 f3 ?_
    refine tt_iload (k0 := 7) (by decide +kernel) rfl ?_
    refine tt_aload_n (k0 := 0) (by decide +kernel) rfl ?_
    obtain ⟨b4, f5, h⟩ := h
    refine tt_getR (k := 11) (by decide +kernel) KC_11 (by decide) w_876 (fun _ => rfl) f1 f5 ?_
    refine tt_iload (k0 := 7) (by decide +kernel) rfl ?_
    obtain ⟨n6, f7, h⟩ := h
    obtain ⟨g2, h⟩ := h
    refine tt_bald (by decide +kernel) f7 g2 ?_
    obtain ⟨n8, f9, h⟩ := h
    obtain ⟨g2, h⟩ := h
    refine tt_bast (by decide +kernel) f9 g2 ?_
    generalize eS10 : sI S b2 (upd (tI S b2) x7.toNatClampNeg (tI S b4 x7.toNatClampNeg : Int32).toInt8.toInt32) = S10
    have h := h S10 eS10.symm
    have hm : Sm0 S S10 := by rw [← eS10]; exact hm.I
    have f1 : te S10 a0 = some (.inr 11) := by rw [← eS10, te_sI]; exact f1
    have f3 : tR S10 a0 48 = some b2 := by rw [← eS10, tR_sI]; exact f3
    have f5 : tR S10 a0 11 = some b4 := by rw [← eS10, tR_sI]; exact f5
    have f7 : te S10 b4 = some (.inl (.byte, n6)) := by rw [← eS10, te_sI]; exact f7
    have f9 : te S10 b2 = some (.inl (.byte, n8)) := by rw [← eS10, te_sI]; exact f9
    obtain ⟨y11, ey11⟩ : ∃ y : Int32, y = x7 + 1 := ⟨_, rfl⟩
    have h := h y11 ey11
    refine tt_iinc (i := 7) (n := 1) (v := y11) (lv' := [(0, .ref a0), (1, .int x1), (2, .ref a2), (3, .int x3), (4, .int x4), (5, .ref a5), (6, .int x6), (7, .int y11)]) (by decide +kernel) (by decide) rfl ey11.symm rfl ?_
    refine tt_goto (off := -24) (tgt := 86) (by decide +kernel) (by decide) ?_
    exact tt_mono h (fun r S' q => ⟨hm.tr q.1, q.2⟩)
set_option maxRecDepth 100000 in
theorem v_M_prove_116 {G : pG} (a0 : Nat) (x1 : Int32) (a2 : Nat) (x3 : Int32) (x4 : Int32) (a5 : Nat) (x6 : Int32) (x7 : Int32) (S : TS) (Q : Option Value → TS → Prop)
    (h : ((32 ≤ x7 → te S a0 = some (.inr 11) ∧ ∃ b2 : Nat, tR S a0 11 = some b2 ∧ ∃ n4 : Nat, te S b2 = some (.inl (.byte, n4)) ∧ vp_in 0 n4 ∧ ∀ S6 : TS, S6 = sI S b2 (upd (tI S b2) 0 (102 : Int32).toInt8.toInt32) → ∀ S7 : TS, S7 = sI S6 a0 (upd (tI S6 a0) 12 1) → ∃ b8 : Nat, tR S7 a0 10 = some b8 ∧ C0 G J_M_macTo [.ref a0, .ref b8, .int 0] S7 (fun r S10 => r = none ∧ vp_in 0 n4 ∧ ∀ S11 : TS, S11 = sI S10 b2 (upd (tI S10 b2) 0 ((x4 : Int32).toInt8.toInt32 : Int32).toInt8.toInt32) → T0 G J_M_prove 177 [(0, .ref a0), (1, .int x1), (2, .ref a2), (3, .int x3), (4, .int x4), (5, .ref a5), (6, .int x6), (7, .int 0)] [] S11 Q)) ∧ (¬ (32 ≤ x7) → te S a0 = some (.inr 11) ∧ ∃ b13 : Nat, tR S a0 10 = some b13 ∧ ∃ b15 : Nat, tR S a0 47 = some b15 ∧ ∃ n17 : Nat, te S b15 = some (.inl (.byte, n17)) ∧ vp_in x7 n17 ∧ ∃ n19 : Nat, te S b13 = some (.inl (.byte, n19)) ∧ vp_in x7 n19 ∧ ∀ S21 : TS, S21 = sI S b13 (upd (tI S b13) x7.toNatClampNeg (tI S b15 x7.toNatClampNeg : Int32).toInt8.toInt32) → ∀ y22 : Int32, y22 = x7 + 1 → T0 G J_M_prove 116 [(0, .ref a0), (1, .int x1), (2, .ref a2), (3, .int x3), (4, .int x4), (5, .ref a5), (6, .int x6), (7, .int y22)] [] S21 Q))) :
    T0 G J_M_prove 116 [(0, .ref a0), (1, .int x1), (2, .ref a2), (3, .int x3), (4, .int x4), (5, .ref a5), (6, .int x6), (7, .int x7)] [] S Q := by
  unfold T0
  have hm : Sm0 S S := Sm0.rf S
  refine tt_iload (k0 := 7) (by decide +kernel) rfl ?_
  refine tt_bipush (n := 32) (v := 32) (by decide +kernel) (by decide) ?_
  refine tt_icmp_ge (off := 23) 143 (by decide +kernel) (by decide) (fun c => ?_) (fun c => ?_)
  · have h := h.1 c
    refine tt_aload_n (k0 := 0) (by decide +kernel) rfl ?_
    obtain ⟨f1, h⟩ := h
    obtain ⟨b2, f3, h⟩ := h
    refine tt_getR (k := 11) (by decide +kernel) KC_11 (by decide) w_876 (fun _ => rfl) f1 f3 ?_
    refine tt_iconst (n := 0) (v := 0) (by decide +kernel) (by decide) ?_
    refine tt_bipush (n := 102) (v := 102) (by decide +kernel) (by decide) ?_
    obtain ⟨n4, f5, h⟩ := h
    obtain ⟨g2, h⟩ := h
    refine tt_bast (by decide +kernel) f5 g2 ?_
    show T G J_M_prove 151 [(0, .ref a0), (1, .int x1), (2, .ref a2), (3, .int x3), (4, .int x4), (5, .ref a5), (6, .int x6), (7, .int x7)] [] (sI S b2 (upd (tI S b2) 0 (102 : Int32).toInt8.toInt32)) _
    generalize eS6 : sI S b2 (upd (tI S b2) 0 (102 : Int32).toInt8.toInt32) = S6
    have h := h S6 eS6.symm
    have hm : Sm0 S S6 := by rw [← eS6]; exact hm.I
    have f1 : te S6 a0 = some (.inr 11) := by rw [← eS6, te_sI]; exact f1
    have f3 : tR S6 a0 11 = some b2 := by rw [← eS6, tR_sI]; exact f3
    have f5 : te S6 b2 = some (.inl (.byte, n4)) := by rw [← eS6, te_sI]; exact f5
    refine tt_aload_n (k0 := 0) (by decide +kernel) rfl ?_
    refine tt_iconst (n := 1) (v := 1) (by decide +kernel) (by decide) ?_
    refine tt_putI (k := 12) (by decide +kernel) KC_11 (by decide) w_877 rfl rfl f1 ?_
    generalize eS7 : sI S6 a0 (upd (tI S6 a0) 12 1) = S7
    have h := h S7 eS7.symm
    have hm : Sm0 S S7 := by rw [← eS7]; exact hm.I
    have f1 : te S7 a0 = some (.inr 11) := by rw [← eS7, te_sI]; exact f1
    have f3 : tR S7 a0 11 = some b2 := by rw [← eS7, tR_sI]; exact f3
    have f5 : te S7 b2 = some (.inl (.byte, n4)) := by rw [← eS7, te_sI]; exact f5
    refine tt_aload_n (k0 := 0) (by decide +kernel) rfl ?_
    refine tt_aload_n (k0 := 0) (by decide +kernel) rfl ?_
    obtain ⟨b8, f9, h⟩ := h
    refine tt_getR (k := 10) (by decide +kernel) KC_11 (by decide) w_875 (fun _ => rfl) f1 f9 ?_
    refine tt_iconst (n := 0) (v := 0) (by decide +kernel) (by decide) ?_
    refine tt_callV (As := [.ref b8, .int 0]) (rest := []) (ci := 11) (r0 := (R_11, F_11, 55)) (by decide +kernel) LK_M_macTo w_1182 w_1184 (in_p (n := 55) 49 rfl) (by decide) (by decide) rfl rfl (Nat.le_of_ble_eq_true rfl) rfl rfl f1 (ct_mono h (fun r S10 h => ?_))
    obtain ⟨hm2, h⟩ := h
    obtain ⟨rfl, h⟩ := h
    show T G J_M_prove 165 [(0, .ref a0), (1, .int x1), (2, .ref a2), (3, .int x3), (4, .int x4), (5, .ref a5), (6, .int x6), (7, .int x7)] [] S10 _
    have hm := hm.tr hm2
    have f1 : te S10 a0 = some (.inr 11) := by rw [hm2.1]; exact f1
    have f3 : tR S10 a0 11 = some b2 := by rw [hm2.R]; exact f3
    have f5 : te S10 b2 = some (.inl (.byte, n4)) := by rw [hm2.1]; exact f5
    have f9 : tR S10 a0 10 = some b8 := by rw [hm2.R]; exact f9
    refine tt_aload_n (k0 := 0) (by decide +kernel) rfl ?_
    refine tt_getR (k := 11) (by decide +kernel) KC_11 (by decide) w_876 (fun _ => rfl) f1 f3 ?_
    refine tt_iconst (n := 0) (v := 0) (by decide +kernel) (by decide) ?_
    refine tt_iload (k0 := 4) (by decide +kernel) rfl ?_
    refine tt_i2b (by decide +kernel) ?_
    obtain ⟨g2, h⟩ := h
    refine tt_bast (by decide +kernel) f5 g2 ?_
    show T G J_M_prove 174 [(0, .ref a0), (1, .int x1), (2, .ref a2), (3, .int x3), (4, .int x4), (5, .ref a5), (6, .int x6), (7, .int x7)] [] (sI S10 b2 (upd (tI S10 b2) 0 ((x4 : Int32).toInt8.toInt32 : Int32).toInt8.toInt32)) _
    generalize eS11 : sI S10 b2 (upd (tI S10 b2) 0 ((x4 : Int32).toInt8.toInt32 : Int32).toInt8.toInt32) = S11
    have h := h S11 eS11.symm
    have hm : Sm0 S S11 := by rw [← eS11]; exact hm.I
    have f1 : te S11 a0 = some (.inr 11) := by rw [← eS11, te_sI]; exact f1
    have f3 : tR S11 a0 11 = some b2 := by rw [← eS11, tR_sI]; exact f3
    have f5 : te S11 b2 = some (.inl (.byte, n4)) := by rw [← eS11, te_sI]; exact f5
    have f9 : tR S11 a0 10 = some b8 := by rw [← eS11, tR_sI]; exact f9
    refine tt_iconst (n := 0) (v := 0) (by decide +kernel) (by decide) ?_
    refine tt_istore (k0 := 7) (lv' := [(0, .ref a0), (1, .int x1), (2, .ref a2), (3, .int x3), (4, .int x4), (5, .ref a5), (6, .int x6), (7, .int 0)]) (by decide +kernel) (by decide) rfl ?_
    exact tt_mono h (fun r S' q => ⟨hm.tr q.1, q.2⟩)
  · have h := h.2 c
    refine tt_aload_n (k0 := 0) (by decide +kernel) rfl ?_
    obtain ⟨f12, h⟩ := h
    obtain ⟨b13, f14, h⟩ := h
    refine tt_getR (k := 10) (by decide +kernel) KC_11 (by decide) w_875 (fun _ => rfl) f12 f14 ?_
    refine tt_iload (k0 := 7) (by decide +kernel) rfl ?_
    refine tt_aload_n (k0 := 0) (by decide +kernel) rfl ?_
    obtain ⟨b15, f16, h⟩ := h
    refine tt_getR (k := 47) (by decide +kernel) KC_11 (by decide) w_912 (fun _ => rfl) f12 f16 ?_
    refine tt_iload (k0 := 7) (by decide +kernel) rfl ?_
    obtain ⟨n17, f18, h⟩ := h
    obtain ⟨g2, h⟩ := h
    refine tt_bald (by decide +kernel) f18 g2 ?_
    obtain ⟨n19, f20, h⟩ := h
    obtain ⟨g2, h⟩ := h
    refine tt_bast (by decide +kernel) f20 g2 ?_
    generalize eS21 : sI S b13 (upd (tI S b13) x7.toNatClampNeg (tI S b15 x7.toNatClampNeg : Int32).toInt8.toInt32) = S21
    have h := h S21 eS21.symm
    have hm : Sm0 S S21 := by rw [← eS21]; exact hm.I
    have f12 : te S21 a0 = some (.inr 11) := by rw [← eS21, te_sI]; exact f12
    have f14 : tR S21 a0 10 = some b13 := by rw [← eS21, tR_sI]; exact f14
    have f16 : tR S21 a0 47 = some b15 := by rw [← eS21, tR_sI]; exact f16
    have f18 : te S21 b15 = some (.inl (.byte, n17)) := by rw [← eS21, te_sI]; exact f18
    have f20 : te S21 b13 = some (.inl (.byte, n19)) := by rw [← eS21, te_sI]; exact f20
    obtain ⟨y22, ey22⟩ : ∃ y : Int32, y = x7 + 1 := ⟨_, rfl⟩
    have h := h y22 ey22
    refine tt_iinc (i := 7) (n := 1) (v := y22) (lv' := [(0, .ref a0), (1, .int x1), (2, .ref a2), (3, .int x3), (4, .int x4), (5, .ref a5), (6, .int x6), (7, .int y22)]) (by decide +kernel) (by decide) rfl ey22.symm rfl ?_
    refine tt_goto (off := -24) (tgt := 116) (by decide +kernel) (by decide) ?_
    exact tt_mono h (fun r S' q => ⟨hm.tr q.1, q.2⟩)
set_option maxRecDepth 100000 in
theorem v_M_prove_177 {G : pG} (a0 : Nat) (x1 : Int32) (a2 : Nat) (x3 : Int32) (x4 : Int32) (a5 : Nat) (x6 : Int32) (x7 : Int32) (S : TS) (Q : Option Value → TS → Prop)
    (h : ((32 ≤ x7 → te S a0 = some (.inr 11) ∧ ∀ S2 : TS, S2 = sI S a0 (upd (tI S a0) 12 33) → C0 G J_M_macTo [.ref a0, .ref a5, .int x6] S2 (fun r S3 => r = none ∧ Q none S3)) ∧ (¬ (32 ≤ x7) → te S a0 = some (.inr 11) ∧ ∃ b5 : Nat, tR S a0 11 = some b5 ∧ ∃ b7 : Nat, tR S a0 48 = some b7 ∧ ∃ n9 : Nat, te S b7 = some (.inl (.byte, n9)) ∧ vp_in x7 n9 ∧ ∃ n11 : Nat, te S b5 = some (.inl (.byte, n11)) ∧ vp_in ((1 : Int32) + x7) n11 ∧ ∀ S13 : TS, S13 = sI S b5 (upd (tI S b5) ((1 : Int32) + x7).toNatClampNeg (tI S b7 x7.toNatClampNeg : Int32).toInt8.toInt32) → ∀ y14 : Int32, y14 = x7 + 1 → T0 G J_M_prove 177 [(0, .ref a0), (1, .int x1), (2, .ref a2), (3, .int x3), (4, .int x4), (5, .ref a5), (6, .int x6), (7, .int y14)] [] S13 Q))) :
    T0 G J_M_prove 177 [(0, .ref a0), (1, .int x1), (2, .ref a2), (3, .int x3), (4, .int x4), (5, .ref a5), (6, .int x6), (7, .int x7)] [] S Q := by
  unfold T0
  have hm : Sm0 S S := Sm0.rf S
  refine tt_iload (k0 := 7) (by decide +kernel) rfl ?_
  refine tt_bipush (n := 32) (v := 32) (by decide +kernel) (by decide) ?_
  refine tt_icmp_ge (off := 25) 206 (by decide +kernel) (by decide) (fun c => ?_) (fun c => ?_)
  · have h := h.1 c
    refine tt_aload_n (k0 := 0) (by decide +kernel) rfl ?_
    refine tt_bipush (n := 33) (v := 33) (by decide +kernel) (by decide) ?_
    obtain ⟨f1, h⟩ := h
    refine tt_putI (k := 12) (by decide +kernel) KC_11 (by decide) w_877 rfl rfl f1 ?_
    generalize eS2 : sI S a0 (upd (tI S a0) 12 33) = S2
    have h := h S2 eS2.symm
    have hm : Sm0 S S2 := by rw [← eS2]; exact hm.I
    have f1 : te S2 a0 = some (.inr 11) := by rw [← eS2, te_sI]; exact f1
    refine tt_aload_n (k0 := 0) (by decide +kernel) rfl ?_
    refine tt_aload (k0 := 5) (by decide +kernel) rfl ?_
    refine tt_iload (k0 := 6) (by decide +kernel) rfl ?_
    refine tt_callV (As := [.ref a5, .int x6]) (rest := []) (ci := 11) (r0 := (R_11, F_11, 55)) (by decide +kernel) LK_M_macTo w_1182 w_1184 (in_p (n := 55) 49 rfl) (by decide) (by decide) rfl rfl (Nat.le_of_ble_eq_true rfl) rfl rfl f1 (ct_mono h (fun r S3 h => ?_))
    obtain ⟨hm2, h⟩ := h
    obtain ⟨rfl, h⟩ := h
    show T G J_M_prove 220 [(0, .ref a0), (1, .int x1), (2, .ref a2), (3, .int x3), (4, .int x4), (5, .ref a5), (6, .int x6), (7, .int x7)] [] S3 _
    have hm := hm.tr hm2
    have f1 : te S3 a0 = some (.inr 11) := by rw [hm2.1]; exact f1
    exact tt_vret (by decide +kernel) rfl ⟨hm, h⟩
  · have h := h.2 c
    refine tt_aload_n (k0 := 0) (by decide +kernel) rfl ?_
    obtain ⟨f4, h⟩ := h
    obtain ⟨b5, f6, h⟩ := h
    refine tt_getR (k := 11) (by decide +kernel) KC_11 (by decide) w_876 (fun _ => rfl) f4 f6 ?_
    refine tt_iconst (n := 1) (v := 1) (by decide +kernel) (by decide) ?_
    refine tt_iload (k0 := 7) (by decide +kernel) rfl ?_
    refine tt_iadd (by decide +kernel) ?_
    refine tt_aload_n (k0 := 0) (by decide +kernel) rfl ?_
    obtain ⟨b7, f8, h⟩ := h
    refine tt_getR (k := 48) (by decide +kernel) KC_11 (by decide) w_913 (fun _ => rfl) f4 f8 ?_
    refine tt_iload (k0 := 7) (by decide +kernel) rfl ?_
    obtain ⟨n9, f10, h⟩ := h
    obtain ⟨g2, h⟩ := h
    refine tt_bald (by decide +kernel) f10 g2 ?_
    obtain ⟨n11, f12, h⟩ := h
    obtain ⟨g2, h⟩ := h
    refine tt_bast (by decide +kernel) f12 g2 ?_
    generalize eS13 : sI S b5 (upd (tI S b5) ((1 : Int32) + x7).toNatClampNeg (tI S b7 x7.toNatClampNeg : Int32).toInt8.toInt32) = S13
    have h := h S13 eS13.symm
    have hm : Sm0 S S13 := by rw [← eS13]; exact hm.I
    have f4 : te S13 a0 = some (.inr 11) := by rw [← eS13, te_sI]; exact f4
    have f6 : tR S13 a0 11 = some b5 := by rw [← eS13, tR_sI]; exact f6
    have f8 : tR S13 a0 48 = some b7 := by rw [← eS13, tR_sI]; exact f8
    have f10 : te S13 b7 = some (.inl (.byte, n9)) := by rw [← eS13, te_sI]; exact f10
    have f12 : te S13 b5 = some (.inl (.byte, n11)) := by rw [← eS13, te_sI]; exact f12
    obtain ⟨y14, ey14⟩ : ∃ y : Int32, y = x7 + 1 := ⟨_, rfl⟩
    have h := h y14 ey14
    refine tt_iinc (i := 7) (n := 1) (v := y14) (lv' := [(0, .ref a0), (1, .int x1), (2, .ref a2), (3, .int x3), (4, .int x4), (5, .ref a5), (6, .int x6), (7, .int y14)]) (by decide +kernel) (by decide) rfl ey14.symm rfl ?_
    refine tt_goto (off := -26) (tgt := 177) (by decide +kernel) (by decide) ?_
    exact tt_mono h (fun r S' q => ⟨hm.tr q.1, q.2⟩)
set_option maxRecDepth 100000 in
theorem v_M_answered {G : pG} (a0 : Nat) (x1 : Int32) (x2 : Int32) (S : TS) (Q : Option Value → TS → Prop)
    (h : te S a0 = some (.inr 11) ∧ ∃ b2 : Nat, tR S a0 17 = some b2 ∧ ∃ n4 : Nat, te S b2 = some (.inl (.byte, n4)) ∧ vp_in 32 n4 ∧ ∀ y6 : Int32, y6 = tI S b2 32 → ((¬ x2 = 64 → Q (some (.int ((-4)))) S) ∧ (x2 = 64 → ∃ b7 : Nat, tR S a0 13 = some b7 ∧ ∃ n9 : Nat, te S b7 = some (.inl (.boolean, n9)) ∧ vp_in y6 n9 ∧ ((¬ tI S b7 y6.toNatClampNeg = 0 → T0 G J_M_answered 29 [(0, .ref a0), (1, .int x1), (2, .int x2), (3, .int y6), (4, .int 0)] [] S Q) ∧ (tI S b7 y6.toNatClampNeg = 0 → Q (some (.int ((-4)))) S))))) :
    C0 G J_M_answered [.ref a0, .int x1, .int x2] S Q := by
  unfold C0
  refine ct_of (by decide +kernel) (Nat.le_of_ble_eq_true rfl) (lv := [(0, .ref a0), (1, .int x1), (2, .int x2)]) rfl ?_
  have hm : Sm0 S S := Sm0.rf S
  refine tt_aload_n (k0 := 0) (by decide +kernel) rfl ?_
  obtain ⟨f1, h⟩ := h
  obtain ⟨b2, f3, h⟩ := h
  refine tt_getR (k := 17) (by decide +kernel) KC_11 (by decide) w_882 (fun _ => rfl) f1 f3 ?_
  refine tt_bipush (n := 32) (v := 32) (by decide +kernel) (by decide) ?_
  obtain ⟨n4, f5, h⟩ := h
  obtain ⟨g2, h⟩ := h
  refine tt_bald (by decide +kernel) f5 g2 ?_
  show T G J_M_answered 7 [(0, .ref a0), (1, .int x1), (2, .int x2)] [.int (tI S b2 32)] S _
  refine tt_topi (fun y6 ey6 => ?_)
  have h := h y6 ey6
  refine tt_istore_n (k0 := 3) (lv' := [(0, .ref a0), (1, .int x1), (2, .int x2), (3, .int y6)]) (by decide +kernel) (by decide) rfl ?_
  refine tt_iload_n (k0 := 2) (by decide +kernel) rfl ?_
  refine tt_bipush (n := 64) (v := 64) (by decide +kernel) (by decide) ?_
  refine tt_icmp_ne (off := 12) 23 (by decide +kernel) (by decide) (fun c => ?_) (fun c => ?_)
  · have h := h.1 c
    refine tt_bipush (n := -4) (v := -4) (by decide +kernel) (by decide) ?_
    exact tt_iret (by decide +kernel) rfl ⟨hm, h⟩
  · have h := h.2 c
    refine tt_aload_n (k0 := 0) (by decide +kernel) rfl ?_
    obtain ⟨b7, f8, h⟩ := h
    refine tt_getR (k := 13) (by decide +kernel) KC_11 (by decide) w_878 (fun _ => rfl) f1 f8 ?_
    refine tt_iload_n (k0 := 3) (by decide +kernel) rfl ?_
    obtain ⟨n9, f10, h⟩ := h
    obtain ⟨g2, h⟩ := h
    refine tt_zald (by decide +kernel) f10 g2 ?_
    refine tt_if_ne (off := 6) 26 (by decide +kernel) (by decide) (fun c => ?_) (fun c => ?_)
    · have h := h.1 c
      refine tt_iconst (n := 0) (v := 0) (by decide +kernel) (by decide) ?_
      refine tt_istore (k0 := 4) (lv' := [(0, .ref a0), (1, .int x1), (2, .int x2), (3, .int y6), (4, .int 0)]) (by decide +kernel) (by decide) rfl ?_
      exact tt_mono h (fun r S' q => ⟨hm.tr q.1, q.2⟩)
    · have h := h.2 c
      refine tt_bipush (n := -4) (v := -4) (by decide +kernel) (by decide) ?_
      exact tt_iret (by decide +kernel) rfl ⟨hm, h⟩
set_option maxRecDepth 100000 in
theorem v_M_answered_29 {G : pG} (a0 : Nat) (x1 : Int32) (x2 : Int32) (x3 : Int32) (x4 : Int32) (S : TS) (Q : Option Value → TS → Prop)
    (h : ((32 ≤ x4 → T0 G J_M_answered 63 [(0, .ref a0), (1, .int x1), (2, .int x2), (3, .int x3), (4, .int 0)] [] S Q) ∧ (¬ (32 ≤ x4) → te S a0 = some (.inr 11) ∧ ∃ b2 : Nat, tR S a0 51 = some b2 ∧ ∃ b4 : Nat, tR S a0 22 = some b4 ∧ ∃ n6 : Nat, te S b4 = some (.inl (.byte, n6)) ∧ vp_in ((x1 + (3 : Int32)) + x4) n6 ∧ ∃ n8 : Nat, te S b2 = some (.inl (.byte, n8)) ∧ vp_in x4 n8 ∧ ∀ S10 : TS, S10 = sI S b2 (upd (tI S b2) x4.toNatClampNeg (tI S b4 ((x1 + (3 : Int32)) + x4).toNatClampNeg : Int32).toInt8.toInt32) → ∀ y11 : Int32, y11 = x4 + 1 → T0 G J_M_answered 29 [(0, .ref a0), (1, .int x1), (2, .int x2), (3, .int x3), (4, .int y11)] [] S10 Q))) :
    T0 G J_M_answered 29 [(0, .ref a0), (1, .int x1), (2, .int x2), (3, .int x3), (4, .int x4)] [] S Q := by
  unfold T0
  have hm : Sm0 S S := Sm0.rf S
  refine tt_iload (k0 := 4) (by decide +kernel) rfl ?_
  refine tt_bipush (n := 32) (v := 32) (by decide +kernel) (by decide) ?_
  refine tt_icmp_ge (off := 27) 60 (by decide +kernel) (by decide) (fun c => ?_) (fun c => ?_)
  · have h := h.1 c
    refine tt_iconst (n := 0) (v := 0) (by decide +kernel) (by decide) ?_
    refine tt_istore (k0 := 4) (lv' := [(0, .ref a0), (1, .int x1), (2, .int x2), (3, .int x3), (4, .int 0)]) (by decide +kernel) (by decide) rfl ?_
    exact tt_mono h (fun r S' q => ⟨hm.tr q.1, q.2⟩)
  · have h := h.2 c
    refine tt_aload_n (k0 := 0) (by decide +kernel) rfl ?_
    obtain ⟨f1, h⟩ := h
    obtain ⟨b2, f3, h⟩ := h
    refine tt_getR (k := 51) (by decide +kernel) KC_11 (by decide) w_916 (fun _ => rfl) f1 f3 ?_
    refine tt_iload (k0 := 4) (by decide +kernel) rfl ?_
    refine tt_aload_n (k0 := 0) (by decide +kernel) rfl ?_
    obtain ⟨b4, f5, h⟩ := h
    refine tt_getR (k := 22) (by decide +kernel) KC_11 (by decide) w_887 (fun _ => rfl) f1 f5 ?_
    refine tt_iload_n (k0 := 1) (by decide +kernel) rfl ?_
    refine tt_iconst (n := 3) (v := 3) (by decide +kernel) (by decide) ?_
    refine tt_iadd (by decide +kernel) ?_
    refine tt_iload (k0 := 4) (by decide +kernel) rfl ?_
    refine tt_iadd (by decide +kernel) ?_
    obtain ⟨n6, f7, h⟩ := h
    obtain ⟨g2, h⟩ := h
    refine tt_bald (by decide +kernel) f7 g2 ?_
    obtain ⟨n8, f9, h⟩ := h
    obtain ⟨g2, h⟩ := h
    refine tt_bast (by decide +kernel) f9 g2 ?_
    generalize eS10 : sI S b2 (upd (tI S b2) x4.toNatClampNeg (tI S b4 ((x1 + (3 : Int32)) + x4).toNatClampNeg : Int32).toInt8.toInt32) = S10
    have h := h S10 eS10.symm
    have hm : Sm0 S S10 := by rw [← eS10]; exact hm.I
    have f1 : te S10 a0 = some (.inr 11) := by rw [← eS10, te_sI]; exact f1
    have f3 : tR S10 a0 51 = some b2 := by rw [← eS10, tR_sI]; exact f3
    have f5 : tR S10 a0 22 = some b4 := by rw [← eS10, tR_sI]; exact f5
    have f7 : te S10 b4 = some (.inl (.byte, n6)) := by rw [← eS10, te_sI]; exact f7
    have f9 : te S10 b2 = some (.inl (.byte, n8)) := by rw [← eS10, te_sI]; exact f9
    obtain ⟨y11, ey11⟩ : ∃ y : Int32, y = x4 + 1 := ⟨_, rfl⟩
    have h := h y11 ey11
    refine tt_iinc (i := 4) (n := 1) (v := y11) (lv' := [(0, .ref a0), (1, .int x1), (2, .int x2), (3, .int x3), (4, .int y11)]) (by decide +kernel) (by decide) rfl ey11.symm rfl ?_
    refine tt_goto (off := -28) (tgt := 29) (by decide +kernel) (by decide) ?_
    exact tt_mono h (fun r S' q => ⟨hm.tr q.1, q.2⟩)
set_option maxRecDepth 100000 in
theorem v_M_answered_63 {G : pG} (a0 : Nat) (x1 : Int32) (x2 : Int32) (x3 : Int32) (x4 : Int32) (S : TS) (Q : Option Value → TS → Prop)
    (h : ((33 ≤ x4 → T0 G J_M_answered 93 [(0, .ref a0), (1, .int x1), (2, .int x2), (3, .int x3), (4, .int 0)] [] S Q) ∧ (¬ (33 ≤ x4) → te S a0 = some (.inr 11) ∧ ∃ b2 : Nat, tR S a0 52 = some b2 ∧ ∃ b4 : Nat, tR S a0 49 = some b4 ∧ ∃ n6 : Nat, te S b4 = some (.inl (.byte, n6)) ∧ vp_in x4 n6 ∧ ∃ n8 : Nat, te S b2 = some (.inl (.byte, n8)) ∧ vp_in x4 n8 ∧ ∀ S10 : TS, S10 = sI S b2 (upd (tI S b2) x4.toNatClampNeg (tI S b4 x4.toNatClampNeg : Int32).toInt8.toInt32) → ∀ y11 : Int32, y11 = x4 + 1 → T0 G J_M_answered 63 [(0, .ref a0), (1, .int x1), (2, .int x2), (3, .int x3), (4, .int y11)] [] S10 Q))) :
    T0 G J_M_answered 63 [(0, .ref a0), (1, .int x1), (2, .int x2), (3, .int x3), (4, .int x4)] [] S Q := by
  unfold T0
  have hm : Sm0 S S := Sm0.rf S
  refine tt_iload (k0 := 4) (by decide +kernel) rfl ?_
  refine tt_bipush (n := 33) (v := 33) (by decide +kernel) (by decide) ?_
  refine tt_icmp_ge (off := 23) 90 (by decide +kernel) (by decide) (fun c => ?_) (fun c => ?_)
  · have h := h.1 c
    refine tt_iconst (n := 0) (v := 0) (by decide +kernel) (by decide) ?_
    refine tt_istore (k0 := 4) (lv' := [(0, .ref a0), (1, .int x1), (2, .int x2), (3, .int x3), (4, .int 0)]) (by decide +kernel) (by decide) rfl ?_
    exact tt_mono h (fun r S' q => ⟨hm.tr q.1, q.2⟩)
  · have h := h.2 c
    refine tt_aload_n (k0 := 0) (by decide +kernel) rfl ?_
    obtain ⟨f1, h⟩ := h
    obtain ⟨b2, f3, h⟩ := h
    refine tt_getR (k := 52) (by decide +kernel) KC_11 (by decide) w_917 (fun _ => rfl) f1 f3 ?_
    refine tt_iload (k0 := 4) (by decide +kernel) rfl ?_
    refine tt_aload_n (k0 := 0) (by decide +kernel) rfl ?_
    obtain ⟨b4, f5, h⟩ := h
    refine tt_getR (k := 49) (by decide +kernel) KC_11 (by decide) w_914 (fun _ => rfl) f1 f5 ?_
    refine tt_iload (k0 := 4) (by decide +kernel) rfl ?_
    obtain ⟨n6, f7, h⟩ := h
    obtain ⟨g2, h⟩ := h
    refine tt_bald (by decide +kernel) f7 g2 ?_
    obtain ⟨n8, f9, h⟩ := h
    obtain ⟨g2, h⟩ := h
    refine tt_bast (by decide +kernel) f9 g2 ?_
    generalize eS10 : sI S b2 (upd (tI S b2) x4.toNatClampNeg (tI S b4 x4.toNatClampNeg : Int32).toInt8.toInt32) = S10
    have h := h S10 eS10.symm
    have hm : Sm0 S S10 := by rw [← eS10]; exact hm.I
    have f1 : te S10 a0 = some (.inr 11) := by rw [← eS10, te_sI]; exact f1
    have f3 : tR S10 a0 52 = some b2 := by rw [← eS10, tR_sI]; exact f3
    have f5 : tR S10 a0 49 = some b4 := by rw [← eS10, tR_sI]; exact f5
    have f7 : te S10 b4 = some (.inl (.byte, n6)) := by rw [← eS10, te_sI]; exact f7
    have f9 : te S10 b2 = some (.inl (.byte, n8)) := by rw [← eS10, te_sI]; exact f9
    obtain ⟨y11, ey11⟩ : ∃ y : Int32, y = x4 + 1 := ⟨_, rfl⟩
    have h := h y11 ey11
    refine tt_iinc (i := 4) (n := 1) (v := y11) (lv' := [(0, .ref a0), (1, .int x1), (2, .int x2), (3, .int x3), (4, .int y11)]) (by decide +kernel) (by decide) rfl ey11.symm rfl ?_
    refine tt_goto (off := -24) (tgt := 63) (by decide +kernel) (by decide) ?_
    exact tt_mono h (fun r S' q => ⟨hm.tr q.1, q.2⟩)
set_option maxRecDepth 100000 in
theorem v_M_answered_93 {G : pG} (a0 : Nat) (x1 : Int32) (x2 : Int32) (x3 : Int32) (x4 : Int32) (S : TS) (Q : Option Value → TS → Prop)
    (h : ((33 ≤ x4 → te S a0 = some (.inr 11) ∧ ∃ b2 : Nat, tR S a0 51 = some b2 ∧ ∃ b4 : Nat, tR S a0 53 = some b4 ∧ C0 G J_M_prove [.ref a0, .int x3, .ref b2, .int 0, .int 115, .ref b4, .int 0] S (fun r S6 => r = none ∧ ∃ b7 : Nat, tR S6 a0 22 = some b7 ∧ CP G J_M_same [.ref b4, .int 0, .ref b7, .int ((x1 + (3 : Int32)) + (32 : Int32))] S6 (fun r => ∃ r9 : Int32, r = some (.int r9) ∧ ((¬ r9 = 0 → CP G J_M_full [.ref a0, .int 0] S6 (fun r => ∃ r10 : Int32, r = some (.int r10) ∧ ((r10 = 0 → C0 G J_M_send [.ref a0, .int 0, .int 3, .int 32] S6 (fun r S11 => ∃ r12 : Int32, r = some (.int r12) ∧ C0 G J_M_prove [.ref a0, .int x3, .ref b2, .int 0, .int 99, .ref b7, .int r12] S11 (fun r S13 => r = none ∧ ∃ b14 : Nat, tR S13 a0 47 = some b14 ∧ C0 G J_M_opens [.ref a0, .int 0, .ref b14] S13 (fun r S16 => r = none ∧ T0 G J_M_answered 228 [(0, .ref a0), (1, .int x1), (2, .int x2), (3, .int x3), (4, .int r9), (5, .int 0), (6, .int 0)] [] S16 Q)))) ∧ (¬ (r10 = 0) → T0 G J_M_answered 228 [(0, .ref a0), (1, .int x1), (2, .int x2), (3, .int x3), (4, .int r9), (5, .int ((-3))), (6, .int 0)] [] S6 Q)))) ∧ (r9 = 0 → T0 G J_M_answered 228 [(0, .ref a0), (1, .int x1), (2, .int x2), (3, .int x3), (4, .int r9), (5, .int ((-4))), (6, .int 0)] [] S6 Q))))) ∧ (¬ (33 ≤ x4) → te S a0 = some (.inr 11) ∧ ∃ b18 : Nat, tR S a0 49 = some b18 ∧ ∃ b20 : Nat, tR S a0 17 = some b20 ∧ ∃ n22 : Nat, te S b20 = some (.inl (.byte, n22)) ∧ vp_in x4 n22 ∧ ∃ n24 : Nat, te S b18 = some (.inl (.byte, n24)) ∧ vp_in x4 n24 ∧ ∀ S26 : TS, S26 = sI S b18 (upd (tI S b18) x4.toNatClampNeg (tI S b20 x4.toNatClampNeg : Int32).toInt8.toInt32) → ∀ y27 : Int32, y27 = x4 + 1 → T0 G J_M_answered 93 [(0, .ref a0), (1, .int x1), (2, .int x2), (3, .int x3), (4, .int y27)] [] S26 Q))) :
    T0 G J_M_answered 93 [(0, .ref a0), (1, .int x1), (2, .int x2), (3, .int x3), (4, .int x4)] [] S Q := by
  unfold T0
  have hm : Sm0 S S := Sm0.rf S
  refine tt_iload (k0 := 4) (by decide +kernel) rfl ?_
  refine tt_bipush (n := 33) (v := 33) (by decide +kernel) (by decide) ?_
  refine tt_icmp_ge (off := 23) 120 (by decide +kernel) (by decide) (fun c => ?_) (fun c => ?_)
  · have h := h.1 c
    refine tt_aload_n (k0 := 0) (by decide +kernel) rfl ?_
    refine tt_iload_n (k0 := 3) (by decide +kernel) rfl ?_
    refine tt_aload_n (k0 := 0) (by decide +kernel) rfl ?_
    obtain ⟨f1, h⟩ := h
    obtain ⟨b2, f3, h⟩ := h
    refine tt_getR (k := 51) (by decide +kernel) KC_11 (by decide) w_916 (fun _ => rfl) f1 f3 ?_
    refine tt_iconst (n := 0) (v := 0) (by decide +kernel) (by decide) ?_
    refine tt_bipush (n := 115) (v := 115) (by decide +kernel) (by decide) ?_
    refine tt_aload_n (k0 := 0) (by decide +kernel) rfl ?_
    obtain ⟨b4, f5, h⟩ := h
    refine tt_getR (k := 53) (by decide +kernel) KC_11 (by decide) w_918 (fun _ => rfl) f1 f5 ?_
    refine tt_iconst (n := 0) (v := 0) (by decide +kernel) (by decide) ?_
    refine tt_callV (As := [.int x3, .ref b2, .int 0, .int 115, .ref b4, .int 0]) (rest := []) (ci := 11) (r0 := (R_11, F_11, 55)) (by decide +kernel) LK_M_prove w_1202 w_1204 (in_p (n := 55) 52 rfl) (by decide) (by decide) rfl rfl (Nat.le_of_ble_eq_true rfl) rfl rfl f1 (ct_mono h (fun r S6 h => ?_))
    obtain ⟨hm2, h⟩ := h
    obtain ⟨rfl, h⟩ := h
    show T G J_M_answered 137 [(0, .ref a0), (1, .int x1), (2, .int x2), (3, .int x3), (4, .int x4)] [] S6 _
    have hm := hm.tr hm2
    have f1 : te S6 a0 = some (.inr 11) := by rw [hm2.1]; exact f1
    have f3 : tR S6 a0 51 = some b2 := by rw [hm2.R]; exact f3
    have f5 : tR S6 a0 53 = some b4 := by rw [hm2.R]; exact f5
    refine tt_aload_n (k0 := 0) (by decide +kernel) rfl ?_
    refine tt_getR (k := 53) (by decide +kernel) KC_11 (by decide) w_918 (fun _ => rfl) f1 f5 ?_
    refine tt_iconst (n := 0) (v := 0) (by decide +kernel) (by decide) ?_
    refine tt_aload_n (k0 := 0) (by decide +kernel) rfl ?_
    obtain ⟨b7, f8, h⟩ := h
    refine tt_getR (k := 22) (by decide +kernel) KC_11 (by decide) w_887 (fun _ => rfl) f1 f8 ?_
    refine tt_iload_n (k0 := 1) (by decide +kernel) rfl ?_
    refine tt_iconst (n := 3) (v := 3) (by decide +kernel) (by decide) ?_
    refine tt_iadd (by decide +kernel) ?_
    refine tt_bipush (n := 32) (v := 32) (by decide +kernel) (by decide) ?_
    refine tt_iadd (by decide +kernel) ?_
    refine tt_callS (As := [.ref b4, .int 0, .ref b7, .int ((x1 + (3 : Int32)) + (32 : Int32))]) (rest := []) (by decide +kernel) LK_M_same w_1210 w_1211 (by decide) (by decide) rfl rfl (Nat.le_of_ble_eq_true rfl) (ct_mono h (fun r Sb h => ?_))
    obtain ⟨eb, h⟩ := h
    obtain ⟨r9, rfl, h⟩ := h
    rw [eb]
    show T G J_M_answered 155 [(0, .ref a0), (1, .int x1), (2, .int x2), (3, .int x3), (4, .int x4)] [.int r9] S6 _
    refine tt_istore (k0 := 4) (lv' := [(0, .ref a0), (1, .int x1), (2, .int x2), (3, .int x3), (4, .int r9)]) (by decide +kernel) (by decide) rfl ?_
    refine tt_iload (k0 := 4) (by decide +kernel) rfl ?_
    refine tt_if_ne (off := 8) 167 (by decide +kernel) (by decide) (fun c => ?_) (fun c => ?_)
    · have h := h.1 c
      refine tt_aload_n (k0 := 0) (by decide +kernel) rfl ?_
      refine tt_iconst (n := 0) (v := 0) (by decide +kernel) (by decide) ?_
      refine tt_callV (As := [.int 0]) (rest := []) (ci := 11) (r0 := (R_11, F_11, 55)) (by decide +kernel) LK_M_full w_1088 w_1090 (in_p (n := 55) 33 rfl) (by decide) (by decide) rfl rfl (Nat.le_of_ble_eq_true rfl) rfl rfl f1 (ct_mono h (fun r Sb h => ?_))
      obtain ⟨eb, h⟩ := h
      obtain ⟨r10, rfl, h⟩ := h
      rw [eb]
      show T G J_M_answered 172 [(0, .ref a0), (1, .int x1), (2, .int x2), (3, .int x3), (4, .int r9)] [.int r10] S6 _
      refine tt_if_eq (off := 8) 180 (by decide +kernel) (by decide) (fun c => ?_) (fun c => ?_)
      · have h := h.1 c
        refine tt_iconst (n := 0) (v := 0) (by decide +kernel) (by decide) ?_
        refine tt_istore (k0 := 5) (lv' := [(0, .ref a0), (1, .int x1), (2, .int x2), (3, .int x3), (4, .int r9), (5, .int 0)]) (by decide +kernel) (by decide) rfl ?_
        refine tt_iload (k0 := 5) (by decide +kernel) rfl ?_
        refine tt_if_ne (off := 40) 225 (by decide +kernel) (by decide) (fun c => ?_) (fun c => ?_)
        · exact absurd c (by decide)
        · refine tt_aload_n (k0 := 0) (by decide +kernel) rfl ?_
          refine tt_iconst (n := 0) (v := 0) (by decide +kernel) (by decide) ?_
          refine tt_iconst (n := 3) (v := 3) (by decide +kernel) (by decide) ?_
          refine tt_bipush (n := 32) (v := 32) (by decide +kernel) (by decide) ?_
          refine tt_callV (As := [.int 0, .int 3, .int 32]) (rest := []) (ci := 11) (r0 := (R_11, F_11, 55)) (by decide +kernel) LK_M_send w_1100 w_1102 (in_p (n := 55) 36 rfl) (by decide) (by decide) rfl rfl (Nat.le_of_ble_eq_true rfl) rfl rfl f1 (ct_mono h (fun r S11 h => ?_))
          obtain ⟨hm2, h⟩ := h
          obtain ⟨r12, rfl, h⟩ := h
          show T G J_M_answered 196 [(0, .ref a0), (1, .int x1), (2, .int x2), (3, .int x3), (4, .int r9), (5, .int 0)] [.int r12] S11 _
          have hm := hm.tr hm2
          have f1 : te S11 a0 = some (.inr 11) := by rw [hm2.1]; exact f1
          have f3 : tR S11 a0 51 = some b2 := by rw [hm2.R]; exact f3
          have f5 : tR S11 a0 53 = some b4 := by rw [hm2.R]; exact f5
          have f8 : tR S11 a0 22 = some b7 := by rw [hm2.R]; exact f8
          refine tt_istore (k0 := 6) (lv' := [(0, .ref a0), (1, .int x1), (2, .int x2), (3, .int x3), (4, .int r9), (5, .int 0), (6, .int r12)]) (by decide +kernel) (by decide) rfl ?_
          refine tt_aload_n (k0 := 0) (by decide +kernel) rfl ?_
          refine tt_iload_n (k0 := 3) (by decide +kernel) rfl ?_
          refine tt_aload_n (k0 := 0) (by decide +kernel) rfl ?_
          refine tt_getR (k := 51) (by decide +kernel) KC_11 (by decide) w_916 (fun _ => rfl) f1 f3 ?_
          refine tt_iconst (n := 0) (v := 0) (by decide +kernel) (by decide) ?_
          refine tt_bipush (n := 99) (v := 99) (by decide +kernel) (by decide) ?_
          refine tt_aload_n (k0 := 0) (by decide +kernel) rfl ?_
          refine tt_getR (k := 22) (by decide +kernel) KC_11 (by decide) w_887 (fun _ => rfl) f1 f8 ?_
          refine tt_iload (k0 := 6) (by decide +kernel) rfl ?_
          refine tt_callV (As := [.int x3, .ref b2, .int 0, .int 99, .ref b7, .int r12]) (rest := []) (ci := 11) (r0 := (R_11, F_11, 55)) (by decide +kernel) LK_M_prove w_1202 w_1204 (in_p (n := 55) 52 rfl) (by decide) (by decide) rfl rfl (Nat.le_of_ble_eq_true rfl) rfl rfl f1 (ct_mono h (fun r S13 h => ?_))
          obtain ⟨hm2, h⟩ := h
          obtain ⟨rfl, h⟩ := h
          show T G J_M_answered 216 [(0, .ref a0), (1, .int x1), (2, .int x2), (3, .int x3), (4, .int r9), (5, .int 0), (6, .int r12)] [] S13 _
          have hm := hm.tr hm2
          have f1 : te S13 a0 = some (.inr 11) := by rw [hm2.1]; exact f1
          have f3 : tR S13 a0 51 = some b2 := by rw [hm2.R]; exact f3
          have f5 : tR S13 a0 53 = some b4 := by rw [hm2.R]; exact f5
          have f8 : tR S13 a0 22 = some b7 := by rw [hm2.R]; exact f8
          refine tt_aload_n (k0 := 0) (by decide +kernel) rfl ?_
          refine tt_iconst (n := 0) (v := 0) (by decide +kernel) (by decide) ?_
          refine tt_aload_n (k0 := 0) (by decide +kernel) rfl ?_
          obtain ⟨b14, f15, h⟩ := h
          refine tt_getR (k := 47) (by decide +kernel) KC_11 (by decide) w_912 (fun _ => rfl) f1 f15 ?_
          refine tt_callV (As := [.int 0, .ref b14]) (rest := []) (ci := 11) (r0 := (R_11, F_11, 55)) (by decide +kernel) LK_M_opens w_1213 w_1215 (in_p (n := 55) 54 rfl) (by decide) (by decide) rfl rfl (Nat.le_of_ble_eq_true rfl) rfl rfl f1 (ct_mono h (fun r S16 h => ?_))
          obtain ⟨hm2, h⟩ := h
          obtain ⟨rfl, h⟩ := h
          show T G J_M_answered 225 [(0, .ref a0), (1, .int x1), (2, .int x2), (3, .int x3), (4, .int r9), (5, .int 0), (6, .int r12)] [] S16 _
          have hm := hm.tr hm2
          have f1 : te S16 a0 = some (.inr 11) := by rw [hm2.1]; exact f1
          have f3 : tR S16 a0 51 = some b2 := by rw [hm2.R]; exact f3
          have f5 : tR S16 a0 53 = some b4 := by rw [hm2.R]; exact f5
          have f8 : tR S16 a0 22 = some b7 := by rw [hm2.R]; exact f8
          have f15 : tR S16 a0 47 = some b14 := by rw [hm2.R]; exact f15
          refine tt_iconst (n := 0) (v := 0) (by decide +kernel) (by decide) ?_
          refine tt_istore (k0 := 6) (lv' := [(0, .ref a0), (1, .int x1), (2, .int x2), (3, .int x3), (4, .int r9), (5, .int 0), (6, .int 0)]) (by decide +kernel) (by decide) rfl ?_
          exact tt_mono h (fun r S' q => ⟨hm.tr q.1, q.2⟩)
      · have h := h.2 c
        refine tt_bipush (n := -3) (v := -3) (by decide +kernel) (by decide) ?_
        refine tt_goto (off := 4) (tgt := 181) (by decide +kernel) (by decide) ?_
        refine tt_istore (k0 := 5) (lv' := [(0, .ref a0), (1, .int x1), (2, .int x2), (3, .int x3), (4, .int r9), (5, .int ((-3)))]) (by decide +kernel) (by decide) rfl ?_
        refine tt_iload (k0 := 5) (by decide +kernel) rfl ?_
        refine tt_if_ne (off := 40) 225 (by decide +kernel) (by decide) (fun c => ?_) (fun c => ?_)
        · refine tt_iconst (n := 0) (v := 0) (by decide +kernel) (by decide) ?_
          refine tt_istore (k0 := 6) (lv' := [(0, .ref a0), (1, .int x1), (2, .int x2), (3, .int x3), (4, .int r9), (5, .int ((-3))), (6, .int 0)]) (by decide +kernel) (by decide) rfl ?_
          exact tt_mono h (fun r S' q => ⟨hm.tr q.1, q.2⟩)
        · exact absurd c (by decide)
    · have h := h.2 c
      refine tt_bipush (n := -4) (v := -4) (by decide +kernel) (by decide) ?_
      refine tt_goto (off := 17) (tgt := 181) (by decide +kernel) (by decide) ?_
      refine tt_istore (k0 := 5) (lv' := [(0, .ref a0), (1, .int x1), (2, .int x2), (3, .int x3), (4, .int r9), (5, .int ((-4)))]) (by decide +kernel) (by decide) rfl ?_
      refine tt_iload (k0 := 5) (by decide +kernel) rfl ?_
      refine tt_if_ne (off := 40) 225 (by decide +kernel) (by decide) (fun c => ?_) (fun c => ?_)
      · refine tt_iconst (n := 0) (v := 0) (by decide +kernel) (by decide) ?_
        refine tt_istore (k0 := 6) (lv' := [(0, .ref a0), (1, .int x1), (2, .int x2), (3, .int x3), (4, .int r9), (5, .int ((-4))), (6, .int 0)]) (by decide +kernel) (by decide) rfl ?_
        exact tt_mono h (fun r S' q => ⟨hm.tr q.1, q.2⟩)
      · exact absurd c (by decide)
  · have h := h.2 c
    refine tt_aload_n (k0 := 0) (by decide +kernel) rfl ?_
    obtain ⟨f17, h⟩ := h
    obtain ⟨b18, f19, h⟩ := h
    refine tt_getR (k := 49) (by decide +kernel) KC_11 (by decide) w_914 (fun _ => rfl) f17 f19 ?_
    refine tt_iload (k0 := 4) (by decide +kernel) rfl ?_
    refine tt_aload_n (k0 := 0) (by decide +kernel) rfl ?_
    obtain ⟨b20, f21, h⟩ := h
    refine tt_getR (k := 17) (by decide +kernel) KC_11 (by decide) w_882 (fun _ => rfl) f17 f21 ?_
    refine tt_iload (k0 := 4) (by decide +kernel) rfl ?_
    obtain ⟨n22, f23, h⟩ := h
    obtain ⟨g2, h⟩ := h
    refine tt_bald (by decide +kernel) f23 g2 ?_
    obtain ⟨n24, f25, h⟩ := h
    obtain ⟨g2, h⟩ := h
    refine tt_bast (by decide +kernel) f25 g2 ?_
    generalize eS26 : sI S b18 (upd (tI S b18) x4.toNatClampNeg (tI S b20 x4.toNatClampNeg : Int32).toInt8.toInt32) = S26
    have h := h S26 eS26.symm
    have hm : Sm0 S S26 := by rw [← eS26]; exact hm.I
    have f17 : te S26 a0 = some (.inr 11) := by rw [← eS26, te_sI]; exact f17
    have f19 : tR S26 a0 49 = some b18 := by rw [← eS26, tR_sI]; exact f19
    have f21 : tR S26 a0 17 = some b20 := by rw [← eS26, tR_sI]; exact f21
    have f23 : te S26 b20 = some (.inl (.byte, n22)) := by rw [← eS26, te_sI]; exact f23
    have f25 : te S26 b18 = some (.inl (.byte, n24)) := by rw [← eS26, te_sI]; exact f25
    obtain ⟨y27, ey27⟩ : ∃ y : Int32, y = x4 + 1 := ⟨_, rfl⟩
    have h := h y27 ey27
    refine tt_iinc (i := 4) (n := 1) (v := y27) (lv' := [(0, .ref a0), (1, .int x1), (2, .int x2), (3, .int x3), (4, .int y27)]) (by decide +kernel) (by decide) rfl ey27.symm rfl ?_
    refine tt_goto (off := -24) (tgt := 93) (by decide +kernel) (by decide) ?_
    exact tt_mono h (fun r S' q => ⟨hm.tr q.1, q.2⟩)
set_option maxRecDepth 100000 in
theorem v_M_answered_228 {G : pG} (a0 : Nat) (x1 : Int32) (x2 : Int32) (x3 : Int32) (x4 : Int32) (x5 : Int32) (x6 : Int32) (S : TS) (Q : Option Value → TS → Prop)
    (h : ((33 ≤ x6 → Q (some (.int x5)) S) ∧ (¬ (33 ≤ x6) → te S a0 = some (.inr 11) ∧ ∃ b2 : Nat, tR S a0 49 = some b2 ∧ ∃ b4 : Nat, tR S a0 52 = some b4 ∧ ∃ n6 : Nat, te S b4 = some (.inl (.byte, n6)) ∧ vp_in x6 n6 ∧ ∃ n8 : Nat, te S b2 = some (.inl (.byte, n8)) ∧ vp_in x6 n8 ∧ ∀ S10 : TS, S10 = sI S b2 (upd (tI S b2) x6.toNatClampNeg (tI S b4 x6.toNatClampNeg : Int32).toInt8.toInt32) → ∀ y11 : Int32, y11 = x6 + 1 → T0 G J_M_answered 228 [(0, .ref a0), (1, .int x1), (2, .int x2), (3, .int x3), (4, .int x4), (5, .int x5), (6, .int y11)] [] S10 Q))) :
    T0 G J_M_answered 228 [(0, .ref a0), (1, .int x1), (2, .int x2), (3, .int x3), (4, .int x4), (5, .int x5), (6, .int x6)] [] S Q := by
  unfold T0
  have hm : Sm0 S S := Sm0.rf S
  refine tt_iload (k0 := 6) (by decide +kernel) rfl ?_
  refine tt_bipush (n := 33) (v := 33) (by decide +kernel) (by decide) ?_
  refine tt_icmp_ge (off := 23) 255 (by decide +kernel) (by decide) (fun c => ?_) (fun c => ?_)
  · have h := h.1 c
    refine tt_iload (k0 := 5) (by decide +kernel) rfl ?_
    exact tt_iret (by decide +kernel) rfl ⟨hm, h⟩
  · have h := h.2 c
    refine tt_aload_n (k0 := 0) (by decide +kernel) rfl ?_
    obtain ⟨f1, h⟩ := h
    obtain ⟨b2, f3, h⟩ := h
    refine tt_getR (k := 49) (by decide +kernel) KC_11 (by decide) w_914 (fun _ => rfl) f1 f3 ?_
    refine tt_iload (k0 := 6) (by decide +kernel) rfl ?_
    refine tt_aload_n (k0 := 0) (by decide +kernel) rfl ?_
    obtain ⟨b4, f5, h⟩ := h
    refine tt_getR (k := 52) (by decide +kernel) KC_11 (by decide) w_917 (fun _ => rfl) f1 f5 ?_
    refine tt_iload (k0 := 6) (by decide +kernel) rfl ?_
    obtain ⟨n6, f7, h⟩ := h
    obtain ⟨g2, h⟩ := h
    refine tt_bald (by decide +kernel) f7 g2 ?_
    obtain ⟨n8, f9, h⟩ := h
    obtain ⟨g2, h⟩ := h
    refine tt_bast (by decide +kernel) f9 g2 ?_
    generalize eS10 : sI S b2 (upd (tI S b2) x6.toNatClampNeg (tI S b4 x6.toNatClampNeg : Int32).toInt8.toInt32) = S10
    have h := h S10 eS10.symm
    have hm : Sm0 S S10 := by rw [← eS10]; exact hm.I
    have f1 : te S10 a0 = some (.inr 11) := by rw [← eS10, te_sI]; exact f1
    have f3 : tR S10 a0 49 = some b2 := by rw [← eS10, tR_sI]; exact f3
    have f5 : tR S10 a0 52 = some b4 := by rw [← eS10, tR_sI]; exact f5
    have f7 : te S10 b4 = some (.inl (.byte, n6)) := by rw [← eS10, te_sI]; exact f7
    have f9 : te S10 b2 = some (.inl (.byte, n8)) := by rw [← eS10, te_sI]; exact f9
    obtain ⟨y11, ey11⟩ : ∃ y : Int32, y = x6 + 1 := ⟨_, rfl⟩
    have h := h y11 ey11
    refine tt_iinc (i := 6) (n := 1) (v := y11) (lv' := [(0, .ref a0), (1, .int x1), (2, .int x2), (3, .int x3), (4, .int x4), (5, .int x5), (6, .int y11)]) (by decide +kernel) (by decide) rfl ey11.symm rfl ?_
    refine tt_goto (off := -24) (tgt := 228) (by decide +kernel) (by decide) ?_
    exact tt_mono h (fun r S' q => ⟨hm.tr q.1, q.2⟩)
