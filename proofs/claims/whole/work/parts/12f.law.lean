/-! THE LAW: its loop, its start -/
section LWF
variable {G : pG} {b L x y Z K : Nat} {xs : Nat → Int32} {Q : Option Value → pS → Prop}
theorem tb_ix : ∀ m, m < 22 → ¬ (nI m).toInt < 0 ∧ ¬ 21 < (nI m).toInt ∧ ((nI m).toInt - 0).toNat = m := by decide +kernel
theorem tb_out : ∀ m, m < 32 → ¬ m < 22 → ((nI m).toInt < 0 ∨ 21 < (nI m).toInt) := by decide +kernel
set_option maxRecDepth 100000 in
theorem law_loop {t : Nat → Nat} (hG : GS G t) (hb : b < gb G) (hxy : x + 264 ≤ y) (hL : L ≤ 3073) (hQ : ∀ M S A, LI G b L xs x y Z K M S A → Q (some (.int 1)) M) : ∀ (n i : Nat) (M : pS) (S : TS) (A : AS), L ≤ i + 6 * n → i ≤ 4000 → LI G b L xs x y Z K M S A → E G J_L_law 28 [(0, .ref b), (1, .ref x), (2, .ref y), (3, .int (nI i))] [] M Q := by
  intro n
  induction n with
  | zero =>
    intro i M S A hn hi H
    obtain ⟨f, f1, f2⟩ := H.2.1
    refine e_iload_n (k0 := 3) (by decide +kernel) rfl (e_aload_n (k0 := 0) (by decide +kernel) rfl (e_alen (by decide +kernel) f1 (e_bipush (n := 6) (v := 6) (by decide +kernel) (by decide) (e_isub (by decide +kernel) ?_))))
    refine e_icmp_gt (off := 752) 786 (by decide +kernel) (by decide) (fun _ => e_iconst (n := 1) (v := 1) (by decide +kernel) (by decide) (e_zret (ty := .boolean) (by decide +kernel) rfl rfl (hQ M S A H))) (fun c => absurd ?_ c)
    rw [Int32.lt_iff_toInt_lt, nI_toInt (by omega), show (nI L - (6 : Int32)).toInt = (L : Int) - 6 from pk_sub_toInt (b := 6) (by omega) (by omega)]
    omega
  | succ n ih =>
    intro i M S A hn hi H
    obtain ⟨f, f1, f2⟩ := H.2.1
    refine e_iload_n (k0 := 3) (by decide +kernel) rfl (e_aload_n (k0 := 0) (by decide +kernel) rfl (e_alen (by decide +kernel) f1 (e_bipush (n := 6) (v := 6) (by decide +kernel) (by decide) (e_isub (by decide +kernel) ?_))))
    refine e_icmp_gt (off := 752) 786 (by decide +kernel) (by decide) (fun _ => e_iconst (n := 1) (v := 1) (by decide +kernel) (by decide) (e_zret (ty := .boolean) (by decide +kernel) rfl rfl (hQ M S A H))) (fun c => ?_)
    have h6 : i + 6 ≤ L := by
      rw [Int32.lt_iff_toInt_lt, nI_toInt (by omega), show (nI L - (6 : Int32)).toInt = (L : Int) - 6 from pk_sub_toInt (b := 6) (by omega) (by omega)] at c
      omega
    have nx : ∀ M1 S1 A1, LI G b L xs x y Z K M1 S1 A1 → E G J_L_law 780 [(0, .ref b), (1, .ref x), (2, .ref y), (3, .int (nI i))] [] M1 Q := by
      intro M1 S1 A1 H1
      refine e_iinc (i := 3) (n := 6) (x := nI i) (v := nI (i + 6)) (by decide +kernel) (by decide) rfl (nI_add i 6) rfl ?_
      exact e_goto (off := -755) (tgt := 28) (by decide +kernel) (by decide) (ih (i + 6) M1 S1 A1 (by omega) (by omega) H1)
    refine e_aload_n (k0 := 0) (by decide +kernel) rfl (e_iload_n (k0 := 3) (by decide +kernel) rfl (e_iald (by decide +kernel) f1 (vp_in_nI (by omega) (by omega)) ?_))
    rw [nI_clamp (by omega), f2 i (by omega)]
    refine e_bipush (n := 31) (v := 31) (by decide +kernel) (by decide) (e_iand (by decide +kernel) ?_)
    obtain ⟨m, hm, em⟩ := pk_andE (xs i) (m := 31) 5 (by decide)
    rw [em]
    by_cases h22 : m < 22
    · obtain ⟨t1, t2, t3⟩ := tb_ix m h22
      rcases (show m = 0 ∨ m = 1 ∨ m = 2 ∨ m = 3 ∨ m = 4 ∨ m = 5 ∨ m = 6 ∨ m = 7 ∨ m = 8 ∨ m = 9 ∨ m = 10 ∨ m = 11 ∨ m = 12 ∨ m = 13 ∨ m = 14 ∨ m = 15 ∨ m = 16 ∨ m = 17 ∨ m = 18 ∨ m = 19 ∨ m = 20 ∨ m = 21 by omega) with rfl | rfl | rfl | rfl | rfl | rfl | rfl | rfl | rfl | rfl | rfl | rfl | rfl | rfl | rfl | rfl | rfl | rfl | rfl | rfl | rfl | rfl
      · exact e_tableIn (dflt := 737) (lo := 0) (hi := 21) (offs := #[101, 164, 187, 210, 243, 276, 299, 322, 335, 358, 381, 404, 427, 470, 523, 556, 599, 632, 655, 668, 681, 714]) (len := 101) (off := 101) 144 (by decide +kernel) t1 t2 (by rw [t3]; rfl) (by decide) (lc_0 hG hb hxy hL (by omega) H nx)
      · exact e_tableIn (dflt := 737) (lo := 0) (hi := 21) (offs := #[101, 164, 187, 210, 243, 276, 299, 322, 335, 358, 381, 404, 427, 470, 523, 556, 599, 632, 655, 668, 681, 714]) (len := 101) (off := 164) 207 (by decide +kernel) t1 t2 (by rw [t3]; rfl) (by decide) (lc_1 hG hb hxy hL (by omega) H nx)
      · exact e_tableIn (dflt := 737) (lo := 0) (hi := 21) (offs := #[101, 164, 187, 210, 243, 276, 299, 322, 335, 358, 381, 404, 427, 470, 523, 556, 599, 632, 655, 668, 681, 714]) (len := 101) (off := 187) 230 (by decide +kernel) t1 t2 (by rw [t3]; rfl) (by decide) (lc_2 hG hb hxy hL (by omega) H nx)
      · exact e_tableIn (dflt := 737) (lo := 0) (hi := 21) (offs := #[101, 164, 187, 210, 243, 276, 299, 322, 335, 358, 381, 404, 427, 470, 523, 556, 599, 632, 655, 668, 681, 714]) (len := 101) (off := 210) 253 (by decide +kernel) t1 t2 (by rw [t3]; rfl) (by decide) (lc_3 hG hb hxy hL (by omega) H nx)
      · exact e_tableIn (dflt := 737) (lo := 0) (hi := 21) (offs := #[101, 164, 187, 210, 243, 276, 299, 322, 335, 358, 381, 404, 427, 470, 523, 556, 599, 632, 655, 668, 681, 714]) (len := 101) (off := 243) 286 (by decide +kernel) t1 t2 (by rw [t3]; rfl) (by decide) (lc_4 hG hb hxy hL (by omega) H nx)
      · exact e_tableIn (dflt := 737) (lo := 0) (hi := 21) (offs := #[101, 164, 187, 210, 243, 276, 299, 322, 335, 358, 381, 404, 427, 470, 523, 556, 599, 632, 655, 668, 681, 714]) (len := 101) (off := 276) 319 (by decide +kernel) t1 t2 (by rw [t3]; rfl) (by decide) (lc_5 hG hb hxy hL (by omega) H nx)
      · exact e_tableIn (dflt := 737) (lo := 0) (hi := 21) (offs := #[101, 164, 187, 210, 243, 276, 299, 322, 335, 358, 381, 404, 427, 470, 523, 556, 599, 632, 655, 668, 681, 714]) (len := 101) (off := 299) 342 (by decide +kernel) t1 t2 (by rw [t3]; rfl) (by decide) (lc_6 hG hb hxy hL (by omega) H nx)
      · exact e_tableIn (dflt := 737) (lo := 0) (hi := 21) (offs := #[101, 164, 187, 210, 243, 276, 299, 322, 335, 358, 381, 404, 427, 470, 523, 556, 599, 632, 655, 668, 681, 714]) (len := 101) (off := 322) 365 (by decide +kernel) t1 t2 (by rw [t3]; rfl) (by decide) (lc_7 hG hb hxy hL (by omega) H nx)
      · exact e_tableIn (dflt := 737) (lo := 0) (hi := 21) (offs := #[101, 164, 187, 210, 243, 276, 299, 322, 335, 358, 381, 404, 427, 470, 523, 556, 599, 632, 655, 668, 681, 714]) (len := 101) (off := 335) 378 (by decide +kernel) t1 t2 (by rw [t3]; rfl) (by decide) (lc_8 hG hb hxy hL (by omega) H nx)
      · exact e_tableIn (dflt := 737) (lo := 0) (hi := 21) (offs := #[101, 164, 187, 210, 243, 276, 299, 322, 335, 358, 381, 404, 427, 470, 523, 556, 599, 632, 655, 668, 681, 714]) (len := 101) (off := 358) 401 (by decide +kernel) t1 t2 (by rw [t3]; rfl) (by decide) (lc_9 hG hb hxy hL (by omega) H nx)
      · exact e_tableIn (dflt := 737) (lo := 0) (hi := 21) (offs := #[101, 164, 187, 210, 243, 276, 299, 322, 335, 358, 381, 404, 427, 470, 523, 556, 599, 632, 655, 668, 681, 714]) (len := 101) (off := 381) 424 (by decide +kernel) t1 t2 (by rw [t3]; rfl) (by decide) (lc_10 hG hb hxy hL (by omega) H nx)
      · exact e_tableIn (dflt := 737) (lo := 0) (hi := 21) (offs := #[101, 164, 187, 210, 243, 276, 299, 322, 335, 358, 381, 404, 427, 470, 523, 556, 599, 632, 655, 668, 681, 714]) (len := 101) (off := 404) 447 (by decide +kernel) t1 t2 (by rw [t3]; rfl) (by decide) (lc_11 hG hb hxy hL (by omega) H nx)
      · exact e_tableIn (dflt := 737) (lo := 0) (hi := 21) (offs := #[101, 164, 187, 210, 243, 276, 299, 322, 335, 358, 381, 404, 427, 470, 523, 556, 599, 632, 655, 668, 681, 714]) (len := 101) (off := 427) 470 (by decide +kernel) t1 t2 (by rw [t3]; rfl) (by decide) (lc_12 hG hb hxy hL (by omega) H nx)
      · exact e_tableIn (dflt := 737) (lo := 0) (hi := 21) (offs := #[101, 164, 187, 210, 243, 276, 299, 322, 335, 358, 381, 404, 427, 470, 523, 556, 599, 632, 655, 668, 681, 714]) (len := 101) (off := 470) 513 (by decide +kernel) t1 t2 (by rw [t3]; rfl) (by decide) (lc_13 hG hb hxy hL (by omega) H nx)
      · exact e_tableIn (dflt := 737) (lo := 0) (hi := 21) (offs := #[101, 164, 187, 210, 243, 276, 299, 322, 335, 358, 381, 404, 427, 470, 523, 556, 599, 632, 655, 668, 681, 714]) (len := 101) (off := 523) 566 (by decide +kernel) t1 t2 (by rw [t3]; rfl) (by decide) (lc_14 hG hb hxy hL (by omega) H nx)
      · exact e_tableIn (dflt := 737) (lo := 0) (hi := 21) (offs := #[101, 164, 187, 210, 243, 276, 299, 322, 335, 358, 381, 404, 427, 470, 523, 556, 599, 632, 655, 668, 681, 714]) (len := 101) (off := 556) 599 (by decide +kernel) t1 t2 (by rw [t3]; rfl) (by decide) (lc_15 hG hb hxy hL (by omega) H nx)
      · exact e_tableIn (dflt := 737) (lo := 0) (hi := 21) (offs := #[101, 164, 187, 210, 243, 276, 299, 322, 335, 358, 381, 404, 427, 470, 523, 556, 599, 632, 655, 668, 681, 714]) (len := 101) (off := 599) 642 (by decide +kernel) t1 t2 (by rw [t3]; rfl) (by decide) (lc_16 hG hb hxy hL (by omega) H nx)
      · exact e_tableIn (dflt := 737) (lo := 0) (hi := 21) (offs := #[101, 164, 187, 210, 243, 276, 299, 322, 335, 358, 381, 404, 427, 470, 523, 556, 599, 632, 655, 668, 681, 714]) (len := 101) (off := 632) 675 (by decide +kernel) t1 t2 (by rw [t3]; rfl) (by decide) (lc_17 hG hb hxy hL (by omega) H nx)
      · exact e_tableIn (dflt := 737) (lo := 0) (hi := 21) (offs := #[101, 164, 187, 210, 243, 276, 299, 322, 335, 358, 381, 404, 427, 470, 523, 556, 599, 632, 655, 668, 681, 714]) (len := 101) (off := 655) 698 (by decide +kernel) t1 t2 (by rw [t3]; rfl) (by decide) (lc_18 hG hb hxy hL (by omega) H nx)
      · exact e_tableIn (dflt := 737) (lo := 0) (hi := 21) (offs := #[101, 164, 187, 210, 243, 276, 299, 322, 335, 358, 381, 404, 427, 470, 523, 556, 599, 632, 655, 668, 681, 714]) (len := 101) (off := 668) 711 (by decide +kernel) t1 t2 (by rw [t3]; rfl) (by decide) (lc_19 hG hb hxy hL (by omega) H nx)
      · exact e_tableIn (dflt := 737) (lo := 0) (hi := 21) (offs := #[101, 164, 187, 210, 243, 276, 299, 322, 335, 358, 381, 404, 427, 470, 523, 556, 599, 632, 655, 668, 681, 714]) (len := 101) (off := 681) 724 (by decide +kernel) t1 t2 (by rw [t3]; rfl) (by decide) (lc_20 hG hb hxy hL (by omega) H nx)
      · exact e_tableIn (dflt := 737) (lo := 0) (hi := 21) (offs := #[101, 164, 187, 210, 243, 276, 299, 322, 335, 358, 381, 404, 427, 470, 523, 556, 599, 632, 655, 668, 681, 714]) (len := 101) (off := 714) 757 (by decide +kernel) t1 t2 (by rw [t3]; rfl) (by decide) (lc_21 hG hb hxy hL (by omega) H nx)
    · exact e_tableOut (dflt := 737) (lo := 0) (hi := 21) (offs := #[101, 164, 187, 210, 243, 276, 299, 322, 335, 358, 381, 404, 427, 470, 523, 556, 599, 632, 655, 668, 681, 714]) (len := 101) 780 (by decide +kernel) (tb_out m hm h22) (by decide) (nx M S A H)
theorem c_cell {M : pS} (hs : SCR b L xs M) (hL : L ≤ 3073) : C G J_L_cell [.ref b, .int 0] M (fun r M1 => M1 = M ∧ r = some (.int (if 0 < L then xs 0 else 0))) := by
  obtain ⟨f, f1, f2⟩ := hs
  refine c_of (by decide +kernel) (Nat.le_of_ble_eq_true rfl) (lv := [(0, .ref b), (1, .int 0)]) rfl ?_
  refine e_iload_n (k0 := 1) (by decide +kernel) rfl (e_aload_n (k0 := 0) (by decide +kernel) rfl (e_alen (by decide +kernel) f1 ?_))
  refine e_icmp_ge (off := 9) 12 (by decide +kernel) (by decide) (fun c => ?_) (fun c => ?_)
  · have h0 : ¬ 0 < L := fun z => absurd c (nI_ge (a := 0) z (by omega))
    rw [if_neg h0]
    exact e_iconst (n := 0) (v := 0) (by decide +kernel) (by decide) (e_iret (by decide +kernel) rfl ⟨rfl, rfl⟩)
  · have h0 : 0 < L := Nat.pos_of_ne_zero (fun z => c (by rw [z]; exact Int32.le_refl _))
    rw [if_pos h0]
    refine e_aload_n (k0 := 0) (by decide +kernel) rfl (e_iload_n (k0 := 1) (by decide +kernel) rfl (e_iald (by decide +kernel) f1 (vp_in_nI (n := 0) h0 (by omega)) ?_))
    rw [show ((0 : Int32)).toNatClampNeg = 0 from rfl, f2 0 h0]
    exact e_goto (off := 4) (tgt := 13) (by decide +kernel) (by decide) (e_iret (by decide +kernel) rfl ⟨rfl, rfl⟩)
set_option maxRecDepth 100000 in
theorem law_start {t : Nat → Nat} {M : pS} {S : TS} (hG : GS G t) (hb : b < gb G) (hL : L ≤ 3073) (hR : Rp G M S) (hs : SCR b L xs M) (hQ : ∀ M1 S1, Rp G M1 S1 → tz S1 = tz S + 309 → tk S1 ≤ tk S + 300000 → Q (some (.int 1)) M1) : E G J_L_law 0 [(0, .ref b)] [] M Q := by
  refine lx_new hb hR hs (by decide +kernel) KC_10 w_15 w_16 w_1 OK_10 (fun M1 r1 s1 => ?_)
  generalize hx : tz S = x at *
  have q1 := sN_fre S 10 17
  have z1 := q1.2.2
  have k1 : tk (sN S (.inr 10) 17) = tk S + 17 := tk_sN _ _ _
  rw [hx] at q1 z1
  generalize sN S (.inr 10) 17 = S1 at *
  refine e_dup (by decide +kernel) rfl (e_aload_n (k0 := 0) (by decide +kernel) rfl (e_iconst (n := 0) (v := 0) (by decide +kernel) (by decide) ?_))
  refine e_callS (As := [.ref b, .int 0]) (rest := [.ref x, .ref x]) (by decide +kernel) LK_L_cell w_856 w_857 (by decide) (by decide) rfl rfl (Nat.le_of_ble_eq_true rfl) (c_mono (c_cell s1 hL) (fun r M2 q => ?_))
  obtain ⟨rfl, rfl⟩ := q
  refine lx_callI (As := [.int (if 0 < L then xs 0 else 0)]) (rest := [.ref x]) (a := x) hb r1 s1 (by decide +kernel) LK_S_init rfl w_17 w_18 rfl (by decide) (by decide) rfl rfl (Nat.le_of_ble_eq_true rfl) (c_S q1 (fun S2 o2 z2 k2 c2 M3 r3 s3 => ?_))
  refine e_astore_n (k0 := 1) (by decide +kernel) (by decide) rfl ?_
  refine lx_new hb r3 s3 (by decide +kernel) KC_11 w_859 w_860 w_12 OK_11 (fun M4 r4 s4 => ?_)
  have q3 := sN_fre S2 11 55
  have o3 := sN_old S2 (.inr 11) 55
  have k3 : tk (sN S2 (.inr 11) 55) = tk S2 + 55 := tk_sN _ _ _
  rw [z2] at q3 o3 ⊢
  generalize sN S2 (.inr 11) 55 = S3 at *
  refine e_dup (by decide +kernel) rfl (e_aload_n (k0 := 0) (by decide +kernel) rfl (e_iconst (n := 0) (v := 0) (by decide +kernel) (by decide) ?_))
  refine e_callS (As := [.ref b, .int 0]) (rest := [.ref (x + 264), .ref (x + 264)]) (by decide +kernel) LK_L_cell w_856 w_857 (by decide) (by decide) rfl rfl (Nat.le_of_ble_eq_true rfl) (c_mono (c_cell s4 hL) (fun r M5 q => ?_))
  obtain ⟨rfl, rfl⟩ := q
  refine lx_callI (As := [.int (if 0 < L then xs 0 else 0)]) (rest := [.ref (x + 264)]) (a := x + 264) hb r4 s4 (by decide +kernel) LK_M_init rfl w_861 w_862 rfl (by decide) (by decide) rfl rfl (Nat.le_of_ble_eq_true rfl) (c_M q3 (fun S4 o4 z4 k4 k4' c4 M6 r6 s6 => ?_))
  refine e_astore_n (k0 := 2) (by decide +kernel) (by decide) rfl (e_iconst (n := 1) (v := 1) (by decide +kernel) (by decide) (e_istore_n (k0 := 3) (by decide +kernel) (by decide) rfl ?_))
  have c2' : RC x S4 (A0 (if 0 < L then xs 0 else 0)) := c2.sam (fun a a1 a2 => (o3 a a2).tr (o4 a a2))
  refine law_loop (x := x) (y := x + 264) (Z := x + 309) (K := tk S4) hG hb (by omega) hL (fun M7 S7 A7 H7 => hQ M7 S7 H7.1 H7.2.2.2.2.2.1 ?_) 600 1 M6 S4 _ (by omega) (by omega) ⟨r6, s6, c2', c4, A0_ok _, by rw [z4], rfl⟩
  rw [H7.2.2.2.2.2.2]
  omega
end LWF
