/-! THE LAW: its cases -/
section LCC
variable {G : pG} {b L x y Z K i : Nat} {xs : Nat → Int32} {M : pS} {S : TS} {A : AS} {Q : Option Value → pS → Prop}
set_option maxRecDepth 100000 in
theorem lc_6 {t : Nat → Nat} (hG : GS G t) (hb : b < gb G) (hxy : x + 264 ≤ y) (hL : L ≤ 3073) (hi : i + 5 < L) (H : LI G b L xs x y Z K M S A) (k : ∀ M1 S1 A1, LI G b L xs x y Z K M1 S1 A1 → E G J_L_law 780 [(0, .ref b), (1, .ref x), (2, .ref y), (3, .int (nI i))] [] M1 Q) : E G J_L_law 342 [(0, .ref b), (1, .ref x), (2, .ref y), (3, .int (nI i))] [] M Q := by
  have s0 := H.2.1
  have ok := H.2.2.2.2.1
  refine e_aload_n (k0 := 1) (by decide +kernel) rfl ?_
  refine lx_arg (k := 1) (kk := 1) s0 (by omega) hL (by decide +kernel) (by decide +kernel) (by decide +kernel) (by decide +kernel) (by decide +kernel) (by decide) ?_
  refine lw_cls (As := [.int (xs (i + 1))]) hb hxy H (by decide +kernel) LK_S_idle w_458 w_459 w_460 (by decide) (by decide) rfl rfl rfl (cls0 (q_idle H.2.2.1 _)) (fun M1 S1 H1 => ?_)
  have s1 := H1.2.1
  refine e_aload_n (k0 := 2) (by decide +kernel) rfl ?_
  refine lx_arg (k := 1) (kk := 1) s1 (by omega) hL (by decide +kernel) (by decide +kernel) (by decide +kernel) (by decide +kernel) (by decide +kernel) (by decide) ?_
  exact lw_ref (off := 420) (As := [.int (xs (i + 1))]) hb hxy H1 (o_idle ok _) (by decide +kernel) LK_M_idle w_1108 w_1109 w_1110 (by decide) (by decide) rfl rfl rfl (ref0 (r_idle H1.2.2.2.1 _)) (by decide +kernel) (by decide) (fun M2 S2 H2 => k M2 S2 _ H2)
set_option maxRecDepth 100000 in
theorem lc_7 {t : Nat → Nat} (hG : GS G t) (hb : b < gb G) (hxy : x + 264 ≤ y) (hL : L ≤ 3073) (hi : i + 5 < L) (H : LI G b L xs x y Z K M S A) (k : ∀ M1 S1 A1, LI G b L xs x y Z K M1 S1 A1 → E G J_L_law 780 [(0, .ref b), (1, .ref x), (2, .ref y), (3, .int (nI i))] [] M1 Q) : E G J_L_law 365 [(0, .ref b), (1, .ref x), (2, .ref y), (3, .int (nI i))] [] M Q := by
  have s0 := H.2.1
  have ok := H.2.2.2.2.1
  refine e_aload_n (k0 := 1) (by decide +kernel) rfl ?_
  refine lw_cls (As := []) hb hxy H (by decide +kernel) LK_S_name w_462 w_463 w_464 (by decide) (by decide) rfl rfl rfl (cls0 (q_name H.2.2.1)) (fun M1 S1 H1 => ?_)
  have s1 := H1.2.1
  refine e_aload_n (k0 := 2) (by decide +kernel) rfl ?_
  exact lw_ref (off := 407) (As := []) hb hxy H1 (o_name ok) (by decide +kernel) LK_M_name w_1112 w_1113 w_1114 (by decide) (by decide) rfl rfl rfl (ref0 (r_name H1.2.2.2.1 ok)) (by decide +kernel) (by decide) (fun M2 S2 H2 => k M2 S2 _ H2)
set_option maxRecDepth 100000 in
theorem lc_8 {t : Nat → Nat} (hG : GS G t) (hb : b < gb G) (hxy : x + 264 ≤ y) (hL : L ≤ 3073) (hi : i + 5 < L) (H : LI G b L xs x y Z K M S A) (k : ∀ M1 S1 A1, LI G b L xs x y Z K M1 S1 A1 → E G J_L_law 780 [(0, .ref b), (1, .ref x), (2, .ref y), (3, .int (nI i))] [] M1 Q) : E G J_L_law 378 [(0, .ref b), (1, .ref x), (2, .ref y), (3, .int (nI i))] [] M Q := by
  have s0 := H.2.1
  have ok := H.2.2.2.2.1
  refine e_aload_n (k0 := 1) (by decide +kernel) rfl ?_
  refine lx_arg (k := 1) (kk := 1) s0 (by omega) hL (by decide +kernel) (by decide +kernel) (by decide +kernel) (by decide +kernel) (by decide +kernel) (by decide) ?_
  refine lw_cls (As := [.int (xs (i + 1))]) hb hxy H (by decide +kernel) LK_S_request w_467 w_468 w_469 (by decide) (by decide) rfl rfl rfl (cls0 (q_request hG H.2.2.1 ok _)) (fun M1 S1 H1 => ?_)
  have s1 := H1.2.1
  refine e_aload_n (k0 := 2) (by decide +kernel) rfl ?_
  refine lx_arg (k := 1) (kk := 1) s1 (by omega) hL (by decide +kernel) (by decide +kernel) (by decide +kernel) (by decide +kernel) (by decide +kernel) (by decide) ?_
  exact lw_ref (off := 384) (As := [.int (xs (i + 1))]) hb hxy H1 (o_request ok _) (by decide +kernel) LK_M_request w_1116 w_1117 w_1118 (by decide) (by decide) rfl rfl rfl (ref0 (r_request H1.2.2.2.1 ok _)) (by decide +kernel) (by decide) (fun M2 S2 H2 => k M2 S2 _ H2)
set_option maxRecDepth 100000 in
theorem lc_9 {t : Nat → Nat} (hG : GS G t) (hb : b < gb G) (hxy : x + 264 ≤ y) (hL : L ≤ 3073) (hi : i + 5 < L) (H : LI G b L xs x y Z K M S A) (k : ∀ M1 S1 A1, LI G b L xs x y Z K M1 S1 A1 → E G J_L_law 780 [(0, .ref b), (1, .ref x), (2, .ref y), (3, .int (nI i))] [] M1 Q) : E G J_L_law 401 [(0, .ref b), (1, .ref x), (2, .ref y), (3, .int (nI i))] [] M Q := by
  have s0 := H.2.1
  have ok := H.2.2.2.2.1
  refine e_aload_n (k0 := 1) (by decide +kernel) rfl ?_
  refine lx_arg (k := 1) (kk := 1) s0 (by omega) hL (by decide +kernel) (by decide +kernel) (by decide +kernel) (by decide +kernel) (by decide +kernel) (by decide) ?_
  refine lw_cls (As := [.int (xs (i + 1))]) hb hxy H (by decide +kernel) LK_S_renew w_592 w_593 w_594 (by decide) (by decide) rfl rfl rfl (cls0 (q_renew hG H.2.2.1 ok _)) (fun M1 S1 H1 => ?_)
  have s1 := H1.2.1
  refine e_aload_n (k0 := 2) (by decide +kernel) rfl ?_
  refine lx_arg (k := 1) (kk := 1) s1 (by omega) hL (by decide +kernel) (by decide +kernel) (by decide +kernel) (by decide +kernel) (by decide +kernel) (by decide) ?_
  exact lw_ref (off := 361) (As := [.int (xs (i + 1))]) hb hxy H1 (o_renew ok _) (by decide +kernel) LK_M_renew w_1170 w_1171 w_1172 (by decide) (by decide) rfl rfl rfl (ref0 (r_renew hG H1.2.2.2.1 ok _)) (by decide +kernel) (by decide) (fun M2 S2 H2 => k M2 S2 _ H2)
set_option maxRecDepth 100000 in
theorem lc_10 {t : Nat → Nat} (hG : GS G t) (hb : b < gb G) (hxy : x + 264 ≤ y) (hL : L ≤ 3073) (hi : i + 5 < L) (H : LI G b L xs x y Z K M S A) (k : ∀ M1 S1 A1, LI G b L xs x y Z K M1 S1 A1 → E G J_L_law 780 [(0, .ref b), (1, .ref x), (2, .ref y), (3, .int (nI i))] [] M1 Q) : E G J_L_law 424 [(0, .ref b), (1, .ref x), (2, .ref y), (3, .int (nI i))] [] M Q := by
  have s0 := H.2.1
  have ok := H.2.2.2.2.1
  refine e_aload_n (k0 := 1) (by decide +kernel) rfl ?_
  refine lx_arg (k := 1) (kk := 1) s0 (by omega) hL (by decide +kernel) (by decide +kernel) (by decide +kernel) (by decide +kernel) (by decide +kernel) (by decide) ?_
  refine lw_cls (As := [.int (xs (i + 1))]) hb hxy H (by decide +kernel) LK_S_close w_630 w_631 w_632 (by decide) (by decide) rfl rfl rfl (cls0 (q_close hG H.2.2.1 ok _)) (fun M1 S1 H1 => ?_)
  have s1 := H1.2.1
  refine e_aload_n (k0 := 2) (by decide +kernel) rfl ?_
  refine lx_arg (k := 1) (kk := 1) s1 (by omega) hL (by decide +kernel) (by decide +kernel) (by decide +kernel) (by decide +kernel) (by decide +kernel) (by decide) ?_
  exact lw_ref (off := 338) (As := [.int (xs (i + 1))]) hb hxy H1 (o_close ok _) (by decide +kernel) LK_M_close w_1186 w_1187 w_1188 (by decide) (by decide) rfl rfl rfl (ref0 (r_close H1.2.2.2.1 ok _)) (by decide +kernel) (by decide) (fun M2 S2 H2 => k M2 S2 _ H2)
set_option maxRecDepth 100000 in
theorem lc_11 {t : Nat → Nat} (hG : GS G t) (hb : b < gb G) (hxy : x + 264 ≤ y) (hL : L ≤ 3073) (hi : i + 5 < L) (H : LI G b L xs x y Z K M S A) (k : ∀ M1 S1 A1, LI G b L xs x y Z K M1 S1 A1 → E G J_L_law 780 [(0, .ref b), (1, .ref x), (2, .ref y), (3, .int (nI i))] [] M1 Q) : E G J_L_law 447 [(0, .ref b), (1, .ref x), (2, .ref y), (3, .int (nI i))] [] M Q := by
  have s0 := H.2.1
  have ok := H.2.2.2.2.1
  refine e_aload_n (k0 := 1) (by decide +kernel) rfl ?_
  refine lx_arg (k := 1) (kk := 1) s0 (by omega) hL (by decide +kernel) (by decide +kernel) (by decide +kernel) (by decide +kernel) (by decide +kernel) (by decide) ?_
  refine lw_cls (As := [.int (xs (i + 1))]) hb hxy H (by decide +kernel) LK_S_receive w_634 w_635 w_636 (by decide) (by decide) rfl rfl rfl (cls1 (q_receive hG H.2.2.1 ok _)) (fun M1 S1 H1 => ?_)
  have s1 := H1.2.1
  refine e_aload_n (k0 := 2) (by decide +kernel) rfl ?_
  refine lx_arg (k := 1) (kk := 1) s1 (by omega) hL (by decide +kernel) (by decide +kernel) (by decide +kernel) (by decide +kernel) (by decide +kernel) (by decide) ?_
  exact lw_ref (off := 315) (As := [.int (xs (i + 1))]) hb hxy H1 (o_receive ok _) (by decide +kernel) LK_M_receive w_1190 w_1191 w_1192 (by decide) (by decide) rfl rfl rfl (ref0 (r_receive hG H1.2.2.2.1 ok _)) (by decide +kernel) (by decide) (fun M2 S2 H2 => k M2 S2 _ H2)
end LCC
