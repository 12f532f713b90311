/-! THE LAW: its cases -/
section LCB
variable {G : pG} {b L x y Z K i : Nat} {xs : Nat → Int32} {M : pS} {S : TS} {A : AS} {Q : Option Value → pS → Prop}
set_option maxRecDepth 100000 in
theorem lc_0 {t : Nat → Nat} (hG : GS G t) (hb : b < gb G) (hxy : x + 264 ≤ y) (hL : L ≤ 3073) (hi : i + 5 < L) (H : LI G b L xs x y Z K M S A) (k : ∀ M1 S1 A1, LI G b L xs x y Z K M1 S1 A1 → E G J_L_law 780 [(0, .ref b), (1, .ref x), (2, .ref y), (3, .int (nI i))] [] M1 Q) : E G J_L_law 144 [(0, .ref b), (1, .ref x), (2, .ref y), (3, .int (nI i))] [] M Q := by
  have s0 := H.2.1
  have ok := H.2.2.2.2.1
  refine e_aload_n (k0 := 1) (by decide +kernel) rfl ?_
  refine lx_arg (k := 1) (kk := 1) s0 (by omega) hL (by decide +kernel) (by decide +kernel) (by decide +kernel) (by decide +kernel) (by decide +kernel) (by decide) ?_
  refine lx_arg (k := 2) (kk := 2) s0 (by omega) hL (by decide +kernel) (by decide +kernel) (by decide +kernel) (by decide +kernel) (by decide +kernel) (by decide) ?_
  refine lx_arg (k := 3) (kk := 3) s0 (by omega) hL (by decide +kernel) (by decide +kernel) (by decide +kernel) (by decide +kernel) (by decide +kernel) (by decide) ?_
  refine lx_arg (k := 4) (kk := 4) s0 (by omega) hL (by decide +kernel) (by decide +kernel) (by decide +kernel) (by decide +kernel) (by decide +kernel) (by decide) ?_
  refine lx_arg (k := 5) (kk := 5) s0 (by omega) hL (by decide +kernel) (by decide +kernel) (by decide +kernel) (by decide +kernel) (by decide +kernel) (by decide) ?_
  refine lw_cls (As := [.int (xs (i + 1)), .int (xs (i + 2)), .int (xs (i + 3)), .int (xs (i + 4)), .int (xs (i + 5))]) hb hxy H (by decide +kernel) LK_S_feed w_294 w_295 w_296 (by decide) (by decide) rfl rfl rfl (cls0 (q_feed H.2.2.1 _ _ _ _ _)) (fun M1 S1 H1 => ?_)
  have s1 := H1.2.1
  refine e_aload_n (k0 := 2) (by decide +kernel) rfl ?_
  refine lx_arg (k := 1) (kk := 1) s1 (by omega) hL (by decide +kernel) (by decide +kernel) (by decide +kernel) (by decide +kernel) (by decide +kernel) (by decide) ?_
  refine lx_arg (k := 2) (kk := 2) s1 (by omega) hL (by decide +kernel) (by decide +kernel) (by decide +kernel) (by decide +kernel) (by decide +kernel) (by decide) ?_
  refine lx_arg (k := 3) (kk := 3) s1 (by omega) hL (by decide +kernel) (by decide +kernel) (by decide +kernel) (by decide +kernel) (by decide +kernel) (by decide) ?_
  refine lx_arg (k := 4) (kk := 4) s1 (by omega) hL (by decide +kernel) (by decide +kernel) (by decide +kernel) (by decide +kernel) (by decide +kernel) (by decide) ?_
  refine lx_arg (k := 5) (kk := 5) s1 (by omega) hL (by decide +kernel) (by decide +kernel) (by decide +kernel) (by decide +kernel) (by decide +kernel) (by decide) ?_
  exact lw_ref (off := 578) (As := [.int (xs (i + 1)), .int (xs (i + 2)), .int (xs (i + 3)), .int (xs (i + 4)), .int (xs (i + 5))]) hb hxy H1 (o_feed ok _ _ _ _ _) (by decide +kernel) LK_M_feed w_1033 w_1034 w_1035 (by decide) (by decide) rfl rfl rfl (ref0 (r_feed H1.2.2.2.1 ok _ _ _ _ _)) (by decide +kernel) (by decide) (fun M2 S2 H2 => k M2 S2 _ H2)
set_option maxRecDepth 100000 in
theorem lc_1 {t : Nat → Nat} (hG : GS G t) (hb : b < gb G) (hxy : x + 264 ≤ y) (hL : L ≤ 3073) (hi : i + 5 < L) (H : LI G b L xs x y Z K M S A) (k : ∀ M1 S1 A1, LI G b L xs x y Z K M1 S1 A1 → E G J_L_law 780 [(0, .ref b), (1, .ref x), (2, .ref y), (3, .int (nI i))] [] M1 Q) : E G J_L_law 207 [(0, .ref b), (1, .ref x), (2, .ref y), (3, .int (nI i))] [] M Q := by
  have s0 := H.2.1
  have ok := H.2.2.2.2.1
  refine e_aload_n (k0 := 1) (by decide +kernel) rfl ?_
  refine lx_arg (k := 1) (kk := 1) s0 (by omega) hL (by decide +kernel) (by decide +kernel) (by decide +kernel) (by decide +kernel) (by decide +kernel) (by decide) ?_
  refine lw_cls (As := [.int (xs (i + 1))]) hb hxy H (by decide +kernel) LK_S_end w_307 w_308 w_309 (by decide) (by decide) rfl rfl rfl (cls0 (q_end H.2.2.1 _)) (fun M1 S1 H1 => ?_)
  have s1 := H1.2.1
  refine e_aload_n (k0 := 2) (by decide +kernel) rfl ?_
  refine lx_arg (k := 1) (kk := 1) s1 (by omega) hL (by decide +kernel) (by decide +kernel) (by decide +kernel) (by decide +kernel) (by decide +kernel) (by decide) ?_
  exact lw_ref (off := 555) (As := [.int (xs (i + 1))]) hb hxy H1 (o_end ok _) (by decide +kernel) LK_M_end w_1041 w_1042 w_1043 (by decide) (by decide) rfl rfl rfl (ref0 (r_end H1.2.2.2.1 ok _)) (by decide +kernel) (by decide) (fun M2 S2 H2 => k M2 S2 _ H2)
set_option maxRecDepth 100000 in
theorem lc_2 {t : Nat → Nat} (hG : GS G t) (hb : b < gb G) (hxy : x + 264 ≤ y) (hL : L ≤ 3073) (hi : i + 5 < L) (H : LI G b L xs x y Z K M S A) (k : ∀ M1 S1 A1, LI G b L xs x y Z K M1 S1 A1 → E G J_L_law 780 [(0, .ref b), (1, .ref x), (2, .ref y), (3, .int (nI i))] [] M1 Q) : E G J_L_law 230 [(0, .ref b), (1, .ref x), (2, .ref y), (3, .int (nI i))] [] M Q := by
  have s0 := H.2.1
  have ok := H.2.2.2.2.1
  refine e_aload_n (k0 := 1) (by decide +kernel) rfl ?_
  refine lx_arg (k := 1) (kk := 1) s0 (by omega) hL (by decide +kernel) (by decide +kernel) (by decide +kernel) (by decide +kernel) (by decide +kernel) (by decide) ?_
  refine lw_cls (As := [.int (xs (i + 1))]) hb hxy H (by decide +kernel) LK_S_octet w_315 w_316 w_317 (by decide) (by decide) rfl rfl rfl (clsP H.2.2.1 (q_octet H.2.2.1 _)) (fun M1 S1 H1 => ?_)
  have s1 := H1.2.1
  refine e_aload_n (k0 := 2) (by decide +kernel) rfl ?_
  refine lx_arg (k := 1) (kk := 1) s1 (by omega) hL (by decide +kernel) (by decide +kernel) (by decide +kernel) (by decide +kernel) (by decide +kernel) (by decide) ?_
  exact lw_ref (off := 532) (As := [.int (xs (i + 1))]) hb hxy H1 ok (by decide +kernel) LK_M_octet w_1045 w_1046 w_1047 (by decide) (by decide) rfl rfl rfl (refP H1.2.2.2.1 (r_octet H1.2.2.2.1 ok _)) (by decide +kernel) (by decide) (fun M2 S2 H2 => k M2 S2 _ H2)
set_option maxRecDepth 100000 in
theorem lc_3 {t : Nat → Nat} (hG : GS G t) (hb : b < gb G) (hxy : x + 264 ≤ y) (hL : L ≤ 3073) (hi : i + 5 < L) (H : LI G b L xs x y Z K M S A) (k : ∀ M1 S1 A1, LI G b L xs x y Z K M1 S1 A1 → E G J_L_law 780 [(0, .ref b), (1, .ref x), (2, .ref y), (3, .int (nI i))] [] M1 Q) : E G J_L_law 253 [(0, .ref b), (1, .ref x), (2, .ref y), (3, .int (nI i))] [] M Q := by
  have s0 := H.2.1
  have ok := H.2.2.2.2.1
  refine e_aload_n (k0 := 1) (by decide +kernel) rfl ?_
  refine lx_arg (k := 1) (kk := 1) s0 (by omega) hL (by decide +kernel) (by decide +kernel) (by decide +kernel) (by decide +kernel) (by decide +kernel) (by decide) ?_
  refine lx_arg (k := 2) (kk := 2) s0 (by omega) hL (by decide +kernel) (by decide +kernel) (by decide +kernel) (by decide +kernel) (by decide +kernel) (by decide) ?_
  refine lw_cls (As := [.int (xs (i + 1)), .int (xs (i + 2))]) hb hxy H (by decide +kernel) LK_S_key w_330 w_331 w_332 (by decide) (by decide) rfl rfl rfl (cls0 (q_key hG H.2.2.1 _ _)) (fun M1 S1 H1 => ?_)
  have s1 := H1.2.1
  refine e_aload_n (k0 := 2) (by decide +kernel) rfl ?_
  refine lx_arg (k := 1) (kk := 1) s1 (by omega) hL (by decide +kernel) (by decide +kernel) (by decide +kernel) (by decide +kernel) (by decide +kernel) (by decide) ?_
  refine lx_arg (k := 2) (kk := 2) s1 (by omega) hL (by decide +kernel) (by decide +kernel) (by decide +kernel) (by decide +kernel) (by decide +kernel) (by decide) ?_
  exact lw_ref (off := 499) (As := [.int (xs (i + 1)), .int (xs (i + 2))]) hb hxy H1 (o_key ok _ _) (by decide +kernel) LK_M_key w_1049 w_1050 w_1051 (by decide) (by decide) rfl rfl rfl (ref0 (r_key hG H1.2.2.2.1 ok _ _)) (by decide +kernel) (by decide) (fun M2 S2 H2 => k M2 S2 _ H2)
set_option maxRecDepth 100000 in
theorem lc_4 {t : Nat → Nat} (hG : GS G t) (hb : b < gb G) (hxy : x + 264 ≤ y) (hL : L ≤ 3073) (hi : i + 5 < L) (H : LI G b L xs x y Z K M S A) (k : ∀ M1 S1 A1, LI G b L xs x y Z K M1 S1 A1 → E G J_L_law 780 [(0, .ref b), (1, .ref x), (2, .ref y), (3, .int (nI i))] [] M1 Q) : E G J_L_law 286 [(0, .ref b), (1, .ref x), (2, .ref y), (3, .int (nI i))] [] M Q := by
  have s0 := H.2.1
  have ok := H.2.2.2.2.1
  refine e_aload_n (k0 := 1) (by decide +kernel) rfl ?_
  refine lx_arg (k := 1) (kk := 1) s0 (by omega) hL (by decide +kernel) (by decide +kernel) (by decide +kernel) (by decide +kernel) (by decide +kernel) (by decide) ?_
  refine lx_arg (k := 2) (kk := 2) s0 (by omega) hL (by decide +kernel) (by decide +kernel) (by decide +kernel) (by decide +kernel) (by decide +kernel) (by decide) ?_
  refine lw_cls (As := [.int (xs (i + 1)), .int (xs (i + 2))]) hb hxy H (by decide +kernel) LK_S_forget w_396 w_397 w_398 (by decide) (by decide) rfl rfl rfl (cls0 (q_forget H.2.2.1 _ _)) (fun M1 S1 H1 => ?_)
  have s1 := H1.2.1
  refine e_aload_n (k0 := 2) (by decide +kernel) rfl ?_
  refine lx_arg (k := 1) (kk := 1) s1 (by omega) hL (by decide +kernel) (by decide +kernel) (by decide +kernel) (by decide +kernel) (by decide +kernel) (by decide) ?_
  refine lx_arg (k := 2) (kk := 2) s1 (by omega) hL (by decide +kernel) (by decide +kernel) (by decide +kernel) (by decide +kernel) (by decide +kernel) (by decide) ?_
  exact lw_ref (off := 466) (As := [.int (xs (i + 1)), .int (xs (i + 2))]) hb hxy H1 (o_forget ok _ _) (by decide +kernel) LK_M_forget w_1080 w_1081 w_1082 (by decide) (by decide) rfl rfl rfl (ref0 (r_forget H1.2.2.2.1 ok _ _)) (by decide +kernel) (by decide) (fun M2 S2 H2 => k M2 S2 _ H2)
set_option maxRecDepth 100000 in
theorem lc_5 {t : Nat → Nat} (hG : GS G t) (hb : b < gb G) (hxy : x + 264 ≤ y) (hL : L ≤ 3073) (hi : i + 5 < L) (H : LI G b L xs x y Z K M S A) (k : ∀ M1 S1 A1, LI G b L xs x y Z K M1 S1 A1 → E G J_L_law 780 [(0, .ref b), (1, .ref x), (2, .ref y), (3, .int (nI i))] [] M1 Q) : E G J_L_law 319 [(0, .ref b), (1, .ref x), (2, .ref y), (3, .int (nI i))] [] M Q := by
  have s0 := H.2.1
  have ok := H.2.2.2.2.1
  refine e_aload_n (k0 := 1) (by decide +kernel) rfl ?_
  refine lx_arg (k := 1) (kk := 1) s0 (by omega) hL (by decide +kernel) (by decide +kernel) (by decide +kernel) (by decide +kernel) (by decide +kernel) (by decide) ?_
  refine lw_cls (As := [.int (xs (i + 1))]) hb hxy H (by decide +kernel) LK_S_greet w_410 w_411 w_412 (by decide) (by decide) rfl rfl rfl (cls0 (q_greet hG H.2.2.1 _)) (fun M1 S1 H1 => ?_)
  have s1 := H1.2.1
  refine e_aload_n (k0 := 2) (by decide +kernel) rfl ?_
  refine lx_arg (k := 1) (kk := 1) s1 (by omega) hL (by decide +kernel) (by decide +kernel) (by decide +kernel) (by decide +kernel) (by decide +kernel) (by decide) ?_
  exact lw_ref (off := 443) (As := [.int (xs (i + 1))]) hb hxy H1 (o_greet ok _) (by decide +kernel) LK_M_greet w_1084 w_1085 w_1086 (by decide) (by decide) rfl rfl rfl (ref0 (r_greet hG H1.2.2.2.1 ok _)) (by decide +kernel) (by decide) (fun M2 S2 H2 => k M2 S2 _ H2)
end LCB
