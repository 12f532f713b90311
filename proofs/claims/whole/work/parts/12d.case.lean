/-! THE LAW: its cases -/
section LCD
variable {G : pG} {b L x y Z K i : Nat} {xs : Nat → Int32} {M : pS} {S : TS} {A : AS} {Q : Option Value → pS → Prop}
set_option maxRecDepth 100000 in
theorem lc_12 {t : Nat → Nat} (hG : GS G t) (hb : b < gb G) (hxy : x + 264 ≤ y) (hL : L ≤ 3073) (hi : i + 5 < L) (H : LI G b L xs x y Z K M S A) (k : ∀ M1 S1 A1, LI G b L xs x y Z K M1 S1 A1 → E G J_L_law 780 [(0, .ref b), (1, .ref x), (2, .ref y), (3, .int (nI i))] [] M1 Q) : E G J_L_law 470 [(0, .ref b), (1, .ref x), (2, .ref y), (3, .int (nI i))] [] M Q := by
  have s0 := H.2.1
  have ok := H.2.2.2.2.1
  refine e_aload_n (k0 := 1) (by decide +kernel) rfl ?_
  refine lx_arg (k := 1) (kk := 1) s0 (by omega) hL (by decide +kernel) (by decide +kernel) (by decide +kernel) (by decide +kernel) (by decide +kernel) (by decide) ?_
  refine lx_arg (k := 2) (kk := 2) s0 (by omega) hL (by decide +kernel) (by decide +kernel) (by decide +kernel) (by decide +kernel) (by decide +kernel) (by decide) ?_
  refine lx_arg (k := 3) (kk := 3) s0 (by omega) hL (by decide +kernel) (by decide +kernel) (by decide +kernel) (by decide +kernel) (by decide +kernel) (by decide) ?_
  refine lw_cls (As := [.int (xs (i + 1)), .int (xs (i + 2)), .int (xs (i + 3))]) hb hxy H (by decide +kernel) LK_S_wire w_772 w_773 w_774 (by decide) (by decide) rfl rfl rfl (clsP H.2.2.1 (q_wire H.2.2.1 _ _ _)) (fun M1 S1 H1 => ?_)
  have s1 := H1.2.1
  refine e_aload_n (k0 := 2) (by decide +kernel) rfl ?_
  refine lx_arg (k := 1) (kk := 1) s1 (by omega) hL (by decide +kernel) (by decide +kernel) (by decide +kernel) (by decide +kernel) (by decide +kernel) (by decide) ?_
  refine lx_arg (k := 2) (kk := 2) s1 (by omega) hL (by decide +kernel) (by decide +kernel) (by decide +kernel) (by decide +kernel) (by decide +kernel) (by decide) ?_
  refine lx_arg (k := 3) (kk := 3) s1 (by omega) hL (by decide +kernel) (by decide +kernel) (by decide +kernel) (by decide +kernel) (by decide +kernel) (by decide) ?_
  exact lw_ref (off := 272) (As := [.int (xs (i + 1)), .int (xs (i + 2)), .int (xs (i + 3))]) hb hxy H1 ok (by decide +kernel) LK_M_wire w_1249 w_1250 w_1251 (by decide) (by decide) rfl rfl rfl (refP H1.2.2.2.1 (r_wire H1.2.2.2.1 ok _ _ _)) (by decide +kernel) (by decide) (fun M2 S2 H2 => k M2 S2 _ H2)
set_option maxRecDepth 100000 in
theorem lc_13 {t : Nat → Nat} (hG : GS G t) (hb : b < gb G) (hxy : x + 264 ≤ y) (hL : L ≤ 3073) (hi : i + 5 < L) (H : LI G b L xs x y Z K M S A) (k : ∀ M1 S1 A1, LI G b L xs x y Z K M1 S1 A1 → E G J_L_law 780 [(0, .ref b), (1, .ref x), (2, .ref y), (3, .int (nI i))] [] M1 Q) : E G J_L_law 513 [(0, .ref b), (1, .ref x), (2, .ref y), (3, .int (nI i))] [] M Q := by
  have s0 := H.2.1
  have ok := H.2.2.2.2.1
  refine e_aload_n (k0 := 1) (by decide +kernel) rfl ?_
  refine lx_arg (k := 1) (kk := 1) s0 (by omega) hL (by decide +kernel) (by decide +kernel) (by decide +kernel) (by decide +kernel) (by decide +kernel) (by decide) ?_
  refine lx_arg (k := 2) (kk := 2) s0 (by omega) hL (by decide +kernel) (by decide +kernel) (by decide +kernel) (by decide +kernel) (by decide +kernel) (by decide) ?_
  refine lx_arg (k := 3) (kk := 3) s0 (by omega) hL (by decide +kernel) (by decide +kernel) (by decide +kernel) (by decide +kernel) (by decide +kernel) (by decide) ?_
  refine lx_arg (k := 4) (kk := 4) s0 (by omega) hL (by decide +kernel) (by decide +kernel) (by decide +kernel) (by decide +kernel) (by decide +kernel) (by decide) ?_
  refine lw_cls (As := [.int (xs (i + 1)), .int (xs (i + 2)), .int (xs (i + 3)), .int (xs (i + 4))]) hb hxy H (by decide +kernel) LK_S_flip w_780 w_781 w_782 (by decide) (by decide) rfl rfl rfl (cls0 (q_flip H.2.2.1 _ _ _ _)) (fun M1 S1 H1 => ?_)
  have s1 := H1.2.1
  refine e_aload_n (k0 := 2) (by decide +kernel) rfl ?_
  refine lx_arg (k := 1) (kk := 1) s1 (by omega) hL (by decide +kernel) (by decide +kernel) (by decide +kernel) (by decide +kernel) (by decide +kernel) (by decide) ?_
  refine lx_arg (k := 2) (kk := 2) s1 (by omega) hL (by decide +kernel) (by decide +kernel) (by decide +kernel) (by decide +kernel) (by decide +kernel) (by decide) ?_
  refine lx_arg (k := 3) (kk := 3) s1 (by omega) hL (by decide +kernel) (by decide +kernel) (by decide +kernel) (by decide +kernel) (by decide +kernel) (by decide) ?_
  refine lx_arg (k := 4) (kk := 4) s1 (by omega) hL (by decide +kernel) (by decide +kernel) (by decide +kernel) (by decide +kernel) (by decide +kernel) (by decide) ?_
  exact lw_ref (off := 219) (As := [.int (xs (i + 1)), .int (xs (i + 2)), .int (xs (i + 3)), .int (xs (i + 4))]) hb hxy H1 (o_flip ok _ _ _ _) (by decide +kernel) LK_M_flip w_1257 w_1258 w_1259 (by decide) (by decide) rfl rfl rfl (ref0 (r_flip H1.2.2.2.1 ok _ _ _ _)) (by decide +kernel) (by decide) (fun M2 S2 H2 => k M2 S2 _ H2)
set_option maxRecDepth 100000 in
theorem lc_14 {t : Nat → Nat} (hG : GS G t) (hb : b < gb G) (hxy : x + 264 ≤ y) (hL : L ≤ 3073) (hi : i + 5 < L) (H : LI G b L xs x y Z K M S A) (k : ∀ M1 S1 A1, LI G b L xs x y Z K M1 S1 A1 → E G J_L_law 780 [(0, .ref b), (1, .ref x), (2, .ref y), (3, .int (nI i))] [] M1 Q) : E G J_L_law 566 [(0, .ref b), (1, .ref x), (2, .ref y), (3, .int (nI i))] [] M Q := by
  have s0 := H.2.1
  have ok := H.2.2.2.2.1
  refine e_aload_n (k0 := 1) (by decide +kernel) rfl ?_
  refine lx_arg (k := 1) (kk := 1) s0 (by omega) hL (by decide +kernel) (by decide +kernel) (by decide +kernel) (by decide +kernel) (by decide +kernel) (by decide) ?_
  refine lx_arg (k := 2) (kk := 2) s0 (by omega) hL (by decide +kernel) (by decide +kernel) (by decide +kernel) (by decide +kernel) (by decide +kernel) (by decide) ?_
  refine lw_cls (As := [.int (xs (i + 1)), .int (xs (i + 2))]) hb hxy H (by decide +kernel) LK_S_drop w_789 w_790 w_791 (by decide) (by decide) rfl rfl rfl (cls1 (q_drop H.2.2.1 _ _)) (fun M1 S1 H1 => ?_)
  have s1 := H1.2.1
  refine e_aload_n (k0 := 2) (by decide +kernel) rfl ?_
  refine lx_arg (k := 1) (kk := 1) s1 (by omega) hL (by decide +kernel) (by decide +kernel) (by decide +kernel) (by decide +kernel) (by decide +kernel) (by decide) ?_
  refine lx_arg (k := 2) (kk := 2) s1 (by omega) hL (by decide +kernel) (by decide +kernel) (by decide +kernel) (by decide +kernel) (by decide +kernel) (by decide) ?_
  exact lw_ref (off := 186) (As := [.int (xs (i + 1)), .int (xs (i + 2))]) hb hxy H1 (o_drop ok _ _) (by decide +kernel) LK_M_drop w_1261 w_1262 w_1263 (by decide) (by decide) rfl rfl rfl (ref0 (r_drop H1.2.2.2.1 ok _ _)) (by decide +kernel) (by decide) (fun M2 S2 H2 => k M2 S2 _ H2)
set_option maxRecDepth 100000 in
theorem lc_15 {t : Nat → Nat} (hG : GS G t) (hb : b < gb G) (hxy : x + 264 ≤ y) (hL : L ≤ 3073) (hi : i + 5 < L) (H : LI G b L xs x y Z K M S A) (k : ∀ M1 S1 A1, LI G b L xs x y Z K M1 S1 A1 → E G J_L_law 780 [(0, .ref b), (1, .ref x), (2, .ref y), (3, .int (nI i))] [] M1 Q) : E G J_L_law 599 [(0, .ref b), (1, .ref x), (2, .ref y), (3, .int (nI i))] [] M Q := by
  have s0 := H.2.1
  have ok := H.2.2.2.2.1
  refine e_aload_n (k0 := 1) (by decide +kernel) rfl ?_
  refine lx_arg (k := 1) (kk := 1) s0 (by omega) hL (by decide +kernel) (by decide +kernel) (by decide +kernel) (by decide +kernel) (by decide +kernel) (by decide) ?_
  refine lx_arg (k := 2) (kk := 2) s0 (by omega) hL (by decide +kernel) (by decide +kernel) (by decide +kernel) (by decide +kernel) (by decide +kernel) (by decide) ?_
  refine lx_arg (k := 3) (kk := 3) s0 (by omega) hL (by decide +kernel) (by decide +kernel) (by decide +kernel) (by decide +kernel) (by decide +kernel) (by decide) ?_
  refine lw_cls (As := [.int (xs (i + 1)), .int (xs (i + 2)), .int (xs (i + 3))]) hb hxy H (by decide +kernel) LK_S_copy w_797 w_798 w_799 (by decide) (by decide) rfl rfl rfl (cls0 (q_copy H.2.2.1 _ _ _)) (fun M1 S1 H1 => ?_)
  have s1 := H1.2.1
  refine e_aload_n (k0 := 2) (by decide +kernel) rfl ?_
  refine lx_arg (k := 1) (kk := 1) s1 (by omega) hL (by decide +kernel) (by decide +kernel) (by decide +kernel) (by decide +kernel) (by decide +kernel) (by decide) ?_
  refine lx_arg (k := 2) (kk := 2) s1 (by omega) hL (by decide +kernel) (by decide +kernel) (by decide +kernel) (by decide +kernel) (by decide +kernel) (by decide) ?_
  refine lx_arg (k := 3) (kk := 3) s1 (by omega) hL (by decide +kernel) (by decide +kernel) (by decide +kernel) (by decide +kernel) (by decide +kernel) (by decide) ?_
  exact lw_ref (off := 143) (As := [.int (xs (i + 1)), .int (xs (i + 2)), .int (xs (i + 3))]) hb hxy H1 (o_copy ok _ _ _) (by decide +kernel) LK_M_copy w_1265 w_1266 w_1267 (by decide) (by decide) rfl rfl rfl (ref0 (r_copy H1.2.2.2.1 ok _ _ _)) (by decide +kernel) (by decide) (fun M2 S2 H2 => k M2 S2 _ H2)
set_option maxRecDepth 100000 in
theorem lc_16 {t : Nat → Nat} (hG : GS G t) (hb : b < gb G) (hxy : x + 264 ≤ y) (hL : L ≤ 3073) (hi : i + 5 < L) (H : LI G b L xs x y Z K M S A) (k : ∀ M1 S1 A1, LI G b L xs x y Z K M1 S1 A1 → E G J_L_law 780 [(0, .ref b), (1, .ref x), (2, .ref y), (3, .int (nI i))] [] M1 Q) : E G J_L_law 642 [(0, .ref b), (1, .ref x), (2, .ref y), (3, .int (nI i))] [] M Q := by
  have s0 := H.2.1
  have ok := H.2.2.2.2.1
  refine e_aload_n (k0 := 1) (by decide +kernel) rfl ?_
  refine lx_arg (k := 1) (kk := 1) s0 (by omega) hL (by decide +kernel) (by decide +kernel) (by decide +kernel) (by decide +kernel) (by decide +kernel) (by decide) ?_
  refine lx_arg (k := 2) (kk := 2) s0 (by omega) hL (by decide +kernel) (by decide +kernel) (by decide +kernel) (by decide +kernel) (by decide +kernel) (by decide) ?_
  refine lw_cls (As := [.int (xs (i + 1)), .int (xs (i + 2))]) hb hxy H (by decide +kernel) LK_S_hurry w_804 w_805 w_806 (by decide) (by decide) rfl rfl rfl (cls1 (q_hurry H.2.2.1 _ _)) (fun M1 S1 H1 => ?_)
  have s1 := H1.2.1
  refine e_aload_n (k0 := 2) (by decide +kernel) rfl ?_
  refine lx_arg (k := 1) (kk := 1) s1 (by omega) hL (by decide +kernel) (by decide +kernel) (by decide +kernel) (by decide +kernel) (by decide +kernel) (by decide) ?_
  refine lx_arg (k := 2) (kk := 2) s1 (by omega) hL (by decide +kernel) (by decide +kernel) (by decide +kernel) (by decide +kernel) (by decide +kernel) (by decide) ?_
  exact lw_ref (off := 110) (As := [.int (xs (i + 1)), .int (xs (i + 2))]) hb hxy H1 (o_hurry ok _ _) (by decide +kernel) LK_M_hurry w_1273 w_1274 w_1275 (by decide) (by decide) rfl rfl rfl (ref0 (r_hurry H1.2.2.2.1 ok _ _)) (by decide +kernel) (by decide) (fun M2 S2 H2 => k M2 S2 _ H2)
set_option maxRecDepth 100000 in
theorem lc_17 {t : Nat → Nat} (hG : GS G t) (hb : b < gb G) (hxy : x + 264 ≤ y) (hL : L ≤ 3073) (hi : i + 5 < L) (H : LI G b L xs x y Z K M S A) (k : ∀ M1 S1 A1, LI G b L xs x y Z K M1 S1 A1 → E G J_L_law 780 [(0, .ref b), (1, .ref x), (2, .ref y), (3, .int (nI i))] [] M1 Q) : E G J_L_law 675 [(0, .ref b), (1, .ref x), (2, .ref y), (3, .int (nI i))] [] M Q := by
  have s0 := H.2.1
  have ok := H.2.2.2.2.1
  refine e_aload_n (k0 := 1) (by decide +kernel) rfl ?_
  refine lx_arg (k := 1) (kk := 1) s0 (by omega) hL (by decide +kernel) (by decide +kernel) (by decide +kernel) (by decide +kernel) (by decide +kernel) (by decide) ?_
  refine lw_cls (As := [.int (xs (i + 1))]) hb hxy H (by decide +kernel) LK_S_forge w_812 w_813 w_814 (by decide) (by decide) rfl rfl rfl (cls0 (q_forge H.2.2.1 _)) (fun M1 S1 H1 => ?_)
  have s1 := H1.2.1
  refine e_aload_n (k0 := 2) (by decide +kernel) rfl ?_
  refine lx_arg (k := 1) (kk := 1) s1 (by omega) hL (by decide +kernel) (by decide +kernel) (by decide +kernel) (by decide +kernel) (by decide +kernel) (by decide) ?_
  exact lw_ref (off := 87) (As := [.int (xs (i + 1))]) hb hxy H1 (o_forge ok _) (by decide +kernel) LK_M_forge w_1277 w_1278 w_1279 (by decide) (by decide) rfl rfl rfl (ref0 (r_forge H1.2.2.2.1 ok _)) (by decide +kernel) (by decide) (fun M2 S2 H2 => k M2 S2 _ H2)
end LCD
