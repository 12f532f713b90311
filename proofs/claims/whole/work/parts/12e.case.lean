/-! THE LAW: its cases -/
section LCE
variable {G : pG} {b L x y Z K i : Nat} {xs : Nat → Int32} {M : pS} {S : TS} {A : AS} {Q : Option Value → pS → Prop}
set_option maxRecDepth 100000 in
theorem lc_18 {t : Nat → Nat} (hG : GS G t) (hb : b < gb G) (hxy : x + 264 ≤ y) (hL : L ≤ 3073) (hi : i + 5 < L) (H : LI G b L xs x y Z K M S A) (k : ∀ M1 S1 A1, LI G b L xs x y Z K M1 S1 A1 → E G J_L_law 780 [(0, .ref b), (1, .ref x), (2, .ref y), (3, .int (nI i))] [] M1 Q) : E G J_L_law 698 [(0, .ref b), (1, .ref x), (2, .ref y), (3, .int (nI i))] [] M Q := by
  have s0 := H.2.1
  have ok := H.2.2.2.2.1
  refine e_aload_n (k0 := 1) (by decide +kernel) rfl ?_
  refine lw_cls (As := []) hb hxy H (by decide +kernel) LK_S_answer w_816 w_817 w_818 (by decide) (by decide) rfl rfl rfl (cls0 (q_answer H.2.2.1)) (fun M1 S1 H1 => ?_)
  have s1 := H1.2.1
  refine e_aload_n (k0 := 2) (by decide +kernel) rfl ?_
  exact lw_ref (off := 74) (As := []) hb hxy H1 (o_answer ok) (by decide +kernel) LK_M_answer w_1281 w_1282 w_1283 (by decide) (by decide) rfl rfl rfl (ref0 (r_answer H1.2.2.2.1 ok)) (by decide +kernel) (by decide) (fun M2 S2 H2 => k M2 S2 _ H2)
set_option maxRecDepth 100000 in
theorem lc_19 {t : Nat → Nat} (hG : GS G t) (hb : b < gb G) (hxy : x + 264 ≤ y) (hL : L ≤ 3073) (hi : i + 5 < L) (H : LI G b L xs x y Z K M S A) (k : ∀ M1 S1 A1, LI G b L xs x y Z K M1 S1 A1 → E G J_L_law 780 [(0, .ref b), (1, .ref x), (2, .ref y), (3, .int (nI i))] [] M1 Q) : E G J_L_law 711 [(0, .ref b), (1, .ref x), (2, .ref y), (3, .int (nI i))] [] M Q := by
  have s0 := H.2.1
  have ok := H.2.2.2.2.1
  refine e_aload_n (k0 := 1) (by decide +kernel) rfl ?_
  refine lw_cls (As := []) hb hxy H (by decide +kernel) LK_S_stored w_820 w_821 w_822 (by decide) (by decide) rfl rfl rfl (cls0 (q_stored H.2.2.1)) (fun M1 S1 H1 => ?_)
  have s1 := H1.2.1
  refine e_aload_n (k0 := 2) (by decide +kernel) rfl ?_
  exact lw_ref (off := 61) (As := []) hb hxy H1 (o_stored ok) (by decide +kernel) LK_M_stored w_1285 w_1286 w_1287 (by decide) (by decide) rfl rfl rfl (ref0 (r_stored H1.2.2.2.1 ok)) (by decide +kernel) (by decide) (fun M2 S2 H2 => k M2 S2 _ H2)
set_option maxRecDepth 100000 in
theorem lc_20 {t : Nat → Nat} (hG : GS G t) (hb : b < gb G) (hxy : x + 264 ≤ y) (hL : L ≤ 3073) (hi : i + 5 < L) (H : LI G b L xs x y Z K M S A) (k : ∀ M1 S1 A1, LI G b L xs x y Z K M1 S1 A1 → E G J_L_law 780 [(0, .ref b), (1, .ref x), (2, .ref y), (3, .int (nI i))] [] M1 Q) : E G J_L_law 724 [(0, .ref b), (1, .ref x), (2, .ref y), (3, .int (nI i))] [] M Q := by
  have s0 := H.2.1
  have ok := H.2.2.2.2.1
  refine e_aload_n (k0 := 1) (by decide +kernel) rfl ?_
  refine lx_arg (k := 1) (kk := 1) s0 (by omega) hL (by decide +kernel) (by decide +kernel) (by decide +kernel) (by decide +kernel) (by decide +kernel) (by decide) ?_
  refine lx_arg (k := 2) (kk := 2) s0 (by omega) hL (by decide +kernel) (by decide +kernel) (by decide +kernel) (by decide +kernel) (by decide +kernel) (by decide) ?_
  refine lw_cls (As := [.int (xs (i + 1)), .int (xs (i + 2))]) hb hxy H (by decide +kernel) LK_S_look w_829 w_830 w_831 (by decide) (by decide) rfl rfl rfl (clsP H.2.2.1 (q_look H.2.2.1 _ _)) (fun M1 S1 H1 => ?_)
  have s1 := H1.2.1
  refine e_aload_n (k0 := 2) (by decide +kernel) rfl ?_
  refine lx_arg (k := 1) (kk := 1) s1 (by omega) hL (by decide +kernel) (by decide +kernel) (by decide +kernel) (by decide +kernel) (by decide +kernel) (by decide) ?_
  refine lx_arg (k := 2) (kk := 2) s1 (by omega) hL (by decide +kernel) (by decide +kernel) (by decide +kernel) (by decide +kernel) (by decide +kernel) (by decide) ?_
  exact lw_ref (off := 28) (As := [.int (xs (i + 1)), .int (xs (i + 2))]) hb hxy H1 ok (by decide +kernel) LK_M_look w_1289 w_1290 w_1291 (by decide) (by decide) rfl rfl rfl (refP H1.2.2.2.1 (r_look H1.2.2.2.1 _ _)) (by decide +kernel) (by decide) (fun M2 S2 H2 => k M2 S2 _ H2)
set_option maxRecDepth 100000 in
theorem lc_21 {t : Nat → Nat} (hG : GS G t) (hb : b < gb G) (hxy : x + 264 ≤ y) (hL : L ≤ 3073) (hi : i + 5 < L) (H : LI G b L xs x y Z K M S A) (k : ∀ M1 S1 A1, LI G b L xs x y Z K M1 S1 A1 → E G J_L_law 780 [(0, .ref b), (1, .ref x), (2, .ref y), (3, .int (nI i))] [] M1 Q) : E G J_L_law 757 [(0, .ref b), (1, .ref x), (2, .ref y), (3, .int (nI i))] [] M Q := by
  have s0 := H.2.1
  have ok := H.2.2.2.2.1
  refine e_aload_n (k0 := 1) (by decide +kernel) rfl ?_
  refine lx_arg (k := 1) (kk := 1) s0 (by omega) hL (by decide +kernel) (by decide +kernel) (by decide +kernel) (by decide +kernel) (by decide +kernel) (by decide) ?_
  refine lw_cls (As := [.int (xs (i + 1))]) hb hxy H (by decide +kernel) LK_S_count w_848 w_849 w_850 (by decide) (by decide) rfl rfl rfl (clsP H.2.2.1 (q_count H.2.2.1 _)) (fun M1 S1 H1 => ?_)
  have s1 := H1.2.1
  refine e_aload_n (k0 := 2) (by decide +kernel) rfl ?_
  refine lx_arg (k := 1) (kk := 1) s1 (by omega) hL (by decide +kernel) (by decide +kernel) (by decide +kernel) (by decide +kernel) (by decide +kernel) (by decide) ?_
  exact lw_ref (off := 5) (As := [.int (xs (i + 1))]) hb hxy H1 ok (by decide +kernel) LK_M_count w_1293 w_1294 w_1295 (by decide) (by decide) rfl rfl rfl (refP H1.2.2.2.1 (r_count H1.2.2.2.1 _)) (by decide +kernel) (by decide) (fun M2 S2 H2 => k M2 S2 _ H2)
end LCE
