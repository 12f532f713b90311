/-! PURE: the two objects are made -/
def A0 (sd : Int32) : AS := (fun j => if j = 2 then [b8 110] else [], fun j => if j = 14 ∨ j = 15 then sd else if j = 17 ∨ j = 19 ∨ j = 21 then 1 else 0, fun _ => [], [])
theorem A0_ok (sd : Int32) : AOK (A0 sd) := by
  refine ⟨fun s hs hc => ?_, fun j hj => Or.inl ?_, fun c => absurd (show (0 : Int32) = 1 from c) (by decide), fun c => absurd (show (0 : Int32) = 1 from c) (by decide), ⟨rfl, rfl, rfl, rfl, rfl, rfl, rfl⟩, (show 1 ≤ 1 ∧ 1 ≤ 16 by decide), fun s hs => ⟨0, by omega, ?_⟩, fun w hw => ⟨Nat.zero_le _, fun l hl => absurd hl List.not_mem_nil⟩, ⟨Nat.zero_le _, fun e he => absurd he List.not_mem_nil⟩, Nat.zero_le _, Nat.zero_le _, Nat.zero_le _⟩
  · rcases (show s = 0 ∨ s = 1 by omega) with rfl | rfl
    · exact absurd (show (0 : Int32) = 2 from hc) (by decide)
    · exact absurd (show (0 : Int32) = 2 from hc) (by decide)
  · show (if 4 + j = 2 then [b8 110] else []) = []
    rw [if_neg (by omega)]
  · rcases (show s = 0 ∨ s = 1 by omega) with rfl | rfl <;> rfl
section IND
variable {G : pG} {Q : Option Value → TS → Prop}
theorem c_S {x : Nat} {sd : Int32} {S : TS} (hf : FRE S x 10) (hQ : ∀ S', OLD x S S' → tz S' = x + 264 → tk S' = tk S + 9970 → RC x S' (A0 sd) → Q none S') : CT G J_S_init [.ref x, .int sd] S Q := by
  have hz := hf.2.2
  refine v_S_init x sd S Q ?_
  have t0 : te S x = some (.inr 10) := hf.1
  intro A0s ea0
  refine c_Bytes (q := tz S) (N := 200) (by rw [ea0]; exact sN_fre S 0 2) (by omega) (fun B0s o0 zb0 kb0 bb0 => ⟨rfl, ?_, fun C0s ec0 => ?_⟩)
  · rw [(o0 x (by omega)).1, ea0, te_sN, up_n _ _ (by omega)]; exact t0
  obtain ⟨p0, ag0, zc0, kc0⟩ := stC (by omega) ea0 o0 ec0
  have d0 := bb0.ag (ag0 _)
  have ka0 : tk A0s = tk S + 2 := by rw [ea0, tk_sN]
  have zz0 : tz C0s = x + 3 := by rw [zc0, zb0, hz]
  rw [hz] at p0 d0
  have tt0 := p0.tr2 t0
  intro A1s ea1
  refine c_Bytes (q := tz C0s) (N := 65) (by rw [ea1]; exact sN_fre C0s 0 2) (by omega) (fun B1s o1 zb1 kb1 bb1 => ⟨rfl, ?_, fun C1s ec1 => ?_⟩)
  · rw [(o1 x (by omega)).1, ea1, te_sN, up_n _ _ (by omega)]; exact tt0
  obtain ⟨p1, ag1, zc1, kc1⟩ := stC (by omega) ea1 o1 ec1
  have d1 := bb1.ag (ag1 _)
  have ka1 : tk A1s = tk C0s + 2 := by rw [ea1, tk_sN]
  have zz1 : tz C1s = x + 5 := by rw [zc1, zb1, zz0]
  rw [zz0] at p1 d1
  have tt1 := p1.tr2 tt0
  intro A2s ea2
  refine c_Bytes (q := tz C1s) (N := 16) (by rw [ea2]; exact sN_fre C1s 0 2) (by omega) (fun B2s o2 zb2 kb2 bb2 => ⟨rfl, ?_, fun C2s ec2 => ?_⟩)
  · rw [(o2 x (by omega)).1, ea2, te_sN, up_n _ _ (by omega)]; exact tt1
  obtain ⟨p2, ag2, zc2, kc2⟩ := stC (by omega) ea2 o2 ec2
  have d2 := bb2.ag (ag2 _)
  have ka2 : tk A2s = tk C1s + 2 := by rw [ea2, tk_sN]
  have zz2 : tz C2s = x + 7 := by rw [zc2, zb2, zz1]
  rw [zz1] at p2 d2
  have tt2 := p2.tr2 tt1
  intro A3s ea3
  refine c_Sealer (q := tz C2s) (by rw [ea3]; exact sN_fre C2s 5 3) (fun B3s o3 zb3 kb3 bb3 => ⟨rfl, ?_, fun C3s ec3 => ?_⟩)
  · rw [(o3 x (by omega)).1, ea3, te_sN, up_n _ _ (by omega)]; exact tt2
  obtain ⟨p3, ag3, zc3, kc3⟩ := stC (by omega) ea3 o3 ec3
  have d3 := bb3.ag (ag3 _)
  have ka3 : tk A3s = tk C2s + 3 := by rw [ea3, tk_sN]
  have zz3 : tz C3s = x + 20 := by rw [zc3, zb3, zz2]
  rw [zz2] at p3 d3
  have tt3 := p3.tr2 tt2
  intro A4s ea4
  refine c_Wire (q := tz C3s) (by rw [ea4]; exact sN_fre C3s 9 2) (fun B4s o4 zb4 kb4 bb4 => ⟨rfl, ?_, fun C4s ec4 => ?_⟩)
  · rw [(o4 x (by omega)).1, ea4, te_sN, up_n _ _ (by omega)]; exact tt3
  obtain ⟨p4, ag4, zc4, kc4⟩ := stC (by omega) ea4 o4 ec4
  have d4 := bb4.ag (ag4 _)
  have ka4 : tk A4s = tk C3s + 2 := by rw [ea4, tk_sN]
  have zz4 : tz C4s = x + 48 := by rw [zc4, zb4, zz3]
  rw [zz3] at p4 d4
  have tt4 := p4.tr2 tt3
  intro A5s ea5
  refine c_Wire (q := tz C4s) (by rw [ea5]; exact sN_fre C4s 9 2) (fun B5s o5 zb5 kb5 bb5 => ⟨rfl, ?_, fun C5s ec5 => ?_⟩)
  · rw [(o5 x (by omega)).1, ea5, te_sN, up_n _ _ (by omega)]; exact tt4
  obtain ⟨p5, ag5, zc5, kc5⟩ := stC (by omega) ea5 o5 ec5
  have d5 := bb5.ag (ag5 _)
  have ka5 : tk A5s = tk C4s + 2 := by rw [ea5, tk_sN]
  have zz5 : tz C5s = x + 76 := by rw [zc5, zb5, zz4]
  rw [zz4] at p5 d5
  have tt5 := p5.tr2 tt4
  intro A6s ea6
  refine c_Store (q := tz C5s) (by rw [ea6]; exact sN_fre C5s 7 3) (fun B6s o6 zb6 kb6 bb6 => ⟨rfl, ?_, fun C6s ec6 => ?_⟩)
  · rw [(o6 x (by omega)).1, ea6, te_sN, up_n _ _ (by omega)]; exact tt5
  obtain ⟨p6, ag6, zc6, kc6⟩ := stC (by omega) ea6 o6 ec6
  have d6 := bb6.ag (ag6 _)
  have ka6 : tk A6s = tk C5s + 3 := by rw [ea6, tk_sN]
  have zz6 : tz C6s = x + 159 := by rw [zc6, zb6, zz5]
  rw [zz5] at p6 d6
  have tt6 := p6.tr2 tt5
  intro A7s ea7
  refine c_Request (q := tz C6s) (by rw [ea7]; exact sN_fre C6s 4 3) (fun B7s o7 zb7 kb7 bb7 => ⟨rfl, ?_, fun C7s ec7 => ?_⟩)
  · rw [(o7 x (by omega)).1, ea7, te_sN, up_n _ _ (by omega)]; exact tt6
  obtain ⟨p7, ag7, zc7, kc7⟩ := stC (by omega) ea7 o7 ec7
  have d7 := bb7.ag (ag7 _)
  have ka7 : tk A7s = tk C6s + 3 := by rw [ea7, tk_sN]
  have zz7 : tz C7s = x + 164 := by rw [zc7, zb7, zz6]
  rw [zz6] at p7 d7
  have tt7 := p7.tr2 tt6
  intro A8s ea8
  refine c_Bytes (q := tz C7s) (N := 65) (by rw [ea8]; exact sN_fre C7s 0 2) (by omega) (fun B8s o8 zb8 kb8 bb8 => ⟨rfl, ?_, fun C8s ec8 => ?_⟩)
  · rw [(o8 x (by omega)).1, ea8, te_sN, up_n _ _ (by omega)]; exact tt7
  obtain ⟨p8, ag8, zc8, kc8⟩ := stC (by omega) ea8 o8 ec8
  have d8 := bb8.ag (ag8 _)
  have ka8 : tk A8s = tk C7s + 2 := by rw [ea8, tk_sN]
  have zz8 : tz C8s = x + 166 := by rw [zc8, zb8, zz7]
  rw [zz7] at p8 d8
  have tt8 := p8.tr2 tt7
  intro A9s ea9
  refine c_Bytes (q := tz C8s) (N := 200) (by rw [ea9]; exact sN_fre C8s 0 2) (by omega) (fun B9s o9 zb9 kb9 bb9 => ⟨rfl, ?_, fun C9s ec9 => ?_⟩)
  · rw [(o9 x (by omega)).1, ea9, te_sN, up_n _ _ (by omega)]; exact tt8
  obtain ⟨p9, ag9, zc9, kc9⟩ := stC (by omega) ea9 o9 ec9
  have d9 := bb9.ag (ag9 _)
  have ka9 : tk A9s = tk C8s + 2 := by rw [ea9, tk_sN]
  have zz9 : tz C9s = x + 168 := by rw [zc9, zb9, zz8]
  rw [zz8] at p9 d9
  have tt9 := p9.tr2 tt8
  intro A10s ea10
  refine c_Bytes (q := tz C9s) (N := 32) (by rw [ea10]; exact sN_fre C9s 0 2) (by omega) (fun B10s o10 zb10 kb10 bb10 => ⟨rfl, ?_, fun C10s ec10 => ?_⟩)
  · rw [(o10 x (by omega)).1, ea10, te_sN, up_n _ _ (by omega)]; exact tt9
  obtain ⟨p10, ag10, zc10, kc10⟩ := stC (by omega) ea10 o10 ec10
  have d10 := bb10.ag (ag10 _)
  have ka10 : tk A10s = tk C9s + 2 := by rw [ea10, tk_sN]
  have zz10 : tz C10s = x + 170 := by rw [zc10, zb10, zz9]
  rw [zz9] at p10 d10
  have tt10 := p10.tr2 tt9
  intro A11s ea11
  refine c_Bytes (q := tz C10s) (N := 65) (by rw [ea11]; exact sN_fre C10s 0 2) (by omega) (fun B11s o11 zb11 kb11 bb11 => ⟨rfl, ?_, fun C11s ec11 => ?_⟩)
  · rw [(o11 x (by omega)).1, ea11, te_sN, up_n _ _ (by omega)]; exact tt10
  obtain ⟨p11, ag11, zc11, kc11⟩ := stC (by omega) ea11 o11 ec11
  have d11 := bb11.ag (ag11 _)
  have ka11 : tk A11s = tk C10s + 2 := by rw [ea11, tk_sN]
  have zz11 : tz C11s = x + 172 := by rw [zc11, zb11, zz10]
  rw [zz10] at p11 d11
  have tt11 := p11.tr2 tt10
  intro A12s ea12
  refine c_Bytes (q := tz C11s) (N := 32) (by rw [ea12]; exact sN_fre C11s 0 2) (by omega) (fun B12s o12 zb12 kb12 bb12 => ⟨rfl, ?_, fun C12s ec12 => ?_⟩)
  · rw [(o12 x (by omega)).1, ea12, te_sN, up_n _ _ (by omega)]; exact tt11
  obtain ⟨p12, ag12, zc12, kc12⟩ := stC (by omega) ea12 o12 ec12
  have d12 := bb12.ag (ag12 _)
  have ka12 : tk A12s = tk C11s + 2 := by rw [ea12, tk_sN]
  have zz12 : tz C12s = x + 174 := by rw [zc12, zb12, zz11]
  rw [zz11] at p12 d12
  have tt12 := p12.tr2 tt11
  intro A13s ea13
  refine c_Side (q := tz C12s) (x1 := 0) (x2 := sd) (by rw [ea13]; exact sN_fre C12s 6 13) (fun B13s o13 zb13 kb13 bb13 => ⟨rfl, ?_, fun C13s ec13 => ?_⟩)
  · rw [(o13 x (by omega)).1, ea13, te_sN, up_n _ _ (by omega)]; exact tt12
  obtain ⟨p13, ag13, zc13, kc13⟩ := stC (by omega) ea13 o13 ec13
  have d13 := bb13.ag (ag13 _)
  have ka13 : tk A13s = tk C12s + 13 := by rw [ea13, tk_sN]
  have zz13 : tz C13s = x + 219 := by rw [zc13, zb13, zz12]
  rw [zz12] at p13 d13
  have tt13 := p13.tr2 tt12
  intro A14s ea14
  refine c_Side (q := tz C13s) (x1 := 1) (x2 := sd) (by rw [ea14]; exact sN_fre C13s 6 13) (fun B14s o14 zb14 kb14 bb14 => ⟨rfl, ?_, fun C14s ec14 => ?_⟩)
  · rw [(o14 x (by omega)).1, ea14, te_sN, up_n _ _ (by omega)]; exact tt13
  obtain ⟨p14, ag14, zc14, kc14⟩ := stC (by omega) ea14 o14 ec14
  have d14 := bb14.ag (ag14 _)
  have ka14 : tk A14s = tk C13s + 13 := by rw [ea14, tk_sN]
  have zz14 : tz C14s = x + 264 := by rw [zc14, zb14, zz13]
  rw [zz13] at p14 d14
  have tt14 := p14.tr2 tt13
  have i0 : tI C14s x = (fun _ => 0) := by rw [p14.2.2.1, p13.2.2.1, p12.2.2.1, p11.2.2.1, p10.2.2.1, p9.2.2.1, p8.2.2.1, p7.2.2.1, p6.2.2.1, p5.2.2.1, p4.2.2.1, p3.2.2.1, p2.2.2.1, p1.2.2.1, p0.2.2.1]; exact hf.2.1
  have rr : tR C14s x = va_up (va_up (va_up (va_up (va_up (va_up (va_up (va_up (va_up (va_up (va_up (va_up (va_up (va_up (va_up (tR S x) 0 (some (x + 1))) 1 (some (x + 3))) 2 (some (x + 5))) 3 (some (x + 7))) 6 (some (x + 20))) 7 (some (x + 48))) 8 (some (x + 76))) 9 (some (x + 159))) 10 (some (x + 164))) 11 (some (x + 166))) 12 (some (x + 168))) 13 (some (x + 170))) 14 (some (x + 172))) 4 (some (x + 174))) 5 (some (x + 219)) := by rw [p14.2.2.2, p13.2.2.2, p12.2.2.2, p11.2.2.2, p10.2.2.2, p9.2.2.2, p8.2.2.2, p7.2.2.2, p6.2.2.2, p5.2.2.2, p4.2.2.2, p3.2.2.2, p2.2.2.2, p1.2.2.2, p0.2.2.2]
  have r2 : tR C14s x 2 = some (x + 5) := by rw [rr]; rfl
  have U14 : UPX (x + 264) x C14s C14s := fun a _ _ => SAM.rf _ a
  have U13 : UPX (x + 219) x C13s C14s := p14.1.tr U14 (by omega)
  have U12 : UPX (x + 174) x C12s C14s := p13.1.tr U13 (by omega)
  have U11 : UPX (x + 172) x C11s C14s := p12.1.tr U12 (by omega)
  have U10 : UPX (x + 170) x C10s C14s := p11.1.tr U11 (by omega)
  have U9 : UPX (x + 168) x C9s C14s := p10.1.tr U10 (by omega)
  have U8 : UPX (x + 166) x C8s C14s := p9.1.tr U9 (by omega)
  have U7 : UPX (x + 164) x C7s C14s := p8.1.tr U8 (by omega)
  have U6 : UPX (x + 159) x C6s C14s := p7.1.tr U7 (by omega)
  have U5 : UPX (x + 76) x C5s C14s := p6.1.tr U6 (by omega)
  have U4 : UPX (x + 48) x C4s C14s := p5.1.tr U5 (by omega)
  have U3 : UPX (x + 20) x C3s C14s := p4.1.tr U4 (by omega)
  have U2 : UPX (x + 7) x C2s C14s := p3.1.tr U3 (by omega)
  have U1 : UPX (x + 5) x C1s C14s := p2.1.tr U2 (by omega)
  have U0 : UPX (x + 3) x C0s C14s := p1.1.tr U1 (by omega)
  have U : UPX (x + 1) x S C14s := p0.1.tr U0 (by omega)
  have g0 := d0.ag (U0.ag (by omega) (by omega))
  have g1 := d1.ag (U1.ag (by omega) (by omega))
  have g2 := d2.ag (U2.ag (by omega) (by omega))
  have g3 := d3.ag (U3.ag (by omega) (by omega))
  have g4 := d4.ag (U4.ag (by omega) (by omega))
  have g5 := d5.ag (U5.ag (by omega) (by omega))
  have g6 := d6.ag (U6.ag (by omega) (by omega))
  have g7 := d7.ag (U7.ag (by omega) (by omega))
  have g8 := d8.ag (U8.ag (by omega) (by omega))
  have g9 := d9.ag (U9.ag (by omega) (by omega))
  have g10 := d10.ag (U10.ag (by omega) (by omega))
  have g11 := d11.ag (U11.ag (by omega) (by omega))
  have g12 := d12.ag (U12.ag (by omega) (by omega))
  have g13 := d13.ag (U13.ag (by omega) (by omega))
  have g14 := d14.ag (U14.ag (by omega) (by omega))
  refine ⟨tt14, x + 5, r2, g2.1.1, p_put g2 (by simp) (fun S65 x65 b65 => ⟨rfl, ?_⟩)⟩
  have ag : ∀ lo hi, (hi ≤ x + 5 ∨ x + 7 ≤ lo) → AGR lo hi C14s S65 := fun lo hi h => AGR.ex x65 (fun a h1 h2 => by simp only [bP]; omega)
  have sx0 := ag x (x + 1) (by omega) x (by omega) (by omega)
  have h0 := g0.ag (ag _ _ (by omega))
  have h1 := g1.ag (ag _ _ (by omega))
  have h3 := g3.ag (ag _ _ (by omega))
  have h4 := g4.ag (ag _ _ (by omega))
  have h5 := g5.ag (ag _ _ (by omega))
  have h6 := g6.ag (ag _ _ (by omega))
  have h7 := g7.ag (ag _ _ (by omega))
  have h8 := g8.ag (ag _ _ (by omega))
  have h9 := g9.ag (ag _ _ (by omega))
  have h10 := g10.ag (ag _ _ (by omega))
  have h11 := g11.ag (ag _ _ (by omega))
  have h12 := g12.ag (ag _ _ (by omega))
  have h13 := g13.ag (ag _ _ (by omega))
  have h14 := g14.ag (ag _ _ (by omega))
  refine hQ S65 (fun a ha => (U a (by omega) (by omega)).tr (ag a (a + 1) (by omega) a (by omega) (by omega))) (by rw [x65.1.2.1, zz14]) (by rw [x65.1.2.2.1]; omega) ⟨⟨by rw [sx0.1]; exact tt14, fun k hk => ?_, h3, h13.1, h14.1, h7, h9.1, h10.1, h11.1, h12.1⟩, fun j hj => ?_, fun j hj => ?_, ⟨_, h4⟩, ⟨_, h5⟩, ⟨_, _, h6⟩⟩
  · rw [sx0.2.2.2, rr]
    rcases (show k = 0 ∨ k = 1 ∨ k = 2 ∨ k = 3 ∨ k = 4 ∨ k = 5 ∨ k = 6 ∨ k = 7 ∨ k = 8 ∨ k = 9 ∨ k = 10 ∨ k = 11 ∨ k = 12 ∨ k = 13 ∨ k = 14 by omega) with rfl | rfl | rfl | rfl | rfl | rfl | rfl | rfl | rfl | rfl | rfl | rfl | rfl | rfl | rfl <;> rfl
  · obtain ⟨q1, q2, q3, q4, q5, q6, q7, q8, q9, q10, q11⟩ := h13
    obtain ⟨w1, w2, w3, w4, w5, w6, w7, w8, w9, w10, w11⟩ := h14
    rcases (show j = 0 ∨ j = 1 ∨ j = 2 ∨ j = 3 ∨ j = 4 ∨ j = 5 ∨ j = 6 ∨ j = 7 ∨ j = 8 ∨ j = 9 ∨ j = 10 ∨ j = 11 ∨ j = 12 ∨ j = 13 ∨ j = 14 ∨ j = 15 ∨ j = 16 ∨ j = 17 ∨ j = 18 ∨ j = 19 ∨ j = 20 ∨ j = 21 ∨ j = 22 ∨ j = 23 ∨ j = 24 ∨ j = 25 ∨ j = 26 ∨ j = 27 by omega) with rfl | rfl | rfl | rfl | rfl | rfl | rfl | rfl | rfl | rfl | rfl | rfl | rfl | rfl | rfl | rfl | rfl | rfl | rfl | rfl | rfl | rfl | rfl | rfl | rfl | rfl | rfl | rfl
    · exact h0
    · exact h1
    · exact b65
    · exact h8
    · exact q2 0 (by omega)
    · exact q2 1 (by omega)
    · exact q2 2 (by omega)
    · exact q2 3 (by omega)
    · exact q2 4 (by omega)
    · exact q2 5 (by omega)
    · exact q2 6 (by omega)
    · exact q2 7 (by omega)
    · exact w2 0 (by omega)
    · exact w2 1 (by omega)
    · exact w2 2 (by omega)
    · exact w2 3 (by omega)
    · exact w2 4 (by omega)
    · exact w2 5 (by omega)
    · exact w2 6 (by omega)
    · exact w2 7 (by omega)
    · exact q5
    · exact w6
    · exact w7
    · exact w8
    · exact q3
    · exact q4
    · exact w3
    · exact w4
  · obtain ⟨q1, q2, q3, q4, q5, q6, q7, q8, q9, q10, q11⟩ := h13
    obtain ⟨w1, w2, w3, w4, w5, w6, w7, w8, w9, w10, w11⟩ := h14
    rcases (show j = 0 ∨ j = 1 ∨ j = 2 ∨ j = 3 ∨ j = 4 ∨ j = 5 ∨ j = 6 ∨ j = 7 ∨ j = 8 ∨ j = 9 ∨ j = 10 ∨ j = 11 ∨ j = 12 ∨ j = 13 ∨ j = 14 ∨ j = 15 ∨ j = 16 ∨ j = 17 ∨ j = 18 ∨ j = 19 ∨ j = 20 ∨ j = 21 by omega) with rfl | rfl | rfl | rfl | rfl | rfl | rfl | rfl | rfl | rfl | rfl | rfl | rfl | rfl | rfl | rfl | rfl | rfl | rfl | rfl | rfl | rfl
    · show tI S65 (x + 174) 11 = 0; rw [q9]; rfl
    · show tI S65 (x + 219) 11 = 0; rw [w9]; rfl
    · show tI S65 (x + 174) 12 = 0; rw [q9]; rfl
    · show tI S65 (x + 219) 12 = 0; rw [w9]; rfl
    · exact q10.2.1
    · exact q11.2.1
    · exact w10.2.1
    · exact w11.2.1
    · exact q10.2.2
    · exact q11.2.2
    · exact w10.2.2
    · exact w11.2.2
    · show tI S65 (x + 0) 15 = 0; rw [Nat.add_zero, sx0.2.1, i0]
    · show tI S65 (x + 0) 16 = 0; rw [Nat.add_zero, sx0.2.1, i0]
    · show tI S65 (x + 174) 1 = sd; rw [q9]; rfl
    · show tI S65 (x + 219) 1 = sd; rw [w9]; rfl
    · show tI S65 (x + 174) 0 = 0; rw [q9]; rfl
    · show tI S65 (x + 219) 0 = 1; rw [w9]; rfl
    · exact q10.1
    · exact q11.1
    · exact w10.1
    · exact w11.1
/-- the reference half made: k rows stand -/
def MIN (y k : Nat) (v : Nat → Int32) (S0 S : TS) : Prop := te S y = some (.inr 11) ∧ tI S y = v ∧ tz S = y + 1 + k ∧ OLD y S0 S ∧ (tk S0 ≤ tk S ∧ tk S ≤ tk S0 + 5000 * k) ∧ ∀ i, 1 ≤ i → i ≤ k → tR S y (mF i) = some (y + i) ∧ te S (y + i) = some (.inl (mT i)) ∧ tI S (y + i) = (fun _ => 0)
theorem mF_inj : ∀ i, i < 45 → 1 ≤ i → ∀ j, j < 45 → 1 ≤ j → mF i = mF j → i = j := by decide +kernel
theorem MIN.step {y k f n : Nat} {v : Nat → Int32} {t : FieldType × Nat} {S0 S S1 S3 : TS} (h : MIN y k v S0 S) (e1 : S1 = sN S (.inl t) n) (e3 : S3 = sR S1 y (va_up (tR S1 y) f (some (tz S)))) (ht : mT (k + 1) = t) (hf : mF (k + 1) = f) (hn : n ≤ 5000) (hk : k < 44) : MIN y (k + 1) v S0 S3 := by
  obtain ⟨h1, h2, h3, h4, ⟨h5, h6⟩, h7⟩ := h
  obtain ⟨⟨u, a1, a2, a3⟩, b1, b2, b3, b4⟩ := stA (by omega) e1 e3
  refine ⟨by rw [a1]; exact h1, by rw [a2]; exact h2, by omega, fun a ha => (h4 a ha).tr (u a (by omega) (by omega)), ⟨by omega, by omega⟩, fun i i1 i2 => ?_⟩
  rw [h3, show y + 1 + k = y + (k + 1) by omega] at b1 b2 a3
  by_cases hi : i = k + 1
  · subst hi
    rw [a3, hf, up_s, ht]
    exact ⟨rfl, b1, b2⟩
  · obtain ⟨g1, g2, g3⟩ := h7 i i1 (by omega)
    have hne : mF i ≠ f := fun e => hi (mF_inj i (by omega) i1 (k + 1) (by omega) (by omega) (by rw [e, hf]))
    have sm := u (y + i) (by omega) (by omega)
    rw [a3, up_n _ _ hne, sm.1, sm.2.1]
    exact ⟨g1, g2, g3⟩
theorem MIN.te1 {y k n : Nat} {v : Nat → Int32} {t : pT} {S0 S S1 : TS} (h : MIN y k v S0 S) (e1 : S1 = sN S t n) : te S1 y = some (.inr 11) := by
  have := h.2.2.1
  rw [e1, te_sN, up_n _ _ (by omega)]
  exact h.1
theorem MIN.setI {y k : Nat} {v g : Nat → Int32} {S0 S S1 : TS} (h : MIN y k v S0 S) (e1 : S1 = sI S y g) : MIN y k g S0 S1 := by
  obtain ⟨h1, h2, h3, h4, h5, h7⟩ := h
  refine ⟨by rw [e1, te_sI]; exact h1, by rw [e1, tI_sI, up_s], by rw [e1, tz_sI]; exact h3, fun a ha => (h4 a ha).tr (by rw [e1]; exact sI_sam (by omega)), by rw [e1, tk_sI]; exact h5, fun i i1 i2 => ?_⟩
  rw [e1, tR_sI, te_sI, tI_sI, up_n _ _ (by omega)]
  exact h7 i i1 i2
theorem c_M {y : Nat} {sd : Int32} {S : TS} (hf : FRE S y 11) (hQ : ∀ S', OLD y S S' → tz S' = y + 45 → tk S ≤ tk S' → tk S' ≤ tk S + 220000 → RM y S' (A0 sd) → Q none S') : CT G J_M_init [.ref y, .int sd] S Q := by
  have m0 : MIN y 0 (fun _ => 0) S S := ⟨hf.1, hf.2.1, hf.2.2, fun a _ => SAM.rf S a, ⟨by omega, by omega⟩, fun i h1 h2 => absurd h2 (by omega)⟩
  refine v_M_init y sd S Q ?_
  intro S1 eS1
  refine ⟨m0.te1 eS1, fun S3 eS3 => ?_⟩
  have m1 := m0.step eS1 eS3 rfl rfl (by omega) (by omega)
  intro S4 eS4
  refine ⟨m1.te1 eS4, fun S6 eS6 => ?_⟩
  have m2 := m1.step eS4 eS6 rfl rfl (by omega) (by omega)
  intro S7 eS7
  refine ⟨m2.te1 eS7, fun S9 eS9 => ?_⟩
  have m3 := m2.step eS7 eS9 rfl rfl (by omega) (by omega)
  intro S10 eS10
  refine ⟨m3.te1 eS10, fun S12 eS12 => ?_⟩
  have m4 := m3.step eS10 eS12 rfl rfl (by omega) (by omega)
  intro S13 eS13
  refine ⟨m4.te1 eS13, fun S15 eS15 => ?_⟩
  have m5 := m4.step eS13 eS15 rfl rfl (by omega) (by omega)
  intro S16 eS16
  refine ⟨m5.te1 eS16, fun S18 eS18 => ?_⟩
  have m6 := m5.step eS16 eS18 rfl rfl (by omega) (by omega)
  intro S19 eS19
  refine ⟨m6.te1 eS19, fun S21 eS21 => ?_⟩
  have m7 := m6.step eS19 eS21 rfl rfl (by omega) (by omega)
  intro S22 eS22
  refine ⟨m7.te1 eS22, fun S24 eS24 => ?_⟩
  have m8 := m7.step eS22 eS24 rfl rfl (by omega) (by omega)
  intro S25 eS25
  refine ⟨m8.te1 eS25, fun S27 eS27 => ?_⟩
  have m9 := m8.step eS25 eS27 rfl rfl (by omega) (by omega)
  intro S28 eS28
  refine ⟨m9.te1 eS28, fun S30 eS30 => ?_⟩
  have m10 := m9.step eS28 eS30 rfl rfl (by omega) (by omega)
  intro S31 eS31
  refine ⟨m10.te1 eS31, fun S33 eS33 => ?_⟩
  have m11 := m10.step eS31 eS33 rfl rfl (by omega) (by omega)
  intro S34 eS34
  refine ⟨m11.te1 eS34, fun S36 eS36 => ?_⟩
  have m12 := m11.step eS34 eS36 rfl rfl (by omega) (by omega)
  intro S37 eS37
  refine ⟨m12.te1 eS37, fun S39 eS39 => ?_⟩
  have m13 := m12.step eS37 eS39 rfl rfl (by omega) (by omega)
  intro S40 eS40
  refine ⟨m13.te1 eS40, fun S42 eS42 => ?_⟩
  have m14 := m13.step eS40 eS42 rfl rfl (by omega) (by omega)
  intro S43 eS43
  refine ⟨m14.te1 eS43, fun S45 eS45 => ?_⟩
  have m15 := m14.step eS43 eS45 rfl rfl (by omega) (by omega)
  intro S46 eS46
  refine ⟨m15.te1 eS46, fun S48 eS48 => ?_⟩
  have m16 := m15.step eS46 eS48 rfl rfl (by omega) (by omega)
  intro S49 eS49
  refine ⟨m16.te1 eS49, fun S51 eS51 => ?_⟩
  have m17 := m16.step eS49 eS51 rfl rfl (by omega) (by omega)
  intro S52 eS52
  refine ⟨m17.te1 eS52, fun S54 eS54 => ?_⟩
  have m18 := m17.step eS52 eS54 rfl rfl (by omega) (by omega)
  intro S55 eS55
  refine ⟨m18.te1 eS55, fun S57 eS57 => ?_⟩
  have m19 := m18.step eS55 eS57 rfl rfl (by omega) (by omega)
  intro S58 eS58
  refine ⟨m19.te1 eS58, fun S60 eS60 => ?_⟩
  have m20 := m19.step eS58 eS60 rfl rfl (by omega) (by omega)
  intro S61 eS61
  refine ⟨m20.te1 eS61, fun S63 eS63 => ?_⟩
  have m21 := m20.step eS61 eS63 rfl rfl (by omega) (by omega)
  refine ⟨m21.1, fun S65 eS65 => ?_⟩
  have m22 := m21.setI eS65
  intro S66 eS66
  refine ⟨m22.te1 eS66, fun S68 eS68 => ?_⟩
  have m23 := m22.step eS66 eS68 rfl rfl (by omega) (by omega)
  intro S69 eS69
  refine ⟨m23.te1 eS69, fun S71 eS71 => ?_⟩
  have m24 := m23.step eS69 eS71 rfl rfl (by omega) (by omega)
  intro S72 eS72
  refine ⟨m24.te1 eS72, fun S74 eS74 => ?_⟩
  have m25 := m24.step eS72 eS74 rfl rfl (by omega) (by omega)
  intro S75 eS75
  refine ⟨m25.te1 eS75, fun S77 eS77 => ?_⟩
  have m26 := m25.step eS75 eS77 rfl rfl (by omega) (by omega)
  intro S78 eS78
  refine ⟨m26.te1 eS78, fun S80 eS80 => ?_⟩
  have m27 := m26.step eS78 eS80 rfl rfl (by omega) (by omega)
  intro S81 eS81
  refine ⟨m27.te1 eS81, fun S83 eS83 => ?_⟩
  have m28 := m27.step eS81 eS83 rfl rfl (by omega) (by omega)
  intro S84 eS84
  refine ⟨m28.te1 eS84, fun S86 eS86 => ?_⟩
  have m29 := m28.step eS84 eS86 rfl rfl (by omega) (by omega)
  intro S87 eS87
  refine ⟨m29.te1 eS87, fun S89 eS89 => ?_⟩
  have m30 := m29.step eS87 eS89 rfl rfl (by omega) (by omega)
  intro S90 eS90
  refine ⟨m30.te1 eS90, fun S92 eS92 => ?_⟩
  have m31 := m30.step eS90 eS92 rfl rfl (by omega) (by omega)
  intro S93 eS93
  refine ⟨m31.te1 eS93, fun S95 eS95 => ?_⟩
  have m32 := m31.step eS93 eS95 rfl rfl (by omega) (by omega)
  intro S96 eS96
  refine ⟨m32.te1 eS96, fun S98 eS98 => ?_⟩
  have m33 := m32.step eS96 eS98 rfl rfl (by omega) (by omega)
  intro S99 eS99
  refine ⟨m33.te1 eS99, fun S101 eS101 => ?_⟩
  have m34 := m33.step eS99 eS101 rfl rfl (by omega) (by omega)
  intro S102 eS102
  refine ⟨m34.te1 eS102, fun S104 eS104 => ?_⟩
  have m35 := m34.step eS102 eS104 rfl rfl (by omega) (by omega)
  intro S105 eS105
  refine ⟨m35.te1 eS105, fun S107 eS107 => ?_⟩
  have m36 := m35.step eS105 eS107 rfl rfl (by omega) (by omega)
  intro S108 eS108
  refine ⟨m36.te1 eS108, fun S110 eS110 => ?_⟩
  have m37 := m36.step eS108 eS110 rfl rfl (by omega) (by omega)
  intro S111 eS111
  refine ⟨m37.te1 eS111, fun S113 eS113 => ?_⟩
  have m38 := m37.step eS111 eS113 rfl rfl (by omega) (by omega)
  intro S114 eS114
  refine ⟨m38.te1 eS114, fun S116 eS116 => ?_⟩
  have m39 := m38.step eS114 eS116 rfl rfl (by omega) (by omega)
  intro S117 eS117
  refine ⟨m39.te1 eS117, fun S119 eS119 => ?_⟩
  have m40 := m39.step eS117 eS119 rfl rfl (by omega) (by omega)
  intro S120 eS120
  refine ⟨m40.te1 eS120, fun S122 eS122 => ?_⟩
  have m41 := m40.step eS120 eS122 rfl rfl (by omega) (by omega)
  intro S123 eS123
  refine ⟨m41.te1 eS123, fun S125 eS125 => ?_⟩
  have m42 := m41.step eS123 eS125 rfl rfl (by omega) (by omega)
  intro S126 eS126
  refine ⟨m42.te1 eS126, fun S128 eS128 => ?_⟩
  have m43 := m42.step eS126 eS128 rfl rfl (by omega) (by omega)
  intro S129 eS129
  refine ⟨m43.te1 eS129, fun S131 eS131 => ?_⟩
  have m44 := m43.step eS129 eS131 rfl rfl (by omega) (by omega)
  intro S132 eS132
  refine ⟨m44.te1 eS132, fun S134 eS134 => ?_⟩
  have m45 := m44.step eS132 eS134 rfl rfl (by omega) (by omega)
  refine ⟨m45.1, fun S136 eS136 => ?_⟩
  have m46 := m45.setI eS136
  obtain ⟨f1, f2, f3, f4, f5, f6⟩ := m46
  obtain ⟨r21, t21, i21⟩ := f6 21 (by omega) (by omega)
  refine ⟨f1, y + 21, r21, 16, t21, vp_in_nI (n := 0) (by omega) (by omega), fun S142 e142 => ?_⟩
  have sm : ∀ a, a ≠ y + 21 → SAM S136 S142 a := fun a ha => by rw [e142]; exact sI_sam ha
  have iy : tI S142 y = upd (upd (fun _ => 0) 26 1) 4 sd := by
    rw [(sm y (by omega)).2.1, f2, m45.2.1, m21.2.1]
  have ms : MS y S142 := ⟨by rw [(sm y (by omega)).1]; exact f1, fun i i1 i2 => ⟨by rw [(sm y (by omega)).2.2.2]; exact (f6 i i1 (by omega)).1, by rw [e142, te_sI]; exact (f6 i i1 (by omega)).2.1⟩⟩
  have z : ∀ i, 1 ≤ i → i < 45 → i ≠ 21 → ∀ j, tI S142 (y + i) j = 0 := fun i i1 i2 i3 j => by rw [(sm (y + i) (by omega)).2.1, (f6 i i1 (by omega)).2.2]
  have emp : ∀ f r, 1 ≤ r → r < 45 → f ≠ 26 → f ≠ 4 → cBL y f r S142 [] := fun f r _ _ h26 h4 => ⟨by rw [iy, pk_un h4, pk_un h26]; rfl, BR.nil _ _ _⟩
  refine hQ S142 (fun a ha => (f4 a ha).tr (sm a (by omega))) (by rw [e142, tz_sI, f3]) (by rw [e142, tk_sI]; exact f5.1) (by rw [e142, tk_sI]; omega) ⟨ms, emp 1 1 (by omega) (by omega) (by omega) (by omega), emp 3 2 (by omega) (by omega) (by omega) (by omega), ⟨by rw [iy, pk_un (by omega), pk_us]; rfl, fun j hj => ?_⟩, emp 33 26 (by omega) (by omega) (by omega) (by omega), fun j hj => ?_, fun s hs => ⟨?_, ?_⟩, fun c => absurd (show (0 : Int32) = 1 from c) (by decide), fun c => absurd (show (0 : Int32) = 1 from c) (by decide), fun s hs c => ?_, fun w hw => ⟨z 20 (by omega) (by omega) (by omega) w, fun k hk => absurd hk (by simp [aW, A0])⟩, ⟨by rw [iy, pk_un (by omega), pk_un (by omega)]; rfl, fun k hk => absurd hk (by simp [aT, A0])⟩, ⟨by rw [iy, pk_us]; rfl, by rw [iy, pk_un (by omega), pk_un (by omega)]; rfl, by rw [iy, pk_un (by omega), pk_un (by omega)]; rfl⟩⟩
  · have hj0 : j = 0 := by
      have : j < 1 := hj
      omega
    subst hj0
    rw [e142, tI_sI, up_s]
    rfl
  · have e : aB (A0 sd) (4 + j) = [] := by
      show (if 4 + j = 2 then [b8 110] else []) = []
      rw [if_neg (by omega)]
    show tI S142 (y + 9) j = (if aB (A0 sd) (4 + j) = [] then 0 else 1) ∧ BR S142 (y + 10) (32 * j) (aB (A0 sd) (4 + j))
    rw [e, if_pos rfl]
    exact ⟨z 9 (by omega) (by omega) (by omega) j, BR.nil _ _ _⟩
  · rw [z 11 (by omega) (by omega) (by omega) s]
    rcases (show s = 0 ∨ s = 1 by omega) with rfl | rfl <;> rfl
  · rw [z 12 (by omega) (by omega) (by omega) s]
    rcases (show s = 0 ∨ s = 1 by omega) with rfl | rfl <;> rfl
  · rcases (show s = 0 ∨ s = 1 by omega) with rfl | rfl
    · exact absurd (show (0 : Int32) = 2 from c) (by decide)
    · exact absurd (show (0 : Int32) = 2 from c) (by decide)
end IND
