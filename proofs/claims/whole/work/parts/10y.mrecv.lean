/-! PURE: the reference receives; requests -/
theorem sx_eq {b : B8} {j : Nat} (hj : j < 128) : (sx b = nI j) ↔ b.toNat = j := by
  constructor
  · intro h
    have h128 : b.toNat < 128 := Nat.not_le.mp (fun z => by have := sx_ng z; rw [h] at this; exact nI_pos (by omega) this)
    rw [sx_sm h128] at h
    exact (nI_eq (by omega) (by omega)).mp h
  · intro h
    rw [sx_sm (by omega), h]
theorem tGreet_1 (A : AS) (s : Nat) (L : List B8) : (tGreet A s L).1 = -3 ∨ (tGreet A s L).1 = -4 ∨ (tGreet A s L).1 = 1 := by
  unfold tGreet
  split
  · split
    · exact Or.inl rfl
    · exact Or.inr (Or.inr rfl)
  · exact Or.inr (Or.inl rfl)
theorem tReply_1 (A : AS) (s : Nat) (L : List B8) : (tReply A s L).1 = -3 ∨ (tReply A s L).1 = -4 ∨ (tReply A s L).1 = 2 := by
  unfold tReply
  split
  · split
    · exact Or.inl rfl
    · exact Or.inr (Or.inr rfl)
  · exact Or.inr (Or.inl rfl)
theorem tProof_1 (A : AS) (s : Nat) (L : List B8) : (tProof A s L).1 = -3 ∨ (tProof A s L).1 = -4 ∨ (tProof A s L).1 = 3 := by
  unfold tProof
  split
  · exact Or.inr (Or.inr rfl)
  · exact Or.inr (Or.inl rfl)
theorem tSealed_1 (A : AS) (s : Nat) (L : List B8) : (tSealed A s L).1 = -3 ∨ (tSealed A s L).1 = -4 ∨ (tSealed A s L).1 = 4 := by
  unfold tSealed
  split
  · split
    · exact Or.inr (Or.inl rfl)
    · split
      · exact Or.inr (Or.inl rfl)
      · split
        · split
          · unfold tReq
            split
            · exact Or.inr (Or.inl rfl)
            · split
              · exact Or.inl rfl
              · exact Or.inr (Or.inr rfl)
          · rename_i p _ _ _ _
            unfold tAns
            by_cases h : 2 ≤ p.length ∧ p.length ≤ 2 + (if (p.getD 1 0).toNat = 0 then 64 else 0) ∧ (p.getD 1 0).toNat ≤ 3
            · rw [if_pos h]; exact Or.inr (Or.inr rfl)
            · rw [if_neg h]; exact Or.inr (Or.inl rfl)
        · split
          · split
            · exact Or.inr (Or.inr rfl)
            · split
              · exact Or.inr (Or.inr rfl)
              · exact Or.inr (Or.inl rfl)
          · exact Or.inr (Or.inl rfl)
  · exact Or.inr (Or.inl rfl)
theorem zx_of {b : B8} {j : Nat} (h : b.toNat = j) : zx b = nI j := by rw [zx_nI, h]
theorem recv1_1 (A : AS) (s : Nat) (L : List B8) : (fRecv1 A s L).1 = -3 ∨ (fRecv1 A s L).1 = -4 ∨ (fRecv1 A s L).1 = zx (L.getD 0 0) := by
  unfold fRecv1
  split
  · unfold tAll
    split
    · rename_i h; rw [zx_of h]; exact tGreet_1 A s L
    · split
      · rename_i h; rw [zx_of h]; exact tReply_1 A s L
      · split
        · rename_i h; rw [zx_of h]; exact tProof_1 A s L
        · split
          · rename_i h; rw [zx_of h]; exact tSealed_1 A s L
          · exact Or.inr (Or.inl rfl)
  · exact Or.inr (Or.inl rfl)
section MRV
variable {G : pG} {y : Nat} {S : TS} {A : AS}
theorem n033 : ((0 : Int32) = -3 ↔ (3 : Int32) = -3) := by decide
theorem n034 : ((0 : Int32) = -4 ↔ (3 : Int32) = -4) := by decide
theorem m_handle {t : Nat → Nat} (hG : GS G t) {Q : Option Value → TS → Prop} {s n : Nat} {L : List B8} {S0 : TS} (R : RMF y S0 S A) (ok : AOK A) (hs : s < 2) (h34 : aI A s ≠ 3 ∧ aI A s ≠ 4) (hne : 0 < (aW A (1 - s)).length) (eL : (aW A (1 - s)).getD 0 [] = L) (hn : L.length = n + 3)
    (hQ : ∀ S' r, (r = -3 ↔ (fRecv1 A s L).1 = -3) → (r = -4 ↔ (fRecv1 A s L).1 = -4) → RMF y S0 S' (fRecv1 A s L).2 → Q (some (.int r)) S') : C0 G J_M_handle [.ref y, .int (nI s), .int (nI (2400 * (1 - s))), .int (nI n)] S Q := by
  have hL : BR S (y + 18) (2400 * (1 - s)) L := by have := ((R.wi (1 - s) (by omega)).2 0 hne).2; rw [eL, show 200 * (12 * (1 - s) + 0) = 2400 * (1 - s) by omega] at this; exact this
  have hL200 : L.length ≤ 200 := by rw [← eL]; exact (ok.wr (w := 1 - s) (by omega) _ (gd_mem hne)).2
  have hT : fRecv1 A s L = if (zx (L.getD 1 0) <<< ((8 : Int32) &&& 31)) ||| zx (L.getD 2 0) = nI n then tAll A s L else (-4, A) := by
    unfold fRecv1
    rw [show L.length - 3 = n by omega]
    by_cases hc : (zx (L.getD 1 0) <<< ((8 : Int32) &&& 31)) ||| zx (L.getD 2 0) = nI n
    · rw [if_pos ⟨h34, by omega, hc⟩, if_pos hc]
    · rw [if_neg (fun z => hc z.2.2), if_neg hc]
  have m4 : fRecv1 A s L = (-4, A) → Q (some (.int (-4))) S := fun e => by
    rw [e] at hQ
    exact hQ S (-4) Iff.rfl Iff.rfl R
  refine v_M_handle y _ _ _ S Q ⟨fun c => absurd c (nI_pos (by omega)), fun _ => ⟨R.ms.1, y + 18, R.ms.r 18 (by omega) (by omega), 4800, R.ms.t 18 (by omega) (by omega), ?_⟩⟩
  rw [nI_1, show nI (2400 * (1 - s)) + (2 : Int32) = nI (2400 * (1 - s) + 2) from nI_add _ 2, nI_clamp (show 2400 * (1 - s) + 1 < 2 ^ 31 by omega), nI_clamp (show 2400 * (1 - s) + 2 < 2 ^ 31 by omega), hL 1 (by omega), hL 2 (by omega), sx_and, sx_and]
  refine ⟨vp_in_nI (by omega) (by omega), vp_in_nI (by omega) (by omega), fun c => ?_, fun c => v_M_handle_36 y _ _ _ S Q (m4 (by rw [hT, if_neg (fun z => c z.symm)]))⟩
  rw [if_pos c.symm] at hT
  unfold tAll at hT
  refine v_M_handle_39 y _ _ _ S Q ⟨R.ms.1, y + 18, R.ms.r 18 (by omega) (by omega), 4800, R.ms.t 18 (by omega) (by omega), vp_in_nI (by omega) (by omega), fun y6 e6 => ?_⟩
  have hL0 : tI S (y + 18) (2400 * (1 - s)) = sx (L.getD 0 0) := hL 0 (by omega)
  rw [nI_clamp (by omega), hL0] at e6
  rw [e6]
  generalize hb : L.getD 0 0 = b at *
  have in2 : ∀ j, j < 2 → vp_in (nI j) 2 := fun j hj => vp_in_nI hj (by omega)
  have isx : ∀ j, j < 128 → (sx b = nI j ↔ b.toNat = j) := fun j hj => sx_eq hj
  -- the last question: sealed?
  have f160 : ¬ (s = 1 ∧ aI A 1 = 0 ∧ b.toNat = 1) → ¬ (s = 0 ∧ aI A 0 = 1 ∧ b.toNat = 2) → ¬ (s = 1 ∧ aI A 1 = 1 ∧ b.toNat = 3) → T0 G J_M_handle 160 [(0, .ref y), (1, .int (nI s)), (2, .int (nI (2400 * (1 - s)))), (3, .int (nI n)), (4, .int (sx b))] [] S Q := by
    intro q1 q2 q3
    have other : ¬ (aI A s = 2 ∧ b.toNat = 4) → fRecv1 A s L = (-4, A) := by
      intro q4
      rw [hT]
      split
      · unfold tGreet; rw [if_neg (fun z => q1 ⟨z.1, z.2.1, by assumption⟩)]
      · split
        · unfold tReply; rw [if_neg (fun z => q2 ⟨z.1, z.2.1, by assumption⟩)]
        · split
          · unfold tProof; rw [if_neg (fun z => q3 ⟨z.1, z.2.1, by assumption⟩)]
          · split
            · unfold tSealed; rw [if_neg (fun z => q4 ⟨z, by assumption⟩)]
            · rfl
    refine v_M_handle_160 y _ _ _ _ S Q ⟨R.ms.1, y + 11, R.ms.r 11 (by omega) (by omega), 2, R.ms.t 11 (by omega) (by omega), in2 s hs, ?_⟩
    rw [nI_clamp (by omega), (R.st s hs).1]
    refine ⟨fun c2 => v_M_handle_186 y _ _ _ _ S Q (m4 (other (fun z => c2 z.1))), fun c2 => ⟨fun c4 => v_M_handle_186 y _ _ _ _ S Q (m4 (other (fun z => c4 ((isx 4 (by omega)).mpr z.2)))), fun c4 => ?_⟩⟩
    have b4 : b.toNat = 4 := (isx 4 (by omega)).mp c4
    rw [if_neg (by omega), if_neg (by omega), if_neg (by omega), if_pos b4] at hT
    rw [hT] at hQ
    exact m_sealed hG R ok hs c2 hne eL hn (fun S' r h1 h2 R' => ⟨_, rfl, hQ S' r h1 h2 R'⟩)
  -- a proof?
  have f101 : ¬ (s = 1 ∧ aI A 1 = 0 ∧ b.toNat = 1) → ¬ (s = 0 ∧ aI A 0 = 1 ∧ b.toNat = 2) → T0 G J_M_handle 101 [(0, .ref y), (1, .int (nI s)), (2, .int (nI (2400 * (1 - s)))), (3, .int (nI n)), (4, .int (sx b))] [] S Q := by
    intro q1 q2
    refine v_M_handle_101 y _ _ _ _ S Q ⟨fun c1 => f160 q1 q2 (fun z => c1 (by rw [z.1]; rfl)), fun c1 => ⟨R.ms.1, y + 11, R.ms.r 11 (by omega) (by omega), 2, R.ms.t 11 (by omega) (by omega), in2 1 (by omega), ?_⟩⟩
    have s1 : s = 1 := (nI_eq (b := 1) (by omega) (by omega)).mp c1
    subst s1
    rw [(R.st 1 (by omega)).1]
    refine ⟨fun c2 => f160 q1 q2 (fun z => c2 z.2.1), fun c2 => ⟨fun c3 => f160 q1 q2 (fun z => c3 ((isx 3 (by omega)).mpr z.2.2)), fun c3 => ?_⟩⟩
    have b3 : b.toNat = 3 := (isx 3 (by omega)).mp c3
    rw [if_neg (by omega), if_neg (by omega), if_pos b3] at hT
    unfold tProof at hT
    refine ⟨fun c4 => v_M_handle_146 y _ _ _ _ S Q (m4 ?_), fun c4 => ?_⟩
    · rw [hT, if_neg (fun z => c4 (by rw [show n = 32 by omega]; rfl))]
    · have n32 : n = 32 := (nI_eq (b := 32) (by omega) (by omega)).mp c4
      subst n32
      obtain ⟨d1, d2⟩ := R.du c2
      have hpl : ((L.drop 3).take 32).length = 32 := by rw [List.length_take, List.length_drop]; omega
      have hpb : BR S (y + 18) 3 ((L.drop 3).take 32) := by have := (hL.drop 3).take 32; exact this
      have hll : (aB A 22).length = 32 := (ok.2.2.2.1 c2).2.1
      have hml := mac_len (aB A 23) (b8 99 :: aB A 21)
      generalize hme : mac (aB A 23) (b8 99 :: aB A 21) = mm at *
      refine ⟨y + 14, R.ms.r 14 (by omega) (by omega), y + 18, R.ms.r 18 (by omega) (by omega), ?_⟩
      rw [show nI (2400 * (1 - 1)) + (3 : Int32) = nI 3 from rfl]
      refine m_same (o0 := 0) hml hpl (R.ms.t 14 (by omega) (by omega)) (R.ms.t 18 (by omega) (by omega)) (by omega) (by omega) (by omega) (by omega) d1 hpb (fun hy => ⟨1, rfl, fun _ => ?_, fun c => absurd c (by decide)⟩) (fun hno => ⟨0, rfl, fun c => absurd rfl c, fun _ => v_M_handle_146 y _ _ _ _ S Q (m4 ?_)⟩)
      · rw [if_pos ⟨rfl, c2, by omega, hy.symm⟩] at hT
        rw [hT] at hQ
        refine v_M_handle_149 y _ _ _ _ S Q ⟨R.ms.1, y + 40, R.ms.r 40 (by omega) (by omega), m_opens (s := 1) hG R (fun s hs h2 d hd => ok.zk hs h2 hd) (by omega) (R.ms.t 40 (by omega) (by omega)) (by omega) (by omega) (Or.inr rfl) d2 hll (fun S4 R4 _ => ⟨rfl, hQ S4 0 n033 n034 ?_⟩)⟩
        rw [if_neg (by omega)] at R4
        exact R4
      · rw [hT, if_neg (fun z => hno z.2.2.2.symm)]
  -- a reply?
  have f74 : ¬ (s = 1 ∧ aI A 1 = 0 ∧ b.toNat = 1) → T0 G J_M_handle 74 [(0, .ref y), (1, .int (nI s)), (2, .int (nI (2400 * (1 - s)))), (3, .int (nI n)), (4, .int (sx b))] [] S Q := by
    intro q1
    refine v_M_handle_74 y _ _ _ _ S Q ⟨fun c1 => f101 q1 (fun z => c1 (by rw [z.1]; rfl)), fun c1 => ⟨R.ms.1, y + 11, R.ms.r 11 (by omega) (by omega), 2, R.ms.t 11 (by omega) (by omega), in2 0 (by omega), ?_⟩⟩
    have s0 : s = 0 := (nI_eq (b := 0) (by omega) (by omega)).mp c1
    subst s0
    rw [(R.st 0 (by omega)).1]
    refine ⟨fun c2 => f101 q1 (fun z => c2 z.2.1), fun c2 => ⟨fun c3 => f101 q1 (fun z => c3 ((isx 2 (by omega)).mpr z.2.2)), fun c3 => ?_⟩⟩
    have b2 : b.toNat = 2 := (isx 2 (by omega)).mp c3
    rw [if_neg (by omega), if_pos b2] at hT
    rw [hT] at hQ
    exact m_answered hG R ok c2 hne eL hn (fun S' r h1 h2 R' => ⟨_, rfl, hQ S' r h1 h2 R'⟩)
  refine ⟨fun c1 => f74 (fun z => c1 (by rw [z.1]; rfl)), fun c1 => ⟨y + 11, R.ms.r 11 (by omega) (by omega), 2, R.ms.t 11 (by omega) (by omega), in2 1 (by omega), ?_⟩⟩
  have s1 : s = 1 := (nI_eq (b := 1) (by omega) (by omega)).mp c1
  subst s1
  rw [(R.st 1 (by omega)).1]
  refine ⟨fun c2 => f74 (fun z => c2 z.2.1), fun c2 => ⟨fun c3 => f74 (fun z => c3 ((isx 1 (by omega)).mpr z.2.2)), fun c3 => ?_⟩⟩
  have b1 : b.toNat = 1 := (isx 1 (by omega)).mp c3
  rw [if_pos b1] at hT
  rw [hT] at hQ
  exact m_greeted hG R ok c2 hne eL hn (fun S' r h1 h2 R' => ⟨_, rfl, hQ S' r h1 h2 R'⟩)
theorem r_receive {t : Nat → Nat} (hG : GS G t) (h : RM y S A) (ok : AOK A) (w : Int32) : C0 G J_M_receive [.ref y, .int w] S (fun r S' => r = some (.int (fReceive A w).1) ∧ RMF y S S' (fReceive A w).2) := by
  have R := h.f
  refine v_M_receive y w S _ (m_side (fun a ha ea => ⟨1, rfl, fun _ => ?_, fun c => absurd c (by decide)⟩) (fun hno => ⟨0, rfl, fun c => absurd rfl c, fun _ => ?_⟩))
  · subst ea
    have hV : fReceive A (nI a) = if aW A a = [] then (-2, A) else fRecv2 (fRecv1 A (1 - a) ((aW A a).getD 0 [])) (1 - a) a := by
      unfold fReceive
      rw [nof_some ha (by omega)]
    rw [hV]
    have hl := ok.wl ha
    have in2 : ∀ j, j < 2 → vp_in (nI j) 2 := fun j hj => vp_in_nI hj (by omega)
    refine ⟨R.ms.1, y + 20, R.ms.r 20 (by omega) (by omega), 2, R.ms.t 20 (by omega) (by omega), in2 a ha, ?_⟩
    rw [nI_clamp (by omega), (R.wi a ha).1]
    refine ⟨fun c => fun y7 e7 => ?_, fun c => ?_⟩
    · have hne : ¬ aW A a = [] := fun z => c (by rw [z]; rfl)
      have hpos : 0 < (aW A a).length := Nat.pos_of_ne_zero (fun z => hne (List.length_eq_zero_iff.mp z))
      rw [if_neg hne]
      generalize eL : (aW A a).getD 0 [] = L at *
      have hL3 : 3 ≤ L.length ∧ L.length ≤ 200 := by rw [← eL]; exact ok.wr ha _ (gd_mem hpos)
      obtain ⟨p19, p18⟩ := (R.wi a ha).2 0 hpos
      rw [eL] at p19 p18
      have p180 := p18 0 (by omega)
      have e7 : y7 = nI (1 - a) := by rw [e7]; exact pk_sub (a := 1) (by omega)
      rw [e7]
      have a1 : 1 - a < 2 := by omega
      refine m_at (k := 0) ⟨_, rfl, y + 18, R.ms.r 18 (by omega) (by omega), 4800, R.ms.t 18 (by omega) (by omega), vp_in_nI (by omega) (by omega), fun y13 e13 => ⟨y + 11, R.ms.r 11 (by omega) (by omega), 2, R.ms.t 11 (by omega) (by omega), in2 _ a1, ?_⟩⟩
      rw [nI_clamp (by omega), show 200 * (12 * a + 0) = 200 * (12 * a + 0) + 0 from rfl, p180, sx_and] at e13
      rw [nI_clamp (show 1 - a < 2 ^ 31 by omega), (R.st (1 - a) a1).1]
      obtain ⟨q, hq5, eq⟩ := ok.st5 a1
      have tk : ∀ {S1 : TS} {B : AS} {Q : Option Value → TS → Prop}, RMF y S S1 B → AOK B → 0 < (aW B a).length → (∀ S2, RMF y S S2 (wW B a ((aW B a).eraseIdx 0)) → Q none S2) → C0 G J_M_take [.ref y, .int (nI a), .int 0] S1 Q := fun RB okB hB hQ2 => m_take (k := 0) RB okB.w2 ha hB hQ2
      refine ⟨fun c3 => ?_, fun c3 => ⟨in2 _ a1, fun c4 => ?_, fun c4 => absurd (nlt c3) c4⟩⟩
      · have h34 : aI A (1 - a) ≠ 3 ∧ aI A (1 - a) ≠ 4 := ⟨fun z => by rw [z] at c3; exact absurd c3 (by decide), fun z => by rw [z] at c3; exact absurd c3 (by decide)⟩
        refine ⟨y + 19, R.ms.r 19 (by omega) (by omega), 24, R.ms.t 19 (by omega) (by omega), ?_⟩
        rw [show nI a * (12 : Int32) = nI (12 * a) by rw [show nI a * (12 : Int32) = nI (a * 12) from pk_mul a 12, Nat.mul_comm], nI_clamp (by omega), show tI S (y + 19) (12 * a) = nI L.length from p19, show nI L.length - (3 : Int32) = nI (L.length - 3) from pk_sub (b := 3) (by omega), show 200 * (12 * a + 0) = 2400 * (1 - (1 - a)) by omega]
        have ok1 := o_recv1 ok a1 (L := L)
        have r1 := recv1_1 A (1 - a) L
        have aw : (1 - (1 - a)) = a := by omega
        refine ⟨vp_in_nI (by omega) (by omega), m_handle (L := L) hG R ok a1 h34 (by rw [aw]; exact hpos) (by rw [aw]; exact eL) (by omega) (fun S22 r23 i3 i4 R22 => ⟨r23, rfl, ?_⟩)⟩
        have hw0 : (fRecv1 A (1 - a) L).1 ≠ -3 → 0 < (aW (fRecv1 A (1 - a) L).2 a).length := fun _ => by have := fRecv1_w A L (1 - a) a1; rw [aw] at this; rw [this]; exact hpos
        generalize fRecv1 A (1 - a) L = r at *
        unfold fRecv2
        refine ⟨fun c5 => ?_, fun c5 => ?_⟩
        · have n3 : ¬ r.1 = -3 := fun z => c5 (i3.mpr z)
          rw [if_neg n3]
          refine ⟨fun c6 => tk R22 ok1 (hw0 n3) (fun S24 R24 => ⟨rfl, fun _ => ?_, fun z => absurd z c6⟩), fun c6 => ⟨in2 _ a1, ?_⟩⟩
          · have n4 : ¬ r.1 = -4 := fun z => c6 (i4.mpr z)
            rw [if_neg (fun z => n4 z.1), e13]
            rcases r1 with h | h | h
            · exact absurd h n3
            · exact absurd h n4
            · exact ⟨by rw [h], R24⟩
          · have h4 := i4.mp c6
            rw [(R22.st (1 - a) a1).1]
            obtain ⟨q2, hq2, eq2⟩ := ok1.st5 a1
            refine ⟨fun c7 => tk R22 ok1 (hw0 n3) (fun S25 R25 => ⟨rfl, fun z => absurd c6 z, fun _ => ?_⟩), fun c7 => ⟨in2 _ a1, fun S26 e26 => ?_⟩⟩
            · have hst : ¬ (aI r.2 (1 - a) ≠ 3 ∧ aI r.2 (1 - a) ≠ 4) := by
                rw [eq2] at c7 ⊢
                have := (nI_leI (a := 3) (by omega) (by omega)).mp c7
                rcases (show q2 = 3 ∨ q2 = 4 by omega) with h | h
                · rw [h]; exact fun z => z.1 rfl
                · rw [h]; exact fun z => z.2 rfl
              rw [if_neg (fun z => hst z.2)]
              exact ⟨by rw [h4], R25⟩
            · have hst : aI r.2 (1 - a) ≠ 3 ∧ aI r.2 (1 - a) ≠ 4 := ⟨fun z => c7 (by rw [z]; decide), fun z => c7 (by rw [z]; decide)⟩
              rw [if_pos ⟨h4, hst⟩]
              have R26 := R22.side a1 e26 (fun _ c => absurd c (by decide)) (fun _ c => absurd c (by decide)) (fun c => absurd c (by decide))
              have ok26 : AOK (wI r.2 (1 - a) 4) := ok1.stU (n := 4) a1 (by omega) (fun _ h => absurd h (by omega)) (fun _ h => absurd h (by omega)) (fun h => absurd h (by omega))
              exact tk R26 ok26 (hw0 n3) (fun S27 R27 => ⟨rfl, fun z => absurd c6 z, fun _ => ⟨by rw [h4], R27⟩⟩)
        · rw [if_pos (i3.mp c5)]
          exact ⟨rfl, R22⟩
      · have hst : ¬ (aI A (1 - a) ≠ 3 ∧ aI A (1 - a) ≠ 4) := by
          rw [eq] at c4 ⊢
          have := (nI_leI (a := 3) (by omega) (by omega)).mp c4
          rcases (show q = 3 ∨ q = 4 by omega) with h | h
          · rw [h]; exact fun z => z.1 rfl
          · rw [h]; exact fun z => z.2 rfl
        have hT : fRecv1 A (1 - a) L = (-4, A) := by
          unfold fRecv1
          rw [if_neg (fun z => hst z.1)]
        rw [hT]
        unfold fRecv2
        rw [if_neg (show ¬ (-4 : Int32) = -3 by decide), if_neg (fun z => hst z.2)]
        exact tk R ok hpos (fun S28 R28 => ⟨rfl, rfl, R28⟩)
    · have he : aW A a = [] := List.length_eq_zero_iff.mp ((nI_eq (b := 0) (by omega) (by omega)).mp c)
      rw [if_pos he]
      exact ⟨rfl, R⟩
  · have hV : fReceive A w = (-1, A) := by unfold fReceive; rw [nof_none hno]
    rw [hV]
    exact ⟨rfl, R⟩
theorem m_rqMain {Q : Option Value → TS → Prop} {n : Nat} {x1 : Int32} {l : List B8} {S0 : TS} (R : RMF y S0 S A) (ok : AOK A) (hl : l.length = n) (hl64 : n ≤ 64) (hb : BR S (y + 1) 0 l) (h5 : aI A 0 ≠ 2 → Q (some (.int (-5))) S) (h3 : aI A 0 = 2 → (aW A 0).length = 12 → Q (some (.int (-3))) S) (h0 : ∀ S', aI A 0 = 2 → (aW A 0).length < 12 → RMF y S0 S' (aSeal A 0 0 0 ([0, b8 x1, b8 (nI (aB A 2).length)] ++ aB A 2 ++ l)) → Q (some (.int 0)) S') :
    ∃ b4 : Nat, tR S y 15 = some b4 ∧ ∃ n6 : Nat, te S b4 = some (.inl (.int, n6)) ∧ vp_in 0 n6 ∧ ((tI S b4 0 = 2 → CP G J_M_full [.ref y, .int 0] S (fun r => ∃ r8 : Int32, r = some (.int r8) ∧ ((r8 = 0 → ∀ S9 : TS, S9 = sI S y (upd (tI S y) 46 0) → C0 G J_M_say [.ref y, .int 0] S9 (fun r S10 => r = none ∧ C0 G J_M_say [.ref y, .int x1] S10 (fun r S11 => r = none ∧ C0 G J_M_say [.ref y, .int (tI S11 y 26)] S11 (fun r S12 => r = none ∧ T0 G J_M_request 89 [(0, .ref y), (1, .int x1), (2, .int (nI n)), (3, .int 0)] [] S12 Q)))) ∧ (¬ (r8 = 0) → Q (some (.int ((-3)))) S)))) ∧ (¬ (tI S b4 0 = 2) → Q (some (.int ((-5)))) S)) := by
  have hn := ok.nm
  refine ⟨y + 11, R.ms.r 11 (by omega) (by omega), 2, R.ms.t 11 (by omega) (by omega), vp_in_nI (n := 0) (by omega) (by omega), ?_⟩
  rw [(R.st 0 (by omega)).1]
  refine ⟨fun c => m_full (w := 0) R (ok.wl (by omega)) (by omega) (fun hlt => ⟨0, rfl, fun _ S9 e9 => ?_, fun c => absurd rfl c⟩) (fun he => ⟨1, rfl, fun c => absurd c (by decide), fun _ => h3 c he⟩), fun c => h5 c⟩
  obtain ⟨m9, b9⟩ := say_0 e9
  have R9 := R.say m9
  have t9 : BR S9 (y + 1) 0 l := hb.mx m9 (by omega) (by simp only [pY]; omega)
  refine m_say R9.ms b9 (by simp) (fun S10 m10 b10 => ⟨rfl, m_say (R9.say m10).ms b10 (by simp) (fun S11 m11 b11 => ⟨rfl, ?_⟩)⟩)
  have R11 := (R9.say m10).say m11
  rw [R11.nm.1]
  refine m_say R11.ms b11 (by simp) (fun S12 m12 b12 => ⟨rfl, ?_⟩)
  have R12 := R11.say m12
  have t12 : BR S12 (y + 1) 0 l := ((t9.mx m10 (by omega) (by simp only [pY]; omega)).mx m11 (by omega) (by simp only [pY]; omega)).mx m12 (by omega) (by simp only [pY]; omega)
  have b12 : cBL y 46 36 S12 [0, b8 x1, b8 (nI (aB A 2).length)] := b12
  have go2 : ∀ (m i : Nat) (Si : TS), i + m = l.length → RMF y S0 Si A → BR Si (y + 1) 0 l → cBL y 46 36 Si ([0, b8 x1, b8 (nI (aB A 2).length)] ++ aB A 2 ++ l.take i) → T0 G J_M_request 115 [(0, .ref y), (1, .int x1), (2, .int (nI n)), (3, .int (nI i))] [] Si Q := by
    intro m
    induction m with
    | zero =>
      intro i Si hi Ri ti bi
      rw [List.take_of_length_le (by omega)] at bi
      refine v_M_request_115 y _ _ _ Si Q ⟨fun _ => ⟨Ri.ms.1, m_sendSealed (s := 0) Ri ok.w2 (by omega) c (ok.zk (by omega) c (by omega)) hlt bi (by simp only [List.length_append]; show 3 + _ + _ ≤ 100; omega) (fun S' R' => ⟨rfl, h0 S' c hlt R'⟩)⟩, fun c => absurd (nI_le (by omega) (by omega)) c⟩
    | succ m ih =>
      intro i Si hi Ri ti bi
      refine v_M_request_115 y _ _ _ Si Q ⟨fun c => absurd c (nI_ge (by omega) (by omega)), fun _ => ⟨Ri.ms.1, y + 1, Ri.ms.r 1 (by omega) (by omega), 200, Ri.ms.t 1 (by omega) (by omega), vp_in_nI (by omega) (by omega), ?_⟩⟩
      rw [nI_clamp (by omega), ti.at0 (by omega)]
      refine m_say Ri.ms bi (by simp only [List.length_append, List.length_take]; show 3 + _ + _ < 128; omega) (fun S13 m13 b13 => ⟨rfl, fun z ez => ?_⟩)
      rw [ez, nI_1]
      rw [b8_sx, List.append_assoc, ← take_snoc (by omega)] at b13
      exact ih (i + 1) S13 (by omega) (Ri.say m13) (ti.mx m13 (by omega) (by simp only [pY]; omega)) b13
  have go1 : ∀ (m i : Nat) (Si : TS), i + m = (aB A 2).length → RMF y S0 Si A → BR Si (y + 1) 0 l → cBL y 46 36 Si ([0, b8 x1, b8 (nI (aB A 2).length)] ++ (aB A 2).take i) → T0 G J_M_request 89 [(0, .ref y), (1, .int x1), (2, .int (nI n)), (3, .int (nI i))] [] Si Q := by
    intro m
    induction m with
    | zero =>
      intro i Si hi Ri ti bi
      rw [List.take_of_length_le (by omega)] at bi
      refine v_M_request_89 y _ _ _ Si Q ⟨Ri.ms.1, ?_⟩
      rw [Ri.nm.1]
      exact ⟨fun _ => go2 l.length 0 Si (by omega) Ri ti (by simpa using bi), fun c => absurd (nI_le (by omega) (by omega)) c⟩
    | succ m ih =>
      intro i Si hi Ri ti bi
      refine v_M_request_89 y _ _ _ Si Q ⟨Ri.ms.1, ?_⟩
      rw [Ri.nm.1]
      refine ⟨fun c => absurd c (nI_ge (by omega) (by omega)), fun _ => ⟨y + 21, Ri.ms.r 21 (by omega) (by omega), 16, Ri.ms.t 21 (by omega) (by omega), vp_in_nI (by omega) (by omega), ?_⟩⟩
      rw [nI_clamp (by omega), Ri.nm.2.at0 (by omega)]
      refine m_say Ri.ms bi (by simp only [List.length_append, List.length_take]; show 3 + _ < 128; omega) (fun S13 m13 b13 => ⟨rfl, fun z ez => ?_⟩)
      rw [ez, nI_1]
      rw [b8_sx, List.append_assoc, ← take_snoc (by omega)] at b13
      exact ih (i + 1) S13 (by omega) (Ri.say m13) (ti.mx m13 (by omega) (by simp only [pY]; omega)) b13
  exact go1 (aB A 2).length 0 S12 (by omega) R12 t12 (by simpa using b12)
theorem aSeal_tape (X : AS) (p l : List B8) : aSeal (wB X 0 l) 0 0 0 p = wB (aSeal X 0 0 0 p) 0 l := by
  unfold aSeal
  rw [aB_wB, up_n _ _ (by omega), aI_wB, aW_wB]
  generalize sealR (aB X (24 + 2 * 0 + 0)) (aI X (4 + 2 * 0 + 0)) p = q
  rfl
theorem r_request (h : RM y S A) (ok : AOK A) (o : Int32) : C0 G J_M_request [.ref y, .int o] S (fun r S' => r = some (.int (fRequest A o).1) ∧ RMF y S S' (fRequest A o).2) := by
  have R := h.f
  have hl := ok.tp
  refine v_M_request y o S _ ⟨R.ms.1, fun y2 e2 S3 e3 => ?_⟩
  rw [R.tp.1] at e2
  have R3 : RMF y S S3 (wB A 0 []) := by have := R.cut (k := 0) (by omega) e3; simpa using this
  have r1 : tI S3 (y + 1) = tI S (y + 1) := by rw [e3, tI_sI, up_n _ _ (by omega)]
  have b1 : BR S3 (y + 1) 0 (aB A 0) := R.tp.2.eq r1
  rw [e2]
  have ok3 : AOK (wB A 0 []) := ok.tape0
  have no : (∀ j, j < 5 → o ≠ nI j) → fRequest A o = (-1, wB A 0 []) := fun hno => by unfold fRequest; rw [nof_none hno]
  have hB2 : aB (wB A 0 []) 2 = aB A 2 := by rw [aB_wB, up_n _ _ (by omega)]
  have main : ∀ j, j < 5 → o = nI j → (aB A 0).length ≤ qmx j → (aB A 0).length ≤ 64 → _ := fun j hj ej hq h64 => m_rqMain (G := G) (Q := fun r S' => r = some (.int (fRequest A o).1) ∧ RMF y S S' (fRequest A o).2) (x1 := o) (n := (aB A 0).length) R3 ok3 rfl h64 b1 (fun c => by
      have hV : fRequest A o = (-5, wB A 0 []) := by
        unfold fRequest
        rw [ej, nof_some hj (by omega)]
        simp only
        rw [if_pos hq, if_pos (show aI A 0 ≠ 2 from c)]
      rw [hV]; exact ⟨rfl, R3⟩) (fun c he => by
      have hV : fRequest A o = (-3, wB A 0 []) := by
        unfold fRequest
        rw [ej, nof_some hj (by omega)]
        simp only
        rw [if_pos hq, if_neg (show ¬ aI A 0 ≠ 2 from fun z => z c), if_pos (show (aW A 0).length = 12 from he)]
      rw [hV]; exact ⟨rfl, R3⟩) (fun S' c hlt R' => by
      have hlt : (aW A 0).length < 12 := hlt
      have hV : fRequest A o = (0, wB (aSeal A 0 0 0 ([0, b8 (nI j), b8 (nI (aB A 2).length)] ++ aB A 2 ++ aB A 0)) 0 []) := by
        unfold fRequest
        rw [ej, nof_some hj (by omega)]
        simp only
        rw [if_pos hq, if_neg (show ¬ aI A 0 ≠ 2 from fun z => z c), if_neg (show ¬ (aW A 0).length = 12 by omega)]
      rw [hV]
      rw [hB2, aSeal_tape, ej] at R'
      exact ⟨rfl, R'⟩)
  refine ⟨fun c => ?_, fun c => ⟨fun c2 => ?_, fun c2 => ⟨fun c3 => ?_, fun c3 => ?_⟩⟩⟩
  · rw [no (fun j hj e => by rw [e] at c; exact nI_pos (by omega) c)]
    exact ⟨rfl, R3⟩
  · rw [no (fun j hj e => by rw [e] at c2; exact absurd c2 (nI_nlt (a := 4) (by omega) (by omega)))]
    exact ⟨rfl, R3⟩
  · obtain ⟨j, hj, ej⟩ := rngJ (N := 4) (by omega) c (nlt c2)
    have h64 := (nI_ltI (a := 64) (by omega) (by omega)).mp c3
    have hq : ¬ (aB A 0).length ≤ qmx j := by unfold qmx; split <;> omega
    have hV : fRequest A o = (-1, wB A 0 []) := by
      unfold fRequest
      rw [ej, nof_some hj (by omega)]
      simp only
      rw [if_neg hq]
    rw [hV]
    exact ⟨rfl, R3⟩
  · obtain ⟨j, hj, ej⟩ := rngJ (N := 4) (by omega) c (nlt c2)
    have hj : j < 5 := hj
    have h64 : (aB A 0).length ≤ 64 := Nat.not_lt.mp (fun z => c3 (nI_lt (a := 64) z (by omega)))
    have bad : ¬ (aB A 0).length ≤ qmx j → fRequest A o = (-1, wB A 0 []) := fun hq => by
      unfold fRequest
      rw [ej, nof_some hj (by omega)]
      simp only
      rw [if_neg hq]
    have z0 : ∀ {P : Prop}, (nI (aB A 0).length ≤ 0 → (aB A 0).length ≤ 0 → P) → (nI (aB A 0).length ≤ 0 → P) := fun f c => f c ((nI_leI (b := 0) (by omega) (by omega)).mp c)
    refine ⟨fun c4 => ⟨z0 (fun _ hz => main j hj ej (by omega) h64), fun c5 => ?_⟩, fun c4 => ⟨fun c5 => main j hj ej ?_ h64, fun c5 => ⟨z0 (fun _ hz => main j hj ej (by omega) h64), fun c6 => ?_⟩⟩⟩
    · have hj0 : j = 0 := (nI_eq (b := 0) (by omega) (by omega)).mp (by rw [← ej]; exact c4)
      rw [bad (fun z => c5 (by rw [hj0] at z; exact nI_le (b := 0) z (by omega)))]
      exact ⟨rfl, R3⟩
    · have n0 : j ≠ 0 := fun z => c4 (by rw [ej, z]; rfl)
      have n2 : j ≠ 2 := fun z => c5 (by rw [ej, z]; rfl)
      unfold qmx
      rw [if_neg (by omega)]
      exact h64
    · have hj2 : j = 2 := (nI_eq (b := 2) (by omega) (by omega)).mp (by rw [← ej]; exact c5)
      rw [bad (fun z => c6 (by rw [hj2] at z; exact nI_le (b := 0) z (by omega)))]
      exact ⟨rfl, R3⟩
end MRV
