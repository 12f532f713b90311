/-! PURE: the reference takes greetings -/
theorem n213 : ((2 : Int32) = -3 ↔ (1 : Int32) = -3) := by decide
theorem n214 : ((2 : Int32) = -4 ↔ (1 : Int32) = -4) := by decide
section MGR
variable {G : pG} {y : Nat} {S : TS} {A : AS}
theorem RMF.k9 {S0 S : TS} (R : RMF y S0 S A) {j : Nat} (hj : j < 16) : tI S (y + 9) j = if aB A (4 + j) = [] then 0 else 1 := (R.ky j hj).1
theorem RMF.k10 {S0 S : TS} (R : RMF y S0 S A) {j : Nat} (hj : j < 16) : BR S (y + 10) (32 * j) (aB A (4 + j)) := (R.ky j hj).2
theorem AOK.gr {A : AS} (ok : AOK A) (h : aI A 0 = 1) : (aB A 20).length = 33 ∧ ((aB A 20).getD 32 0).toNat < 8 := ok.2.2.1 h
theorem RMF.grU {S0 S S' : TS} {l1 l2 l3 : List B8} {L : List (List B8)} {P F : Nat → Prop} (R : RMF y S0 S A) (ok : ∀ v, v < 2 → (aW A v).length ≤ 12 ∧ ∀ l ∈ aW A v, l.length ≤ 200) (h1 : aI A 1 ≠ 1) (e : MX y P F S S') (hp : ∀ a, P a → wirP y a ∨ a = y + 14 ∨ a = y + 40) (hf : ∀ f, F f → fscr f) (wf : WF y 1 S S') (c : cW y S' 1 L) : RMF y S0 S' (wW (wB (wB (wB A 21 l1) 22 l2) 23 l3) 1 L) := by
  have n : ∀ k, k ≠ 18 → k ≠ 19 → k ≠ 20 → k ≠ 14 → k ≠ 40 → ¬ mscr y (y + k) → ¬ P (y + k) := fun k h1 h2 h3 h4 h5 hk z => (hp _ z).elim (fun z => z.elim hk (fun z => by omega)) (fun z => by omega)
  have m : ∀ k, (k ≠ 6 ∧ k ≠ 12 ∧ k ≠ 46) → ¬ F k := fun k hk z => by have := hf _ z; unfold fscr at this; omega
  have nb : ∀ j, j ≠ 21 → j ≠ 22 → j ≠ 23 → aB (wW (wB (wB (wB A 21 l1) 22 l2) 23 l3) 1 L) j = aB A j := fun j h1 h2 h3 => by rw [aB_wW, aB_wB, up_n _ _ h3, aB_wB, up_n _ _ h2, aB_wB, up_n _ _ h1]
  have ni : aI (wW (wB (wB (wB A 21 l1) 22 l2) 23 l3) 1 L) = aI A := by rw [aI_wW, aI_wB, aI_wB, aI_wB]
  have nt : aT (wW (wB (wB (wB A 21 l1) 22 l2) 23 l3) 1 L) = aT A := by rw [aT_wW, aT_wB, aT_wB, aT_wB]
  have nw : aW (wW (wB (wB (wB A 21 l1) 22 l2) 23 l3) 1 L) = va_up (aW A) 1 L := by rw [aW_wW, aW_wB, aW_wB, aW_wB]
  refine R.gen e (fun a z => (hp a z).elim (fun z => z.elim mscr_in (fun z => by show y ≤ a ∧ a < y + 45; omega)) (fun z => by show y ≤ a ∧ a < y + 45; omega)) (Or.inr ⟨nb 0 (by omega) (by omega) (by omega), n 1 (by omega) (by omega) (by omega) (by omega) (by omega) ?_, m 1 (by omega)⟩) (Or.inr ⟨nb 1 (by omega) (by omega) (by omega), n 2 (by omega) (by omega) (by omega) (by omega) (by omega) ?_, m 3 (by omega)⟩) (Or.inr ⟨nb 2 (by omega) (by omega) (by omega), n 21 (by omega) (by omega) (by omega) (by omega) (by omega) ?_, m 26 (by omega)⟩) (Or.inr ⟨nb 3 (by omega) (by omega) (by omega), n 26 (by omega) (by omega) (by omega) (by omega) (by omega) ?_, m 33 (by omega)⟩) (Or.inr ⟨fun j _ => nb _ (by omega) (by omega) (by omega), n 9 (by omega) (by omega) (by omega) (by omega) (by omega) ?_, n 10 (by omega) (by omega) (by omega) (by omega) (by omega) ?_⟩) (Or.inr ⟨fun _ _ => by rw [ni], n 11 (by omega) (by omega) (by omega) (by omega) (by omega) ?_, n 12 (by omega) (by omega) (by omega) (by omega) (by omega) ?_⟩) (Or.inr ⟨by rw [ni], nb 20 (by omega) (by omega) (by omega), n 13 (by omega) (by omega) (by omega) (by omega) (by omega) ?_⟩) (Or.inl (fun c => absurd (by rw [ni] at c; exact c) h1)) (fun s hs => Or.inr ⟨⟨by rw [ni], fun d _ => ⟨nb _ (by omega) (by omega) (by omega), by rw [ni], by rw [ni]⟩⟩, n 15 (by omega) (by omega) (by omega) (by omega) (by omega) ?_, n 16 (by omega) (by omega) (by omega) (by omega) (by omega) ?_, n 17 (by omega) (by omega) (by omega) (by omega) (by omega) ?_⟩) (fun v hv => Or.inl ?_) (Or.inr ⟨nt, n 22 (by omega) (by omega) (by omega) (by omega) (by omega) ?_, n 23 (by omega) (by omega) (by omega) (by omega) (by omega) ?_, n 24 (by omega) (by omega) (by omega) (by omega) (by omega) ?_, n 25 (by omega) (by omega) (by omega) (by omega) (by omega) ?_, m 31 (by omega)⟩) (Or.inr ⟨by rw [ni], by rw [ni], by rw [ni], m 4 (by omega), m 34 (by omega), m 35 (by omega)⟩)
  case refine_13 =>
    rw [nw]
    by_cases hvw : v = 1
    · subst hvw; rw [up_s]; exact c
    · rw [up_n _ _ hvw]
      exact (R.wi v hv).wf wf hvw (ok v hv).1 (ok v hv).2
  all_goals (unfold mscr; omega)
theorem m_greeted {t : Nat → Nat} (hG : GS G t) {Q : Option Value → TS → Prop} {n : Nat} {L : List B8} {S0 : TS} (R : RMF y S0 S A) (ok : AOK A) (hst : aI A 1 = 0) (hne : 0 < (aW A 0).length) (eL : (aW A 0).getD 0 [] = L) (hn : L.length = n + 3)
    (hQ : ∀ S' r, (r = -3 ↔ (tGreet A 1 L).1 = -3) → (r = -4 ↔ (tGreet A 1 L).1 = -4) → RMF y S0 S' (tGreet A 1 L).2 → Q (some (.int r)) S') : C0 G J_M_greeted [.ref y, .int 0, .int (nI n)] S Q := by
  have hL : BR S (y + 18) 0 L := by have := ((R.wi 0 (by omega)).2 0 hne).2; rw [eL] at this; exact this
  have hL200 : L.length ≤ 200 := by rw [← eL]; exact (ok.wr (w := 0) (by omega) _ (gd_mem hne)).2
  have fail : ¬ (L.length = 36 ∧ (L.getD 35 0).toNat < 8 ∧ aB A (12 + (L.getD 35 0).toNat) ≠ []) → tGreet A 1 L = (-4, A) := fun h => by
    unfold tGreet
    rw [if_neg (fun z => h z.2.2)]
  refine v_M_greeted y _ _ S Q ⟨R.ms.1, y + 18, R.ms.r 18 (by omega) (by omega), 4800, R.ms.t 18 (by omega) (by omega), vp_in_nI (n := 35) (by omega) (by omega), fun y6 e6 => ⟨fun c => ?_, fun c => ?_⟩⟩
  · have h36 : ¬ L.length = 36 := fun z => c (by rw [show n = 33 by omega]; rfl)
    rw [fail (fun z => h36 z.1)] at hQ
    exact hQ S (-4) Iff.rfl Iff.rfl R
  · have h33 : n = 33 := (nI_eq (b := 33) (by omega) (by omega)).mp c
    subst h33
    have e6 : y6 = sx (L.getD 35 0) := by rw [e6]; exact hL.at0 (j := 35) (by omega)
    rw [e6]
    generalize hkb : L.getD 35 0 = kb at *
    refine ⟨fun c2 => ?_, fun c2 => ⟨fun c3 => ?_, fun c3 => ?_⟩⟩
    · have h8 : ¬ kb.toNat < 8 := fun z => by rw [sx_sm (by omega)] at c2; exact nI_pos (by omega) c2
      rw [fail (fun z => h8 z.2.1)] at hQ
      exact hQ S (-4) Iff.rfl Iff.rfl R
    · have h8 : ¬ kb.toNat < 8 := fun z => by rw [sx_sm (by omega)] at c3; exact absurd c3 (nI_nlt (a := 7) (by omega) (by omega))
      rw [fail (fun z => h8 z.2.1)] at hQ
      exact hQ S (-4) Iff.rfl Iff.rfl R
    · have h128 : kb.toNat < 128 := Nat.not_le.mp (fun z => c2 (sx_ng z))
      have h8 : kb.toNat < 8 := by
        rw [sx_sm h128] at c3
        have := nlt c3
        have := (nI_leI (b := 7) (by omega) (by omega)).mp this
        omega
      rw [sx_sm h128]
      generalize hk : kb.toNat = k at *
      have hk9 : tI S (y + 9) (8 + k) = if aB A (12 + k) = [] then 0 else 1 := by rw [R.k9 (j := 8 + k) (by omega), show 4 + (8 + k) = 12 + k by omega]
      refine ⟨y + 9, R.ms.r 9 (by omega) (by omega), 16, R.ms.t 9 (by omega) (by omega), ?_⟩
      rw [show (8 : Int32) + nI k = nI (8 + k) from nI_add 8 k, nI_clamp (by omega), hk9]
      refine ⟨vp_in_nI (by omega) (by omega), fun c4 => ?_, fun c4 => ?_⟩
      · have hke : aB A (12 + k) ≠ [] := fun z => c4 (by rw [if_pos z])
        have hKl : (aB A (12 + k)).length = 32 := by
          have := ok.ky (j := 8 + k) (by omega)
          rw [show 4 + (8 + k) = 12 + k by omega] at this
          exact this.resolve_left hke
        have hKb : BR S (y + 10) (32 * (8 + k)) (aB A (12 + k)) := by have := R.k10 (j := 8 + k) (by omega); rw [show 4 + (8 + k) = 12 + k by omega] at this; exact this
        have ht0 : tGreet A 1 L = if (aW A 1).length = 12 then (-3, A) else (1, wI (wW (wB (wB (wB (wI A 3 (aI A 3 + 1)) 21 (sha ((L.drop 3).take 33 ++ rnd A 1))) 22 (mac (aB A (12 + k)) (sha ((L.drop 3).take 33 ++ rnd A 1)))) 23 (mac (mac (aB A (12 + k)) (sha ((L.drop 3).take 33 ++ rnd A 1))) [102])) 1 (aW A 1 ++ [hd3 2 64 ++ rnd A 1 ++ mac (mac (mac (aB A (12 + k)) (sha ((L.drop 3).take 33 ++ rnd A 1))) [102]) (b8 115 :: sha ((L.drop 3).take 33 ++ rnd A 1))])) 1 1) := by
          unfold tGreet
          rw [hkb, hk, if_pos ⟨rfl, hst, by omega, h8, hke⟩]
        rw [ht0] at hQ
        refine m_full (w := 1) R (ok.wl (by omega)) (by omega) (fun hlt => ⟨0, rfl, fun _ => ?_, fun c => absurd rfl c⟩) (fun he => ⟨1, rfl, fun c => absurd c (by decide), fun _ => ?_⟩)
        · rw [if_neg (show ¬ (aW A 1).length = 12 by omega)] at hQ
          have hhl : ((L.drop 3).take 33).length = 33 := by rw [List.length_take, List.length_drop]; omega
          have hhb : BR S (y + 18) 3 ((L.drop 3).take 33) := by have := (hL.drop 3).take 33; rw [Nat.zero_add] at this; exact this
          generalize hh33 : (L.drop 3).take 33 = h33 at *
          refine cpl (b := y + 39) (o := 0) (l := h33) (S0 := S) (H := fun i Si => T0 G J_M_greeted 55 [(0, .ref y), (1, .int 0), (2, .int (nI 33)), (3, .int (nI k)), (4, .int (nI i))] [] Si Q) (fun i Si hi xi nx => ?_) (fun S1 x1 b1 f1 => ?_)
          · rw [hhl] at hi
            have si := R.ms.sm xi.1
            refine v_M_greeted_55 y _ _ _ _ Si Q ⟨fun c => absurd c (nI_ge (b := 33) hi (by omega)), fun _ => ⟨si.1, y + 39, si.r 39 (by omega) (by omega), y + 18, si.r 18 (by omega) (by omega), 4800, si.t 18 (by omega) (by omega), ?_⟩⟩
            rw [show ((0 : Int32) + 3) + nI i = nI (3 + i) from nI_add 3 i, nI_clamp (show 3 + i < 2 ^ 31 by omega), nI_clamp (show i < 2 ^ 31 by omega), nI_1, (xi.2 (y + 18) (by omega)).1, hhb i (by omega), nar1s]
            refine ⟨vp_in_nI (by omega) (by omega), 33, si.t 39 (by omega) (by omega), vp_in_nI (by omega) (by omega), fun S9 e9 z ez => ?_⟩
            rw [ez]
            exact nx S9 (by rw [Nat.zero_add]; exact e9)
          rw [hhl]
          have R1 : RMF y S0 S1 A := R.sc (F := fun _ => False) (MX.of x1 (by omega)) (fun a z => by unfold mscr; omega) (fun f z => z.elim)
          refine v_M_greeted_55 y _ _ _ _ S1 Q ⟨fun _ => ⟨R1.ms.1, y + 41, R1.ms.r 41 (by omega) (by omega), ?_⟩, fun c => absurd (Int32.le_refl _) c⟩
          refine m_random (s := 1) hG R1 ok (by omega) (R1.ms.t 41 (by omega) (by omega)) (by omega) (by omega) (Or.inl rfl) (fun S4 R4 b4 m4 => ⟨rfl, ?_⟩)
          have hrl : (rnd A 1).length = 32 := sha_len _
          generalize hrn : rnd A 1 = rn at *
          have h39 : BR S4 (y + 39) 0 h33 := b1.mx m4 (by omega) (by omega)
          have hKb4 : BR S4 (y + 10) (32 * (8 + k)) (aB A (12 + k)) := (hKb.ex x1 (by omega)).mx m4 (by omega) (by omega)
          generalize hK : aB A (12 + k) = K at *
          have hmp := mac_len (mac (mac K (sha (h33 ++ rn))) [102]) (b8 115 :: sha (h33 ++ rn))
          have hsc := mac_len K (sha (h33 ++ rn))
          generalize hp115 : mac (mac (mac K (sha (h33 ++ rn))) [102]) (b8 115 :: sha (h33 ++ rn)) = p115 at *
          have w4 : aW (wI A (2 + 1) (aI A (2 + 1) + 1)) = aW A := rfl
          have h20 : tI S4 (y + 20) 1 = nI (aW A 1).length := (R4.wi 1 (by omega)).1
          refine m_send (w := 1) (k := (aW A 1).length) (n := 64) (x2 := 2) R4.ms (by omega) hlt (by omega) h20 (fun S5 x5 pf5 e20 e19 b5 => ⟨_, rfl, ?_⟩)
          have s5 := R4.ms.sm x5.1
          have ehd : hd3 2 (nI 64) = hd3 2 64 := rfl
          rw [ehd] at b5
          generalize ho : 200 * (12 * 1 + (aW A 1).length) = o at *
          have b5r : BR S5 (y + 41) 0 rn := b4.ex x5 (by simp only [pWi]; omega)
          refine cpl (b := y + 18) (o := o + 3) (l := rn) (S0 := S5) (H := fun i Si => T0 G J_M_greeted 109 [(0, .ref y), (1, .int 0), (2, .int (nI 33)), (3, .int (nI k)), (4, .int (nI (o + 3))), (5, .int (nI i))] [] Si Q) (fun i Si hi xi nx => ?_) (fun S6 x6 b6 f6' => ?_)
          · rw [hrl] at hi
            have si := s5.sm xi.1
            refine v_M_greeted_109 y _ _ _ _ _ Si Q ⟨fun c => absurd c (nI_ge (b := 32) hi (by omega)), fun _ => ⟨si.1, y + 18, si.r 18 (by omega) (by omega), y + 41, si.r 41 (by omega) (by omega), 32, si.t 41 (by omega) (by omega), vp_in_nI (by omega) (by omega), 4800, si.t 18 (by omega) (by omega), ?_⟩⟩
            rw [nI_add, nI_clamp (show o + 3 + i < 2 ^ 31 by omega), nI_clamp (show i < 2 ^ 31 by omega), nI_1, (xi.2 (y + 41) (by omega)).1, b5r.at0 (by omega), nar1s]
            refine ⟨vp_in_nI (by omega) (by omega), fun S9 e9 z ez => ?_⟩
            rw [ez]
            exact nx S9 e9
          rw [hrl] at f6' ⊢
          have s6 := s5.sm x6.1
          have x46 : Ex (pWi y) S4 S6 := x5.tr (x6.mono (fun a z => Or.inl z))
          refine v_M_greeted_109 y _ _ _ _ _ S6 Q ⟨fun _ => ⟨s6.1, y + 41, s6.r 41 (by omega) (by omega), y + 18, s6.r 18 (by omega) (by omega), ?_⟩, fun c => absurd (Int32.le_refl _) c⟩
          rw [show (8 : Int32) + nI k = nI (8 + k) from nI_add 8 k, show nI (o + 3) + (32 : Int32) = nI (o + 3 + 32) from nI_add _ 32]
          refine m_prove (x4 := 115) hG s6 (by omega) (h39.ex x46 (by simp only [pWi]; omega)) hhl (b4.ex x46 (by simp only [pWi]; omega)) hrl (s6.t 41 (by omega) (by omega)) (by omega) (by omega) (by omega) (hKb4.ex x46 (by simp only [pWi]; omega)) hKl (s6.t 18 (by omega) (by omega)) (by omega) (by omega) (by omega) (fun S7 m7 f7 b7 _ => ⟨rfl, y + 14, (s6.sm m7.sm).r 14 (by omega) (by omega), ?_⟩)
          rw [hp115] at b7
          have s7 := s6.sm m7.sm
          refine m_prove (o5 := 0) (x4 := 99) hG s7 (by omega) ((h39.ex x46 (by simp only [pWi]; omega)).mx m7 (by omega) (by simp only [vQ]; omega)) hhl ((b4.ex x46 (by simp only [pWi]; omega)).mx m7 (by omega) (by simp only [vQ]; omega)) hrl (s7.t 41 (by omega) (by omega)) (by omega) (by omega) (by omega) ((hKb4.ex x46 (by simp only [pWi]; omega)).mx m7 (by omega) (by simp only [vQ]; omega)) hKl (s7.t 14 (by omega) (by omega)) (by omega) (by omega) (by omega) (fun S8 m8 f8 b8' sec8 => ⟨rfl, ?_⟩)
          have s8 := s7.sm m8.sm
          generalize hag : sha (h33 ++ rn) = ag at *
          generalize hsec : mac K ag = sec at *
          generalize hfin : mac sec [102] = fn at *
          refine cpl (b := y + 40) (o := 0) (l := sec) (S0 := S8) (H := fun i Si => T0 G J_M_greeted 186 [(0, .ref y), (1, .int 0), (2, .int (nI 33)), (3, .int (nI k)), (4, .int (nI (o + 3))), (5, .int (nI i))] [] Si Q) (fun i Si hi xi nx => ?_) (fun S9 x9 b9 f9 => ?_)
          · rw [hsc] at hi
            have si := s8.sm xi.1
            refine v_M_greeted_186 y _ _ _ _ _ Si Q ⟨fun c => absurd c (nI_ge (b := 32) hi (by omega)), fun _ => ⟨si.1, y + 40, si.r 40 (by omega) (by omega), y + 37, si.r 37 (by omega) (by omega), 32, si.t 37 (by omega) (by omega), vp_in_nI (by omega) (by omega), 32, si.t 40 (by omega) (by omega), vp_in_nI (by omega) (by omega), fun S9 e9 z ez => ?_⟩⟩
            rw [nI_clamp (show i < 2 ^ 31 by omega), (xi.2 (y + 37) (by omega)).1, sec8.at0 (by omega), nar1s] at e9
            rw [ez, nI_1]
            exact nx S9 (by rw [Nat.zero_add]; exact e9)
          rw [hsc]
          have s9 := s8.sm x9.1
          refine v_M_greeted_186 y _ _ _ _ _ S9 Q ⟨fun _ => ⟨s9.1, y + 11, s9.r 11 (by omega) (by omega), 2, s9.t 11 (by omega) (by omega), vp_in_nI (n := 1) (by omega) (by omega), fun S10 e10 => hQ S10 2 n213 n214 ?_⟩, fun c => absurd (Int32.le_refl _) c⟩
          have m49 : MX y (fun a => wirP y a ∨ a = y + 14 ∨ a = y + 40) vF S4 S9 := by
            have c1 : MX y (fun a => wirP y a ∨ a = y + 14 ∨ a = y + 40) vF S4 S6 := (MX.of x46 (by simp only [pWi]; omega) : MX y (pWi y) vF S4 S6).mono (fun a z => Or.inl (Or.inr z)) (fun f z => z)
            have c4 : MX y (fun a => wirP y a ∨ a = y + 14 ∨ a = y + 40) vF S8 S9 := (MX.of x9 (by omega) : MX y (fun a => a = y + 40) vF S8 S9).mono (fun a z => Or.inr (Or.inr z)) (fun f z => z)
            exact ((c1.tr (m7.mono (fun a z => by simp only [vQ] at z; unfold wirP mscr; omega) (fun f z => z))).tr (m8.mono (fun a z => by simp only [vQ] at z; unfold wirP mscr; omega) (fun f z => z))).tr c4
          have q18 : tI S9 (y + 18) = tI S7 (y + 18) := by rw [(x9.2 (y + 18) (by omega)).1, m8.row (by omega) (by simp only [vQ]; omega)]
          have q19 : tI S9 (y + 19) = tI S5 (y + 19) := by rw [(x9.2 (y + 19) (by omega)).1, m8.row (by omega) (by simp only [vQ]; omega), m7.row (by omega) (by simp only [vQ]; omega), (x6.2 (y + 19) (by omega)).1]
          have q20 : tI S9 (y + 20) = tI S5 (y + 20) := by rw [(x9.2 (y + 20) (by omega)).1, m8.row (by omega) (by simp only [vQ]; omega), m7.row (by omega) (by simp only [vQ]; omega), (x6.2 (y + 20) (by omega)).1]
          have pf : PF y 1 (aW A 1).length S4 S9 := by
            refine pf5.tr ⟨fun j _ => by rw [q20], fun j _ => by rw [q19], fun j hj => ?_⟩
            rw [ho] at hj
            rw [q18, f7 j (by omega), f6' j (by omega)]
          have r1 : BR S9 (y + 18) o (hd3 2 64) := ((b5.row (fun i h1 h2 => f6' i (by have : i < o + 3 := h2; omega))).row (fun i h1 h2 => f7 i (by have : i < o + 3 := h2; omega))).eq q18
          have r2 : BR S9 (y + 18) (o + 3) rn := (b6.row (fun i h1 h2 => f7 i (by omega))).eq q18
          have r3 : BR S9 (y + 18) (o + 3 + 32) p115 := b7.eq q18
          have hrec : BR S9 (y + 18) o (hd3 2 64 ++ rn ++ p115) := by
            have h12 : BR S9 (y + 18) o (hd3 2 64 ++ rn) := r1.append r2
            refine h12.append ?_
            rw [List.length_append, hrl, show (hd3 2 64).length = 3 from rfl, ← Nat.add_assoc]
            exact r3
          have hrcl : (hd3 2 64 ++ rn ++ p115).length = 67 := by rw [List.length_append, List.length_append, hrl, hmp]; rfl
          have R9 : RMF y S0 S9 (wW (wB (wB (wB (wI A 3 (aI A 3 + 1)) 21 ag) 22 sec) 23 fn) 1 (aW A 1 ++ [hd3 2 64 ++ rn ++ p115])) := by
            refine R4.grU (F := vF) ok.w2 (by rw [aI_wI, up_n _ _ (by omega), hst]; decide) m49 (fun a z => z) (fun f z => z.elim Or.inl (fun z => Or.inr (Or.inl z))) (pf.wf hlt) ((R4.wi 1 (by omega)).push hlt (ok.w2 1 (by omega)).2 pf (by rw [q20]; exact e20) (by rw [q19, hrcl]; exact e19) ?_)
            show BR S9 (y + 18) (200 * (12 * 1 + (aW A 1).length)) _
            rw [ho]
            exact hrec
          refine R9.side (s := 1) (by omega) e10 (fun c => absurd c (by omega)) (fun _ _ => ⟨?_, ?_⟩) (fun c => absurd c (by decide))
          · have eb : aB (wW (wB (wB (wB (wI A 3 (aI A 3 + 1)) 21 ag) 22 sec) 23 fn) 1 (aW A 1 ++ [hd3 2 64 ++ rn ++ p115])) 23 = fn := by rw [aB_wW, aB_wB, up_s]
            have eb2 : aB (wW (wB (wB (wB (wI A 3 (aI A 3 + 1)) 21 ag) 22 sec) 23 fn) 1 (aW A 1 ++ [hd3 2 64 ++ rn ++ p115])) 21 = ag := by rw [aB_wW, aB_wB, up_n _ _ (by omega), aB_wB, up_n _ _ (by omega), aB_wB, up_s]
            rw [eb, eb2]
            exact b8'.ex x9 (by omega)
          · have eb2 : aB (wW (wB (wB (wB (wI A 3 (aI A 3 + 1)) 21 ag) 22 sec) 23 fn) 1 (aW A 1 ++ [hd3 2 64 ++ rn ++ p115])) 22 = sec := by rw [aB_wW, aB_wB, up_n _ _ (by omega), aB_wB, up_s]
            rw [eb2]
            exact b9
        · rw [if_pos he] at hQ
          exact hQ S (-3) Iff.rfl Iff.rfl R
      · have hke : aB A (12 + k) = [] := by
          by_cases z : aB A (12 + k) = []
          · exact z
          · rw [if_neg z] at c4; exact absurd c4 (by decide)
        rw [fail (fun z => z.2.2 hke)] at hQ
        exact hQ S (-4) Iff.rfl Iff.rfl R
end MGR
