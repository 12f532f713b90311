/-! PURE: the reference takes a reply; requests -/
section MRP
variable {G : pG} {y : Nat} {S : TS} {A : AS}
theorem m_an228 {Q : Option Value → TS → Prop} {x1 x2 x3 x4 x5 : Int32} {S0 : TS} (R : RMF y S0 S A) (hQ : ∀ S', RMF y S0 S' A → Q (some (.int x5)) S') : T0 G J_M_answered 228 [(0, .ref y), (1, .int x1), (2, .int x2), (3, .int x3), (4, .int x4), (5, .int x5), (6, .int 0)] [] S Q := by
  refine cpm (b := y + 39) (o := 0) (N := 33) (l := []) (S0 := S) (H := fun i Si => T0 G J_M_answered 228 [(0, .ref y), (1, .int x1), (2, .int x2), (3, .int x3), (4, .int x4), (5, .int x5), (6, .int (nI i))] [] Si Q) (by simp) (fun i Si hi xi fi nx => ?_) (fun S' x' b' f' => ?_)
  · have si := R.ms.sm xi.1
    refine v_M_answered_228 y _ _ _ _ _ _ Si Q ⟨fun c => absurd c (nI_ge (b := 33) hi (by omega)), fun _ => ⟨si.1, y + 39, si.r 39 (by omega) (by omega), y + 42, si.r 42 (by omega) (by omega), 33, si.t 42 (by omega) (by omega), vp_in_nI (by omega) (by omega), 33, si.t 39 (by omega) (by omega), vp_in_nI (by omega) (by omega), fun S9 e9 z ez => ?_⟩⟩
    rw [nI_clamp (show i < 2 ^ 31 by omega)] at e9
    rw [ez, nI_1]
    exact nx _ S9 (fun h => absurd h (by simp)) (by rw [Nat.zero_add]; exact e9)
  · exact v_M_answered_228 y _ _ _ _ _ _ S' Q ⟨fun _ => hQ S' (R.sc (F := fun _ => False) (MX.of x' (by omega)) (fun a z => by unfold mscr; omega) (fun f z => z.elim)), fun c => absurd (Int32.le_refl _) c⟩
theorem n023 : ((0 : Int32) = -3 ↔ (2 : Int32) = -3) := by decide
theorem n024 : ((0 : Int32) = -4 ↔ (2 : Int32) = -4) := by decide
theorem m_answered {t : Nat → Nat} (hG : GS G t) {Q : Option Value → TS → Prop} {n : Nat} {L : List B8} {S0 : TS} (R : RMF y S0 S A) (ok : AOK A) (hst : aI A 0 = 1) (hne : 0 < (aW A 1).length) (eL : (aW A 1).getD 0 [] = L) (hn : L.length = n + 3)
    (hQ : ∀ S' r, (r = -3 ↔ (tReply A 0 L).1 = -3) → (r = -4 ↔ (tReply A 0 L).1 = -4) → RMF y S0 S' (tReply A 0 L).2 → Q (some (.int r)) S') : C0 G J_M_answered [.ref y, .int (nI 2400), .int (nI n)] S Q := by
  have hL : BR S (y + 18) 2400 L := by have := ((R.wi 1 (by omega)).2 0 hne).2; rw [eL] at this; exact this
  have hL200 : L.length ≤ 200 := by rw [← eL]; exact (ok.wr (w := 1) (by omega) _ (gd_mem hne)).2
  obtain ⟨hhl, hk8⟩ := ok.gr hst
  have hhe : BR S (y + 13) 0 (aB A 20) := R.he hst
  generalize hkk : ((aB A 20).getD 32 0).toNat = k at *
  have e13 : tI S (y + 13) 32 = nI k := by rw [hhe.at0 (by omega), sx_sm (by omega), hkk]
  generalize hh33 : aB A 20 = h33 at *
  have fail : ¬ (L.length = 67 ∧ aB A (4 + k) ≠ [] ∧ (L.drop 35).take 32 = mac (mac (mac (aB A (4 + k)) (sha (h33 ++ (L.drop 3).take 32))) [102]) (b8 115 :: sha (h33 ++ (L.drop 3).take 32))) → tReply A 0 L = (-4, A) := fun h => by
    unfold tReply
    rw [hh33, hkk, if_neg (fun z => h z.2.2)]
  refine v_M_answered y _ _ S Q ⟨R.ms.1, y + 13, R.ms.r 13 (by omega) (by omega), 33, R.ms.t 13 (by omega) (by omega), vp_in_nI (n := 32) (by omega) (by omega), fun y6 e6 => ⟨fun c => ?_, fun c => ⟨y + 9, R.ms.r 9 (by omega) (by omega), 16, R.ms.t 9 (by omega) (by omega), ?_⟩⟩⟩
  · have h67 : ¬ L.length = 67 := fun z => c (by rw [show n = 64 by omega]; rfl)
    rw [fail (fun z => h67 z.1)] at hQ
    exact hQ S (-4) Iff.rfl Iff.rfl R
  · have h64 : n = 64 := (nI_eq (b := 64) (by omega) (by omega)).mp c
    subst h64
    rw [e13] at e6
    rw [e6, nI_clamp (by omega), R.k9 (j := k) (by omega)]
    refine ⟨vp_in_nI (by omega) (by omega), fun c4 => ?_, fun c4 => ?_⟩
    · have hke : aB A (4 + k) ≠ [] := fun z => c4 (by rw [if_pos z])
      have hKl : (aB A (4 + k)).length = 32 := (ok.ky (j := k) (by omega)).resolve_left hke
      have hKb : BR S (y + 10) (32 * k) (aB A (4 + k)) := R.k10 (by omega)
      have hrl : ((L.drop 3).take 32).length = 32 := by rw [List.length_take, List.length_drop]; omega
      have hcl : ((L.drop 35).take 32).length = 32 := by rw [List.length_take, List.length_drop]; omega
      have hrb : BR S (y + 18) 2403 ((L.drop 3).take 32) := (hL.drop 3).take 32
      have hcb : BR S (y + 18) 2435 ((L.drop 35).take 32) := (hL.drop 35).take 32
      have ht0 : tReply A 0 L = if (L.drop 35).take 32 = mac (mac (mac (aB A (4 + k)) (sha (h33 ++ (L.drop 3).take 32))) [102]) (b8 115 :: sha (h33 ++ (L.drop 3).take 32)) then (if (aW A 0).length = 12 then (-3, A) else (2, wB (aOpen (wW A 0 (aW A 0 ++ [hd3 3 32 ++ mac (mac (mac (aB A (4 + k)) (sha (h33 ++ (L.drop 3).take 32))) [102]) (b8 99 :: sha (h33 ++ (L.drop 3).take 32))])) 0 (mac (aB A (4 + k)) (sha (h33 ++ (L.drop 3).take 32)))) 3 [])) else (-4, A) := by
        unfold tReply
        rw [hh33, hkk]
        by_cases hc : (L.drop 35).take 32 = mac (mac (mac (aB A (4 + k)) (sha (h33 ++ (L.drop 3).take 32))) [102]) (b8 115 :: sha (h33 ++ (L.drop 3).take 32))
        · rw [if_pos ⟨rfl, hst, by omega, hke, hc⟩, if_pos hc]
        · rw [if_neg (fun z => hc z.2.2.2.2), if_neg hc]
      rw [ht0] at hQ
      clear ht0 fail
      generalize hrn : (L.drop 3).take 32 = rn at *
      generalize hpc : (L.drop 35).take 32 = pc at *
      generalize hK : aB A (4 + k) = K at *
      refine cpl (b := y + 41) (o := 0) (l := rn) (S0 := S) (H := fun i Si => T0 G J_M_answered 29 [(0, .ref y), (1, .int (nI 2400)), (2, .int (nI 64)), (3, .int (nI k)), (4, .int (nI i))] [] Si Q) (fun i Si hi xi nx => ?_) (fun S1 x1 b1 f1 => ?_)
      · rw [hrl] at hi
        have si := R.ms.sm xi.1
        refine v_M_answered_29 y _ _ _ _ Si Q ⟨fun c => absurd c (nI_ge (b := 32) hi (by omega)), fun _ => ⟨si.1, y + 41, si.r 41 (by omega) (by omega), y + 18, si.r 18 (by omega) (by omega), 4800, si.t 18 (by omega) (by omega), ?_⟩⟩
        rw [show (nI 2400 + (3 : Int32)) + nI i = nI (2403 + i) from nI_add 2403 i, nI_clamp (show 2403 + i < 2 ^ 31 by omega), nI_clamp (show i < 2 ^ 31 by omega), nI_1, (xi.2 (y + 18) (by omega)).1, hrb i (by omega), nar1s]
        refine ⟨vp_in_nI (by omega) (by omega), 32, si.t 41 (by omega) (by omega), vp_in_nI (by omega) (by omega), fun S9 e9 z ez => ?_⟩
        rw [ez]
        exact nx S9 (by rw [Nat.zero_add]; exact e9)
      rw [hrl]
      have s1 := R.ms.sm x1.1
      refine v_M_answered_29 y _ _ _ _ S1 Q ⟨fun _ => ?_, fun c => absurd (Int32.le_refl _) c⟩
      refine cpm (b := y + 42) (o := 0) (N := 33) (l := []) (S0 := S1) (H := fun i Si => T0 G J_M_answered 63 [(0, .ref y), (1, .int (nI 2400)), (2, .int (nI 64)), (3, .int (nI k)), (4, .int (nI i))] [] Si Q) (by simp) (fun i Si hi xi fi nx => ?_) (fun S2 x2 _ f2 => ?_)
      · have si := s1.sm xi.1
        refine v_M_answered_63 y _ _ _ _ Si Q ⟨fun c => absurd c (nI_ge (b := 33) hi (by omega)), fun _ => ⟨si.1, y + 42, si.r 42 (by omega) (by omega), y + 39, si.r 39 (by omega) (by omega), 33, si.t 39 (by omega) (by omega), vp_in_nI (by omega) (by omega), 33, si.t 42 (by omega) (by omega), vp_in_nI (by omega) (by omega), fun S9 e9 z ez => ?_⟩⟩
        rw [nI_clamp (show i < 2 ^ 31 by omega)] at e9
        rw [ez, nI_1]
        exact nx _ S9 (fun h => absurd h (by simp)) (by rw [Nat.zero_add]; exact e9)
      have s2 := s1.sm x2.1
      refine v_M_answered_63 y _ _ _ _ S2 Q ⟨fun _ => ?_, fun c => absurd (Int32.le_refl _) c⟩
      have hhe2 : BR S2 (y + 13) 0 h33 := (hhe.ex x1 (by omega)).ex x2 (by omega)
      refine cpl (b := y + 39) (o := 0) (l := h33) (S0 := S2) (H := fun i Si => T0 G J_M_answered 93 [(0, .ref y), (1, .int (nI 2400)), (2, .int (nI 64)), (3, .int (nI k)), (4, .int (nI i))] [] Si Q) (fun i Si hi xi nx => ?_) (fun S3 x3 b3 f3 => ?_)
      · rw [hhl] at hi
        have si := s2.sm xi.1
        refine v_M_answered_93 y _ _ _ _ Si Q ⟨fun c => absurd c (nI_ge (b := 33) hi (by omega)), fun _ => ⟨si.1, y + 39, si.r 39 (by omega) (by omega), y + 13, si.r 13 (by omega) (by omega), 33, si.t 13 (by omega) (by omega), vp_in_nI (by omega) (by omega), 33, si.t 39 (by omega) (by omega), vp_in_nI (by omega) (by omega), fun S9 e9 z ez => ?_⟩⟩
        rw [nI_clamp (show i < 2 ^ 31 by omega), (xi.2 (y + 13) (by omega)).1, hhe2.at0 (by omega), nar1s] at e9
        rw [ez, nI_1]
        exact nx S9 (by rw [Nat.zero_add]; exact e9)
      rw [hhl]
      have s3 := s2.sm x3.1
      have x13 : Ex (fun a => a = y + 41 ∨ a = y + 42 ∨ a = y + 39) S S3 := ((x1.mono (fun a z => Or.inl z)).tr (x2.mono (fun a z => Or.inr (Or.inl z)))).tr (x3.mono (fun a z => Or.inr (Or.inr z)))
      have b3r : BR S3 (y + 41) 0 rn := (b1.ex x2 (by omega)).ex x3 (by omega)
      refine v_M_answered_93 y _ _ _ _ S3 Q ⟨fun _ => ⟨s3.1, y + 41, s3.r 41 (by omega) (by omega), y + 43, s3.r 43 (by omega) (by omega), ?_⟩, fun c => absurd (Int32.le_refl _) c⟩
      refine m_prove (o5 := 0) (x4 := 115) hG s3 (by omega) b3 hhl b3r hrl (s3.t 41 (by omega) (by omega)) (by omega) (by omega) (by omega) (hKb.ex x13 (by omega)) hKl (s3.t 43 (by omega) (by omega)) (by omega) (by omega) (by omega) (fun S6 m6 f6' b6 _ => ⟨rfl, y + 18, (s3.sm m6.sm).r 18 (by omega) (by omega), ?_⟩)
      have s6 := s3.sm m6.sm
      have m36 : MX y (fun a => (a = y + 41 ∨ a = y + 42 ∨ a = y + 39) ∨ vQ y (y + 43) a) vF S S6 := ((MX.of x13 (by omega) : MX y (fun a => a = y + 41 ∨ a = y + 42 ∨ a = y + 39) vF S S3).mono (fun a z => Or.inl z) (fun f z => z)).tr (m6.mono (fun a z => Or.inr z) (fun f z => z))
      have R6 : RMF y S0 S6 A := R.sc m36 (fun a z => by simp only [vQ] at z; unfold mscr; omega) (fun f z => z.elim Or.inl (fun z => Or.inr (Or.inl z)))
      have hcb6 : BR S6 (y + 18) 2435 pc := hcb.mx m36 (by omega) (by simp only [vQ]; omega)
      rw [show (nI 2400 + (3 : Int32)) + (32 : Int32) = nI 2435 from rfl]
      refine m_same (o0 := 0) (mac_len _ _) hcl (s6.t 43 (by omega) (by omega)) (s6.t 18 (by omega) (by omega)) (by omega) (by omega) (by omega) (by omega) b6 hcb6 (fun hy => ⟨1, rfl, fun _ => ?_, fun c => absurd c (by decide)⟩) (fun hn => ⟨0, rfl, fun c => absurd rfl c, fun _ => ?_⟩)
      · rw [if_pos hy.symm] at hQ
        refine m_full (w := 0) R6 (ok.wl (by omega)) (by omega) (fun hlt => ⟨0, rfl, fun _ => ?_, fun c => absurd rfl c⟩) (fun he => ⟨1, rfl, fun c => absurd c (by decide), fun _ => ?_⟩)
        · rw [if_neg (show ¬ (aW A 0).length = 12 by omega)] at hQ
          refine m_send (w := 0) (k := (aW A 0).length) (n := 32) (x2 := 3) R6.ms (by omega) hlt (by omega) (R6.wi 0 (by omega)).1 (fun S11 x11 pf11 e20 e19 b11 => ⟨_, rfl, ?_⟩)
          have s11 := R6.ms.sm x11.1
          have ehd : hd3 3 (nI 32) = hd3 3 32 := rfl
          rw [ehd] at b11
          generalize ho : 200 * (12 * 0 + (aW A 0).length) = o at *
          refine m_prove (x4 := 99) hG s11 (by omega) ((b3.mx m6 (by omega) (by simp only [vQ]; omega)).ex x11 (by simp only [pWi]; omega)) hhl ((b3r.mx m6 (by omega) (by simp only [vQ]; omega)).ex x11 (by simp only [pWi]; omega)) hrl (s11.t 41 (by omega) (by omega)) (by omega) (by omega) (by omega) ((hKb.mx m36 (by omega) (by simp only [vQ]; omega)).ex x11 (by simp only [pWi]; omega)) hKl (s11.t 18 (by omega) (by omega)) (by omega) (by omega) (by omega) (fun S13 m13 f13 b13 sec13 => ⟨rfl, y + 37, (s11.sm m13.sm).r 37 (by omega) (by omega), ?_⟩)
          have s13 := s11.sm m13.sm
          have hsc := mac_len K (sha (h33 ++ rn))
          have hpl := mac_len (mac (mac K (sha (h33 ++ rn))) [102]) (b8 99 :: sha (h33 ++ rn))
          generalize hp99 : mac (mac (mac K (sha (h33 ++ rn))) [102]) (b8 99 :: sha (h33 ++ rn)) = p99 at *
          generalize hsec : mac K (sha (h33 ++ rn)) = sec at *
          have mm : MX y (fun a => wirP y a) vF S6 S13 := ((MX.of x11 (by simp only [pWi]; omega) : MX y (pWi y) vF S6 S11).mono (fun a z => Or.inr z) (fun f z => z)).tr (m13.mono (fun a z => by simp only [vQ] at z; show wirP y a; unfold wirP mscr; omega) (fun f z => z))
          have pf : PF y 0 (aW A 0).length S6 S13 := by
            refine pf11.tr ⟨fun j _ => by rw [m13.row (by omega) (by simp only [vQ]; omega)], fun j _ => by rw [m13.row (by omega) (by simp only [vQ]; omega)], fun j hj => ?_⟩
            rw [ho] at hj
            rw [f13 j (by omega)]
          have hrec : BR S13 (y + 18) o (hd3 3 32 ++ p99) := (b11.row (fun i h1 h2 => f13 i (by have : i < o + 3 := h2; omega))).append b13
          have hrcl : (hd3 3 32 ++ p99).length = 35 := by rw [List.length_append, hpl]; rfl
          have R13 : RMF y S0 S13 (wW A 0 (aW A 0 ++ [hd3 3 32 ++ p99])) := by
            refine R6.wires (F := vF) ok.w2 mm (fun a z => z) (fun f z => z.elim Or.inl (fun z => Or.inr (Or.inl z))) (pf.wf hlt) ((R6.wi 0 (by omega)).push hlt (ok.w2 0 (by omega)).2 pf (by rw [m13.row (by omega) (by simp only [vQ]; omega)]; exact e20) (by rw [m13.row (by omega) (by simp only [vQ]; omega), hrcl]; exact e19) ?_)
            rw [ho]
            exact hrec
          refine m_opens (s := 0) (k := sec) hG R13 (fun s hs h2 d hd => ok.zk hs h2 hd) (by omega) (s13.t 37 (by omega) (by omega)) (by omega) (by omega) (Or.inl rfl) sec13 hsc (fun S16 R16 m16 => ⟨rfl, ?_⟩)
          rw [if_pos rfl] at R16
          exact m_an228 R16 (fun S' R' => hQ S' 0 n023 n024 R')
        · rw [if_pos he] at hQ
          exact m_an228 R6 (fun S' R' => hQ S' (-3) Iff.rfl Iff.rfl R')
      · rw [if_neg (fun z => hn z.symm)] at hQ
        exact m_an228 R6 (fun S' R' => hQ S' (-4) Iff.rfl Iff.rfl R')
    · have hke : aB A (4 + k) = [] := by
        by_cases z : aB A (4 + k) = []
        · exact z
        · rw [if_neg z] at c4; exact absurd c4 (by decide)
      rw [fail (fun z => z.2.1 hke)] at hQ
      exact hQ S (-4) Iff.rfl Iff.rfl R
end MRP
