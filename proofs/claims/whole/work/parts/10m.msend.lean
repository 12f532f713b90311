/-! PURE: the reference makes records -/
theorem AOK.ix {A : AS} (ok : AOK A) : aI A 16 = 0 ∧ aI A 17 = 1 ∧ aI A 14 = aI A 15 ∧ aI A 18 = 0 ∧ aI A 19 = 1 ∧ aI A 20 = 0 ∧ aI A 21 = 1 := ok.2.2.2.2.1
theorem AOK.zk {A : AS} (ok : AOK A) {s d : Nat} (hs : s < 2) (h2 : aI A s = 2) (hd : d < 2) : (aB A (24 + 2 * s + d)).length = 32 := ok.1 s hs h2 d hd
theorem rec_done {a o : Nat} {S1 S' : TS} {h l : List B8} (b1 : BR S1 a o h) (b' : BR S' a (o + h.length) l) (f' : ∀ i, (i < o + h.length ∨ o + h.length + l.length ≤ i) → tI S' a i = tI S1 a i) : BR S' a o (h ++ l) := (b1.row (fun i h1 h2 => f' i (by omega))).append b'
section MSN
variable {G : pG} {y : Nat} {S : TS} {A : AS}
theorem RMF.rndU {S0 S S' : TS} {s : Nat} {v : Int32} {P F : Nat → Prop} (R : RMF y S0 S A) (hs : s < 2) (e : MX y P F S S') (hp : ∀ a, P a → mscr y a ∨ a = y + 12 ∨ (a = y + 13 ∧ aI A 0 ≠ 1)) (hf : ∀ f, F f → fscr f) (r12 : tI S' (y + 12) = upd (tI S (y + 12)) s v) : RMF y S0 S' (wI A (2 + s) v) := by
  have n : ∀ k, k ≠ 12 → k ≠ 13 → ¬ mscr y (y + k) → ¬ P (y + k) := fun k h1 h2 hk z => (hp _ z).elim hk (fun z => z.elim (fun z => by omega) (fun z => by omega))
  have m : ∀ k, (k ≠ 6 ∧ k ≠ 12 ∧ k ≠ 46) → ¬ F k := fun k hk z => by have := hf _ z; unfold fscr at this; omega
  have ne : ∀ j, j ≠ 2 + s → aI (wI A (2 + s) v) j = aI A j := fun j hj => by rw [aI_wI, up_n _ _ hj]
  refine R.gen e (fun a z => (hp a z).elim mscr_in (fun z => by show y ≤ a ∧ a < y + 45; omega)) (Or.inr ⟨rfl, n 1 (by omega) (by omega) ?_, m 1 (by omega)⟩) (Or.inr ⟨rfl, n 2 (by omega) (by omega) ?_, m 3 (by omega)⟩) (Or.inr ⟨rfl, n 21 (by omega) (by omega) ?_, m 26 (by omega)⟩) (Or.inr ⟨rfl, n 26 (by omega) (by omega) ?_, m 33 (by omega)⟩) (Or.inr ⟨fun _ _ => rfl, n 9 (by omega) (by omega) ?_, n 10 (by omega) (by omega) ?_⟩) (Or.inl (fun j hj => ?_)) ?_ (Or.inr ⟨ne 1 (by omega), rfl, rfl, rfl, n 14 (by omega) (by omega) ?_, n 40 (by omega) (by omega) ?_⟩) (fun j hj => Or.inr ⟨⟨ne j (by omega), fun d hd => ⟨rfl, ne _ (by omega), ne _ (by omega)⟩⟩, n 15 (by omega) (by omega) ?_, n 16 (by omega) (by omega) ?_, n 17 (by omega) (by omega) ?_⟩) (fun w hw => Or.inr ⟨rfl, n 18 (by omega) (by omega) ?_, n 19 (by omega) (by omega) ?_, n 20 (by omega) (by omega) ?_⟩) (Or.inr ⟨rfl, n 22 (by omega) (by omega) ?_, n 23 (by omega) (by omega) ?_, n 24 (by omega) (by omega) ?_, n 25 (by omega) (by omega) ?_, m 31 (by omega)⟩) (Or.inr ⟨ne 14 (by omega), ne 12 (by omega), ne 13 (by omega), m 4 (by omega), m 34 (by omega), m 35 (by omega)⟩)
  case refine_7 =>
    have n11 : ¬ P (y + 11) := n 11 (by omega) (by omega) (by unfold mscr; omega)
    rw [e.row (by omega) n11, r12, ne j (by omega)]
    refine ⟨(R.st j hj).1, ?_⟩
    by_cases hjs : j = s
    · rw [hjs, pk_us, aI_wI, up_s]
    · rw [pk_un hjs, ne _ (by omega)]; exact (R.st j hj).2
  case refine_8 =>
    by_cases h1 : aI A 0 = 1
    · exact Or.inr ⟨ne 0 (by omega), rfl, fun z => (hp _ z).elim (by unfold mscr; omega) (fun z => z.elim (fun z => by omega) (fun z => z.2 h1))⟩
    · exact Or.inl (fun c => absurd (by rw [← ne 0 (by omega)]; exact c) h1)
  all_goals (unfold mscr; omega)
theorem rtx_len (i e n : Int32) : (rtx i e n).length = 10 := rfl
theorem m_random {t : Nat → Nat} (hG : GS G t) {Q : Option Value → TS → Prop} {s a2 N : Nat} {S0 : TS} (R : RMF y S0 S A) (ok : AOK A) (hs : s < 2) (ht : te S a2 = some (.inl (.byte, N))) (hN : N < 65536) (h32 : 32 ≤ N) (ha : a2 = y + 41 ∨ (a2 = y + 13 ∧ aI A 0 ≠ 1))
    (hQ : ∀ S', RMF y S0 S' (wI A (2 + s) (aI A (2 + s) + 1)) → BR S' a2 0 (rnd A s) → MX y (fun a => (y + 3 ≤ a ∧ a ≤ y + 5) ∨ a = y + 12 ∨ a = a2) f6 S S' → Q none S') : C0 G J_M_randomTo [.ref y, .int (nI s), .ref a2, .int 0] S Q := by
  have in2 : vp_in (nI s) 2 := vp_in_nI (by omega) (by omega)
  refine v_M_randomTo y _ a2 _ S Q ⟨R.ms.1, fun S2 e2 => ?_⟩
  obtain ⟨m2, w2⟩ := rw_clear e2
  have s2 := R.ms.sm m2.sm
  refine m_addI s2 w2 (by simp) (fun S3 x3 w3 => ⟨rfl, m_addI (s2.sm x3.sm) w3 (by simp) (fun S4 x4 w4 => ⟨rfl, ?_⟩)⟩)
  have s4 := (s2.sm x3.sm).sm x4.sm
  refine m_word s4 w4 (by simp) (fun S5 x5 w5 => ⟨rfl, y + 12, (s4.sm x5.sm).r 12 (by omega) (by omega), 2, (s4.sm x5.sm).t 12 (by omega) (by omega), in2, ?_⟩)
  have s5 := s4.sm x5.sm
  refine m_word s5 w5 (by simp [be4_len]) (fun S10 x10 w10 => ⟨rfl, ?_⟩)
  have s10 := s5.sm x10.sm
  have x25 : MX y (fun a => a = y + 3) f6 S S4 := ((m2.mono (fun a z => z.elim) (fun f z => z)).tr x3).tr x4
  have x210 : MX y (fun a => a = y + 3) f6 S S10 := (x25.tr x5).tr x10
  have e4 : tI S4 y 4 = aI A 14 := by rw [x25.2 4 (by simp only [f6]; omega)]; exact R.cn.1
  have e12 : tI S5 (y + 12) (nI s).toNatClampNeg = aI A (2 + s) := by rw [nI_clamp (by omega), x5.row (by omega) (by omega), x25.row (by omega) (by omega)]; exact (R.st s hs).2
  rw [e4, e12] at w10
  have hix := ok.ix
  have ew : ([] ++ [b8 82] ++ [b8 (nI s)] ++ be4 (aI A 14) ++ be4 (aI A (2 + s)) : List B8) = rtx (aI A (16 + s)) (aI A (14 + s)) (aI A (2 + s)) := by
    rcases (show s = 0 ∨ s = 1 by omega) with rfl | rfl
    · rw [show aI A (16 + 0) = 0 from hix.1]; rfl
    · rw [show aI A (16 + 1) = 1 from hix.2.1, show aI A (14 + 1) = aI A 14 from hix.2.2.1.symm]; rfl
  rw [ew] at w10
  refine m_hashTo (o := 0) hG (by rw [rtx_len]; omega) s10 w10 (by rw [x210.sm.1]; exact ht) hN (by omega) (by omega) (fun S11 x11 f11 b11 => ⟨rfl, in2, in2, fun S12 e12' => ?_⟩)
  have m11 : MX y (fun a => a = y + 4 ∨ a = y + 5 ∨ a = a2) f6 S10 S11 := MX.of x11 (by omega)
  have r12 : tI S11 (y + 12) = tI S (y + 12) := by rw [(x11.2 (y + 12) (by omega)).1, x210.row (by omega) (by omega)]
  rw [r12, nI_clamp (by omega), (R.st s hs).2] at e12'
  have x12 : Ex (fun a => a = y + 12) S11 S12 := by rw [e12']; exact (Ex.rf S11).I rfl
  have m12 : MX y (fun a => a = y + 12) f6 S11 S12 := MX.of x12 (by omega)
  have mm : MX y (fun a => (y + 3 ≤ a ∧ a ≤ y + 5) ∨ a = y + 12 ∨ a = a2) f6 S S12 := ((x210.mono (fun a z => by omega) (fun f z => z)).tr (m11.mono (fun a z => by omega) (fun f z => z))).tr (m12.mono (fun a z => by omega) (fun f z => z))
  exact hQ S12 (R.rndU hs mm (fun a z => by rcases z with z | z | z; exact Or.inl (by unfold mscr; omega); exact Or.inr (Or.inl z); exact ha.elim (fun h => Or.inl (by unfold mscr; omega)) (fun h => Or.inr (Or.inr ⟨by omega, h.2⟩))) (fun f z => Or.inl z) (by rw [e12', tI_sI, up_s])) (b11.ex x12 (by omega)) mm
theorem r_greet {t : Nat → Nat} (hG : GS G t) (h : RM y S A) (ok : AOK A) (k : Int32) : C0 G J_M_greet [.ref y, .int k] S (fun r S' => r = some (.int (fGreet A k).1) ∧ RMF y S S' (fGreet A k).2) := by
  have R := h.f
  have no : (∀ j, j < 8 → k ≠ nI j) → fGreet A k = (-1, A) := fun hno => by unfold fGreet; rw [nof_none hno]
  refine v_M_greet y k S _ ⟨fun c => ?_, fun c => ⟨fun c2 => ?_, fun c2 => ?_⟩⟩
  · rw [no (fun j hj e => by rw [e] at c; exact nI_pos (by omega) c)]
    exact ⟨rfl, R⟩
  · obtain ⟨j, hj, rfl⟩ := rngJ (N := 7) (by omega) c c2
    have hj : j < 8 := hj
    have hV : fGreet A (nI j) = if aB A (4 + j) = [] then (-2, A) else if aI A 0 ≠ 0 then (-5, A) else if (aW A 0).length = 12 then (-3, A) else (0, wI (wW (wB (wI A 2 (aI A 2 + 1)) 20 (gtg A j)) 0 (aW A 0 ++ [hd3 1 33 ++ gtg A j])) 0 1) := by
      unfold fGreet
      rw [nof_some hj (by omega)]
    rw [hV]
    have hk9 : tI S (y + 9) j = if aB A (4 + j) = [] then 0 else 1 := (R.ky j (by omega)).1
    refine ⟨R.ms.1, y + 9, R.ms.r 9 (by omega) (by omega), 16, R.ms.t 9 (by omega) (by omega), vp_in_nI (by omega) (by omega), ?_⟩
    rw [nI_clamp (by omega), hk9]
    refine ⟨fun c3 => ?_, fun c3 => ?_⟩
    · have hne : ¬ aB A (4 + j) = [] := fun z => c3 (by rw [if_pos z])
      rw [if_neg hne]
      refine ⟨y + 11, R.ms.r 11 (by omega) (by omega), 2, R.ms.t 11 (by omega) (by omega), vp_in_nI (n := 0) (by omega) (by omega), ?_⟩
      rw [(R.st 0 (by omega)).1]
      refine ⟨fun c4 => ?_, fun c4 => ?_⟩
      · rw [if_neg (show ¬ aI A 0 ≠ 0 from fun z => z c4)]
        have hl0 := ok.wl (w := 0) (by omega)
        refine m_full (w := 0) R hl0 (by omega) (fun hlt => ⟨0, rfl, fun _ => ?_, fun c => absurd rfl c⟩) (fun he => ⟨1, rfl, fun c => absurd c (by decide), fun _ => ?_⟩)
        · rw [if_neg (show ¬ (aW A 0).length = 12 by omega)]
          refine ⟨y + 13, R.ms.r 13 (by omega) (by omega), m_random (s := 0) hG R ok (by omega) (R.ms.t 13 (by omega) (by omega)) (by omega) (by omega) (Or.inr ⟨rfl, by rw [c4]; decide⟩) (fun S13 R13 b13 _ => ⟨rfl, 33, R13.ms.t 13 (by omega) (by omega), vp_in_nI (n := 32) (by omega) (by omega), fun S16 e16 => ?_⟩)⟩
          have hrl : (rnd A 0).length = 32 := sha_len _
          rw [nar2] at e16
          have x16 : Ex (fun a => a = y + 13) S13 S16 := by rw [e16]; exact (Ex.rf S13).I rfl
          have b16 : BR S16 (y + 13) 0 (gtg A j) := b13.snoc (by rw [e16, tI_sI, up_s, hrl])
          have hgl : (gtg A j).length = 33 := by unfold gtg; rw [List.length_append, hrl]; rfl
          have m16 : MX y (fun a => a = y + 13) (fun _ => False) S13 S16 := MX.of x16 (by omega)
          have R16 : RMF y S S16 (wB (wI A 2 (aI A 2 + 1)) 20 (gtg A j)) := by
            have hb : ∀ i, i ≠ 20 → aB (wB (wI A 2 (aI A 2 + 1)) 20 (gtg A j)) i = aB A i := fun i hi => by rw [aB_wB, up_n _ _ hi]; rfl
            refine R13.gen m16 (fun a z => by show y ≤ a ∧ a < y + 45; omega) (Or.inr ⟨rfl, by omega, fun z => z⟩) (Or.inr ⟨rfl, by omega, fun z => z⟩) (Or.inr ⟨rfl, by omega, fun z => z⟩) (Or.inr ⟨rfl, by omega, fun z => z⟩) (Or.inr ⟨fun i _ => hb _ (by omega), by omega, by omega⟩) (Or.inr ⟨fun _ _ => rfl, by omega, by omega⟩) (Or.inl (fun c => ?_)) (Or.inr ⟨rfl, hb _ (by omega), hb _ (by omega), hb _ (by omega), by omega, by omega⟩) (fun s hs => Or.inr ⟨⟨rfl, fun d _ => ⟨hb _ (by omega), rfl, rfl⟩⟩, by omega, by omega, by omega⟩) (fun w hw => Or.inr ⟨rfl, by omega, by omega, by omega⟩) (Or.inr ⟨rfl, by omega, by omega, by omega, by omega, fun z => z⟩) (Or.inr ⟨rfl, rfl, rfl, fun z => z, fun z => z, fun z => z⟩)
            exact b16
          refine m_send (w := 0) (k := (aW A 0).length) (n := 33) (x2 := 1) R16.ms (by omega) hlt (by omega) (R16.wi 0 (by omega)).1 (fun S17 x17 pf17 e20 e19 b17 => ⟨_, rfl, ?_⟩)
          have s17 := R16.ms.sm x17.1
          have h13 : BR S17 (y + 13) 0 (gtg A j) := b16.ex x17 (by simp only [pWi]; omega)
          refine cpl (b := y + 18) (o := 200 * (12 * 0 + (aW A 0).length) + 3) (l := gtg A j) (S0 := S17) (H := fun i Si => T0 G J_M_greet 77 [(0, .ref y), (1, .int (nI j)), (2, .int (nI (200 * (12 * 0 + (aW A 0).length) + 3))), (3, .int (nI i))] [] Si _) (fun i Si hi xi nx => ?_) (fun S' x' b' f' => ?_)
          · rw [hgl] at hi
            have si := s17.sm xi.1
            refine v_M_greet_77 y _ _ _ Si _ ⟨fun c => absurd c (nI_ge (b := 33) hi (by omega)), fun _ => ⟨si.1, y + 18, si.r 18 (by omega) (by omega), y + 13, si.r 13 (by omega) (by omega), 33, si.t 13 (by omega) (by omega), vp_in_nI (by omega) (by omega), 4800, si.t 18 (by omega) (by omega), ?_⟩⟩
            rw [nI_add, nI_clamp (show 200 * (12 * 0 + (aW A 0).length) + 3 + i < 2 ^ 31 by omega), nI_clamp (show i < 2 ^ 31 by omega), nI_1, (xi.2 (y + 13) (by omega)).1, h13.at0 (by omega), nar1s]
            refine ⟨vp_in_nI (by omega) (by omega), fun S9 e9 z ez => ?_⟩
            rw [ez]
            exact nx S9 e9
          · have s' := s17.sm x'.1
            rw [hgl] at f'
            have pf : PF y 0 (aW A 0).length S16 S' := pf17.tr (PF.body x' (fun i hi => f' i (by omega)))
            have xx : Ex (pWi y) S16 S' := x17.tr (x'.mono (fun a z => Or.inl z))
            have R' : RMF y S S' (wW (wB (wI A 2 (aI A 2 + 1)) 20 (gtg A j)) 0 (aW A 0 ++ [hd3 1 33 ++ gtg A j])) := by
              refine R16.wires (F := fun _ => False) ok.w2 (MX.of xx (by simp only [pWi]; omega)) (fun z hz => Or.inr hz) (fun f z => z.elim) (pf.wf hlt) ((R16.wi 0 (by omega)).push hlt (ok.w2 0 (by omega)).2 pf (by rw [(x'.2 (y + 20) (by omega)).1]; exact e20) (by rw [(x'.2 (y + 19) (by omega)).1]; exact e19.trans (by rw [List.length_append, hgl]; rfl)) (rec_done b17 b' (fun i hi => f' i (by rw [hgl] at hi; exact hi))))
            rw [hgl]
            refine v_M_greet_77 y _ _ _ S' _ ⟨fun _ => ⟨s'.1, y + 11, s'.r 11 (by omega) (by omega), 2, s'.t 11 (by omega) (by omega), vp_in_nI (n := 0) (by omega) (by omega), fun S6 e6 => ⟨rfl, ?_⟩⟩, fun c => absurd (Int32.le_refl _) c⟩
            exact R'.side (s := 0) (by omega) e6 (fun _ _ => h13.ex x' (by omega)) (fun c => absurd c (by omega)) (fun c => absurd c (by decide))
        · rw [if_pos he]
          exact ⟨rfl, R⟩
      · rw [if_pos c4]
        exact ⟨rfl, R⟩
    · have he : aB A (4 + j) = [] := by
        by_cases z : aB A (4 + j) = []
        · exact z
        · rw [if_neg z] at c3; exact absurd c3 (by decide)
      rw [if_pos he]
      exact ⟨rfl, R⟩
  · rw [no (fun j hj e => c2 (by rw [e]; exact nI_le (b := 7) (by omega) (by omega)))]
    exact ⟨rfl, R⟩
end MSN
