/-! PURE: the reference's keys -/
section MNX
variable {G : pG} {y : Nat} {S : TS} {A : AS}
theorem AOK.zl {A : AS} (ok : AOK A) : ∀ s, s < 2 → aI A s = 2 → ∀ d, d < 2 → (aB A (24 + 2 * s + d)).length ≤ 32 := fun s hs h2 d hd => by rw [ok.zk hs h2 hd]; omega
/-- key, number and generation of side s in direction d -/
theorem RMF.zU {S0 S S' : TS} {s d : Nat} {v g : Int32} {l : List B8} {P F : Nat → Prop} (R : RMF y S0 S A) (ok : ∀ s, s < 2 → aI A s = 2 → ∀ d, d < 2 → (aB A (24 + 2 * s + d)).length ≤ 32) (hs : s < 2) (hd : d < 2) (e : MX y P F S S') (hp : ∀ a, P a → mscr y a ∨ a = y + 15 ∨ a = y + 16 ∨ a = y + 17) (hf : ∀ f, F f → fscr f)
    (hb : BR S' (y + 15) (32 * (2 * s + d)) l) (ho : ∀ j, (j < 32 * (2 * s + d) ∨ 32 * (2 * s + d) + 32 ≤ j) → tI S' (y + 15) j = tI S (y + 15) j) (r16 : tI S' (y + 16) = upd (tI S (y + 16)) (2 * s + d) v) (r17 : tI S' (y + 17) = upd (tI S (y + 17)) (2 * s + d) g) : RMF y S0 S' (wB (wI (wI A (4 + 2 * s + d) v) (8 + 2 * s + d) g) (24 + 2 * s + d) l) := by
  have n : ∀ k, k ≠ 15 → k ≠ 16 → k ≠ 17 → ¬ mscr y (y + k) → ¬ P (y + k) := fun k h1 h2 h3 hk z => (hp _ z).elim hk (fun z => by omega)
  have m : ∀ k, (k ≠ 6 ∧ k ≠ 12 ∧ k ≠ 46) → ¬ F k := fun k hk z => by have := hf _ z; unfold fscr at this; omega
  have ne : ∀ j, j ≠ 4 + 2 * s + d → j ≠ 8 + 2 * s + d → aI (wB (wI (wI A (4 + 2 * s + d) v) (8 + 2 * s + d) g) (24 + 2 * s + d) l) j = aI A j := fun j h1 h2 => by rw [aI_wB, aI_wI, up_n _ _ h2, aI_wI, up_n _ _ h1]
  have nb : ∀ j, j ≠ 24 + 2 * s + d → aB (wB (wI (wI A (4 + 2 * s + d) v) (8 + 2 * s + d) g) (24 + 2 * s + d) l) j = aB A j := fun j h => by rw [aB_wB, up_n _ _ h]; rfl
  refine R.gen e (fun a z => (hp a z).elim mscr_in (fun z => by show y ≤ a ∧ a < y + 45; omega)) (Or.inr ⟨nb 0 (by omega), n 1 (by omega) (by omega) (by omega) ?_, m 1 (by omega)⟩) (Or.inr ⟨nb 1 (by omega), n 2 (by omega) (by omega) (by omega) ?_, m 3 (by omega)⟩) (Or.inr ⟨nb 2 (by omega), n 21 (by omega) (by omega) (by omega) ?_, m 26 (by omega)⟩) (Or.inr ⟨nb 3 (by omega), n 26 (by omega) (by omega) (by omega) ?_, m 33 (by omega)⟩) (Or.inr ⟨fun j _ => nb _ (by omega), n 9 (by omega) (by omega) (by omega) ?_, n 10 (by omega) (by omega) (by omega) ?_⟩) (Or.inr ⟨fun j hj => ne j (by omega) (by omega), n 11 (by omega) (by omega) (by omega) ?_, n 12 (by omega) (by omega) (by omega) ?_⟩) (Or.inr ⟨ne 0 (by omega) (by omega), nb 20 (by omega), n 13 (by omega) (by omega) (by omega) ?_⟩) (Or.inr ⟨ne 1 (by omega) (by omega), nb 21 (by omega), nb 22 (by omega), nb 23 (by omega), n 14 (by omega) (by omega) (by omega) ?_, n 40 (by omega) (by omega) (by omega) ?_⟩) (fun j hj => Or.inl (fun c d' hd' => ?_)) (fun w hw => Or.inr ⟨rfl, n 18 (by omega) (by omega) (by omega) ?_, n 19 (by omega) (by omega) (by omega) ?_, n 20 (by omega) (by omega) (by omega) ?_⟩) (Or.inr ⟨rfl, n 22 (by omega) (by omega) (by omega) ?_, n 23 (by omega) (by omega) (by omega) ?_, n 24 (by omega) (by omega) (by omega) ?_, n 25 (by omega) (by omega) (by omega) ?_, m 31 (by omega)⟩) (Or.inr ⟨ne 14 (by omega) (by omega), ne 12 (by omega) (by omega), ne 13 (by omega) (by omega), m 4 (by omega), m 34 (by omega), m 35 (by omega)⟩)
  case refine_12 =>
    rw [ne j (by omega) (by omega)] at c
    rw [r16, r17]
    obtain ⟨g1, g2, g3⟩ := R.sk j hj c d' hd'
    by_cases h : 2 * j + d' = 2 * s + d
    · rw [h, pk_us, pk_us, show 4 + 2 * j + d' = 4 + 2 * s + d by omega, show 8 + 2 * j + d' = 8 + 2 * s + d by omega, show 24 + 2 * j + d' = 24 + 2 * s + d by omega, aB_wB, up_s, aI_wB, aI_wI, up_n _ _ (by omega), aI_wI, up_s, up_s]
      exact ⟨hb, rfl, rfl⟩
    · rw [pk_un h, pk_un h, ne _ (by omega) (by omega), ne _ (by omega) (by omega), nb _ (by omega)]
      have := ok j hj c d' hd'
      exact ⟨g1.row (fun a h1 h2 => ho a (by omega)), g2, g3⟩
  all_goals (unfold mscr; omega)
/-- the text under a key: 107, direction, generation -/
theorem ktx_br {S S6 S7 S8 : TS} {a : Nat} {x3 x4 : Int32} (e6 : S6 = sI S a (upd (tI S a) 0 (107 : Int32).toInt8.toInt32)) (e7 : S7 = sI S6 a (upd (tI S6 a) 1 ((x3 : Int32).toInt8.toInt32 : Int32).toInt8.toInt32)) (e8 : S8 = sI S7 a (upd (tI S7 a) 2 (sx (b8 x4)))) : Ex (fun z => z = a) S S8 ∧ BR S8 a 0 (ktx x3 x4) := by
  have x6 : Ex (fun z => z = a) S S6 := by rw [e6]; exact (Ex.rf S).I rfl
  have x7 : Ex (fun z => z = a) S S7 := by rw [e7]; exact x6.I rfl
  refine ⟨by rw [e8]; exact x7.I rfl, fun j hj => ?_⟩
  have hj3 : j < 3 := hj
  rw [Nat.zero_add, e8, tI_sI, up_s, e7, tI_sI, up_s, e6, tI_sI, up_s, nar2]
  rcases (show j = 0 ∨ j = 1 ∨ j = 2 by omega) with rfl | rfl | rfl
  · rfl
  · rfl
  · rfl
theorem cnt12 {S S' : TS} {v : Int32} (e : S' = sI S y (upd (tI S y) 12 v)) : MX y (fun _ => False) (fun f => f = 12) S S' ∧ tI S' y 12 = v := by
  have ry : tI S' y = upd (tI S y) 12 v := by rw [e, tI_sI, up_s]
  exact ⟨⟨by rw [e]; exact (Ex.rf S).I (Or.inl rfl), fun k hk => by rw [ry, pk_un hk]⟩, by rw [ry, pk_us]⟩
theorem m_next {t : Nat → Nat} (hG : GS G t) {Q : Option Value → TS → Prop} {s d : Nat} {S0 : TS} (R : RMF y S0 S A) (ok : ∀ s, s < 2 → aI A s = 2 → ∀ d, d < 2 → (aB A (24 + 2 * s + d)).length = 32) (hs : s < 2) (hd : d < 2) (h2 : aI A s = 2) (hix : aI A (18 + 2 * s + d) = nI d)
    (hQ : ∀ S', RMF y S0 S' (aNew A s d) → Q none S') : C0 G J_M_next [.ref y, .int (nI (2 * s + d)), .int (nI d)] S Q := by
  obtain ⟨g1, g2, g3⟩ := R.sk s hs h2 d hd
  have hk32 := ok s hs h2 d hd
  have in4 : vp_in (nI (2 * s + d)) 4 := vp_in_nI (by omega) (by omega)
  refine v_M_next y _ _ S Q ⟨R.ms.1, y + 17, R.ms.r 17 (by omega) (by omega), 4, R.ms.t 17 (by omega) (by omega), in4, in4, ?_⟩
  rw [nI_clamp (by omega), g3]
  intro S6 e6
  have x6 : Ex (fun a => a = y + 17) S S6 := by rw [e6]; exact (Ex.rf S).I rfl
  have s6 := R.ms.sm x6.1
  refine ⟨y + 16, s6.r 16 (by omega) (by omega), 4, s6.t 16 (by omega) (by omega), in4, fun S11 e11 => ?_⟩
  have x11 : Ex (fun a => a = y + 16) S6 S11 := by rw [e11]; exact (Ex.rf S6).I rfl
  have s11 := s6.sm x11.1
  have q17 : tI S11 (y + 17) = upd (tI S (y + 17)) (2 * s + d) (aI A (8 + 2 * s + d) + 1) := by rw [(x11.2 (y + 17) (by omega)).1, e6, tI_sI, up_s]
  have q16 : tI S11 (y + 16) = upd (tI S (y + 16)) (2 * s + d) 0 := by rw [e11, tI_sI, up_s, (x6.2 (y + 16) (by omega)).1]
  have k11 : BR S11 (y + 15) (32 * (2 * s + d)) (aB A (24 + 2 * s + d)) := (g1.ex x6 (by omega)).ex x11 (by omega)
  refine cpl (b := y + 7) (o := 0) (l := aB A (24 + 2 * s + d)) (S0 := S11) (H := fun i Si => T0 G J_M_next 19 [(0, .ref y), (1, .int (nI (2 * s + d))), (2, .int (nI d)), (3, .int (nI i))] [] Si Q) (fun i Si hi xi nx => ?_) (fun S1 x1 b1 f1 => ?_)
  · rw [hk32] at hi
    have si := s11.sm xi.1
    refine v_M_next_19 y _ _ _ Si Q ⟨fun c => absurd c (nI_ge (b := 32) hi (by omega)), fun _ => ⟨si.1, y + 7, si.r 7 (by omega) (by omega), y + 15, si.r 15 (by omega) (by omega), 128, si.t 15 (by omega) (by omega), ?_⟩⟩
    rw [show (32 : Int32) * nI (2 * s + d) = nI (32 * (2 * s + d)) from pk_mul 32 _, nI_add, nI_clamp (show 32 * (2 * s + d) + i < 2 ^ 31 by omega), nI_clamp (show i < 2 ^ 31 by omega), nI_1, (xi.2 (y + 15) (by omega)).1, k11 i (by omega), nar1s]
    refine ⟨vp_in_nI (by omega) (by omega), 32, si.t 7 (by omega) (by omega), vp_in_nI (by omega) (by omega), fun S9 e9 z ez => ?_⟩
    rw [ez]
    exact nx S9 (by rw [Nat.zero_add]; exact e9)
  · rw [hk32]
    have s1 := s11.sm x1.1
    refine v_M_next_19 y _ _ _ S1 Q ⟨fun _ => ⟨s1.1, y + 8, s1.r 8 (by omega) (by omega), 256, s1.t 8 (by omega) (by omega), vp_in_nI (n := 0) (by omega) (by omega), fun T6 d6 => ⟨vp_in_nI (n := 1) (by omega) (by omega), fun T7 d7 => ?_⟩⟩, fun c => absurd (Int32.le_refl _) c⟩
    have y6 : Ex (fun z => z = y + 8) S1 T6 := by rw [d6]; exact (Ex.rf S1).I rfl
    have y7 : Ex (fun z => z = y + 8) S1 T7 := by rw [d7]; exact y6.I rfl
    have t7 := s1.sm y7.1
    refine ⟨y + 17, t7.r 17 (by omega) (by omega), 4, t7.t 17 (by omega) (by omega), in4, vp_in_nI (n := 2) (by omega) (by omega), ?_⟩
    have qg : tI T7 (y + 17) (nI (2 * s + d)).toNatClampNeg = aI A (8 + 2 * s + d) + 1 := by rw [nI_clamp (by omega), (y7.2 (y + 17) (by omega)).1, (x1.2 (y + 17) (by omega)).1, q17, pk_us]
    rw [qg, nar2]
    intro T12 d12 T13 d13
    obtain ⟨z12, b12⟩ := ktx_br d6 d7 d12
    obtain ⟨m13, c13⟩ := cnt12 d13
    have t12 := s1.sm z12.1
    have t13 := t12.sm m13.sm
    refine ⟨y + 15, t13.r 15 (by omega) (by omega), ?_⟩
    rw [show (32 : Int32) * nI (2 * s + d) = nI (32 * (2 * s + d)) from pk_mul 32 _]
    have bk : BR T13 (y + 7) 0 (aB A (24 + 2 * s + d)) := (b1.ex z12 (by omega)).mx m13 (by omega) (fun z => z)
    refine m_macTo (x := ktx (nI d) (aI A (8 + 2 * s + d) + 1)) hG t13 hk32 bk (b12.mx m13 (by omega) (fun z => z)) c13 (by show 3 ≤ 200; omega) (t13.t 15 (by omega) (by omega)) (by omega) (by omega) (by omega) (fun S' m' f' b' => ⟨rfl, hQ S' ?_⟩)
    have mA : MX y (fun a => a = y + 16 ∨ a = y + 17 ∨ a = y + 7 ∨ a = y + 8) (fun f => f = 12) S T13 := ((((MX.of x6 (by omega) : MX y (fun a => a = y + 17) (fun f => f = 12) S S6).mono (fun a z => by omega) (fun f z => z)).tr ((MX.of x11 (by omega) : MX y (fun a => a = y + 16) (fun f => f = 12) S6 S11).mono (fun a z => by omega) (fun f z => z))).tr ((MX.of x1 (by omega) : MX y (fun a => a = y + 7) (fun f => f = 12) S11 S1).mono (fun a z => by omega) (fun f z => z))).tr (((MX.of z12 (by omega) : MX y (fun a => a = y + 8) (fun f => f = 12) S1 T12).mono (fun a z => by omega) (fun f z => z)).tr (m13.mono (fun a z => z.elim) (fun f z => z)))
    have mm : MX y (fun a => (a = y + 16 ∨ a = y + 17 ∨ a = y + 7 ∨ a = y + 8) ∨ mQ y (y + 15) a) (fun f => f = 12 ∨ f6 f) S S' := (mA.mono (fun a z => Or.inl z) (fun f z => Or.inl z)).tr (m'.mono (fun a z => Or.inr z) (fun f z => Or.inr z))
    have r15 : ∀ j, tI T13 (y + 15) j = tI S (y + 15) j := fun j => by rw [mA.row (by omega) (by omega)]
    have r16 : tI S' (y + 16) = upd (tI S (y + 16)) (2 * s + d) 0 := by rw [m'.row (by omega) (by simp only [mQ]; omega), m13.row (by omega) (fun z => z), (z12.2 (y + 16) (by omega)).1, (x1.2 (y + 16) (by omega)).1, q16]
    have r17 : tI S' (y + 17) = upd (tI S (y + 17)) (2 * s + d) (aI A (8 + 2 * s + d) + 1) := by rw [m'.row (by omega) (by simp only [mQ]; omega), m13.row (by omega) (fun z => z), (z12.2 (y + 17) (by omega)).1, (x1.2 (y + 17) (by omega)).1, q17]
    have := R.zU (v := 0) (g := aI A (8 + 2 * s + d) + 1) (fun s hs h2 d hd => by rw [ok s hs h2 d hd]; omega) hs hd mm (fun a z => by simp only [mQ] at z; unfold mscr; omega) (fun f z => z.elim (fun z => Or.inr (Or.inl z)) Or.inl) b' (fun j hj => by rw [f' j hj, r15]) r16 r17
    unfold aNew
    rw [hix]
    exact this
theorem AOK.ixd {A : AS} (ok : AOK A) {s d : Nat} (hs : s < 2) (hd : d < 2) : aI A (18 + 2 * s + d) = nI d := by
  have h := ok.ix
  rcases (show s = 0 ∨ s = 1 by omega) with rfl | rfl <;> rcases (show d = 0 ∨ d = 1 by omega) with rfl | rfl
  · exact h.2.2.2.1
  · exact h.2.2.2.2.1
  · exact h.2.2.2.2.2.1
  · exact h.2.2.2.2.2.2
theorem r_renew {t : Nat → Nat} (hG : GS G t) (h : RM y S A) (ok : AOK A) (s : Int32) : C0 G J_M_renew [.ref y, .int s] S (fun r S' => r = some (.int (fRenew A s).1) ∧ RMF y S S' (fRenew A s).2) := by
  have R := h.f
  have hcl : ∀ r A', fBare A s 1 = (r, A') → r ≠ 0 → fRenew A s = (r, A') := by
    intro r A' e hr
    unfold fBare at e
    unfold fRenew
    cases hn : nof 2 s with
    | none => rw [hn] at e; exact e
    | some i =>
      rw [hn] at e
      simp only at e ⊢
      split
      · rename_i h1; rw [if_pos h1] at e; exact e
      · rename_i h1
        rw [if_neg h1] at e
        split
        · rename_i h2; rw [if_pos h2] at e; exact e
        · rename_i h2; rw [if_neg h2] at e; exact absurd (Prod.mk.inj e).1.symm hr
  refine v_M_renew y s S _ ⟨R.ms.1, m_kind R ok (fun S' r A' e hz R' => ⟨r, rfl, fun c => ?_, fun c => ?_⟩)⟩
  · rw [hcl r A' e c]
    exact ⟨rfl, R'⟩
  · obtain ⟨i, hi, es, h2, eA⟩ := hz c
    subst c
    have hV : fRenew A s = (0, aNew A' i i) := by
      unfold fBare at e
      unfold fRenew
      rw [es, nof_some hi (by omega)] at e ⊢
      simp only at e ⊢
      rw [if_neg (fun z => z h2)] at e ⊢
      split
      · rename_i h3; rw [if_pos h3] at e; exact absurd (Prod.mk.inj e).1 (by decide)
      · rw [eA]; rfl
    rw [hV, es, show (3 : Int32) * nI i = nI (2 * i + i) by rw [show (3 : Int32) * nI i = nI (3 * i) from pk_mul 3 i]; exact congrArg nI (by omega)]
    have eI : ∀ j, j < 4 ∨ 8 ≤ j → aI A' j = aI A j := fun j hj => by
      rw [eA]
      unfold aSeal
      rw [aI_wW, aI_wI, up_n _ _ (by omega)]
    have eB : aB A' = aB A := by rw [eA]; rfl
    refine m_next hG R' (fun s hs h2 d hd => by rw [eI s (by omega)] at h2; rw [eB]; exact ok.zk hs h2 hd) hi hi (by rw [eI i (by omega)]; exact h2) (by rw [eI _ (by omega)]; exact ok.ixd hi hi) (fun S4 R4 => ⟨rfl, rfl, R4⟩)
end MNX
