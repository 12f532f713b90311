/-! PURE: calls of the reference on the wires -/
theorem cW.set {y w k : Nat} {S S' : TS} {L : List (List B8)} {r : List B8} (h : cW y S w L) (hk : k < L.length) (h200 : ∀ l ∈ L, l.length ≤ 200) (e20 : tI S' (y + 20) w = tI S (y + 20) w) (e : ∀ j, (j < 200 * (12 * w + k) ∨ 200 * (12 * w + k) + 200 ≤ j) → tI S' (y + 18) j = tI S (y + 18) j) (e19 : tI S' (y + 19) = tI S (y + 19)) (hr : r.length = (L.getD k []).length) (b : BR S' (y + 18) (200 * (12 * w + k)) r) : cW y S' w (L.set k r) := by
  refine ⟨by rw [e20, List.length_set]; exact h.1, fun j hj => ?_⟩
  rw [List.length_set] at hj
  by_cases hjk : j = k
  · have eg : (L.set k r).getD j [] = r := by rw [hjk, List.getD_eq_getElem?_getD, List.getElem?_set_self (by omega)]; rfl
    rw [eg, hjk, e19, hr]
    exact ⟨(h.2 k hk).1, b⟩
  · have eg : (L.set k r).getD j [] = L.getD j [] := by rw [List.getD_eq_getElem?_getD, List.getElem?_set_ne (by omega), ← List.getD_eq_getElem?_getD]
    have := h200 _ (gd_mem hj)
    rw [eg, e19]
    exact ⟨(h.2 j hj).1, (h.2 j hj).2.row (fun i h1 h2 => e i (by omega))⟩
theorem set_gs {l : List B8} {j : Nat} {b : B8} (h : j < l.length) : (l.set j b).getD j 0 = b := by
  rw [List.getD_eq_getElem?_getD, List.getElem?_set_self h]
  rfl
theorem set_gn {l : List B8} {i j : Nat} {b : B8} (h : i ≠ j) : (l.set i b).getD j 0 = l.getD j 0 := by
  rw [List.getD_eq_getElem?_getD, List.getElem?_set_ne h, ← List.getD_eq_getElem?_getD]
section MW2
variable {G : pG} {y : Nat} {S : TS} {A : AS}
theorem r_flip (h : RM y S A) (ok : AOK A) (w k i bits : Int32) : C0 G J_M_flip [.ref y, .int w, .int k, .int i, .int bits] S (fun r S' => r = some (.int (fFlip A w k i bits).1) ∧ RMF y S S' (fFlip A w k i bits).2) := by
  have R := h.f
  refine v_M_flip y w k i bits S _ ⟨R.ms.1, m_is R ok (fun a b ha hb ew ek er => ⟨1, rfl, fun c => absurd c (by decide), fun _ => ?_⟩) (fun er => ⟨0, rfl, fun _ => ?_, fun c => absurd rfl c⟩)⟩
  · subst ew
    subst ek
    have hl := ok.wl ha
    have hr := (ok.wr ha _ (gd_mem hb)).2
    obtain ⟨p19, p18⟩ := (R.wi a ha).2 b hb
    have no : (∀ j, j < ((aW A a).getD b []).length → i ≠ nI j) → fFlip A (nI a) (nI b) i bits = (-2, A) := fun hno => by
      unfold fFlip
      rw [er]
      simp only [nof_none hno]
    rw [ix_eq, nI_clamp (show 12 * a + b < 2 ^ 31 by omega)]
    refine ⟨fun c => ?_, fun c => ⟨y + 19, R.ms.r 19 (by omega) (by omega), 24, R.ms.t 19 (by omega) (by omega), vp_in_nI (by omega) (by omega), fun c2 => ?_, fun c2 => ?_⟩⟩
    · rw [no (fun j hj e => by rw [e] at c; exact nI_pos (by omega) c)]
      exact ⟨rfl, R⟩
    · rw [p19] at c2
      obtain ⟨j, hj, rfl⟩ := rngI (by omega) c c2
      have hV : fFlip A (nI a) (nI b) (nI j) bits = (zx (((aW A a).getD b []).getD j 0 ^^^ b8 bits), wW A a ((aW A a).set b (((aW A a).getD b []).set j (((aW A a).getD b []).getD j 0 ^^^ b8 bits)))) := by
        unfold fFlip
        rw [er]
        simp only [nof_some hj (show j < 2 ^ 32 by omega)]
      rw [hV]
      refine ⟨y + 18, R.ms.r 18 (by omega) (by omega), m_at ⟨_, rfl, 4800, R.ms.t 18 (by omega) (by omega), ?_⟩⟩
      rw [nI_add, nI_clamp (by omega), p18 j hj, i8_sx bits, sx_xn]
      have in4 : vp_in (nI (200 * (12 * a + b) + j)) 4800 := vp_in_nI (by omega) (by omega)
      refine ⟨in4, in4, fun S12 e12 => m_at ⟨_, rfl, ?_⟩⟩
      have x12 : Ex (fun a => a = y + 18) S S12 := by rw [e12]; exact (Ex.rf S).I rfl
      have q18 : tI S12 (y + 18) = upd (tI S (y + 18)) (200 * (12 * a + b) + j) (sx (((aW A a).getD b []).getD j 0 ^^^ b8 bits)) := by rw [e12, tI_sI, up_s]
      rw [nI_add, nI_clamp (by omega), q18, pk_us, sx_and]
      have pf : PF y a b S S12 := PF.body x12 (fun z hz => by rw [q18, pk_un (by omega)])
      refine ⟨in4, rfl, R.wires (F := fun _ => False) ok.w2 (MX.of x12 (by omega)) (fun z hz => Or.inr (Or.inl hz)) (fun f z => z.elim) (pf.wf (by omega)) ((R.wi a ha).set hb (ok.w2 a ha).2 (by rw [(x12.2 (y + 20) (by omega)).1]) pf.2.2 (x12.2 (y + 19) (by omega)).1 (by rw [List.length_set]) (fun z hz => ?_))⟩
      rw [List.length_set] at hz
      rw [q18]
      by_cases hzj : z = j
      · subst hzj
        rw [pk_us, set_gs hz]
      · rw [pk_un (by omega), p18 z hz, set_gn (fun e => hzj e.symm)]
    · rw [p19] at c2
      rw [no (fun j hj e => c2 (by rw [e]; exact nI_lt (by omega) (by omega)))]
      exact ⟨rfl, R⟩
  · have hV : fFlip A w k i bits = (-2, A) := by unfold fFlip; rw [er]
    rw [hV]
    exact ⟨rfl, R⟩
theorem r_drop (h : RM y S A) (ok : AOK A) (w k : Int32) : C0 G J_M_drop [.ref y, .int w, .int k] S (fun r S' => r = some (.int (fDrop A w k).1) ∧ RMF y S S' (fDrop A w k).2) := by
  have R := h.f
  refine v_M_drop y w k S _ ⟨R.ms.1, m_is R ok (fun a b ha hb ew ek er => ⟨1, rfl, fun _ => ?_, fun c => absurd c (by decide)⟩) (fun er => ⟨0, rfl, fun c => absurd rfl c, fun _ => ?_⟩)⟩
  · have hV : fDrop A w k = (nI ((aW A a).length - 1), wW A a ((aW A a).eraseIdx b)) := by unfold fDrop; rw [er]
    rw [hV]
    subst ew
    subst ek
    refine m_take R ok.w2 ha hb (fun S3 R3 => ⟨rfl, y + 20, R3.ms.r 20 (by omega) (by omega), 2, R3.ms.t 20 (by omega) (by omega), vp_in_nI (by omega) (by omega), ?_, R3⟩)
    have := (R3.wi a ha).1
    rw [aW_wW, up_s, List.length_eraseIdx_of_lt hb] at this
    rw [nI_clamp (by omega), this]
  · have hV : fDrop A w k = (-2, A) := by unfold fDrop; rw [er]
    rw [hV]
    exact ⟨rfl, R⟩
theorem r_copy (h : RM y S A) (ok : AOK A) (w k to : Int32) : C0 G J_M_copy [.ref y, .int w, .int k, .int to] S (fun r S' => r = some (.int (fCopy A w k to).1) ∧ RMF y S S' (fCopy A w k to).2) := by
  have R := h.f
  refine v_M_copy y w k to S _ ⟨R.ms.1, m_is R ok (fun a b ha hb ew ek er => ⟨1, rfl, fun _ => m_side (fun c hc ec => ⟨1, rfl, fun _ => ?_, fun c => absurd c (by decide)⟩) (fun hno => ⟨0, rfl, fun c => absurd rfl c, fun _ => ?_⟩), fun c => absurd c (by decide)⟩) (fun er => ⟨0, rfl, fun c => absurd rfl c, fun _ => ?_⟩)⟩
  · subst ew
    subst ek
    subst ec
    have hl := ok.wl ha
    have hlc := ok.wl hc
    have hr := (ok.wr ha _ (gd_mem hb)).2
    obtain ⟨p19, p18⟩ := (R.wi a ha).2 b hb
    have hV : fCopy A (nI a) (nI b) (nI c) = if (aW A c).length < 12 then (nI ((aW A c).length + 1), wW A c (aW A c ++ [(aW A a).getD b []])) else (-3, A) := by
      unfold fCopy
      rw [er]
      simp only [nof_some hc (show c < 2 ^ 32 by omega)]
    rw [hV]
    refine m_full R hlc hc (fun hlt => ⟨0, rfl, fun _ => ?_, fun c => absurd rfl c⟩) (fun he => ⟨1, rfl, fun c => absurd c (by decide), fun _ => ?_⟩)
    · rw [if_pos hlt]
      refine ⟨y + 18, R.ms.r 18 (by omega) (by omega), m_at ⟨_, rfl, y + 19, R.ms.r 19 (by omega) (by omega), 24, R.ms.t 19 (by omega) (by omega), ?_⟩⟩
      rw [ix_eq, nI_clamp (by omega), p19]
      refine ⟨vp_in_nI (by omega) (by omega), m_last R.ms hc hlt hr (R.wi c hc).1 (R.ms.t 18 (by omega) (by omega)) (by omega) (by omega) p18 (Or.inr ?_) (fun S' x' pf e20 e19 b' => ⟨_, rfl, rfl, R.wires (F := fun _ => False) ok.w2 (MX.of x' (by simp only [pWi]; omega)) (fun z hz => Or.inr hz) (fun f z => z.elim) (pf.wf hlt) ((R.wi c hc).push hlt (ok.w2 c hc).2 pf e20 e19 b')⟩)⟩
      rcases (show a = c ∨ a < c ∨ c < a by omega) with rfl | hac | hac
      · omega
      · omega
      · omega
    · rw [if_neg (by omega)]
      exact ⟨rfl, R⟩
  · have hV : fCopy A w k to = (-1, A) := by unfold fCopy; rw [er]; simp only [nof_none hno]
    rw [hV]
    exact ⟨rfl, R⟩
  · have hV : fCopy A w k to = (-2, A) := by unfold fCopy; rw [er]
    rw [hV]
    exact ⟨rfl, R⟩
theorem m_hu97 {Q : Option Value → TS → Prop} {w i : Nat} {x2 x3 : Int32} {l : List B8} (hw : w < 2) (hi : i < 11) (hs : MS y S) (hl : l.length ≤ 200) (hb : BR S (y + 18) (200 * (12 * w + i)) l)
    (hQ : ∀ S', Ex (fun a => a = y + 18) S S' → BR S' (y + 18) (200 * (12 * w + (i + 1))) l → (∀ j, (j < 200 * (12 * w + (i + 1)) ∨ 200 * (12 * w + (i + 1)) + 200 ≤ j) → tI S' (y + 18) j = tI S (y + 18) j) → T0 G J_M_hurry 63 [(0, .ref y), (1, .int (nI w)), (2, .int x2), (3, .int x3), (4, .int (nI i))] [] S' Q) : T0 G J_M_hurry 97 [(0, .ref y), (1, .int (nI w)), (2, .int x2), (3, .int x3), (4, .int (nI (i + 1))), (5, .int 0)] [] S Q := by
  refine cpm (b := y + 18) (o := 200 * (12 * w + (i + 1))) (N := 200) (l := l) (S0 := S) (H := fun k Sk => T0 G J_M_hurry 97 [(0, .ref y), (1, .int (nI w)), (2, .int x2), (3, .int x3), (4, .int (nI (i + 1))), (5, .int (nI k))] [] Sk Q) hl (fun k Sk hk xk fk nx => ?_) (fun S' x' b' f' => ?_)
  · have sk := hs.sm xk.1
    refine v_M_hurry_97 y _ x2 x3 _ _ Sk Q ⟨fun c => absurd c (nI_ge (b := 200) hk (by omega)), fun _ => ⟨sk.1, y + 18, sk.r 18 (by omega) (by omega), m_at ⟨_, rfl, ?_⟩⟩⟩
    rw [show nI (i + 1) - (1 : Int32) = nI i from pk_sub (b := 1) (by omega), nI_1]
    refine m_at ⟨_, rfl, 4800, sk.t 18 (by omega) (by omega), ?_⟩
    rw [nI_add, nI_add, nI_clamp (show 200 * (12 * w + (i + 1)) + k < 2 ^ 31 by omega), nI_clamp (show 200 * (12 * w + i) + k < 2 ^ 31 by omega)]
    refine ⟨vp_in_nI (by omega) (by omega), vp_in_nI (by omega) (by omega), fun S9 e9 z ez => ?_⟩
    rw [ez]
    refine nx _ S9 (fun hkl => ?_) e9
    rw [fk _ (by omega), hb k hkl, nar1s]
  · refine v_M_hurry_97 y _ x2 x3 _ _ S' Q ⟨fun _ z ez => ?_, fun c => absurd (Int32.le_refl _) c⟩
    rw [ez, show nI (i + 1) + (-1 : Int32) = nI i from (Int32.sub_eq_add_neg _ _).symm.trans (pk_sub (b := 1) (by omega))]
    exact hQ S' x' b' f'
theorem m_hu63 {Q : Option Value → TS → Prop} {w k : Nat} {L : List (List B8)} {x2 : Int32} (hw : w < 2) (hk : k < L.length) (hl : L.length ≤ 12) (h200 : ∀ l ∈ L, l.length ≤ 200) : ∀ (i : Nat) (S : TS), i ≤ k → MS y S → tI S (y + 20) w = nI L.length → BR S (y + 44) 0 (L.getD k []) → (∀ j, j < L.length → tI S (y + 19) (12 * w + j) = nI (L.getD (if i < j ∧ j ≤ k then j - 1 else j) []).length ∧ BR S (y + 18) (200 * (12 * w + j)) (L.getD (if i < j ∧ j ≤ k then j - 1 else j) [])) →
    (∀ S', Ex (pWi y) S S' → WF y w S S' → cW y S' w (L.getD k [] :: L.eraseIdx k) → Q (some (.int 0)) S') → T0 G J_M_hurry 63 [(0, .ref y), (1, .int (nI w)), (2, .int x2), (3, .int (nI (L.getD k []).length)), (4, .int (nI i))] [] S Q := by
  intro i
  induction i with
  | zero =>
    intro S hik hs h20 h44 hp hQ
    have hkl := h200 _ (gd_mem hk)
    refine v_M_hurry_63 y _ x2 _ _ S Q ⟨fun _ => ⟨hs.1, y + 19, hs.r 19 (by omega) (by omega), 24, hs.t 19 (by omega) (by omega), ?_⟩, fun c => absurd (Int32.le_refl _) c⟩
    rw [show nI w * (12 : Int32) = nI (12 * w) by rw [show nI w * (12 : Int32) = nI (w * 12) from pk_mul w 12, Nat.mul_comm], nI_clamp (by omega)]
    refine ⟨vp_in_nI (by omega) (by omega), fun S6 e6 => ?_⟩
    have x6 : Ex (fun a => a = y + 19) S S6 := by rw [e6]; exact (Ex.rf S).I rfl
    have s6 := hs.sm x6.1
    have q19 : tI S6 (y + 19) = upd (tI S (y + 19)) (12 * w) (nI (L.getD k []).length) := by rw [e6, tI_sI, up_s]
    refine cpm (b := y + 18) (o := 200 * (12 * w + 0)) (N := (L.getD k []).length) (l := L.getD k []) (S0 := S6) (H := fun j Sj => T0 G J_M_hurry 162 [(0, .ref y), (1, .int (nI w)), (2, .int x2), (3, .int (nI (L.getD k []).length)), (4, .int (nI j))] [] Sj Q) (Nat.le_refl _) (fun j Sj hj xj fj nx => ?_) (fun S' x' b' f' => ?_)
    · have sj := s6.sm xj.1
      refine v_M_hurry_162 y _ x2 _ _ Sj Q ⟨fun c => absurd c (nI_ge hj (by omega)), fun _ => ⟨sj.1, y + 18, sj.r 18 (by omega) (by omega), m_at (k := 0) ⟨_, rfl, y + 44, sj.r 44 (by omega) (by omega), 200, sj.t 44 (by omega) (by omega), vp_in_nI (by omega) (by omega), 4800, sj.t 18 (by omega) (by omega), ?_⟩⟩⟩
      rw [nI_add, nI_clamp (show 200 * (12 * w + 0) + j < 2 ^ 31 by omega), nI_clamp (show j < 2 ^ 31 by omega), nI_1, (xj.2 (y + 44) (by omega)).1, (x6.2 (y + 44) (by omega)).1, h44.at0 hj, nar1s]
      refine ⟨vp_in_nI (by omega) (by omega), fun S9 e9 z ez => ?_⟩
      rw [ez]
      exact nx _ S9 (fun _ => rfl) e9
    · refine v_M_hurry_162 y _ x2 _ _ S' Q ⟨fun _ => ?_, fun c => absurd (Int32.le_refl _) c⟩
      have xx : Ex (pWi y) S S' := (x6.mono (fun a z => Or.inr (Or.inl z))).tr (x'.mono (fun a z => Or.inl z))
      have p20 : tI S' (y + 20) = tI S (y + 20) := by rw [(x'.2 (y + 20) (by omega)).1, (x6.2 (y + 20) (by omega)).1]
      have p19 : tI S' (y + 19) = upd (tI S (y + 19)) (12 * w) (nI (L.getD k []).length) := by rw [(x'.2 (y + 19) (by omega)).1, q19]
      have p18 : ∀ j, (j < 200 * (12 * w) ∨ 200 * (12 * w) + 200 ≤ j) → tI S' (y + 18) j = tI S (y + 18) j := fun j hj => by rw [f' j (by omega), (x6.2 (y + 18) (by omega)).1]
      have hel : (L.eraseIdx k).length = L.length - 1 := List.length_eraseIdx_of_lt hk
      refine hQ S' xx ⟨fun j _ => by rw [p20], fun j hj => by rw [p19, pk_un (by omega)], fun j hj => p18 j (by omega)⟩ ⟨by rw [p20, h20, List.length_cons, hel]; congr 1; omega, fun j hj => ?_⟩
      rw [List.length_cons, hel] at hj
      cases j with
      | zero =>
        show tI S' (y + 19) (12 * w + 0) = nI (L.getD k []).length ∧ BR S' (y + 18) (200 * (12 * w + 0)) (L.getD k [])
        rw [p19]
        exact ⟨pk_us, b'⟩
      | succ j =>
        have e : (L.getD k [] :: L.eraseIdx k).getD (j + 1) [] = L.getD (if 0 < j + 1 ∧ j + 1 ≤ k then j + 1 - 1 else j + 1) [] := by
          show (L.eraseIdx k).getD j [] = _
          rw [er_getD]
          by_cases hjk : j < k
          · rw [if_pos hjk, if_pos (by omega), Nat.add_sub_cancel]
          · rw [if_neg hjk, if_neg (by omega)]
        have hpj := hp (j + 1) (by omega)
        have hlen : (L.getD (if 0 < j + 1 ∧ j + 1 ≤ k then j + 1 - 1 else j + 1) []).length ≤ 200 := h200 _ (gd_mem (by split <;> omega))
        rw [e, p19, pk_un (by omega)]
        exact ⟨hpj.1, hpj.2.row (fun a h1 h2 => p18 a (by omega))⟩
  | succ i ih =>
    intro S hik hs h20 h44 hp hQ
    refine v_M_hurry_63 y _ x2 _ _ S Q ⟨fun c => absurd c (nI_ge (a := 0) (by omega) (by omega)), fun _ => ⟨hs.1, y + 19, hs.r 19 (by omega) (by omega), 24, hs.t 19 (by omega) (by omega), ?_⟩⟩
    have hpi := hp i (by omega)
    rw [if_neg (by omega)] at hpi
    rw [ix_eq, show nI (12 * w + (i + 1)) - (1 : Int32) = nI (12 * w + i) from pk_sub (b := 1) (by omega), nI_clamp (show 12 * w + (i + 1) < 2 ^ 31 by omega), nI_clamp (show 12 * w + i < 2 ^ 31 by omega), hpi.1]
    refine ⟨vp_in_nI (by omega) (by omega), vp_in_nI (by omega) (by omega), fun S11 e11 => ?_⟩
    have x11 : Ex (fun a => a = y + 19) S S11 := by rw [e11]; exact (Ex.rf S).I rfl
    have q19 : tI S11 (y + 19) = upd (tI S (y + 19)) (12 * w + (i + 1)) (nI (L.getD i []).length) := by rw [e11, tI_sI, up_s]
    have hm := h200 _ (gd_mem (show i < L.length by omega))
    refine m_hu97 hw (by omega) (hs.sm x11.1) hm (hpi.2.ex x11 (by omega)) (fun S1 x1 b1 f1 => ?_)
    have xx : Ex (pWi y) S S1 := (x11.mono (fun a z => Or.inr (Or.inl z))).tr (x1.mono (fun a z => Or.inl z))
    have p20 : tI S1 (y + 20) = tI S (y + 20) := by rw [(x1.2 (y + 20) (by omega)).1, (x11.2 (y + 20) (by omega)).1]
    have p19 : tI S1 (y + 19) = upd (tI S (y + 19)) (12 * w + (i + 1)) (nI (L.getD i []).length) := by rw [(x1.2 (y + 19) (by omega)).1, q19]
    have p18 : ∀ j, (j < 200 * (12 * w + (i + 1)) ∨ 200 * (12 * w + (i + 1)) + 200 ≤ j) → tI S1 (y + 18) j = tI S (y + 18) j := fun j hj => by rw [f1 j hj, (x11.2 (y + 18) (by omega)).1]
    have wf : WF y w S S1 := ⟨fun j _ => by rw [p20], fun j hj => by rw [p19, pk_un (by omega)], fun j hj => p18 j (by omega)⟩
    refine ih S1 (by omega) (hs.sm xx.1) (by rw [p20]; exact h20) ((h44.ex x11 (by omega)).ex x1 (by omega)) (fun j hj => ?_) (fun S' x' w' c' => hQ S' (xx.tr x') (wf.tr w') c')
    by_cases hji : j = i + 1
    · subst hji
      rw [if_pos (by omega), p19, pk_us, Nat.add_sub_cancel]
      exact ⟨rfl, b1⟩
    · have e : (if i < j ∧ j ≤ k then j - 1 else j) = (if i + 1 < j ∧ j ≤ k then j - 1 else j) := by
        by_cases hc : i + 1 < j ∧ j ≤ k
        · rw [if_pos hc, if_pos (by omega)]
        · rw [if_neg hc, if_neg (by omega)]
      have hpj := hp j hj
      have hlen : (L.getD (if i + 1 < j ∧ j ≤ k then j - 1 else j) []).length ≤ 200 := h200 _ (gd_mem (by split <;> omega))
      rw [e, p19, pk_un (by omega)]
      exact ⟨hpj.1, hpj.2.row (fun a h1 h2 => p18 a (by omega))⟩
theorem r_hurry (h : RM y S A) (ok : AOK A) (w k : Int32) : C0 G J_M_hurry [.ref y, .int w, .int k] S (fun r S' => r = some (.int (fHurry A w k).1) ∧ RMF y S S' (fHurry A w k).2) := by
  have R := h.f
  refine v_M_hurry y w k S _ ⟨R.ms.1, m_is R ok (fun a b ha hb ew ek er => ⟨1, rfl, fun _ => ?_, fun c => absurd c (by decide)⟩) (fun er => ⟨0, rfl, fun c => absurd rfl c, fun _ => ?_⟩)⟩
  · have hV : fHurry A w k = (0, wW A a ((aW A a).getD b [] :: (aW A a).eraseIdx b)) := by unfold fHurry; rw [er]
    rw [hV]
    subst ew
    subst ek
    have hl := ok.wl ha
    have hr := (ok.wr ha _ (gd_mem hb)).2
    obtain ⟨p19, p18⟩ := (R.wi a ha).2 b hb
    refine ⟨y + 19, R.ms.r 19 (by omega) (by omega), 24, R.ms.t 19 (by omega) (by omega), ?_⟩
    rw [ix_eq, nI_clamp (by omega), p19]
    refine ⟨vp_in_nI (by omega) (by omega), fun y7 e7 => ?_⟩
    rw [e7]
    refine cpl (b := y + 44) (o := 0) (l := (aW A a).getD b []) (S0 := S) (H := fun j Sj => T0 G J_M_hurry 27 [(0, .ref y), (1, .int (nI a)), (2, .int (nI b)), (3, .int (nI ((aW A a).getD b []).length)), (4, .int (nI j))] [] Sj _) (fun j Sj hj xj nx => ?_) (fun S' x' b' f' => ?_)
    · have sj := R.ms.sm xj.1
      refine v_M_hurry_27 y _ _ _ _ Sj _ ⟨fun c => absurd c (nI_ge hj (by omega)), fun _ => ⟨sj.1, y + 44, sj.r 44 (by omega) (by omega), y + 18, sj.r 18 (by omega) (by omega), m_at ⟨_, rfl, 4800, sj.t 18 (by omega) (by omega), ?_⟩⟩⟩
      rw [nI_add, nI_clamp (show 200 * (12 * a + b) + j < 2 ^ 31 by omega), nI_clamp (show j < 2 ^ 31 by omega), nI_1, (xj.2 (y + 18) (by omega)).1, p18 j hj, nar1s]
      refine ⟨vp_in_nI (by omega) (by omega), 200, sj.t 44 (by omega) (by omega), vp_in_nI (by omega) (by omega), fun S9 e9 z ez => ?_⟩
      rw [ez]
      exact nx S9 (by rw [Nat.zero_add]; exact e9)
    · have R' : RMF y S S' A := R.sc (F := fun _ => False) (MX.of x' (by omega)) (fun z hz => by unfold mscr; omega) (fun f z => z.elim)
      refine v_M_hurry_27 y _ _ _ _ S' _ ⟨fun _ => m_hu63 ha hb hl (ok.w2 a ha).2 b S' (Nat.le_refl b) R'.ms (R'.wi a ha).1 b' (fun j hj => ?_) (fun S2 x2 w2 c2 => ⟨rfl, R'.wires (F := fun _ => False) ok.w2 (MX.of x2 (by simp only [pWi]; omega)) (fun z hz => Or.inr hz) (fun f z => z.elim) w2 c2⟩), fun c => absurd (Int32.le_refl _) c⟩
      rw [if_neg (by omega)]
      exact (R'.wi a ha).2 j hj
  · have hV : fHurry A w k = (-2, A) := by unfold fHurry; rw [er]
    rw [hV]
    exact ⟨rfl, R⟩
theorem r_forge (h : RM y S A) (ok : AOK A) (w : Int32) : C0 G J_M_forge [.ref y, .int w] S (fun r S' => r = some (.int (fForge A w).1) ∧ RMF y S S' (fForge A w).2) := by
  have R := h.f
  have hl := ok.tp
  unfold fForge
  refine v_M_forge y w S _ ⟨R.ms.1, fun y2 e2 S3 e3 => ?_⟩
  rw [R.tp.1] at e2
  rw [e2]
  have R3 : RMF y S S3 (wB A 0 []) := by have := R.cut (k := 0) (by omega) e3; simpa using this
  have r1 : tI S3 (y + 1) = tI S (y + 1) := by rw [e3, tI_sI, up_n _ _ (by omega)]
  have b1 : BR S3 (y + 1) 0 (aB A 0) := R.tp.2.eq r1
  refine m_side (fun a ha ea => ⟨1, rfl, fun c => absurd c (by decide), fun _ => ⟨fun c => ?_, fun c => ?_⟩⟩) (fun hno => ⟨0, rfl, fun _ => ?_, fun c => absurd rfl c⟩)
  · have h3 : 3 ≤ (aB A 0).length := (nI_leI (a := 3) (by omega) (by omega)).mp c
    subst ea
    have hla := ok.wl ha
    rw [nof_some ha (by omega)]
    simp only [if_neg (show ¬ (aB A 0).length < 3 by omega)]
    refine m_full R3 hla ha (fun hlt => ⟨0, rfl, fun _ => ?_, fun c => absurd rfl c⟩) (fun he => ⟨1, rfl, fun c => absurd c (by decide), fun _ => ?_⟩)
    · have hlt2 : (aW A a).length < 12 := hlt
      rw [if_pos hlt2]
      refine ⟨y + 1, R3.ms.r 1 (by omega) (by omega), m_last (p := 0) R3.ms ha hlt2 hl (R3.wi a ha).1 (R3.ms.t 1 (by omega) (by omega)) (by omega) (by omega) b1 (Or.inl (by omega)) (fun S' x' pf e20 e19 b' => ⟨_, rfl, rfl, R3.wires (A := wB A 0 []) (F := fun _ => False) ok.w2 (MX.of x' (by simp only [pWi]; omega)) (fun z hz => Or.inr hz) (fun f z => z.elim) (pf.wf hlt2) ((R3.wi a ha).push hlt2 (ok.w2 a ha).2 pf e20 e19 b')⟩)⟩
    · rw [if_neg (show ¬ (aW A a).length < 12 by have : (aW A a).length = 12 := he; omega)]
      exact ⟨rfl, R3⟩
  · have h3 : (aB A 0).length < 3 := Nat.not_le.mp (fun z => c (nI_le (a := 3) z (by omega)))
    subst ea
    rw [nof_some ha (by omega)]
    simp only [if_pos h3]
    exact ⟨trivial, R3⟩
  · rw [nof_none hno]
    exact ⟨rfl, R3⟩
end MW2
