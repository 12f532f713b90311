/-! PURE: the class's calls that move records; the rest of the small ones -/
theorem SS.ex1 {P R : Nat → Prop} {S S' : TS} {s : Nat} (k : SS S s) (e : Ex1 P R S S') (hr : ∀ a, s ≤ a → a < s + 3 → ¬ R a) : SS S' s := by
  obtain ⟨h1, h2, h3, h4, h5⟩ := k
  have r := e.2.2 s (hr s (by omega) (by omega))
  exact ⟨by rw [e.1.1]; exact h1, by rw [r]; exact h2, by rw [e.1.1]; exact h3, by rw [r]; exact h4, by rw [e.1.1]; exact h5⟩
theorem PS.ex1 {P R : Nat → Prop} {S S' : TS} {p : Nat} (k : PS S p) (e : Ex1 P R S S') (hr : ∀ a, p ≤ a → a < p + 7 → ¬ R a) : PS S' p := by
  obtain ⟨h1, h2, h3, h4, h5, h6, h7, h8, h9, h10, h11⟩ := k
  have r := e.2.2 p (hr p (by omega) (by omega))
  exact ⟨by rw [e.1.1]; exact h1, by rw [r]; exact h2, by rw [e.1.1]; exact h3, by rw [r]; exact h4, by rw [e.1.1]; exact h5, by rw [r]; exact h6, by rw [e.1.1]; exact h7, by rw [r]; exact h8, by rw [e.1.1]; exact h9, by rw [r]; exact h10, h11.ex1 e (hr _ (by omega) (by omega))⟩
theorem ZS.ex1 {P R : Nat → Prop} {S S' : TS} {z : Nat} (k : ZS S z) (e : Ex1 P R S S') (hr : ∀ a, z ≤ a → a < z + 13 → ¬ R a) : ZS S' z := by
  obtain ⟨h1, h2, h3, h4, h5, h6, h7⟩ := k
  have r := e.2.2 z (hr z (by omega) (by omega))
  exact ⟨by rw [e.1.1]; exact h1, by rw [r]; exact h2, h3.ex1 e (fun a h1 h2 => hr a (by omega) (by omega)), by rw [r]; exact h4, h5.ex1 e (fun a h1 h2 => hr a (by omega) (by omega)), by rw [r]; exact h6, h7.ex1 e (hr _ (by omega) (by omega))⟩
theorem HS.ex1 {P R : Nat → Prop} {S S' : TS} {h : Nat} (k : HS S h) (e : Ex1 P R S S') (hr : ∀ a, h ≤ a → a < h + 7 → ¬ R a) : HS S' h := by
  obtain ⟨h1, h2, h3, h4, h5, h6, h7, h8, h9⟩ := k
  have r := e.2.2 h (hr h (by omega) (by omega))
  exact ⟨by rw [e.1.1]; exact h1, by rw [r]; exact h2, by rw [e.1.1]; exact h3, by rw [r]; exact h4, by rw [e.1.1]; exact h5, by rw [r]; exact h6, h7.ex1 e (hr _ (by omega) (by omega)), by rw [r]; exact h8, h9.ex1 e (hr _ (by omega) (by omega))⟩
theorem DS.ex1 {P R : Nat → Prop} {S S' : TS} {g : Nat} (k : DS S g) (e : Ex1 P R S S') (hr : ∀ a, g ≤ a → a < g + 5 → ¬ R a) : DS S' g := by
  obtain ⟨h1, h2, h3, h4, h5⟩ := k
  have r := e.2.2 g (hr g (by omega) (by omega))
  exact ⟨by rw [e.1.1]; exact h1, by rw [r]; exact h2, h3.ex1 e (hr _ (by omega) (by omega)), by rw [r]; exact h4, h5.ex1 e (hr _ (by omega) (by omega))⟩
theorem RQ.ex1 {P R : Nat → Prop} {S S' : TS} {g : Nat} (k : RQ S g) (e : Ex1 P R S S') (hr : ∀ a, g ≤ a → a < g + 5 → ¬ R a) : RQ S' g := by
  obtain ⟨h1, h2, h3, h4, h5⟩ := k
  have r := e.2.2 g (hr g (by omega) (by omega))
  exact ⟨by rw [e.1.1]; exact h1, by rw [r]; exact h2, h3.ex1 e (hr _ (by omega) (by omega)), by rw [r]; exact h4, h5.ex1 e (hr _ (by omega) (by omega))⟩
theorem SD.ex1 {P R : Nat → Prop} {S S' : TS} {s : Nat} (k : SD S s) (e : Ex1 P R S S') (hr : ∀ a, s ≤ a → a < s + 45 → ¬ R a) : SD S' s := by
  obtain ⟨h1, h2, h3, h4, h5, h6, h7, h8, h9, h10, h11, h12, h13, h14, h15, h16, h17, h18, h19, h20⟩ := k
  have r := e.2.2 s (hr s (by omega) (by omega))
  have r8 := e.2.2 (s + 8) (hr _ (by omega) (by omega))
  refine ⟨by rw [e.1.1]; exact h1, by rw [r]; exact h2, h3.ex1 e (fun a h1 h2 => hr a (by omega) (by omega)), by rw [r]; exact h4, by rw [e.1.1]; exact h5, fun k hk => ⟨by rw [r8]; exact (h6 k hk).1, (h6 k hk).2.ex1 e (hr _ (by omega) (by omega))⟩, by rw [r]; exact h7, h8.ex1 e (fun a h1 h2 => hr a (by omega) (by omega)), by rw [r]; exact h9, h10.ex1 e (fun a h1 h2 => hr a (by omega) (by omega)), by rw [r]; exact h11, h12.ex1 e (hr _ (by omega) (by omega)), by rw [r]; exact h13, h14.ex1 e (hr _ (by omega) (by omega)), by rw [r]; exact h15, h16.ex1 e (hr _ (by omega) (by omega)), by rw [r]; exact h17, h18.ex1 e (hr _ (by omega) (by omega)), by rw [r]; exact h19, h20.ex1 e (hr _ (by omega) (by omega))⟩
theorem RCs.ex1 {P R : Nat → Prop} {S S' : TS} {x : Nat} (k : RCs x S) (e : Ex1 P R S S') (hr : ∀ a, R a → x + 20 ≤ a ∧ a < x + 159) : RCs x S' := by
  obtain ⟨h1, h2, h3, h4, h5, h6, h7, h8, h9, h10⟩ := k
  have nr : ∀ a, (a < x + 20 ∨ x + 159 ≤ a) → ¬ R a := fun a h z => by have := hr a z; omega
  have r := e.2.2 x (nr x (by omega))
  exact ⟨by rw [e.1.1]; exact h1, fun k hk => by rw [r]; exact h2 k hk, h3.ex1 e (fun a h1 h2 => nr a (by omega)), h4.ex1 e (fun a h1 h2 => nr a (by omega)), h5.ex1 e (fun a h1 h2 => nr a (by omega)), h6.ex1 e (fun a h1 h2 => nr a (by omega)), h7.ex1 e (nr _ (by omega)), h8.ex1 e (nr _ (by omega)), h9.ex1 e (nr _ (by omega)), h10.ex1 e (nr _ (by omega))⟩
/-- what is in a wire's or the store's place has changed, references too -/
theorem RF.gen1 {x : Nat} {S0 S S' : TS} {A A' : AS} {P R : Nat → Prop} (h : RF x S0 S A) (e : Ex1 P R S S') (hp : ∀ a, P a → scr x a ∨ x + 20 ≤ a ∧ a < x + 159) (hr : ∀ a, R a → x + 20 ≤ a ∧ a < x + 159) (eB : aB A' = aB A) (eI : aI A' = aI A)
    (hW0 : (∃ f, WR S' (x + 20) (aW A' 0) f) ∨ (aW A' 0 = aW A 0 ∧ ∀ a, x + 20 ≤ a → a < x + 48 → ¬ P a ∧ ¬ R a))
    (hW1 : (∃ f, WR S' (x + 48) (aW A' 1) f) ∨ (aW A' 1 = aW A 1 ∧ ∀ a, x + 48 ≤ a → a < x + 76 → ¬ P a ∧ ¬ R a))
    (hT : (∃ fn fv, ST S' (x + 76) (aT A') fn fv) ∨ (aT A' = aT A ∧ ∀ a, x + 76 ≤ a → a < x + 159 → ¬ P a ∧ ¬ R a)) : RF x S0 S' A' := by
  obtain ⟨⟨h1, h2, h3, ⟨f0, h4⟩, ⟨f1, h5⟩, ⟨fn, fv, h6⟩⟩, hf⟩ := h
  refine ⟨⟨h1.ex1 e hr, fun j hj => ?_, fun j hj => ?_, ?_, ?_, ?_⟩, hf.tr (e.mono (fun a ha => ?_) (fun a ha => ?_))⟩
  · have ok := bO_ok j hj
    have hs := bO_scr (x := x) hj
    rw [eB]
    exact (h2 j hj).ex1 e (fun z => (hp _ z).elim hs.1 (fun y => by omega)) (fun z => (hp _ z).elim hs.2 (fun y => by omega)) (fun z => by have := hr _ z; omega)
  · have ok := iO_ok j hj
    rw [eI, (e.2.1 _ (fun z => (hp _ z).elim (iO_scr hj) (fun y => by omega))).1]
    exact h3 j hj
  · rcases hW0 with g | ⟨g1, g2⟩
    · exact g
    · rw [g1]; exact ⟨f0, h4.ex1 e (fun a h1 h2 => g2 a h1 (by omega))⟩
  · rcases hW1 with g | ⟨g1, g2⟩
    · exact g
    · rw [g1]; exact ⟨f1, h5.ex1 e (fun a h1 h2 => g2 a h1 (by omega))⟩
  · rcases hT with g | ⟨g1, g2⟩
    · exact g
    · rw [g1]; exact ⟨fn, fv, h6.ex1 e (fun a ha => g2 a (by simp only [tP] at ha; omega) (by simp only [tP] at ha; omega))⟩
  · rcases hp a ha with z | z
    · unfold scr at z; unfold inr; omega
    · unfold inr; omega
  · have := hr a ha; unfold inr; omega
theorem rf_wW1 {x : Nat} {S0 S S' : TS} {A : AS} {P R : Nat → Prop} (h : RF x S0 S A) (e : Ex1 P R S S') {w : Nat} (hw : w < 2) {ws : List (List B8)} (hp : ∀ a, P a → x + 20 + 28 * w ≤ a ∧ a < x + 48 + 28 * w) (hr : ∀ a, R a → x + 20 + 28 * w ≤ a ∧ a < x + 48 + 28 * w) (hv : ∃ f, WR S' (x + 20 + 28 * w) ws f) : RF x S0 S' (wW A w ws) := by
  refine h.gen1 e (fun a z => Or.inr (by have := hp a z; omega)) (fun a z => by have := hr a z; omega) rfl rfl ?_ ?_ (Or.inr ⟨rfl, fun a h1 h2 => ⟨fun z => by have := hp a z; omega, fun z => by have := hr a z; omega⟩⟩)
  · rw [aW_wW]
    by_cases h0 : w = 0
    · subst h0
      rw [up_s]; exact Or.inl hv
    · rw [up_n _ _ (Ne.symm h0)]
      exact Or.inr ⟨rfl, fun a h1 h2 => ⟨fun z => by have := hp a z; omega, fun z => by have := hr a z; omega⟩⟩
  · rw [aW_wW]
    by_cases h0 : w = 1
    · subst h0
      rw [up_s]; exact Or.inl hv
    · rw [up_n _ _ (Ne.symm h0)]
      exact Or.inr ⟨rfl, fun a h1 h2 => ⟨fun z => by have := hp a z; omega, fun z => by have := hr a z; omega⟩⟩
section QC2
variable {G : pG} {x : Nat} {S : TS} {A : AS}
theorem q_drop (h : RC x S A) (w k : Int32) : C1 G J_S_drop [.ref x, .int w, .int k] S (fun r S' => r = some (.int (fDrop A w k).1) ∧ RF x S S' (fDrop A w k).2) := by
  have R := RF.rf h
  unfold fDrop
  refine v_S_drop x w k S _ ⟨R.s.1, p_isRecord R (fun a c ha hc ew ek e => ⟨1, rfl, fun _ => ?_, fun c => absurd c (by decide)⟩) (fun e => ⟨0, rfl, fun c => absurd rfl c, fun _ => ?_⟩)⟩
  · rw [e]
    subst ew ek
    obtain ⟨f, hf⟩ := R.w ha
    refine p_wireOf R.s ha ⟨_, rfl, hf.1.1, p_remove hf hc (fun S1 x1 w1 => ⟨rfl, ?_⟩)⟩
    have R1 : RF x S S1 (wW A a ((aW A a).eraseIdx c)) := rf_wW1 R x1 ha (fun z hz => by omega) (fun z hz => by omega) ⟨_, w1⟩
    refine p_wireOf R1.s ha ⟨_, rfl, w1.1.1, p_wsize w1 ⟨_, rfl, ?_, R1⟩⟩
    rw [List.length_eraseIdx_of_lt hc]
  · rw [e]
    exact ⟨rfl, R⟩
theorem q_hurry (h : RC x S A) (w k : Int32) : C1 G J_S_hurry [.ref x, .int w, .int k] S (fun r S' => r = some (.int (fHurry A w k).1) ∧ RF x S S' (fHurry A w k).2) := by
  have R := RF.rf h
  unfold fHurry
  refine v_S_hurry x w k S _ ⟨R.s.1, p_isRecord R (fun a c ha hc ew ek e => ⟨1, rfl, fun _ => ?_, fun c => absurd c (by decide)⟩) (fun e => ⟨0, rfl, fun c => absurd rfl c, fun _ => ?_⟩)⟩
  · rw [e]
    subst ew ek
    obtain ⟨f, hf⟩ := R.w ha
    refine p_wireOf R.s ha ⟨_, rfl, hf.1.1, p_bringFirst hf hc (fun S1 x1 w1 => ⟨rfl, rfl, rf_wW1 R x1 ha (fun z hz => hz.elim) (fun z hz => by omega) ⟨_, w1⟩⟩)⟩
  · rw [e]
    exact ⟨rfl, R⟩
theorem p_sendWhole {S0 S : TS} {Q : Option Value → TS → Prop} (R : RF x S0 S A) {q N w : Nat} {l : List B8} (hw : w < 2) (hq : BT S q N l) (hl : l.length ≤ 200) (h0 : (aW A w).length = 12 → Q (some (.int 0)) S) (hqw : ∀ f, WR S (x + 20 + 28 * w) (aW A w) f → (aW A w).length < 12 → q + 1 < f (aW A w).length ∨ f (aW A w).length + 1 < q)
    (h1 : (aW A w).length < 12 → ∀ S', RF x S0 S' (wW A w (aW A w ++ [l])) → Q (some (.int 1)) S') : C0 G J_S_sendWhole [.ref q, .ref (x + 20 + 28 * w)] S Q := by
  obtain ⟨f, hf⟩ := R.w hw
  refine v_S_sendWhole q _ S Q ⟨hf.1.1, p_wfull hf (fun e => ⟨1, rfl, fun c => absurd c (by decide), fun _ => h0 e⟩) (fun e => ⟨0, rfl, fun _ => ?_, fun c => absurd rfl c⟩)⟩
  have dq := hqw f hf e
  have f3 := hf.2.2.1 (aW A w).length (by omega)
  refine p_draft hf (fun S1 x1 b1 => ⟨_, rfl, b1.1.1, p_putAll b1 (hq.ex x1 (by simp only [bP]; omega) (by simp only [bP]; omega)) (by simpa using hl) (fun S2 x2 b2 => ⟨rfl, ?_⟩)⟩)
  have w2 := hf.ex (x1.tr x2) (fun a _ _ z => z)
  have b2' : BT S2 (f (aW A w).length) 200 l := by simpa using b2
  refine p_send w2 e b2' (fun S3 x3 w3 => ⟨rfl, h1 e S3 ?_⟩)
  refine R.wW (((x1.tr x2).mono (fun a z => Or.inl z)).tr (x3.mono (fun a z => Or.inr z))) hw (fun a z => Or.inr ?_) ⟨f, w3⟩
  simp only [bP] at z
  omega
theorem q_copy (h : RC x S A) (w k to : Int32) : C0 G J_S_copy [.ref x, .int w, .int k, .int to] S (fun r S' => r = some (.int (fCopy A w k to).1) ∧ RF x S S' (fCopy A w k to).2) := by
  have R := RF.rf h
  unfold fCopy
  refine v_S_copy x w k to S _ ⟨R.s.1, p_isRecord R (fun a c ha hc ew ek e => ⟨1, rfl, fun _ => ?_, fun c => absurd c (by decide)⟩) (fun e => ⟨0, rfl, fun c => absurd rfl c, fun _ => ?_⟩)⟩
  · rw [e]
    subst ew ek
    obtain ⟨f, hf⟩ := R.w ha
    have hl := hf.1.2.2.2.2
    have f3 := hf.2.2.1 c (by omega)
    have bt := hf.2.2.2.2.2 c hc
    refine p_isWire (fun j hj ej => ⟨1, rfl, fun _ => ?_, fun c => absurd c (by decide)⟩) (fun hno => ⟨0, rfl, fun c => absurd rfl c, fun _ => ?_⟩)
    · subst ej
      refine p_wireOf R.s ha ⟨_, rfl, hf.1.1, p_wat hf hc ⟨_, rfl, p_wireOf R.s hj ⟨_, rfl, ?_⟩⟩⟩
      refine p_sendWhole R hj bt bt.2.2 (fun e12 => ⟨0, rfl, fun _ => ?_, fun c => absurd rfl c⟩) (fun f2 hf2 h12 => ?_) (fun hlt S1 R1 => ⟨1, rfl, fun c => absurd c (by decide), fun _ => ?_⟩)
      · simp only [nof_some hj (show j < 2 ^ 32 by omega), e12, Nat.lt_irrefl, if_false]
        exact ⟨trivial, R⟩
      · have g3 := hf2.2.2.1 (aW A j).length (by omega)
        by_cases hja : j = a
        · subst hja
          have efc : f c = f2 c := by
            have z1 := hf.2.1 c (by omega)
            have z2 := hf2.2.1 c (by omega)
            rw [z1] at z2
            simpa using z2
          rw [efc]
          exact hf2.dj (by omega) (by omega) (by omega)
        · omega
      · obtain ⟨f4, hf4⟩ := R1.w hj
        simp only [nof_some hj (show j < 2 ^ 32 by omega), hlt, if_true]
        refine p_wireOf R1.s hj ⟨_, rfl, hf4.1.1, p_wsize hf4 ⟨_, rfl, ?_, R1⟩⟩
        rw [aW_wW, up_s]
        simp
    · simp only [nof_none hno]
      exact ⟨trivial, R⟩
  · rw [e]
    exact ⟨rfl, R⟩
theorem q_forge (h : RC x S A) (w : Int32) : C0 G J_S_forge [.ref x, .int w] S (fun r S' => r = some (.int (fForge A w).1) ∧ RF x S S' (fForge A w).2) := by
  have R := RF.rf h
  have b0 : BT S (x + 1) 200 (aB A 0) := R.b (j := 0) (by omega)
  have hl := b0.2.2
  unfold fForge
  refine v_S_forge x w S _ ⟨R.s.1, x + 1, R.s.r (k := 0) (by omega), b0.1.1, p_size b0 ⟨_, rfl, p_isWire (fun j hj ej => ⟨1, rfl, fun c => absurd c (by decide), fun _ => ?_⟩) (fun hno => ⟨0, rfl, fun _ => ?_, fun c => absurd rfl c⟩)⟩⟩
  · subst ej
    rw [nof_some hj (by omega)]
    refine ⟨fun c => ?_, fun c => p_wireOf R.s hj ⟨_, rfl, ?_⟩⟩
    · have hc : (aB A 0).length < 3 := (nI_ltI (b := 3) (by omega) (by omega)).mp c
      simp only [hc, if_true]
      exact p_clearT R (fun S2 R2 => ⟨rfl, trivial, R2⟩)
    · have hc : ¬ (aB A 0).length < 3 := fun z => c ((nI_ltI (b := 3) (by omega) (by omega)).mpr z)
      refine p_sendWhole R hj b0 hl (fun e12 => ⟨0, rfl, fun _ => ?_, fun c => absurd rfl c⟩) (fun f2 hf2 h12 => ?_) (fun hlt S1 R1 => ⟨1, rfl, fun c => absurd c (by decide), fun _ => ?_⟩)
      · simp only [hc, e12, Nat.lt_irrefl, if_false]
        exact p_clearT R (fun S2 R2 => ⟨rfl, trivial, R2⟩)
      · have g3 := hf2.2.2.1 (aW A j).length (by omega)
        omega
      · simp only [hc, hlt, if_true, if_false]
        exact p_clearT R1 (fun S2 R2 => ⟨rfl, trivial, R2⟩)
  · rw [nof_none hno]
    exact p_clearT R (fun S2 R2 => ⟨rfl, rfl, R2⟩)
theorem q_answer (h : RC x S A) : C0 G J_S_answer [.ref x] S (fun r S' => r = some (.int (fAnswer A).1) ∧ RF x S S' (fAnswer A).2) := by
  have R := RF.rf h
  have b3 : BT S (x + 164) 65 (aB A 3) := R.b (j := 3) (by omega)
  have b1 : BT S (x + 3) 65 (aB A 1) := R.b (j := 1) (by omega)
  have hl := b3.2.2
  unfold fAnswer
  refine v_S_answer x S _ ⟨R.s.1, x + 164, R.s.r (k := 10) (by omega), b3.1.1, p_size b3 ⟨_, rfl, fun c => ?_, fun c => ?_⟩⟩
  · rw [if_neg (fun z => c (by rw [z]; rfl))]
    refine ⟨x + 3, R.s.r (k := 1) (by omega), b1.1.1, p_become b1.1 b3 ⟨by omega, by omega⟩ hl (fun S1 x1 c1 => ⟨rfl, p_size c1 ⟨_, rfl, rfl, R.wB x1 (i := 1) (by omega) (fun a z => Or.inr z) c1⟩⟩)⟩
  · have : (aB A 3).length = 0 := (nI_eq (b := 0) (by omega) (by omega)).mp c
    rw [if_pos (List.eq_nil_of_length_eq_zero this)]
    exact ⟨rfl, R⟩
theorem q_stored (h : RC x S A) : C0 G J_S_stored [.ref x] S (fun r S' => r = some (.int (fStored A).1) ∧ RF x S S' (fStored A).2) := by
  have R := RF.rf h
  obtain ⟨fn, fv, ht⟩ := R.t
  have htl := ht.1.2.2.2.2.2.2
  have b2 : BT S (x + 5) 16 (aB A 2) := R.b (j := 2) (by omega)
  have b1 : BT S (x + 3) 65 (aB A 1) := R.b (j := 1) (by omega)
  unfold fStored
  refine v_S_stored x S _ ⟨R.s.1, x + 76, R.s.r (k := 8) (by omega), x + 5, R.s.r (k := 2) (by omega), ht.1.1, p_find ht b2 (fun e => ⟨-1, rfl, fun c => absurd c (by decide), fun _ => ?_⟩) (fun k hk e => ⟨nI k, rfl, fun _ => ?_, fun c => absurd (nI_le (a := 0) (by omega) (by omega)) c⟩)⟩
  · rw [e]
    exact ⟨rfl, R⟩
  · rw [e]
    have v3 := ht.2.2.1 k (by omega)
    have bv := (ht.2.2.2.2.2 k hk).2
    have hv := bv.2.2
    refine ⟨x + 3, R.s.r (k := 1) (by omega), p_valueAt ht hk ⟨_, rfl, b1.1.1, p_become b1.1 bv ⟨by omega, by omega⟩ (by omega) (fun S1 x1 c1 => ⟨rfl, p_size c1 ⟨_, rfl, rfl, R.wB x1 (i := 1) (by omega) (fun a z => Or.inr z) c1⟩⟩)⟩⟩
theorem p_is {S0 S : TS} {Q : Option Value → Prop} (R : RF x S0 S A) {s : Nat} (hs : s < 2) {v : Int32} (h1 : aI A s = v → Q (some (.int 1))) (h0 : aI A s ≠ v → Q (some (.int 0))) : CP G J_Side_is [.ref (x + 174 + 45 * s), .int v] S Q := by
  have hi := iO_sid s hs
  have e := R.i (j := s) (by omega)
  rw [hi.1, hi.2.1, ← Nat.add_assoc] at e
  refine v_Side_is _ v S Q ⟨(R.sd hs).o, ?_⟩
  rw [e]
  exact ⟨h0, h1⟩
theorem RF.dnum {S0 S : TS} (R : RF x S0 S A) {s d : Nat} (hs : s < 2) (hd : d < 2) : tI S (x + 174 + 45 * s + 9 + 5 * d) 3 = aI A (4 + 2 * s + d) ∧ tI S (x + 174 + 45 * s + 9 + 5 * d) 4 = aI A (8 + 2 * s + d) ∧ tI S (x + 174 + 45 * s + 9 + 5 * d) 0 = aI A (18 + 2 * s + d) := by
  have hi := iO_dir s hs d hd
  have e1 := R.i (j := 4 + 2 * s + d) (by omega)
  have e2 := R.i (j := 8 + 2 * s + d) (by omega)
  have e3 := R.i (j := 18 + 2 * s + d) (by omega)
  rw [hi.1, hi.2.1, show x + (174 + 45 * s + 9 + 5 * d) = x + 174 + 45 * s + 9 + 5 * d by omega] at e1
  rw [hi.2.2.1, hi.2.2.2.1, show x + (174 + 45 * s + 9 + 5 * d) = x + 174 + 45 * s + 9 + 5 * d by omega] at e2
  rw [hi.2.2.2.2.1, hi.2.2.2.2.2, show x + (174 + 45 * s + 9 + 5 * d) = x + 174 + 45 * s + 9 + 5 * d by omega] at e3
  exact ⟨e1, e2, e3⟩
theorem RF.dkey {S0 S : TS} (R : RF x S0 S A) {s d : Nat} (hs : s < 2) (hd : d < 2) : BT S (x + 174 + 45 * s + 9 + 5 * d + 1) 32 (aB A (24 + 2 * s + d)) := by
  have hb := bO_dir s hs d hd
  have e1 := R.b (j := 24 + 2 * s + d) (by omega)
  rw [hb.1, hb.2, show x + (174 + 45 * s + 9 + 5 * d + 1) = x + 174 + 45 * s + 9 + 5 * d + 1 by omega] at e1
  exact e1
theorem RF.sn {S0 S : TS} (R : RF x S0 S A) {s : Nat} (hs : s < 2) : tI S (x + 174 + 45 * s) 11 = aI A s ∧ tI S (x + 174 + 45 * s) 12 = aI A (2 + s) ∧ tI S (x + 174 + 45 * s) 1 = aI A (14 + s) ∧ tI S (x + 174 + 45 * s) 0 = aI A (16 + s) := by
  have hi := iO_sid s hs
  have e1 := R.i (j := s) (by omega)
  have e2 := R.i (j := 2 + s) (by omega)
  have e3 := R.i (j := 14 + s) (by omega)
  have e4 := R.i (j := 16 + s) (by omega)
  rw [hi.1, hi.2.1, ← Nat.add_assoc] at e1
  rw [hi.2.2.1, hi.2.2.2.1, ← Nat.add_assoc] at e2
  rw [hi.2.2.2.2.1, hi.2.2.2.2.2.1, ← Nat.add_assoc] at e3
  rw [hi.2.2.2.2.2.2.1, hi.2.2.2.2.2.2.2, ← Nat.add_assoc] at e4
  exact ⟨e1, e2, e3, e4⟩
theorem q_look (h : RC x S A) (s w : Int32) : CP G J_S_look [.ref x, .int s, .int w] S (fun r => r = some (.int (fLook A s w))) := by
  have R := RF.rf h
  unfold fLook
  refine v_S_look x s w S _ (p_isSide (fun j hj ej => ⟨1, rfl, fun _ => ⟨R.s.1, ?_⟩, fun c => absurd c (by decide)⟩) (fun hno => ⟨0, rfl, fun c => absurd rfl c, fun _ => ?_⟩))
  · subst ej
    simp only [nof_some hj (show j < 2 ^ 32 by omega)]
    have sd := R.sd hj
    have sn := R.sn hj
    refine p_sideOf R.s hj ⟨_, rfl, sd.o, ?_⟩
    have dirs : ∀ (d : Nat) (hd : d < 2), CP G J_Side_direction [.ref (x + 174 + 45 * j), .int (nI d)] S (fun r => ∃ b7 : Nat, r = some (.ref b7) ∧ te S b7 = some (.inr 1) ∧ CP G J_Direction_number [.ref b7] S (fun r => ∃ r9 : Int32, r = some (.int r9) ∧ some (Value.int r9) = some (Value.int (aI A (4 + 2 * j + d))))) := by
      intro d hd
      exact p_dir sd hd ⟨_, rfl, (sd.di hd).1, p_dnum (sd.di hd) ⟨_, rfl, by rw [(R.dnum hj hd).1]⟩⟩
    have gens : ∀ (d : Nat) (hd : d < 2), CP G J_Side_direction [.ref (x + 174 + 45 * j), .int (nI d)] S (fun r => ∃ b7 : Nat, r = some (.ref b7) ∧ te S b7 = some (.inr 1) ∧ CP G J_Direction_generation [.ref b7] S (fun r => ∃ r9 : Int32, r = some (.int r9) ∧ some (Value.int r9) = some (Value.int (aI A (8 + 2 * j + d))))) := by
      intro d hd
      exact p_dir sd hd ⟨_, rfl, (sd.di hd).1, p_dgen (sd.di hd) ⟨_, rfl, by rw [(R.dnum hj hd).2.1]⟩⟩
    refine p_is R hj (fun e => ⟨1, rfl, ?_⟩) (fun e => ⟨0, rfl, ?_⟩)
    · refine ⟨fun c => v_Side_state _ S _ ⟨sd.o, _, rfl, by rw [sn.1, if_pos c]⟩,
      fun c => ⟨fun c5 => absurd c5 (by decide), fun _ => by subst c; have k := dirs 0 (by omega); rw [show nI 0 = (0 : Int32) from rfl] at k; simpa [e] using k⟩,
      fun c => ⟨fun c5 => absurd c5 (by decide), fun _ => by subst c; have k := dirs 1 (by omega); rw [show nI 1 = (1 : Int32) from rfl] at k; simpa [e] using k⟩,
      fun c => ⟨fun c5 => absurd c5 (by decide), fun _ => by subst c; have k := gens 0 (by omega); rw [show nI 0 = (0 : Int32) from rfl] at k; simpa [e] using k⟩,
      fun c => ⟨fun c5 => absurd c5 (by decide), fun _ => by subst c; have k := gens 1 (by omega); rw [show nI 1 = (1 : Int32) from rfl] at k; simpa [e] using k⟩,
      fun c => p_keysHeld sd (fun k hk => R.key hj hk) ⟨_, rfl, by rw [c]; rfl⟩,
      fun c => v_Side_randomsMade _ S _ ⟨sd.o, _, rfl, by rw [sn.2.1, c]; rfl⟩,
      fun c0 c1 c2 c3 c4 c5 c6 => by rw [if_neg c0, if_neg c1, if_neg c2, if_neg c3, if_neg c4, if_neg c5, if_neg c6]⟩
    · refine ⟨fun c => v_Side_state _ S _ ⟨sd.o, _, rfl, by rw [sn.1, if_pos c]⟩,
      fun c => ⟨fun _ => by subst c; simp [e], fun c5 => absurd rfl c5⟩,
      fun c => ⟨fun _ => by subst c; simp [e], fun c5 => absurd rfl c5⟩,
      fun c => ⟨fun _ => by subst c; simp [e], fun c5 => absurd rfl c5⟩,
      fun c => ⟨fun _ => by subst c; simp [e], fun c5 => absurd rfl c5⟩,
      fun c => p_keysHeld sd (fun k hk => R.key hj hk) ⟨_, rfl, by rw [c]; rfl⟩,
      fun c => v_Side_randomsMade _ S _ ⟨sd.o, _, rfl, by rw [sn.2.1, c]; rfl⟩,
      fun c0 c1 c2 c3 c4 c5 c6 => by rw [if_neg c0, if_neg c1, if_neg c2, if_neg c3, if_neg c4, if_neg c5, if_neg c6]⟩
  · rw [nof_none hno]
theorem q_count (h : RC x S A) (w : Int32) : CP G J_S_count [.ref x, .int w] S (fun r => r = some (.int (fCount A w))) := by
  have R := RF.rf h
  obtain ⟨fn, fv, ht⟩ := R.t
  obtain ⟨f0, hf0⟩ := R.w0
  obtain ⟨f1, hf1⟩ := R.w1
  have i12 : tI S x 15 = aI A 12 := R.i (j := 12) (by omega)
  have i13 : tI S x 16 = aI A 13 := R.i (j := 13) (by omega)
  unfold fCount
  refine v_S_count x w S _ ⟨fun c => ⟨R.s.1, x + 76, R.s.r (k := 8) (by omega), ht.1.1, p_ssize ht ⟨_, rfl, by rw [if_pos c]⟩⟩, fun c => ⟨R.s.1, by rw [i12, c]; rfl⟩, fun c => ⟨R.s.1, by rw [i13, c]; rfl⟩, fun c => ⟨R.s.1, x + 20, R.s.r (k := 6) (by omega), hf0.1.1, p_wsize hf0 ⟨_, rfl, by rw [c]; rfl⟩⟩, fun c => ⟨R.s.1, x + 48, R.s.r (k := 7) (by omega), hf1.1.1, p_wsize hf1 ⟨_, rfl, by rw [c]; rfl⟩⟩, fun c0 c1 c2 c3 c4 => by rw [if_neg c0, if_neg c1, if_neg c2, if_neg c3, if_neg c4]⟩
end QC2
