/-! PURE: the class's calls that make records -/
def rnd (A : AS) (s : Nat) : List B8 := sha (rtx (aI A (16 + s)) (aI A (14 + s)) (aI A (2 + s)))
def hd3 (t n : Int32) : List B8 := [b8 t, b8 (ushr n 8), b8 n]
theorem rnd_len (A : AS) (s : Nat) : (rnd A s).length = 32 := sha_len _
def gtg (A : AS) (k : Nat) : List B8 := rnd A 0 ++ [b8 (nI k)]
def fGreet (A : AS) (k : Int32) : Int32 × AS := match nof 8 k with
  | none => (-1, A)
  | some k => if aB A (4 + k) = [] then (-2, A) else if aI A 0 ≠ 0 then (-5, A) else if (aW A 0).length = 12 then (-3, A) else
      (0, wI (wW (wB (wI A 2 (aI A 2 + 1)) 20 (gtg A k)) 0 (aW A 0 ++ [hd3 1 33 ++ gtg A k])) 0 1)
/-- a record sealed by side s in direction d on wire w -/
def aSeal (A : AS) (s d w : Nat) (p : List B8) : AS := wW (wI A (4 + 2 * s + d) (aI A (4 + 2 * s + d) + 1)) w (aW A w ++ [sealR (aB A (24 + 2 * s + d)) (aI A (4 + 2 * s + d)) p])
/-- the next key of direction d as side s has it -/
def aNew (A : AS) (s d : Nat) : AS := wB (wI (wI A (4 + 2 * s + d) 0) (8 + 2 * s + d) (aI A (8 + 2 * s + d) + 1)) (24 + 2 * s + d) (mac (aB A (24 + 2 * s + d)) (ktx (aI A (18 + 2 * s + d)) (aI A (8 + 2 * s + d) + 1)))
def fRequest (A : AS) (o : Int32) : Int32 × AS := match nof 5 o with
  | none => (-1, wB A 0 [])
  | some o => if (aB A 0).length ≤ qmx o then (if aI A 0 ≠ 2 then (-5, wB A 0 []) else if (aW A 0).length = 12 then (-3, wB A 0 []) else
      (0, wB (aSeal A 0 0 0 ([0, b8 (nI o), b8 (nI (aB A 2).length)] ++ aB A 2 ++ aB A 0)) 0 [])) else (-1, wB A 0 [])
def fBare (A : AS) (s : Int32) (kind : Int32) : Int32 × AS := match nof 2 s with
  | none => (-1, A)
  | some s => if aI A s ≠ 2 then (-5, A) else if (aW A s).length = 12 then (-3, A) else (0, aSeal A s s s [b8 kind])
def fRenew (A : AS) (s : Int32) : Int32 × AS := match nof 2 s with
  | none => (-1, A)
  | some s => if aI A s ≠ 2 then (-5, A) else if (aW A s).length = 12 then (-3, A) else (0, aNew (aSeal A s s s [1]) s s)
def fClose (A : AS) (s : Int32) : Int32 × AS := match nof 2 s with
  | none => (-1, A)
  | some s => if aI A s ≠ 2 then (-5, A) else if (aW A s).length = 12 then (-3, A) else (0, wI (aSeal A s s s [2]) s 3)
/-- what holds between two calls, apart from the places -/
def AOK (A : AS) : Prop :=
  (∀ s, s < 2 → aI A s = 2 → ∀ d, d < 2 → (aB A (24 + 2 * s + d)).length = 32) ∧
  (∀ j, j < 16 → aB A (4 + j) = [] ∨ (aB A (4 + j)).length = 32) ∧
  (aI A 0 = 1 → (aB A 20).length = 33 ∧ ((aB A 20).getD 32 0).toNat < 8) ∧
  (aI A 1 = 1 → (aB A 21).length = 32 ∧ (aB A 22).length = 32 ∧ (aB A 23).length = 32) ∧
  (aI A 16 = 0 ∧ aI A 17 = 1 ∧ aI A 14 = aI A 15 ∧ aI A 18 = 0 ∧ aI A 19 = 1 ∧ aI A 20 = 0 ∧ aI A 21 = 1) ∧
  (1 ≤ (aB A 2).length ∧ (aB A 2).length ≤ 16) ∧ (∀ s, s < 2 → ∃ n, n < 5 ∧ aI A s = nI n) ∧
  (∀ w, w < 2 → (aW A w).length ≤ 12 ∧ ∀ l ∈ aW A w, 3 ≤ l.length ∧ l.length ≤ 200) ∧
  ((aT A).length ≤ 20 ∧ ∀ e ∈ aT A, 1 ≤ e.1.length ∧ e.1.length ≤ 16 ∧ e.2.length ≤ 64) ∧ (aB A 0).length ≤ 200 ∧ (aB A 3).length ≤ 65 ∧ (aB A 1).length ≤ 65
section QS
variable {G : pG} {x : Nat} {S0 S : TS} {A : AS} {Q : Option Value → TS → Prop}
theorem p_random6 {t : Nat → Nat} (hG : GS G t) (R : RF x S0 S A) {s : Nat} (hs : s < 2) (hQ : ∀ S', RF x S0 S' (wI A (2 + s) (aI A (2 + s) + 1)) → BT S' (x + 168) 32 (rnd A s) → Q none S') : C0 G J_Side_makeRandom [.ref (x + 174 + 45 * s), .ref (x + 168)] S Q := by
  have hi := iO_sid s hs
  have sn := R.sn hs
  refine p_makeRandom hG (R.sd hs) R.s.2.2.2.2.2.2.2.1 (by omega) (fun S1 x1 b1 i1 => hQ S1 ?_ ?_)
  · refine R.wI x1 (i := 2 + s) (by omega) (fun a z => ?_) ?_ (iF_dj (2 + s) (by omega))
    · rw [hi.2.2.1]
      simp only [hP, bP] at z
      unfold scr
      omega
    · rw [hi.2.2.1, hi.2.2.2.1, ← Nat.add_assoc, i1, sn.2.1]
  · rw [sn.2.1, sn.2.2.1, sn.2.2.2] at b1
    exact b1
/-- a record made of a head and one row, on wire w -/
theorem q_greet {t : Nat → Nat} (hG : GS G t) (h : RC x S A) (k : Int32) : C0 G J_S_greet [.ref x, .int k] S (fun r S' => r = some (.int (fGreet A k).1) ∧ RF x S S' (fGreet A k).2) := by
  have R := RF.rf h
  unfold fGreet
  refine v_S_greet x k S _ (p_isKey (fun i hi ei => ⟨1, rfl, fun _ => ?_, fun c => absurd c (by decide)⟩) (fun hno => ⟨0, rfl, fun c => absurd rfl c, fun _ => ?_⟩))
  · subst ei
    simp only [nof_some hi (show i < 2 ^ 32 by omega)]
    have sd := R.sd (s := 0) (by omega)
    have kb := R.key (s := 0) (by omega) hi
    rw [show 4 + 8 * 0 + i = 4 + i by omega] at kb
    obtain ⟨f, hf⟩ := R.w0
    refine ⟨R.s.1, x + 174, R.s.r (k := 4) (by omega), sd.o, p_hasKey sd hi kb (fun hne => ⟨1, rfl, fun _ => ?_, fun c => absurd c (by decide)⟩) (fun he => ⟨0, rfl, fun c => absurd rfl c, fun _ => ?_⟩)⟩
    · rw [if_neg hne]
      refine p_is R (s := 0) (by omega) (fun e => ⟨1, rfl, fun _ => ?_, fun c => absurd c (by decide)⟩) (fun e => ⟨0, rfl, fun c => absurd rfl c, fun _ => ?_⟩)
      · rw [if_neg (fun z => z e)]
        refine ⟨x + 20, R.s.r (k := 6) (by omega), hf.1.1, p_wfull hf (fun e12 => ⟨1, rfl, fun c => absurd c (by decide), fun _ => ?_⟩) (fun hlt => ⟨0, rfl, fun _ => ⟨x + 168, R.s.r (k := 12) (by omega), ?_⟩, fun c => absurd rfl c⟩)⟩
        · rw [if_pos e12]
          exact ⟨rfl, R⟩
        · rw [if_neg (by omega)]
          refine p_random6 hG R (s := 0) (by omega) (fun S1 R1 b1 => ⟨rfl, ?_⟩)
          refine p_keepGreeting (R1.sd (s := 0) (by omega)) b1 (rnd_len A 0) (by omega) (fun S2 x2 b2 => ⟨rfl, ?_⟩)
          have R2 : RF x S S2 (wB (wI A 2 (aI A 2 + 1)) 20 (gtg A i)) := R1.wB x2 (i := 20) (by omega) (fun a z => Or.inr z) b2
          obtain ⟨f2, hf2⟩ := R2.w0
          have g2 := hf2.2.2.1 (aW A 0).length (by omega)
          have hgl : (gtg A i).length = 33 := by unfold gtg; rw [List.length_append, rnd_len]; rfl
          refine p_draft hf2 (fun S3 x3 b3 => ⟨_, rfl, b3.1.1, p_putHead b3 (by simp) (fun S4 x4 b4 => ⟨rfl, ?_⟩)⟩)
          have R4 : RF x S S4 (wB (wI A 2 (aI A 2 + 1)) 20 (gtg A i)) := by
            have w4 := hf2.ex (x3.tr x4) (fun a _ _ z => z)
            have := R2.wW (x3.tr x4) (w := 0) (by omega) (fun a z => Or.inr (by simp only [bP] at z; have g2' := g2; simp only [aW_wB, aW_wI] at z; omega)) ⟨f2, w4⟩
            have e0 : wW (wB (wI A 2 (aI A 2 + 1)) 20 (gtg A i)) 0 (aW (wB (wI A 2 (aI A 2 + 1)) 20 (gtg A i)) 0) = wB (wI A 2 (aI A 2 + 1)) 20 (gtg A i) := by
              unfold wW
              have : va_up (wB (wI A 2 (aI A 2 + 1)) 20 (gtg A i)).2.2.1 0 (aW (wB (wI A 2 (aI A 2 + 1)) 20 (gtg A i)) 0) = (wB (wI A 2 (aI A 2 + 1)) 20 (gtg A i)).2.2.1 := by
                funext j
                by_cases hj : j = 0
                · subst hj; rw [up_s]; rfl
                · rw [up_n _ _ hj]
              rw [this]
            rw [e0] at this
            exact this
          have sd4 := R4.sd (s := 0) (by omega)
          have b20 : BT S4 (x + 193) 33 (gtg A i) := R4.b (j := 20) (by omega)
          refine v_Side_greeting _ S4 _ ⟨sd4.o, x + 193, sd4.gr.1, _, rfl, ?_⟩
          refine p_putAll b4 b20 (by rw [hgl]; simp) (fun S5 x5 b5 => ⟨rfl, ?_⟩)
          have w5 := (hf2.ex (x3.tr x4) (fun a _ _ z => z)).ex x5 (fun a _ _ z => z)
          have b5' : BT S5 (f2 (aW A 0).length) 200 (hd3 1 33 ++ gtg A i) := b5
          refine p_send w5 hlt b5' (fun S6 x6 w6 => ⟨rfl, ?_⟩)
          have R6 : RF x S S6 (wW (wB (wI A 2 (aI A 2 + 1)) 20 (gtg A i)) 0 (aW A 0 ++ [hd3 1 33 ++ gtg A i])) := by
            refine R4.wW ((x5.mono (fun a z => Or.inl z)).tr (x6.mono (fun a z => Or.inr z))) (w := 0) (by omega) (fun a z => Or.inr ?_) ⟨f2, w6⟩
            simp only [bP, aW_wB, aW_wI] at z
            omega
          exact p_become6 R6 (s := 0) (by omega) 1 (fun S7 R7 => ⟨rfl, rfl, R7⟩)
      · rw [if_pos e]
        exact ⟨rfl, R⟩
    · rw [if_pos he]
      exact ⟨rfl, R⟩
  · simp only [nof_none hno]
    exact ⟨trivial, R⟩
theorem p_seal6 {t : Nat → Nat} (hG : GS G t) (R : RF x S0 S A) {s d w : Nat} (hs : s < 2) (hd : d < 2) (hw : w < 2) {p : List B8} (hp : BT S (x + 166) 200 p) (hpl : p.length ≤ 181) (hk : (aB A (24 + 2 * s + d)).length = 32) (hl : (aW A w).length < 12)
    (hQ : ∀ S', RF x S0 S' (aSeal A s d w p) → Q none S') : C0 G J_Sealer_seal [.ref (x + 7), .ref (x + 174 + 45 * s + 9 + 5 * d), .ref (x + 166), .ref (x + 20 + 28 * w)] S Q := by
  obtain ⟨f, hf⟩ := R.w hw
  have f3 := hf.2.2.1 (aW A w).length (by omega)
  have dn := R.dnum hs hd
  have io := iO_dir s hs d hd
  refine p_seal hG R.s.2.2.1 ((R.sd hs).di hd) (R.dkey hs hd) hk hp hpl hf hl (by omega) (by omega) (by omega) (by omega) (by omega) (fun S1 x1 w1 i1 => hQ S1 ?_)
  rw [dn.1] at i1 w1
  refine R.gen x1 (fun a => a = x + 174 + 45 * s + 9 + 5 * d ∨ (x + 20 + 28 * w ≤ a ∧ a < x + 48 + 28 * w)) (fun a z => ?_) (fun a z => by unfold inr; omega) (fun j hj => Or.inr ⟨rfl, ?_, ?_⟩) (fun j hj => ?_) ?_ ?_ ⟨rfl, fun a h1 h2 z => by omega⟩
  · simp only [zP, bP] at z
    unfold scr
    omega
  · have := bO_ok j hj; have := bO_dj j hj; have e2 := bO_dir s hs d hd
    rcases (show s = 0 ∨ s = 1 by omega) with rfl | rfl <;> rcases (show d = 0 ∨ d = 1 by omega) with rfl | rfl <;> omega
  · have := bO_ok j hj
    rcases (show s = 0 ∨ s = 1 by omega) with rfl | rfl <;> rcases (show d = 0 ∨ d = 1 by omega) with rfl | rfl <;> omega
  · unfold aSeal
    rw [aI_wW, aI_wI]
    have e0 := R.i hj
    by_cases hji : j = 4 + 2 * s + d
    · subst hji
      rw [up_s, io.1, io.2.1, show x + (174 + 45 * s + 9 + 5 * d) = x + 174 + 45 * s + 9 + 5 * d by omega, i1, pk_us]
      exact Or.inl rfl
    · rw [up_n _ _ hji]
      by_cases ho : iO j = 174 + 45 * s + 9 + 5 * d
      · refine Or.inl ?_
        have hne := iF_dj (4 + 2 * s + d) (by omega) j hj hji (by rw [ho, io.1])
        rw [io.2.1] at hne
        rw [ho, show x + (174 + 45 * s + 9 + 5 * d) = x + 174 + 45 * s + 9 + 5 * d by omega] at e0 ⊢
        rw [i1, pk_un hne]
        exact e0
      · have := iO_ok j hj
        exact Or.inr ⟨rfl, by omega⟩
  · unfold aSeal
    rw [aW_wW]
    by_cases h0 : w = 0
    · subst h0
      rw [up_s]; exact Or.inl ⟨f, w1⟩
    · rw [up_n _ _ (Ne.symm h0)]
      exact Or.inr ⟨rfl, fun a h1 h2 z => by omega⟩
  · unfold aSeal
    rw [aW_wW]
    by_cases h0 : w = 1
    · subst h0
      rw [up_s]; exact Or.inl ⟨f, w1⟩
    · rw [up_n _ _ (Ne.symm h0)]
      exact Or.inr ⟨rfl, fun a h1 h2 z => by omega⟩
theorem p_anew6 {t : Nat → Nat} (hG : GS G t) (R : RF x S0 S A) {s d : Nat} (hs : s < 2) (hd : d < 2) (hQ : ∀ S', RF x S0 S' (aNew A s d) → Q none S') : C0 G J_Side_makeKeyAnew [.ref (x + 174 + 45 * s), .int (nI d)] S Q := by
  have dn := R.dnum hs hd
  have io := iO_dir s hs d hd
  have ob := bO_dir s hs d hd
  refine p_anew hG (R.sd hs) hd (R.dkey hs hd) (fun S1 x1 b1 c0 c3 c4 => hQ S1 ?_)
  rw [dn.2.1, dn.2.2] at b1
  rw [dn.2.2] at c0
  rw [dn.2.1] at c4
  have hsd : (s = 0 ∨ s = 1) ∧ (d = 0 ∨ d = 1) := by omega
  refine R.gen x1 (fun a => gP (x + 174 + 45 * s + 9 + 5 * d) a ∧ a < x + 174 + 45 * s + 9 + 5 * d + 3) (fun a z => ?_) (fun a z => by simp only [gP] at z; unfold inr; omega) (fun j hj => ?_) (fun j hj => ?_) (Or.inr ⟨rfl, fun a h1 h2 z => by simp only [gP] at z; omega⟩) (Or.inr ⟨rfl, fun a h1 h2 z => by simp only [gP] at z; omega⟩) ⟨rfl, fun a h1 h2 z => by simp only [gP] at z; omega⟩
  · simp only [gP, hP] at z
    simp only [gP]
    unfold scr
    rcases hsd with ⟨rfl | rfl, rfl | rfl⟩ <;> omega
  · unfold aNew
    rw [aB_wB]
    by_cases hji : j = 24 + 2 * s + d
    · subst hji
      rw [up_s, ob.1, ob.2, show x + (174 + 45 * s + 9 + 5 * d + 1) = x + 174 + 45 * s + 9 + 5 * d + 1 by omega]
      exact Or.inl b1
    · rw [up_n _ _ hji]
      have ok := bO_ok j hj
      have dj := bO_dj j hj (24 + 2 * s + d) (by omega) hji
      rw [ob.1] at dj
      refine Or.inr ⟨rfl, ?_, ?_⟩
      · simp only [gP]; rcases hsd with ⟨rfl | rfl, rfl | rfl⟩ <;> omega
      · simp only [gP]; rcases hsd with ⟨rfl | rfl, rfl | rfl⟩ <;> omega
  · unfold aNew
    rw [aI_wB, aI_wI, aI_wI]
    by_cases hj8 : j = 8 + 2 * s + d
    · subst hj8
      rw [up_s, io.2.2.1, io.2.2.2.1, show x + (174 + 45 * s + 9 + 5 * d) = x + 174 + 45 * s + 9 + 5 * d by omega]
      exact Or.inl c4
    · rw [up_n _ _ hj8]
      by_cases hj4 : j = 4 + 2 * s + d
      · subst hj4
        rw [up_s, io.1, io.2.1, show x + (174 + 45 * s + 9 + 5 * d) = x + 174 + 45 * s + 9 + 5 * d by omega]
        exact Or.inl c3
      · rw [up_n _ _ hj4]
        by_cases hj18 : j = 18 + 2 * s + d
        · subst hj18
          rw [io.2.2.2.2.1, io.2.2.2.2.2, show x + (174 + 45 * s + 9 + 5 * d) = x + 174 + 45 * s + 9 + 5 * d by omega]
          exact Or.inl c0
        · refine Or.inr ⟨rfl, ?_⟩
          have hx : ∀ s, s < 2 → ∀ d, d < 2 → ∀ j, j < 22 → iO j = 174 + 45 * s + 9 + 5 * d → j = 8 + 2 * s + d ∨ j = 4 + 2 * s + d ∨ j = 18 + 2 * s + d := by decide
          have h1 : iO j ≠ 174 + 45 * s + 9 + 5 * d := fun z => by have := hx s hs d hd j hj z; omega
          have ok := iO_ok j hj
          simp only [gP]
          rcases hsd with ⟨rfl | rfl, rfl | rfl⟩ <;> omega
theorem RF.pl (R : RF x S0 S A) : BS S (x + 166) 200 := R.s.2.2.2.2.2.2.1
theorem p_bare6 {t : Nat → Nat} (hG : GS G t) (R : RF x S0 S A) (ok : AOK A) {s : Nat} (hs : s < 2) (kind : Int32) (hQ : ∀ r S', (aI A s ≠ 2 → r = -5 ∧ RF x S0 S' A) → (aI A s = 2 → (aW A s).length = 12 → r = -3 ∧ RF x S0 S' A) → (aI A s = 2 → (aW A s).length < 12 → r = 0 ∧ RF x S0 S' (aSeal A s s s [b8 kind])) → Q (some (.int r)) S') : C0 G J_S_sendBare [.ref x, .int (nI s), .int kind] S Q := by
  refine v_S_sendBare x (nI s) kind S _ (p_isSide (fun i hi ei => ⟨1, rfl, fun _ => ?_, fun c => absurd c (by decide)⟩) (fun hno => absurd rfl (hno s hs)))
  obtain ⟨f, hf⟩ := R.w hs
  refine ⟨R.s.1, p_sideOf R.s hs ⟨_, rfl, p_wireOf R.s hs ⟨_, rfl, (R.sd hs).o, p_is R hs (fun e => ⟨1, rfl, fun _ => ?_, fun c => absurd c (by decide)⟩) (fun e => ⟨0, rfl, fun c => absurd rfl c, fun _ => ?_⟩)⟩⟩⟩
  · refine ⟨hf.1.1, p_wfull hf (fun e12 => ⟨1, rfl, fun c => absurd c (by decide), fun _ => ?_⟩) (fun hlt => ⟨0, rfl, fun _ => ⟨x + 166, R.s.r (k := 11) (by omega), R.pl.1, ?_⟩, fun c => absurd rfl c⟩)⟩
    · exact hQ _ _ (fun z => absurd e z) (fun _ _ => ⟨rfl, R⟩) (fun _ z => by omega)
    · refine p_clear R.pl (fun S1 x1 b1 => ⟨rfl, p_put b1 (by simp) (fun S2 x2 b2 => ⟨rfl, ?_⟩)⟩)
      have R2 : RF x S0 S2 A := R.sc (x1.tr x2) (fun a z => by simp only [bP] at z; unfold scr; omega)
      have b2' : BT S2 (x + 166) 200 [b8 kind] := b2
      refine ⟨x + 7, R2.s.r (k := 3) (by omega), p_dir (R2.sd hs) hs ⟨_, rfl, R2.s.2.2.1.1, ?_⟩⟩
      exact p_seal6 hG R2 hs hs hs b2' (by simp) (ok.1 s hs e s hs) hlt (fun S3 R3 => ⟨rfl, hQ _ _ (fun z => absurd e z) (fun _ z => by omega) (fun _ _ => ⟨rfl, R3⟩)⟩)
  · exact hQ _ _ (fun _ => ⟨rfl, R⟩) (fun z => absurd z e) (fun z => absurd z e)
theorem p_bareX {Q : Option Value → TS → Prop} {s kind : Int32} (hs : ∀ j, j < 2 → s ≠ nI j) (hQ : Q (some (.int (-1))) S) : C0 G J_S_sendBare [.ref x, .int s, .int kind] S Q :=
  v_S_sendBare x s kind S _ (p_isSide (fun i hi ei => absurd ei (hs i hi)) (fun _ => ⟨0, rfl, fun c => absurd rfl c, fun _ => hQ⟩))
theorem dec2 (n : Nat) (s : Int32) : (∃ j, j < n ∧ s = nI j) ∨ (∀ j, j < n → s ≠ nI j) := by
  by_cases h : ∃ j, j < n ∧ s = nI j
  · exact Or.inl h
  · exact Or.inr (fun j hj e => h ⟨j, hj, e⟩)
theorem q_renew {t : Nat → Nat} (hG : GS G t) (h : RC x S A) (ok : AOK A) (s : Int32) : C0 G J_S_renew [.ref x, .int s] S (fun r S' => r = some (.int (fRenew A s).1) ∧ RF x S S' (fRenew A s).2) := by
  have R := RF.rf h
  unfold fRenew
  refine v_S_renew x s S _ ⟨R.s.1, ?_⟩
  rcases dec2 2 s with ⟨j, hj, rfl⟩ | hno
  · simp only [nof_some hj (show j < 2 ^ 32 by omega)]
    refine p_bare6 hG R ok hj 1 (fun r S1 h1 h2 h3 => ⟨r, rfl, ?_⟩)
    by_cases e : aI A j = 2
    · rw [if_neg (fun z => z e)]
      by_cases e12 : (aW A j).length = 12
      · obtain ⟨rfl, R1⟩ := h2 e e12
        rw [if_pos e12]
        exact ⟨fun _ => ⟨rfl, R1⟩, fun c => absurd c (by decide)⟩
      · have := ok.2.2.2.2.2.2.2.1 j hj
        obtain ⟨rfl, R1⟩ := h3 e (by omega)
        rw [if_neg e12]
        refine ⟨fun c => absurd rfl c, fun _ => p_sideOf R1.s hj ⟨_, rfl, (R1.sd hj).o, p_anew6 hG R1 hj hj (fun S2 R2 => ⟨rfl, rfl, R2⟩)⟩⟩
    · obtain ⟨rfl, R1⟩ := h1 e
      rw [if_pos e]
      exact ⟨fun _ => ⟨rfl, R1⟩, fun c => absurd c (by decide)⟩
  · simp only [nof_none hno]
    exact p_bareX hno ⟨-1, rfl, fun _ => ⟨rfl, R⟩, fun c => absurd c (by decide)⟩
theorem q_close {t : Nat → Nat} (hG : GS G t) (h : RC x S A) (ok : AOK A) (s : Int32) : C0 G J_S_close [.ref x, .int s] S (fun r S' => r = some (.int (fClose A s).1) ∧ RF x S S' (fClose A s).2) := by
  have R := RF.rf h
  unfold fClose
  refine v_S_close x s S _ ⟨R.s.1, ?_⟩
  rcases dec2 2 s with ⟨j, hj, rfl⟩ | hno
  · simp only [nof_some hj (show j < 2 ^ 32 by omega)]
    refine p_bare6 hG R ok hj 2 (fun r S1 h1 h2 h3 => ⟨r, rfl, ?_⟩)
    by_cases e : aI A j = 2
    · rw [if_neg (fun z => z e)]
      by_cases e12 : (aW A j).length = 12
      · obtain ⟨rfl, R1⟩ := h2 e e12
        rw [if_pos e12]
        exact ⟨fun _ => ⟨rfl, R1⟩, fun c => absurd c (by decide)⟩
      · have := ok.2.2.2.2.2.2.2.1 j hj
        obtain ⟨rfl, R1⟩ := h3 e (by omega)
        rw [if_neg e12]
        refine ⟨fun c => absurd rfl c, fun _ => p_sideOf R1.s hj ⟨_, rfl, (R1.sd hj).o, p_become6 R1 hj 3 (fun S2 R2 => ⟨rfl, rfl, R2⟩)⟩⟩
    · obtain ⟨rfl, R1⟩ := h1 e
      rw [if_pos e]
      exact ⟨fun _ => ⟨rfl, R1⟩, fun c => absurd c (by decide)⟩
  · simp only [nof_none hno]
    exact p_bareX hno ⟨-1, rfl, fun _ => ⟨rfl, R⟩, fun c => absurd c (by decide)⟩
theorem q_request {t : Nat → Nat} (hG : GS G t) (h : RC x S A) (ok : AOK A) (o : Int32) : C0 G J_S_request [.ref x, .int o] S (fun r S' => r = some (.int (fRequest A o).1) ∧ RF x S S' (fRequest A o).2) := by
  have R := RF.rf h
  have b0 : BT S (x + 1) 200 (aB A 0) := R.b (j := 0) (by omega)
  have hl := b0.2.2
  unfold fRequest
  refine v_S_request x o S _ ⟨R.s.1, ?_⟩
  have fin : ∀ {S1 : TS} {A1 : AS} (r : Int32), RF x S S1 A1 → (∀ S2, RF x S S2 (wB A1 0 []) → some (Value.int r) = some (.int (fRequest A o).1) ∧ RF x S S2 (fRequest A o).2) → ∃ r3 : Int32, some (Value.int r) = some (.int r3) ∧ ∃ b4 : Nat, tR S1 x 0 = some b4 ∧ te S1 b4 = some (.inr 0) ∧ C0 G J_Bytes_clear [.ref b4] S1 (fun rr S7 => rr = none ∧ some (Value.int r3) = some (.int (fRequest A o).1) ∧ RF x S S7 (fRequest A o).2) :=
    fun r R1 hh => ⟨r, rfl, x + 1, R1.s.r (k := 0) (by omega), (R1.b (j := 0) (by omega)).1.1, p_clearT R1 (fun S2 R2 => ⟨rfl, hh S2 R2⟩)⟩
  unfold fRequest at fin
  rcases dec2 5 o with ⟨j, hj, rfl⟩ | hno
  · simp only [nof_some hj (show j < 2 ^ 32 by omega)] at fin ⊢
    have hq : qmx j ≤ 64 := by unfold qmx; split <;> omega
    refine v_S_sendRequest x _ S _ (p_isOp (fun i hi ei => ⟨1, rfl, fun c => absurd c (by decide), fun _ => ?_⟩) (fun hno => absurd rfl (hno j hj)))
    refine ⟨R.s.1, x + 1, R.s.r (k := 0) (by omega), b0.1.1, p_size b0 ⟨_, rfl, p_most hj ⟨_, rfl, fun c => ?_, fun c => ?_⟩⟩⟩
    · have hc : (aB A 0).length ≤ qmx j := (nI_leI (by omega) (by omega)).mp c
      rw [if_pos hc] at fin ⊢
      have sd := R.sd (s := 0) (by omega)
      obtain ⟨f, hf⟩ := R.w0
      refine ⟨x + 174, R.s.r (k := 4) (by omega), sd.o, p_is R (s := 0) (by omega) (fun e => ⟨1, rfl, fun _ => ?_, fun c => absurd c (by decide)⟩) (fun e => ⟨0, rfl, fun c => absurd rfl c, fun _ => ?_⟩)⟩
      · rw [if_neg (fun z => z e)] at fin ⊢
        refine ⟨x + 20, R.s.r (k := 6) (by omega), hf.1.1, p_wfull hf (fun e12 => ⟨1, rfl, fun c => absurd c (by decide), fun _ => ?_⟩) (fun hlt => ⟨0, rfl, fun _ => ⟨x + 166, R.s.r (k := 11) (by omega), R.pl.1, ?_⟩, fun c => absurd rfl c⟩)⟩
        · rw [if_pos e12] at fin ⊢
          exact fin _ R (fun S2 R2 => ⟨rfl, R2⟩)
        · rw [if_neg (by omega)] at fin ⊢
          have hn := ok.2.2.2.2.2.1
          refine p_clear R.pl (fun S1 x1 b1 => ⟨rfl, p_put b1 (by simp) (fun S2 x2 b2 => ⟨rfl, p_put b2 (by simp) (fun S3 x3 b3 => ⟨rfl, ?_⟩)⟩)⟩)
          have scp : ∀ a, bP (x + 166) a → scr x a := fun a z => by simp only [bP] at z; unfold scr; omega
          have R3 : RF x S S3 A := R.sc ((x1.tr x2).tr x3) scp
          have n3 : BT S3 (x + 5) 16 (aB A 2) := R3.b (j := 2) (by omega)
          refine ⟨x + 5, R3.s.r (k := 2) (by omega), n3.1.1, p_size n3 ⟨_, rfl, p_put b3 (by simp) (fun S4 x4 b4 => ⟨rfl, ?_⟩)⟩⟩
          have R4 : RF x S S4 A := R3.sc x4 scp
          refine p_putAll b4 (R4.b (j := 2) (by omega)) (by simp; omega) (fun S5 x5 b5 => ⟨rfl, ?_⟩)
          have R5 : RF x S S5 A := R4.sc x5 scp
          refine p_putAll b5 (R5.b (j := 0) (by omega)) (by simp; omega) (fun S6 x6 b6 => ⟨rfl, ?_⟩)
          have R6 : RF x S S6 A := R5.sc x6 scp
          refine ⟨x + 7, R6.s.r (k := 3) (by omega), p_dir (R6.sd (s := 0) (by omega)) (d := 0) (by omega) ⟨_, rfl, R6.s.2.2.1.1, ?_⟩⟩
          have b6' : BT S6 (x + 166) 200 ([0, b8 (nI j), b8 (nI (aB A 2).length)] ++ aB A 2 ++ aB A 0) := b6
          refine p_seal6 hG R6 (s := 0) (d := 0) (w := 0) (by omega) (by omega) (by omega) b6' (by simp; omega) (ok.1 0 (by omega) e 0 (by omega)) hlt (fun S7 R7 => ⟨rfl, fin _ R7 (fun S8 R8 => ⟨rfl, R8⟩)⟩)
      · rw [if_pos e] at fin ⊢
        exact fin _ R (fun S2 R2 => ⟨rfl, R2⟩)
    · have hc : ¬ (aB A 0).length ≤ qmx j := fun z => c (nI_le z (by omega))
      rw [if_neg hc] at fin ⊢
      exact fin _ R (fun S2 R2 => ⟨rfl, R2⟩)
  · simp only [nof_none hno] at fin ⊢
    exact v_S_sendRequest x _ S _ (p_isOp (fun i hi ei => absurd ei (hno i hi)) (fun _ => ⟨0, rfl, fun _ => fin _ R (fun S2 R2 => ⟨rfl, R2⟩), fun c => absurd rfl c⟩))
end QS
