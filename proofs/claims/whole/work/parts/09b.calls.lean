/-! PURE: the class's calls, the small ones -/
def fFeed (A : AS) (a b c d e : Int32) : Int32 × AS := if (aB A 0).length + 20 ≤ 200 then (nI ((aB A 0).length + 20), wB A 0 (aB A 0 ++ be4 a ++ be4 b ++ be4 c ++ be4 d ++ be4 e)) else (-3, A)
def fEnd (A : AS) (n : Int32) : Int32 × AS := match nof ((aB A 0).length + 1) n with
  | some k => (nI k, wB A 0 ((aB A 0).take k))
  | none => (-1, A)
def bos (l : List B8) (i : Int32) : Int32 := if i = -1 then nI l.length else match nof l.length i with
  | some k => zx (l.getD k 0)
  | none => -2
def fKey (A : AS) (s k : Int32) : Int32 × AS := match nof 2 s with
  | some s => match nof 8 k with
    | some k => (0, wB (wB A (4 + 8 * s + k) (sha (aB A 0))) 0 [])
    | none => (-1, wB A 0 [])
  | none => (-1, wB A 0 [])
def fForget (A : AS) (s k : Int32) : Int32 × AS := match nof 2 s with
  | some s => match nof 8 k with
    | some k => if aB A (4 + 8 * s + k) = [] then (-2, A) else (0, wB A (4 + 8 * s + k) [])
    | none => (-1, A)
  | none => (-1, A)
def fIdle (A : AS) (s : Int32) : Int32 × AS := match nof 2 s with
  | some s => (0, wI A s 0)
  | none => (-1, A)
def fName (A : AS) : Int32 × AS := if 1 ≤ (aB A 0).length ∧ (aB A 0).length ≤ 16 then (nI (aB A 0).length, wB (wB A 2 (aB A 0)) 0 []) else (-1, wB A 0 [])
/-- record k of wire w -/
def rcd (A : AS) (w k : Int32) : Option (Nat × Nat) := match nof 2 w with
  | some w => match nof (aW A w).length k with
    | some k => some (w, k)
    | none => none
  | none => none
def fWire (A : AS) (w k i : Int32) : Int32 := match rcd A w k with
  | some (w, k) => bos ((aW A w).getD k []) i
  | none => -2
def fFlip (A : AS) (w k i bits : Int32) : Int32 × AS := match rcd A w k with
  | some (w, k) => match nof ((aW A w).getD k []).length i with
    | some i => (zx (((aW A w).getD k []).getD i 0 ^^^ b8 bits), wW A w ((aW A w).set k (((aW A w).getD k []).set i (((aW A w).getD k []).getD i 0 ^^^ b8 bits))))
    | none => (-2, A)
  | none => (-2, A)
def fDrop (A : AS) (w k : Int32) : Int32 × AS := match rcd A w k with
  | some (w, k) => (nI ((aW A w).length - 1), wW A w ((aW A w).eraseIdx k))
  | none => (-2, A)
def fCopy (A : AS) (w k to : Int32) : Int32 × AS := match rcd A w k with
  | some (w, k) => match nof 2 to with
    | some to => if (aW A to).length < 12 then (nI ((aW A to).length + 1), wW A to (aW A to ++ [(aW A w).getD k []])) else (-3, A)
    | none => (-1, A)
  | none => (-2, A)
def fHurry (A : AS) (w k : Int32) : Int32 × AS := match rcd A w k with
  | some (w, k) => (0, wW A w ((aW A w).getD k [] :: (aW A w).eraseIdx k))
  | none => (-2, A)
def fForge (A : AS) (w : Int32) : Int32 × AS := match nof 2 w with
  | some w => if (aB A 0).length < 3 then (-1, wB A 0 []) else if (aW A w).length < 12 then (nI (aB A 0).length, wB (wW A w (aW A w ++ [aB A 0])) 0 []) else (-3, wB A 0 [])
  | none => (-1, wB A 0 [])
def fAnswer (A : AS) : Int32 × AS := if aB A 3 = [] then (-2, A) else (nI (aB A 3).length, wB A 1 (aB A 3))
def fStored (A : AS) : Int32 × AS := match sfind (aT A) (aB A 2) with
  | none => (-2, A)
  | some k => (nI (sV1 (aT A) k).length, wB A 1 (sV1 (aT A) k))
def fLook (A : AS) (s w : Int32) : Int32 := match nof 2 s with
  | none => -1
  | some s => if w = 0 then aI A s else if w = 1 then (if aI A s = 2 then aI A (4 + 2 * s) else 0) else if w = 2 then (if aI A s = 2 then aI A (4 + 2 * s + 1) else 0) else if w = 3 then (if aI A s = 2 then aI A (8 + 2 * s) else 0) else if w = 4 then (if aI A s = 2 then aI A (8 + 2 * s + 1) else 0) else if w = 5 then nI (khN (fun k => aB A (4 + 8 * s + k)) 8) else if w = 6 then aI A (2 + s) else -1
def fCount (A : AS) (w : Int32) : Int32 := if w = 0 then nI (aT A).length else if w = 1 then aI A 12 else if w = 2 then aI A 13 else if w = 3 then nI (aW A 0).length else if w = 4 then nI (aW A 1).length else -1
section QC
variable {G : pG} {x : Nat} {S : TS} {A : AS}
theorem p_isSide {S : TS} {Q : Option Value → Prop} {x : Int32} (h1 : ∀ j, j < 2 → x = nI j → Q (some (.int 1))) (h0 : (∀ j, j < 2 → x ≠ nI j) → Q (some (.int 0))) : CP G J_S_isSide [.int x] S Q := by
  refine v_S_isSide x S Q ⟨fun c => h1 0 (by omega) c, fun c => ⟨fun c2 => h0 (fun j hj e => ?_), fun c2 => h1 1 (by omega) c2⟩⟩
  rcases (show j = 0 ∨ j = 1 by omega) with rfl | rfl
  · exact c e
  · exact c2 e
theorem p_isWire {S : TS} {Q : Option Value → Prop} {x : Int32} (h1 : ∀ j, j < 2 → x = nI j → Q (some (.int 1))) (h0 : (∀ j, j < 2 → x ≠ nI j) → Q (some (.int 0))) : CP G J_S_isWire [.int x] S Q := by
  refine v_S_isWire x S Q ⟨fun c => h1 0 (by omega) c, fun c => ⟨fun c2 => h0 (fun j hj e => ?_), fun c2 => h1 1 (by omega) c2⟩⟩
  rcases (show j = 0 ∨ j = 1 by omega) with rfl | rfl
  · exact c e
  · exact c2 e
theorem RCs.r {x : Nat} {S : TS} (h : RCs x S) {k : Nat} (hk : k < 15) : tR S x k = some (x + rO k) := h.2.1 k hk
theorem p_sideOf {S : TS} {Q : Option Value → Prop} {s : Nat} (h : RCs x S) (hs : s < 2) (hQ : Q (some (.ref (x + 174 + 45 * s)))) : CP G J_S_sideOf [.ref x, .int (nI s)] S Q := by
  rcases (show s = 0 ∨ s = 1 by omega) with rfl | rfl
  · exact v_S_sideOf x (nI 0) S Q ⟨fun c => absurd rfl c, fun _ => ⟨h.1, x + 174, h.r (k := 4) (by omega), hQ⟩⟩
  · exact v_S_sideOf x (nI 1) S Q ⟨fun _ => ⟨h.1, x + 219, h.r (k := 5) (by omega), hQ⟩, fun c => absurd c (by decide)⟩
theorem p_wireOf {S : TS} {Q : Option Value → Prop} {s : Nat} (h : RCs x S) (hs : s < 2) (hQ : Q (some (.ref (x + 20 + 28 * s)))) : CP G J_S_wireOf [.ref x, .int (nI s)] S Q := by
  rcases (show s = 0 ∨ s = 1 by omega) with rfl | rfl
  · exact v_S_wireOf x (nI 0) S Q ⟨fun c => absurd rfl c, fun _ => ⟨h.1, x + 20, h.r (k := 6) (by omega), hQ⟩⟩
  · exact v_S_wireOf x (nI 1) S Q ⟨fun _ => ⟨h.1, x + 48, h.r (k := 7) (by omega), hQ⟩, fun c => absurd c (by decide)⟩
theorem p_bos {S : TS} {Q : Option Value → Prop} {q N : Nat} {l : List B8} {i : Int32} (h : BT S q N l) (hQ : Q (some (.int (bos l i)))) : CP G J_S_byteOrSize [.ref q, .int i] S Q := by
  have hN := h.1.2.2.2
  have hl := h.2.2
  unfold bos at hQ
  refine v_S_byteOrSize q i S Q ⟨fun c => ⟨h.1.1, ?_⟩, fun c => ⟨h.1.1, p_size h ⟨_, rfl, by rw [if_pos c] at hQ; exact hQ⟩⟩⟩
  rw [if_neg c] at hQ
  refine p_has h (fun j hj ej => ⟨1, rfl, fun c => absurd c (by decide), fun _ => ?_⟩) (fun hno => ⟨0, rfl, fun _ => ?_, fun c => absurd rfl c⟩)
  · subst ej
    rw [nof_some hj (by omega)] at hQ
    exact p_at h hj ⟨_, rfl, hQ⟩
  · rw [nof_none hno] at hQ
    exact hQ
theorem p_clearT {S0 S : TS} {Q : Option Value → TS → Prop} (h : RF x S0 S A) (hQ : ∀ S', RF x S0 S' (wB A 0 []) → Q none S') : C0 G J_Bytes_clear [.ref (x + 1)] S Q :=
  p_clear (h.b (j := 0) (by omega)).1 (fun S' x' b' => hQ S' (h.wB x' (i := 0) (by omega) (fun a z => Or.inr z) b'))
theorem q_feed (h : RC x S A) (a b c d e : Int32) : C0 G J_S_feed [.ref x, .int a, .int b, .int c, .int d, .int e] S (fun r S' => r = some (.int (fFeed A a b c d e).1) ∧ RF x S S' (fFeed A a b c d e).2) := by
  have R := RF.rf h
  have b0 : BT S (x + 1) 200 (aB A 0) := R.b (j := 0) (by omega)
  have hl := b0.2.2
  refine v_S_feed x a b c d e S _ ⟨R.s.1, x + 1, R.s.r (k := 0) (by omega), b0.1.1, p_size b0 ⟨_, rfl, ?_⟩⟩
  rw [show nI (aB A 0).length + (20 : Int32) = nI ((aB A 0).length + 20) from nI_add _ 20]
  unfold fFeed
  refine ⟨fun c1 => ?_, fun c1 => ?_⟩
  · have hc : (aB A 0).length + 20 ≤ 200 := (nI_leI (b := 200) (by omega) (by omega)).mp c1
    rw [if_pos hc]
    refine p_putNumber b0 (by omega) (fun S1 x1 b1 => ⟨rfl, p_putNumber b1 (by simp [be4_len]; omega) (fun S2 x2 b2 => ⟨rfl, p_putNumber b2 (by simp [be4_len]; omega) (fun S3 x3 b3 => ⟨rfl, p_putNumber b3 (by simp [be4_len]; omega) (fun S4 x4 b4 => ⟨rfl, p_putNumber b4 (by simp [be4_len]; omega) (fun S5 x5 b5 => ⟨rfl, p_size b5 ⟨_, rfl, ?_⟩⟩)⟩)⟩)⟩)⟩)
    refine ⟨?_, R.wB ((((x1.tr x2).tr x3).tr x4).tr x5) (i := 0) (by omega) (fun a z => Or.inr z) b5⟩
    congr 2
    simp only [List.length_append, be4_len]
  · rw [if_neg (fun z => c1 (nI_le (b := 200) z (by omega)))]
    exact ⟨rfl, R⟩
theorem q_end (h : RC x S A) (n : Int32) : C0 G J_S_end [.ref x, .int n] S (fun r S' => r = some (.int (fEnd A n).1) ∧ RF x S S' (fEnd A n).2) := by
  have R := RF.rf h
  have b0 : BT S (x + 1) 200 (aB A 0) := R.b (j := 0) (by omega)
  have hl := b0.2.2
  unfold fEnd
  refine v_S_end x n S _ ⟨fun c => ?_, fun c => ⟨R.s.1, x + 1, R.s.r (k := 0) (by omega), b0.1.1, p_size b0 ⟨_, rfl, fun c2 => ?_, fun c2 => ?_⟩⟩⟩
  · rw [nof_none (fun j hj e => by rw [e] at c; exact nI_pos (by omega) c)]
    exact ⟨rfl, R⟩
  · have c3 : ¬ (nI ((aB A 0).length + 1) ≤ n) := by
      intro z
      rw [Int32.le_iff_toInt_le, nI_toInt (by omega)] at z
      rw [Int32.le_iff_toInt_le, nI_toInt (by omega)] at c2
      omega
    obtain ⟨j, hj, e1, -⟩ := pk_mu c c3 (by omega)
    subst e1
    rw [nof_some hj (by omega)]
    exact p_cut b0 (by omega) (fun S' x' b' => ⟨rfl, rfl, R.wB x' (i := 0) (by omega) (fun a z => Or.inr z) b'⟩)
  · rw [nof_none (fun j hj e => c2 (by rw [e]; exact nI_le (by omega) (by omega)))]
    exact ⟨rfl, R⟩
theorem q_octet (h : RC x S A) (i : Int32) : CP G J_S_octet [.ref x, .int i] S (fun r => r = some (.int (bos (aB A 1) i))) := by
  have R := RF.rf h
  exact v_S_octet x i S _ ⟨R.s.1, x + 3, R.s.r (k := 1) (by omega), p_bos (R.b (j := 1) (by omega)) ⟨_, rfl, rfl⟩⟩
theorem q_key {t : Nat → Nat} (hG : GS G t) (h : RC x S A) (s k : Int32) : C0 G J_S_key [.ref x, .int s, .int k] S (fun r S' => r = some (.int (fKey A s k).1) ∧ RF x S S' (fKey A s k).2) := by
  have R := RF.rf h
  have b0 : BT S (x + 1) 200 (aB A 0) := R.b (j := 0) (by omega)
  have hl := b0.2.2
  unfold fKey
  refine v_S_key x s k S _ (p_isSide (fun j hj ej => ⟨1, rfl, fun c => absurd c (by decide), fun _ => ?_⟩) (fun hno => ⟨0, rfl, fun _ => ?_, fun c => absurd rfl c⟩))
  · subst ej
    rw [nof_some hj (by omega)]
    refine p_isKey (fun i hi ei => ⟨1, rfl, fun c => absurd c (by decide), fun _ => ?_⟩) (fun hno => ⟨0, rfl, fun _ => ?_, fun c => absurd rfl c⟩)
    · subst ei
      rw [nof_some hi (by omega)]
      have hk := bO_key j hj i hi
      refine ⟨R.s.1, p_sideOf R.s hj ⟨_, rfl, x + 1, R.s.r (k := 0) (by omega), (R.sd hj).o, ?_⟩⟩
      refine p_setKey hG (R.sd hj) hi b0 (by omega) (by omega) (fun S1 x1 b1 => ⟨rfl, ?_⟩)
      have R1 : RF x S S1 (wB A (4 + 8 * j + i) (sha (aB A 0))) := by
        refine R.wB x1 (i := 4 + 8 * j + i) (by omega) (fun a z => ?_) ?_
        · simp only [hP, bP] at z
          simp only [bP]
          unfold scr
          omega
        · rw [hk.1, hk.2, show x + (203 + 45 * j + 2 * i) = x + 174 + 45 * j + 29 + 2 * i by omega]
          exact b1
      exact ⟨(R1.b (j := 0) (by omega)).1.1, p_clearT R1 (fun S2 R2 => ⟨rfl, rfl, R2⟩)⟩
    · rw [nof_none hno]
      exact ⟨R.s.1, x + 1, R.s.r (k := 0) (by omega), b0.1.1, p_clearT R (fun S2 R2 => ⟨rfl, rfl, R2⟩)⟩
  · rw [nof_none hno]
    exact ⟨R.s.1, x + 1, R.s.r (k := 0) (by omega), b0.1.1, p_clearT R (fun S2 R2 => ⟨rfl, rfl, R2⟩)⟩
theorem RF.key {S0 S : TS} (R : RF x S0 S A) {s k : Nat} (hs : s < 2) (hk : k < 8) : BT S (x + 174 + 45 * s + 29 + 2 * k) 32 (aB A (4 + 8 * s + k)) := by
  have h := bO_key s hs k hk
  have := R.b (j := 4 + 8 * s + k) (by omega)
  rw [h.1, h.2, show x + (203 + 45 * s + 2 * k) = x + 174 + 45 * s + 29 + 2 * k by omega] at this
  exact this
theorem q_forget (h : RC x S A) (s k : Int32) : C0 G J_S_forget [.ref x, .int s, .int k] S (fun r S' => r = some (.int (fForget A s k).1) ∧ RF x S S' (fForget A s k).2) := by
  have R := RF.rf h
  unfold fForget
  refine v_S_forget x s k S _ (p_isSide (fun j hj ej => ⟨1, rfl, fun c => absurd c (by decide), fun _ => ?_⟩) (fun hno => ⟨0, rfl, fun _ => ?_, fun c => absurd rfl c⟩))
  · subst ej
    rw [nof_some hj (by omega)]
    refine p_isKey (fun i hi ei => ⟨1, rfl, fun _ => ?_, fun c => absurd c (by decide)⟩) (fun hno => ⟨0, rfl, fun c => absurd rfl c, fun _ => ?_⟩)
    · subst ei
      rw [nof_some hi (by omega)]
      have hk := bO_key j hj i hi
      have kb := R.key hj hi
      refine ⟨R.s.1, p_sideOf R.s hj ⟨_, rfl, (R.sd hj).o, p_hasKey (R.sd hj) hi kb (fun hne => ⟨1, rfl, fun _ => ?_, fun c => absurd c (by decide)⟩) (fun he => ⟨0, rfl, fun c => absurd rfl c, fun _ => ?_⟩)⟩⟩
      · refine p_sideOf R.s hj ⟨_, rfl, (R.sd hj).o, p_loseKey (R.sd hj) hi (fun S1 x1 b1 => ⟨rfl, ?_⟩)⟩
        simp only [hne, if_false]
        refine ⟨trivial, R.wB x1 (i := 4 + 8 * j + i) (by omega) (fun a z => Or.inr ?_) ?_⟩
        · simp only [bP] at *
          omega
        · rw [hk.1, hk.2, show x + (203 + 45 * j + 2 * i) = x + 174 + 45 * j + 29 + 2 * i by omega]
          exact b1
      · simp only [he, if_true]
        exact ⟨trivial, R⟩
    · rw [nof_none hno]
      exact ⟨rfl, R⟩
  · rw [nof_none hno]
    exact ⟨rfl, R⟩
theorem p_become6 {S0 S : TS} {Q : Option Value → TS → Prop} (R : RF x S0 S A) {s : Nat} (hs : s < 2) (v : Int32) (hQ : ∀ S', RF x S0 S' (wI A s v) → Q none S') : C0 G J_Side_become [.ref (x + 174 + 45 * s), .int v] S Q := by
  have hi := iO_sid s hs
  refine v_Side_become _ v S Q ⟨(R.sd hs).o, fun S2 e2 => hQ S2 ?_⟩
  refine R.wI (P := fun a => a = x + 174 + 45 * s) (by rw [e2]; exact (Ex.rf S).I rfl) (i := s) (by omega) (fun a z => Or.inr (by omega)) ?_ (iF_dj s (by omega))
  rw [hi.1, hi.2.1, ← Nat.add_assoc, e2, tI_sI, up_s]
theorem q_idle (h : RC x S A) (s : Int32) : C0 G J_S_idle [.ref x, .int s] S (fun r S' => r = some (.int (fIdle A s).1) ∧ RF x S S' (fIdle A s).2) := by
  have R := RF.rf h
  unfold fIdle
  refine v_S_idle x s S _ (p_isSide (fun j hj ej => ⟨1, rfl, fun _ => ?_, fun c => absurd c (by decide)⟩) (fun hno => ⟨0, rfl, fun c => absurd rfl c, fun _ => ?_⟩))
  · subst ej
    rw [nof_some hj (by omega)]
    exact ⟨R.s.1, p_sideOf R.s hj ⟨_, rfl, (R.sd hj).o, p_become6 R hj 0 (fun S1 R1 => ⟨rfl, rfl, R1⟩)⟩⟩
  · rw [nof_none hno]
    exact ⟨rfl, R⟩
theorem q_name (h : RC x S A) : C0 G J_S_name [.ref x] S (fun r S' => r = some (.int (fName A).1) ∧ RF x S S' (fName A).2) := by
  have R := RF.rf h
  have b0 : BT S (x + 1) 200 (aB A 0) := R.b (j := 0) (by omega)
  have hl := b0.2.2
  unfold fName
  refine v_S_name x S _ ⟨R.s.1, x + 1, R.s.r (k := 0) (by omega), b0.1.1, p_size b0 ⟨_, rfl, fun c => ?_, fun c => p_size b0 ⟨_, rfl, fun c2 => ?_, fun c2 => ?_⟩⟩⟩
  · have := (nI_ltI (b := 1) (by omega) (by omega)).mp c
    rw [if_neg (by omega)]
    exact p_clearT R (fun S2 R2 => ⟨rfl, rfl, R2⟩)
  · have := (nI_ltI (a := 16) (by omega) (by omega)).mp c2
    rw [if_neg (by omega)]
    exact p_clearT R (fun S2 R2 => ⟨rfl, rfl, R2⟩)
  · have h1 : ¬ (aB A 0).length < 1 := fun z => c ((nI_ltI (b := 1) (by omega) (by omega)).mpr z)
    have h2 : ¬ 16 < (aB A 0).length := fun z => c2 ((nI_ltI (a := 16) (by omega) (by omega)).mpr z)
    rw [if_pos (by omega)]
    have b2 : BT S (x + 5) 16 (aB A 2) := R.b (j := 2) (by omega)
    refine ⟨x + 5, R.s.r (k := 2) (by omega), b2.1.1, p_become b2.1 b0 ⟨by omega, by omega⟩ (by omega) (fun S1 x1 b1 => ⟨rfl, ?_⟩)⟩
    have R1 : RF x S S1 (wB A 2 (aB A 0)) := R.wB x1 (i := 2) (by omega) (fun a z => Or.inr z) b1
    exact p_size (R1.b (j := 0) (by omega)) ⟨_, rfl, p_clearT R1 (fun S2 R2 => ⟨rfl, rfl, R2⟩)⟩
theorem p_isRecord {S0 S : TS} {Q : Option Value → Prop} {w k : Int32} (R : RF x S0 S A) (h1 : ∀ i j, i < 2 → j < (aW A i).length → w = nI i → k = nI j → rcd A w k = some (i, j) → Q (some (.int 1))) (h0 : rcd A w k = none → Q (some (.int 0))) : CP G J_S_isRecord [.ref x, .int w, .int k] S Q := by
  unfold rcd at h1 h0
  refine v_S_isRecord x w k S _ (p_isWire (fun j hj ej => ⟨1, rfl, fun c => absurd c (by decide), fun _ => ⟨R.s.1, ?_⟩⟩) (fun hno => ⟨0, rfl, fun _ => ?_, fun c => absurd rfl c⟩))
  · subst ej
    rw [nof_some hj (by omega)] at h1 h0
    obtain ⟨f, hf⟩ := R.w hj
    have hl := hf.1.2.2.2.2
    refine p_wireOf R.s hj ⟨_, rfl, hf.1.1, p_whas hf (fun i hi ei => ⟨1, rfl, fun c => absurd c (by decide), fun _ => ?_⟩) (fun hno => ⟨0, rfl, fun _ => ?_, fun c => absurd rfl c⟩)⟩
    · subst ei
      have e := nof_some (n := (aW A j).length) hi (by omega)
      simp only [e] at h1
      exact h1 j i hj hi rfl rfl rfl
    · have e := nof_none hno
      simp only [e] at h0
      exact h0 trivial
  · rw [nof_none hno] at h0
    exact h0 rfl
theorem q_wire (h : RC x S A) (w k i : Int32) : CP G J_S_wire [.ref x, .int w, .int k, .int i] S (fun r => r = some (.int (fWire A w k i))) := by
  have R := RF.rf h
  unfold fWire
  refine v_S_wire x w k i S _ ⟨R.s.1, p_isRecord R (fun a b ha hb ew ek e => ?_) (fun e => ?_)⟩
  · rw [e]
    subst ew ek
    obtain ⟨f, hf⟩ := R.w ha
    exact ⟨1, rfl, fun _ => p_wireOf R.s ha ⟨_, rfl, hf.1.1, p_wat hf hb ⟨_, rfl, p_bos (hf.2.2.2.2.2 b hb) ⟨_, rfl, rfl⟩⟩⟩, fun c => absurd c (by decide)⟩
  · rw [e]
    exact ⟨0, rfl, fun c => absurd rfl c, fun _ => rfl⟩
/-- one record of a wire is another -/
theorem WR.set {S S' : TS} {v : Nat} {ws : List (List B8)} {f : Nat → Nat} (h : WR S v ws f) {k : Nat} (hk : k < ws.length) {l : List B8} (e : Ex (bP (f k)) S S') (hb : BT S' (f k) 200 l) : WR S' v (ws.set k l) f := by
  have hl := h.1.2.2.2.2
  have dj := fun j (hj : j < 13) (hne : j ≠ k) => h.dj hj (by omega) hne
  obtain ⟨⟨g1, g2, g3, g4, g5⟩, g6, g7, g8, g9, g10⟩ := h
  have k7 := g7 k (by omega)
  refine ⟨⟨by rw [e.1.1]; exact g1, by rw [e.1.R]; exact g2, by rw [e.1.1]; exact g3, by rw [(e.2 v (by simp only [bP]; omega)).1, List.length_set]; exact g4, by rw [List.length_set]; exact g5⟩, fun k hk => by rw [e.1.R]; exact g6 k hk, g7, g8, fun k hk => (g9 k hk).sm e.1, fun j hj => ?_⟩
  rw [List.length_set] at hj
  by_cases hjk : j = k
  · subst hjk
    rw [List.getD_eq_getElem?_getD, List.getElem?_set]
    simp [hj]
    exact hb
  · have := dj j (by omega) hjk
    rw [List.getD_eq_getElem?_getD, List.getElem?_set, if_neg (Ne.symm hjk), ← List.getD_eq_getElem?_getD]
    exact (g10 j hj).ex e (by simp only [bP]; omega) (by simp only [bP]; omega)
theorem q_flip (h : RC x S A) (w k i b : Int32) : C0 G J_S_flip [.ref x, .int w, .int k, .int i, .int b] S (fun r S' => r = some (.int (fFlip A w k i b).1) ∧ RF x S S' (fFlip A w k i b).2) := by
  have R := RF.rf h
  unfold fFlip
  refine v_S_flip x w k i b S _ ⟨R.s.1, p_isRecord R (fun a c ha hc ew ek e => ⟨1, rfl, fun c => absurd c (by decide), fun _ => ?_⟩) (fun e => ⟨0, rfl, fun _ => ?_, fun c => absurd rfl c⟩)⟩
  · rw [e]
    subst ew ek
    obtain ⟨f, hf⟩ := R.w ha
    have hl := hf.1.2.2.2.2
    have f3 := hf.2.2.1 c (by omega)
    have bt := hf.2.2.2.2.2 c hc
    have bl := bt.2.2
    refine p_wireOf R.s ha ⟨_, rfl, hf.1.1, p_wat hf hc ⟨_, rfl, bt.1.1, p_has bt (fun j hj ej => ⟨1, rfl, fun _ => ?_, fun c => absurd c (by decide)⟩) (fun hno => ⟨0, rfl, fun c => absurd rfl c, fun _ => ?_⟩)⟩⟩
    · subst ej
      refine p_wireOf R.s ha ⟨_, rfl, hf.1.1, p_wat hf hc ⟨_, rfl, bt.1.1, p_flipBits bt hj (fun S1 x1 b1 => ⟨_, rfl, ?_⟩)⟩⟩
      simp only [nof_some hj (show j < 2 ^ 32 by omega)]
      exact ⟨trivial, R.wW x1 ha (fun z hz => Or.inr (by simp only [bP] at hz; omega)) ⟨f, hf.set hc x1 b1⟩⟩
    · simp only [nof_none hno]
      exact ⟨trivial, R⟩
  · rw [e]
    exact ⟨rfl, R⟩
end QC
