/-! PURE: the state of the whole, and where the class has it -/
abbrev AS : Type := (Nat → List B8) × (Nat → Int32) × (Nat → List (List B8)) × Stt
def aB (A : AS) : Nat → List B8 := A.1
def aI (A : AS) : Nat → Int32 := A.2.1
def aW (A : AS) : Nat → List (List B8) := A.2.2.1
def aT (A : AS) : Stt := A.2.2.2
def wB (A : AS) (i : Nat) (l : List B8) : AS := (va_up A.1 i l, A.2)
def wI (A : AS) (i : Nat) (v : Int32) : AS := (A.1, va_up A.2.1 i v, A.2.2)
def wW (A : AS) (i : Nat) (w : List (List B8)) : AS := (A.1, A.2.1, va_up A.2.2.1 i w, A.2.2.2)
def wT (A : AS) (t : Stt) : AS := (A.1, A.2.1, A.2.2.1, t)
theorem aB_wB (A : AS) (i : Nat) (l : List B8) : aB (wB A i l) = va_up (aB A) i l := rfl
theorem aI_wB (A : AS) (i : Nat) (l : List B8) : aI (wB A i l) = aI A := rfl
theorem aW_wB (A : AS) (i : Nat) (l : List B8) : aW (wB A i l) = aW A := rfl
theorem aT_wB (A : AS) (i : Nat) (l : List B8) : aT (wB A i l) = aT A := rfl
theorem aB_wI (A : AS) (i : Nat) (l : Int32) : aB (wI A i l) = aB A := rfl
theorem aI_wI (A : AS) (i : Nat) (l : Int32) : aI (wI A i l) = va_up (aI A) i l := rfl
theorem aW_wI (A : AS) (i : Nat) (l : Int32) : aW (wI A i l) = aW A := rfl
theorem aT_wI (A : AS) (i : Nat) (l : Int32) : aT (wI A i l) = aT A := rfl
theorem aB_wW (A : AS) (i : Nat) (l : List (List B8)) : aB (wW A i l) = aB A := rfl
theorem aI_wW (A : AS) (i : Nat) (l : List (List B8)) : aI (wW A i l) = aI A := rfl
theorem aW_wW (A : AS) (i : Nat) (l : List (List B8)) : aW (wW A i l) = va_up (aW A) i l := rfl
theorem aT_wW (A : AS) (i : Nat) (l : List (List B8)) : aT (wW A i l) = aT A := rfl
theorem aB_wT (A : AS) (t : Stt) : aB (wT A t) = aB A := rfl
theorem aI_wT (A : AS) (t : Stt) : aI (wT A t) = aI A := rfl
theorem aW_wT (A : AS) (t : Stt) : aW (wT A t) = aW A := rfl
theorem aT_wT (A : AS) (t : Stt) : aT (wT A t) = t := rfl
/-- where the rows of bytes are: tape, out, name, latest, keys, greeting, agreed, secret, finishing, sealing keys -/
def bO (j : Nat) : Nat := if j = 0 then 1 else if j = 1 then 3 else if j = 2 then 5 else if j = 3 then 164 else if j < 12 then 203 + 2 * (j - 4) else if j < 20 then 248 + 2 * (j - 12) else if j = 20 then 193 else if j < 24 then 240 + 2 * (j - 21) else if j = 24 then 184 else if j = 25 then 189 else if j = 26 then 229 else 234
def bC (j : Nat) : Nat := if j = 0 then 200 else if j = 1 ∨ j = 3 then 65 else if j = 2 then 16 else if j = 20 then 33 else 32
/-- where the numbers are: states, randoms, numbers, generations, answered, got, seeds, indices -/
def iO (j : Nat) : Nat := if j = 0 ∨ j = 2 ∨ j = 14 ∨ j = 16 then 174 else if j = 1 ∨ j = 3 ∨ j = 15 ∨ j = 17 then 219 else if j = 4 ∨ j = 8 ∨ j = 18 then 183 else if j = 5 ∨ j = 9 ∨ j = 19 then 188 else if j = 6 ∨ j = 10 ∨ j = 20 then 228 else if j = 7 ∨ j = 11 ∨ j = 21 then 233 else 0
def iF (j : Nat) : Nat := if j < 2 then 11 else if j < 4 then 12 else if j < 8 then 3 else if j < 12 then 4 else if j = 12 then 15 else if j = 13 then 16 else if j < 16 then 1 else 0
def rO (k : Nat) : Nat := if k = 0 then 1 else if k = 1 then 3 else if k = 2 then 5 else if k = 3 then 7 else if k = 4 then 174 else if k = 5 then 219 else if k = 6 then 20 else if k = 7 then 48 else if k = 8 then 76 else if k = 9 then 159 else 144 + 2 * k
theorem bO_ok : ∀ j, j < 28 → (0 < bO j ∧ bO j < 6 ∨ bO j = 164 ∨ 184 ≤ bO j ∧ bO j < 263) ∧ bO j ≠ 188 ∧ bO j + 1 ≠ 188 ∧ bO j ≠ 219 ∧ bO j + 1 ≠ 219 ∧ bO j ≠ 228 ∧ bO j + 1 ≠ 228 ∧ bO j ≠ 233 ∧ bO j + 1 ≠ 233 := by decide
theorem bO_dj : ∀ i, i < 28 → ∀ j, j < 28 → i ≠ j → bO i + 1 < bO j ∨ bO j + 1 < bO i := by decide
theorem iO_ok : ∀ j, j < 22 → iO j = 0 ∨ iO j = 174 ∨ iO j = 219 ∨ iO j = 183 ∨ iO j = 188 ∨ iO j = 228 ∨ iO j = 233 := by decide
theorem bO_key : ∀ s, s < 2 → ∀ k, k < 8 → bO (4 + 8 * s + k) = 203 + 45 * s + 2 * k ∧ bC (4 + 8 * s + k) = 32 := by decide
theorem bO_dir : ∀ s, s < 2 → ∀ d, d < 2 → bO (24 + 2 * s + d) = 174 + 45 * s + 9 + 5 * d + 1 ∧ bC (24 + 2 * s + d) = 32 := by decide
theorem iO_dir : ∀ s, s < 2 → ∀ d, d < 2 → iO (4 + 2 * s + d) = 174 + 45 * s + 9 + 5 * d ∧ iF (4 + 2 * s + d) = 3 ∧ iO (8 + 2 * s + d) = 174 + 45 * s + 9 + 5 * d ∧ iF (8 + 2 * s + d) = 4 ∧ iO (18 + 2 * s + d) = 174 + 45 * s + 9 + 5 * d ∧ iF (18 + 2 * s + d) = 0 := by decide
theorem iO_sid : ∀ s, s < 2 → iO s = 174 + 45 * s ∧ iF s = 11 ∧ iO (2 + s) = 174 + 45 * s ∧ iF (2 + s) = 12 ∧ iO (14 + s) = 174 + 45 * s ∧ iF (14 + s) = 1 ∧ iO (16 + s) = 174 + 45 * s ∧ iF (16 + s) = 0 := by decide
/-- what holds nothing between two calls -/
def scr (x a : Nat) : Prop := (x + 7 ≤ a ∧ a < x + 20) ∨ (x + 159 ≤ a ∧ a < x + 164) ∨ (x + 166 ≤ a ∧ a < x + 174) ∨ (x + 175 ≤ a ∧ a < x + 183) ∨ (x + 186 ≤ a ∧ a < x + 188) ∨ (x + 191 ≤ a ∧ a < x + 193) ∨ (x + 195 ≤ a ∧ a < x + 203) ∨ (x + 220 ≤ a ∧ a < x + 228) ∨ (x + 231 ≤ a ∧ a < x + 233) ∨ (x + 236 ≤ a ∧ a < x + 240) ∨ (x + 246 ≤ a ∧ a < x + 248)
theorem bO_sc1 : ∀ j, j < 28 → ∀ d, d < 2 → ¬ (7 ≤ bO j + d ∧ bO j + d < 20) ∧ ¬ (159 ≤ bO j + d ∧ bO j + d < 164) ∧ ¬ (166 ≤ bO j + d ∧ bO j + d < 174) ∧ ¬ (175 ≤ bO j + d ∧ bO j + d < 183) := by decide
theorem bO_sc2 : ∀ j, j < 28 → ∀ d, d < 2 → ¬ (186 ≤ bO j + d ∧ bO j + d < 188) ∧ ¬ (191 ≤ bO j + d ∧ bO j + d < 193) ∧ ¬ (195 ≤ bO j + d ∧ bO j + d < 203) ∧ ¬ (220 ≤ bO j + d ∧ bO j + d < 228) := by decide
theorem bO_sc3 : ∀ j, j < 28 → ∀ d, d < 2 → ¬ (231 ≤ bO j + d ∧ bO j + d < 233) ∧ ¬ (236 ≤ bO j + d ∧ bO j + d < 240) ∧ ¬ (246 ≤ bO j + d ∧ bO j + d < 248) := by decide
theorem bO_scr {x j : Nat} (hj : j < 28) : ¬ scr x (x + bO j) ∧ ¬ scr x (x + bO j + 1) := by
  have h0 := bO_sc1 j hj 0 (by omega)
  have h1 := bO_sc1 j hj 1 (by omega)
  have h2 := bO_sc2 j hj 0 (by omega)
  have h3 := bO_sc2 j hj 1 (by omega)
  have h4 := bO_sc3 j hj 0 (by omega)
  have h5 := bO_sc3 j hj 1 (by omega)
  unfold scr
  exact ⟨by omega, by omega⟩
theorem iO_scr {x j : Nat} (hj : j < 22) : ¬ scr x (x + iO j) := by
  have h0 := iO_ok j hj
  unfold scr
  omega
def RCs (x : Nat) (S : TS) : Prop := te S x = some (.inr 10) ∧ (∀ k, k < 15 → tR S x k = some (x + rO k)) ∧ ZS S (x + 7) ∧ SD S (x + 174) ∧ SD S (x + 219) ∧ RQ S (x + 159) ∧ BS S (x + 166) 200 ∧ BS S (x + 168) 32 ∧ BS S (x + 170) 65 ∧ BS S (x + 172) 32
theorem RCs.sm {S S' : TS} {x : Nat} (k : RCs x S) (e : Sm0 S S') : RCs x S' := by
  obtain ⟨h1, h2, h3, h4, h5, h6, h7, h8, h9, h10⟩ := k
  exact ⟨by rw [e.1]; exact h1, fun k hk => by rw [e.R]; exact h2 k hk, h3.sm e, h4.sm e, h5.sm e, h6.sm e, h7.sm e, h8.sm e, h9.sm e, h10.sm e⟩
def RC (x : Nat) (S : TS) (A : AS) : Prop := RCs x S ∧ (∀ j, j < 28 → BT S (x + bO j) (bC j) (aB A j)) ∧ (∀ j, j < 22 → tI S (x + iO j) (iF j) = aI A j) ∧ (∃ f, WR S (x + 20) (aW A 0) f) ∧ (∃ f, WR S (x + 48) (aW A 1) f) ∧ ∃ fn fv, ST S (x + 76) (aT A) fn fv
def inr (x a : Nat) : Prop := x ≤ a ∧ a < x + 264
def RF (x : Nat) (S0 S : TS) (A : AS) : Prop := RC x S A ∧ Ex1 (inr x) (inr x) S0 S
theorem RF.gen {x : Nat} {S0 S S' : TS} {A A' : AS} {P : Nat → Prop} (h : RF x S0 S A) (e : Ex P S S') (X : Nat → Prop) (hp : ∀ a, P a → scr x a ∨ X a) (hX : ∀ a, X a → inr x a)
    (hB : ∀ j, j < 28 → BT S' (x + bO j) (bC j) (aB A' j) ∨ (aB A' j = aB A j ∧ ¬ X (x + bO j) ∧ ¬ X (x + bO j + 1)))
    (hI : ∀ j, j < 22 → tI S' (x + iO j) (iF j) = aI A' j ∨ (aI A' j = aI A j ∧ ¬ X (x + iO j)))
    (hW0 : (∃ f, WR S' (x + 20) (aW A' 0) f) ∨ (aW A' 0 = aW A 0 ∧ ∀ a, x + 20 ≤ a → a < x + 48 → ¬ X a))
    (hW1 : (∃ f, WR S' (x + 48) (aW A' 1) f) ∨ (aW A' 1 = aW A 1 ∧ ∀ a, x + 48 ≤ a → a < x + 76 → ¬ X a))
    (hT : aT A' = aT A ∧ ∀ a, x + 76 ≤ a → a < x + 159 → ¬ X a) : RF x S0 S' A' := by
  obtain ⟨⟨h1, h2, h3, ⟨f0, h4⟩, ⟨f1, h5⟩, ⟨fn, fv, h6⟩⟩, hf⟩ := h
  refine ⟨⟨h1.sm e.1, fun j hj => ?_, fun j hj => ?_, ?_, ?_, ⟨fn, fv, ?_⟩⟩, hf.tr (e.e1.mono (fun a ha => ?_) (fun a (z : False) => z.elim))⟩
  · rcases hB j hj with g | ⟨g1, g2, g3⟩
    · exact g
    · have hs := bO_scr (x := x) hj
      rw [g1]
      exact (h2 j hj).ex e (fun z => (hp _ z).elim hs.1 g2) (fun z => (hp _ z).elim hs.2 g3)
  · rcases hI j hj with g | ⟨g1, g2⟩
    · exact g
    · rw [g1, (e.2 _ (fun z => (hp _ z).elim (iO_scr hj) g2)).1]
      exact h3 j hj
  · rcases hW0 with g | ⟨g1, g2⟩
    · exact g
    · rw [g1]
      exact ⟨f0, h4.ex e (fun a h0 h1 z => ((hp a z).elim (fun y => by unfold scr at y; omega) (fun y => g2 a (by omega) (by omega) y)).elim)⟩
  · rcases hW1 with g | ⟨g1, g2⟩
    · exact g
    · rw [g1]
      exact ⟨f1, h5.ex e (fun a h0 h1 z => ((hp a z).elim (fun y => by unfold scr at y; omega) (fun y => g2 a (by omega) (by omega) y)).elim)⟩
  · rw [hT.1]
    exact h6.ex e (fun a ha z => (hp a z).elim (fun y => by unfold scr at y; simp only [tP] at ha; omega) (fun y => hT.2 a (by simp only [tP] at ha; omega) (by simp only [tP] at ha; omega) y))
  · rcases hp a ha with z | z
    · unfold scr at z; unfold inr; omega
    · exact hX a z
theorem RF.rf {x : Nat} {S : TS} {A : AS} (h : RC x S A) : RF x S S A := ⟨h, Ex1.rf S⟩
theorem RF.b {x : Nat} {S0 S : TS} {A : AS} (h : RF x S0 S A) {j : Nat} (hj : j < 28) : BT S (x + bO j) (bC j) (aB A j) := h.1.2.1 j hj
theorem RF.s {x : Nat} {S0 S : TS} {A : AS} (h : RF x S0 S A) : RCs x S := h.1.1
theorem RF.w0 {x : Nat} {S0 S : TS} {A : AS} (h : RF x S0 S A) : ∃ f, WR S (x + 20) (aW A 0) f := h.1.2.2.2.1
theorem RF.w1 {x : Nat} {S0 S : TS} {A : AS} (h : RF x S0 S A) : ∃ f, WR S (x + 48) (aW A 1) f := h.1.2.2.2.2.1
theorem RF.w {x : Nat} {S0 S : TS} {A : AS} (h : RF x S0 S A) {w : Nat} (hw : w < 2) : ∃ f, WR S (x + 20 + 28 * w) (aW A w) f := by
  rcases (show w = 0 ∨ w = 1 by omega) with rfl | rfl
  · exact h.w0
  · exact h.w1
theorem RF.t {x : Nat} {S0 S : TS} {A : AS} (h : RF x S0 S A) : ∃ fn fv, ST S (x + 76) (aT A) fn fv := h.1.2.2.2.2.2
theorem RF.i {x : Nat} {S0 S : TS} {A : AS} (h : RF x S0 S A) {j : Nat} (hj : j < 22) : tI S (x + iO j) (iF j) = aI A j := h.1.2.2.1 j hj
theorem RF.sd {x : Nat} {S0 S : TS} {A : AS} (h : RF x S0 S A) {s : Nat} (hs : s < 2) : SD S (x + 174 + 45 * s) := by
  rcases (show s = 0 ∨ s = 1 by omega) with rfl | rfl
  · exact h.s.2.2.2.1
  · exact h.s.2.2.2.2.1
/-- only what holds nothing has changed -/
theorem RF.sc {x : Nat} {S0 S S' : TS} {A : AS} {P : Nat → Prop} (h : RF x S0 S A) (e : Ex P S S') (hp : ∀ a, P a → scr x a) : RF x S0 S' A :=
  h.gen e (fun _ => False) (fun a z => Or.inl (hp a z)) (fun _ z => z.elim) (fun _ _ => Or.inr ⟨rfl, fun z => z, fun z => z⟩) (fun _ _ => Or.inr ⟨rfl, fun z => z⟩) (Or.inr ⟨rfl, fun _ _ _ z => z⟩) (Or.inr ⟨rfl, fun _ _ _ z => z⟩) ⟨rfl, fun _ _ _ z => z⟩
/-- one row of bytes -/
theorem RF.wB {x : Nat} {S0 S S' : TS} {A : AS} {P : Nat → Prop} (h : RF x S0 S A) (e : Ex P S S') {i : Nat} (hi : i < 28) {l : List B8} (hp : ∀ a, P a → scr x a ∨ bP (x + bO i) a) (hb : BT S' (x + bO i) (bC i) l) : RF x S0 S' (wB A i l) := by
  have ok := bO_ok i hi
  refine h.gen e (bP (x + bO i)) hp (fun a z => by simp only [bP] at z; unfold inr; omega) (fun j hj => ?_) (fun j hj => Or.inr ⟨rfl, ?_⟩) (Or.inr ⟨rfl, fun a h1 h2 z => ?_⟩) (Or.inr ⟨rfl, fun a h1 h2 z => ?_⟩) ⟨rfl, fun a h1 h2 z => ?_⟩
  · rw [aB_wB]
    by_cases hji : j = i
    · subst hji
      rw [up_s]
      exact Or.inl hb
    · have := bO_dj i hi j hj (Ne.symm hji)
      rw [up_n _ _ hji]
      exact Or.inr ⟨rfl, by simp only [bP]; omega, by simp only [bP]; omega⟩
  · have := iO_ok j hj
    simp only [bP]; omega
  · simp only [bP] at z; omega
  · simp only [bP] at z; omega
  · simp only [bP] at z; omega
/-- one number of a row of numbers -/
theorem RF.wI {x : Nat} {S0 S S' : TS} {A : AS} {P : Nat → Prop} (h : RF x S0 S A) (e : Ex P S S') {i : Nat} (hi : i < 22) {v : Int32} (hp : ∀ a, P a → scr x a ∨ a = x + iO i) (hv : tI S' (x + iO i) = upd (tI S (x + iO i)) (iF i) v) (hd : ∀ j, j < 22 → j ≠ i → iO j = iO i → iF j ≠ iF i) : RF x S0 S' (wI A i v) := by
  have ok := iO_ok i hi
  refine h.gen e (fun a => a = x + iO i) hp (fun a z => by unfold inr; omega) (fun j hj => Or.inr ⟨rfl, ?_, ?_⟩) (fun j hj => ?_) (Or.inr ⟨rfl, fun a h1 h2 z => ?_⟩) (Or.inr ⟨rfl, fun a h1 h2 z => ?_⟩) ⟨rfl, fun a h1 h2 z => ?_⟩
  · have := bO_ok j hj; omega
  · have := bO_ok j hj; omega
  · rw [aI_wI]
    by_cases hji : j = i
    · subst hji
      rw [up_s, hv, pk_us]
      exact Or.inl rfl
    · rw [up_n _ _ hji]
      by_cases ho : iO j = iO i
      · refine Or.inl ?_
        rw [ho, hv, pk_un (hd j hj hji ho), ← ho]
        exact h.i hj
      · exact Or.inr ⟨rfl, by omega⟩
  · omega
  · omega
  · omega
theorem iF_dj : ∀ i, i < 22 → ∀ j, j < 22 → j ≠ i → iO j = iO i → iF j ≠ iF i := by decide
/-- one wire -/
theorem RF.wW {x : Nat} {S0 S S' : TS} {A : AS} {P : Nat → Prop} (h : RF x S0 S A) (e : Ex P S S') {w : Nat} (hw : w < 2) {ws : List (List B8)} (hp : ∀ a, P a → scr x a ∨ (x + 20 + 28 * w ≤ a ∧ a < x + 48 + 28 * w)) (hv : ∃ f, WR S' (x + 20 + 28 * w) ws f) : RF x S0 S' (wW A w ws) := by
  refine h.gen e (fun a => x + 20 + 28 * w ≤ a ∧ a < x + 48 + 28 * w) hp (fun a z => by unfold inr; omega) (fun j hj => Or.inr ⟨rfl, ?_, ?_⟩) (fun j hj => Or.inr ⟨rfl, ?_⟩) ?_ ?_ ⟨rfl, fun a h1 h2 z => ?_⟩
  · have := bO_ok j hj; omega
  · have := bO_ok j hj; omega
  · have := iO_ok j hj; omega
  · rw [aW_wW]
    by_cases h0 : w = 0
    · subst h0
      rw [up_s]; exact Or.inl hv
    · rw [up_n _ _ (Ne.symm h0)]
      exact Or.inr ⟨rfl, fun a h1 h2 z => by omega⟩
  · rw [aW_wW]
    by_cases h0 : w = 1
    · subst h0
      rw [up_s]; exact Or.inl hv
    · rw [up_n _ _ (Ne.symm h0)]
      exact Or.inr ⟨rfl, fun a h1 h2 z => by omega⟩
  · omega
/-- a number below n, or none -/
def nof (n : Nat) (x : Int32) : Option Nat := if u32 x < n then some (u32 x) else none
theorem nof_some {n j : Nat} (hj : j < n) (h : j < 2 ^ 32) : nof n (nI j) = some j := by
  unfold nof
  rw [u32_nI h, if_pos hj]
theorem nof_none {n : Nat} {x : Int32} (h : ∀ j, j < n → x ≠ nI j) : nof n x = none := by
  unfold nof
  rw [if_neg (fun z => h _ z (nI_u32 x).symm)]
