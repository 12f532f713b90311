/-! PURE: the reference holds the state A -/
def inM (y a : Nat) : Prop := y ≤ a ∧ a < y + 45
def cBL (y f r : Nat) (S : TS) (l : List B8) : Prop := tI S y f = nI l.length ∧ BR S (y + r) 0 l
def cK (y : Nat) (S : TS) (K : Nat → List B8) : Prop := ∀ j, j < 16 → tI S (y + 9) j = (if K j = [] then 0 else 1) ∧ BR S (y + 10) (32 * j) (K j)
def cS (y : Nat) (S : TS) (a : Nat → Int32) : Prop := ∀ s, s < 2 → tI S (y + 11) s = a s ∧ tI S (y + 12) s = a (2 + s)
def cH (y : Nat) (S : TS) (v : Int32) (l : List B8) : Prop := v = 1 → BR S (y + 13) 0 l
def cD (y : Nat) (S : TS) (v : Int32) (a b c : List B8) : Prop := v = 1 → BR S (y + 14) 0 (mac c (b8 99 :: a)) ∧ BR S (y + 40) 0 b
def cZ (y : Nat) (S : TS) (a : Nat → Int32) (B : Nat → List B8) (s : Nat) : Prop := a s = 2 → ∀ d, d < 2 → BR S (y + 15) (32 * (2 * s + d)) (B (24 + 2 * s + d)) ∧ tI S (y + 16) (2 * s + d) = a (4 + 2 * s + d) ∧ tI S (y + 17) (2 * s + d) = a (8 + 2 * s + d)
def cW (y : Nat) (S : TS) (w : Nat) (L : List (List B8)) : Prop := tI S (y + 20) w = nI L.length ∧ ∀ k, k < L.length → tI S (y + 19) (12 * w + k) = nI (L.getD k []).length ∧ BR S (y + 18) (200 * (12 * w + k)) (L.getD k [])
def cST (y : Nat) (S : TS) (st : Stt) : Prop := tI S y 31 = nI st.length ∧ ∀ k, k < st.length → tI S (y + 23) k = nI (sN1 st k).length ∧ BR S (y + 22) (16 * k) (sN1 st k) ∧ tI S (y + 25) k = nI (sV1 st k).length ∧ BR S (y + 24) (64 * k) (sV1 st k)
def cC (y : Nat) (S : TS) (a : Nat → Int32) : Prop := tI S y 4 = a 14 ∧ tI S y 34 = a 12 ∧ tI S y 35 = a 13
def RM (y : Nat) (S : TS) (A : AS) : Prop := MS y S ∧ cBL y 1 1 S (aB A 0) ∧ cBL y 3 2 S (aB A 1) ∧ cBL y 26 21 S (aB A 2) ∧ cBL y 33 26 S (aB A 3) ∧ cK y S (fun j => aB A (4 + j)) ∧ cS y S (aI A) ∧ cH y S (aI A 0) (aB A 20) ∧ cD y S (aI A 1) (aB A 21) (aB A 22) (aB A 23) ∧ (∀ s, s < 2 → cZ y S (aI A) (aB A) s) ∧ (∀ w, w < 2 → cW y S w (aW A w)) ∧ cST y S (aT A) ∧ cC y S (aI A)
def RMF (y : Nat) (S0 S : TS) (A : AS) : Prop := RM y S A ∧ Ex (inM y) S0 S
theorem RM.f {y : Nat} {S : TS} {A : AS} (h : RM y S A) : RMF y S S A := ⟨h, Ex.rf S⟩
theorem cBL.mx {y f r : Nat} {P F : Nat → Prop} {S S' : TS} {l : List B8} (h : cBL y f r S l) (e : MX y P F S S') (hr : 0 < r) (h1 : ¬ P (y + r)) (h2 : ¬ F f) : cBL y f r S' l := ⟨by rw [e.2 f h2]; exact h.1, h.2.mx e (by omega) h1⟩
theorem RMF.gen {y : Nat} {P F : Nat → Prop} {S0 S S' : TS} {A A' : AS} (h : RMF y S0 S A) (e : MX y P F S S') (hp : ∀ a, P a → inM y a)
    (hT : cBL y 1 1 S' (aB A' 0) ∨ (aB A' 0 = aB A 0 ∧ ¬ P (y + 1) ∧ ¬ F 1))
    (hO : cBL y 3 2 S' (aB A' 1) ∨ (aB A' 1 = aB A 1 ∧ ¬ P (y + 2) ∧ ¬ F 3))
    (hN : cBL y 26 21 S' (aB A' 2) ∨ (aB A' 2 = aB A 2 ∧ ¬ P (y + 21) ∧ ¬ F 26))
    (hA : cBL y 33 26 S' (aB A' 3) ∨ (aB A' 3 = aB A 3 ∧ ¬ P (y + 26) ∧ ¬ F 33))
    (hK : cK y S' (fun j => aB A' (4 + j)) ∨ ((∀ j, j < 16 → aB A' (4 + j) = aB A (4 + j)) ∧ ¬ P (y + 9) ∧ ¬ P (y + 10)))
    (hS : cS y S' (aI A') ∨ ((∀ j, j < 4 → aI A' j = aI A j) ∧ ¬ P (y + 11) ∧ ¬ P (y + 12)))
    (hH : cH y S' (aI A' 0) (aB A' 20) ∨ (aI A' 0 = aI A 0 ∧ aB A' 20 = aB A 20 ∧ ¬ P (y + 13)))
    (hD : cD y S' (aI A' 1) (aB A' 21) (aB A' 22) (aB A' 23) ∨ (aI A' 1 = aI A 1 ∧ aB A' 21 = aB A 21 ∧ aB A' 22 = aB A 22 ∧ aB A' 23 = aB A 23 ∧ ¬ P (y + 14) ∧ ¬ P (y + 40)))
    (hZ : ∀ s, s < 2 → cZ y S' (aI A') (aB A') s ∨ ((aI A' s = aI A s ∧ ∀ d, d < 2 → aB A' (24 + 2 * s + d) = aB A (24 + 2 * s + d) ∧ aI A' (4 + 2 * s + d) = aI A (4 + 2 * s + d) ∧ aI A' (8 + 2 * s + d) = aI A (8 + 2 * s + d)) ∧ ¬ P (y + 15) ∧ ¬ P (y + 16) ∧ ¬ P (y + 17)))
    (hW : ∀ w, w < 2 → cW y S' w (aW A' w) ∨ (aW A' w = aW A w ∧ ¬ P (y + 18) ∧ ¬ P (y + 19) ∧ ¬ P (y + 20)))
    (hST : cST y S' (aT A') ∨ (aT A' = aT A ∧ ¬ P (y + 22) ∧ ¬ P (y + 23) ∧ ¬ P (y + 24) ∧ ¬ P (y + 25) ∧ ¬ F 31))
    (hC : cC y S' (aI A') ∨ (aI A' 14 = aI A 14 ∧ aI A' 12 = aI A 12 ∧ aI A' 13 = aI A 13 ∧ ¬ F 4 ∧ ¬ F 34 ∧ ¬ F 35)) : RMF y S0 S' A' := by
  obtain ⟨⟨h0, h1, h2, h3, h4, h5, h6, h7, h8, h9, h10, h11, h12⟩, hf⟩ := h
  refine ⟨⟨h0.sm e.sm, ?_, ?_, ?_, ?_, ?_, ?_, ?_, ?_, fun s hs => ?_, fun w hw => ?_, ?_, ?_⟩, hf.tr (e.1.mono (fun a z => z.elim (fun z => by rw [z]; show y ≤ y ∧ y < y + 45; omega) (hp a)))⟩
  · exact hT.elim id (fun g => by rw [g.1]; exact h1.mx e (by omega) g.2.1 g.2.2)
  · exact hO.elim id (fun g => by rw [g.1]; exact h2.mx e (by omega) g.2.1 g.2.2)
  · exact hN.elim id (fun g => by rw [g.1]; exact h3.mx e (by omega) g.2.1 g.2.2)
  · exact hA.elim id (fun g => by rw [g.1]; exact h4.mx e (by omega) g.2.1 g.2.2)
  · refine hK.elim id (fun g j hj => ?_)
    have := h5 j hj
    simp only [g.1 j hj]
    exact ⟨by rw [e.row (by omega) g.2.1]; exact this.1, this.2.mx e (by omega) g.2.2⟩
  · refine hS.elim id (fun g s hs => ?_)
    have := h6 s hs
    rw [e.row (by omega) g.2.1, e.row (by omega) g.2.2, g.1 s (by omega), g.1 (2 + s) (by omega)]
    exact this
  · refine hH.elim id (fun g c => ?_)
    rw [g.1] at c
    rw [g.2.1]
    exact (h7 c).mx e (by omega) g.2.2
  · refine hD.elim id (fun g c => ?_)
    obtain ⟨g1, g2, g3, g4, g5, g6⟩ := g
    rw [g1] at c
    rw [g2, g3, g4]
    exact ⟨(h8 c).1.mx e (by omega) g5, (h8 c).2.mx e (by omega) g6⟩
  · refine (hZ s hs).elim id (fun g c d hd => ?_)
    obtain ⟨⟨g1, g2⟩, g3, g4, g5⟩ := g
    rw [g1] at c
    obtain ⟨k1, k2, k3⟩ := g2 d hd
    obtain ⟨j1, j2, j3⟩ := h9 s hs c d hd
    rw [k1, k2, k3, e.row (by omega) g4, e.row (by omega) g5]
    exact ⟨j1.mx e (by omega) g3, j2, j3⟩
  · refine (hW w hw).elim id (fun g => ?_)
    obtain ⟨g1, g2, g3, g4⟩ := g
    obtain ⟨j1, j2⟩ := h10 w hw
    rw [g1]
    exact ⟨by rw [e.row (by omega) g4]; exact j1, fun k hk => ⟨by rw [e.row (by omega) g3]; exact (j2 k hk).1, (j2 k hk).2.mx e (by omega) g2⟩⟩
  · refine hST.elim id (fun g => ?_)
    obtain ⟨g1, g2, g3, g4, g5, g6⟩ := g
    obtain ⟨j1, j2⟩ := h11
    rw [g1]
    refine ⟨by rw [e.2 31 g6]; exact j1, fun k hk => ?_⟩
    obtain ⟨k1, k2, k3, k4⟩ := j2 k hk
    exact ⟨by rw [e.row (by omega) g3]; exact k1, k2.mx e (by omega) g2, by rw [e.row (by omega) g5]; exact k3, k4.mx e (by omega) g4⟩
  · refine hC.elim id (fun g => ?_)
    obtain ⟨g1, g2, g3, g4, g5, g6⟩ := g
    obtain ⟨j1, j2, j3⟩ := h12
    exact ⟨by rw [e.2 4 g4, g1]; exact j1, by rw [e.2 34 g5, g2]; exact j2, by rw [e.2 35 g6, g3]; exact j3⟩
section RMX
variable {y : Nat} {S0 S S' : TS} {A : AS} {P F : Nat → Prop}
theorem RMF.ms (h : RMF y S0 S A) : MS y S := h.1.1
theorem RMF.tp (h : RMF y S0 S A) : cBL y 1 1 S (aB A 0) := h.1.2.1
theorem RMF.ot (h : RMF y S0 S A) : cBL y 3 2 S (aB A 1) := h.1.2.2.1
theorem RMF.nm (h : RMF y S0 S A) : cBL y 26 21 S (aB A 2) := h.1.2.2.2.1
theorem RMF.an (h : RMF y S0 S A) : cBL y 33 26 S (aB A 3) := h.1.2.2.2.2.1
theorem RMF.ky (h : RMF y S0 S A) : cK y S (fun j => aB A (4 + j)) := h.1.2.2.2.2.2.1
theorem RMF.st (h : RMF y S0 S A) : cS y S (aI A) := h.1.2.2.2.2.2.2.1
theorem RMF.he (h : RMF y S0 S A) : cH y S (aI A 0) (aB A 20) := h.1.2.2.2.2.2.2.2.1
theorem RMF.du (h : RMF y S0 S A) : cD y S (aI A 1) (aB A 21) (aB A 22) (aB A 23) := h.1.2.2.2.2.2.2.2.2.1
theorem RMF.sk (h : RMF y S0 S A) : ∀ s, s < 2 → cZ y S (aI A) (aB A) s := h.1.2.2.2.2.2.2.2.2.2.1
theorem RMF.wi (h : RMF y S0 S A) : ∀ w, w < 2 → cW y S w (aW A w) := h.1.2.2.2.2.2.2.2.2.2.2.1
theorem RMF.so (h : RMF y S0 S A) : cST y S (aT A) := h.1.2.2.2.2.2.2.2.2.2.2.2.1
theorem RMF.cn (h : RMF y S0 S A) : cC y S (aI A) := h.1.2.2.2.2.2.2.2.2.2.2.2.2
/-- rows and fields that hold nothing between two calls -/
def mscr (y a : Nat) : Prop := (y + 3 ≤ a ∧ a ≤ y + 8) ∨ (y + 27 ≤ a ∧ a ≤ y + 39) ∨ (y + 41 ≤ a ∧ a ≤ y + 44)
def fscr (f : Nat) : Prop := f = 6 ∨ f = 12 ∨ f = 46
theorem mscr_in {a : Nat} (h : mscr y a) : inM y a := by unfold mscr at h; show y ≤ a ∧ a < y + 45; omega
theorem RMF.sc (h : RMF y S0 S A) (e : MX y P F S S') (hp : ∀ a, P a → mscr y a) (hf : ∀ f, F f → fscr f) : RMF y S0 S' A := by
  have n : ∀ k, ¬ mscr y (y + k) → ¬ P (y + k) := fun k hk z => hk (hp _ z)
  have m : ∀ k, (k ≠ 6 ∧ k ≠ 12 ∧ k ≠ 46) → ¬ F k := fun k hk z => by have := hf _ z; unfold fscr at this; omega
  refine h.gen e (fun a z => mscr_in (hp a z)) (Or.inr ⟨rfl, n 1 ?_, m 1 (by decide)⟩) (Or.inr ⟨rfl, n 2 ?_, m 3 (by decide)⟩) (Or.inr ⟨rfl, n 21 ?_, m 26 (by decide)⟩) (Or.inr ⟨rfl, n 26 ?_, m 33 (by decide)⟩) (Or.inr ⟨fun _ _ => rfl, n 9 ?_, n 10 ?_⟩) (Or.inr ⟨fun _ _ => rfl, n 11 ?_, n 12 ?_⟩) (Or.inr ⟨rfl, rfl, n 13 ?_⟩) (Or.inr ⟨rfl, rfl, rfl, rfl, n 14 ?_, n 40 ?_⟩) (fun s hs => Or.inr ⟨⟨rfl, fun _ _ => ⟨rfl, rfl, rfl⟩⟩, n 15 ?_, n 16 ?_, n 17 ?_⟩) (fun w hw => Or.inr ⟨rfl, n 18 ?_, n 19 ?_, n 20 ?_⟩) (Or.inr ⟨rfl, n 22 ?_, n 23 ?_, n 24 ?_, n 25 ?_, m 31 (by decide)⟩) (Or.inr ⟨rfl, rfl, rfl, m 4 (by decide), m 34 (by decide), m 35 (by decide)⟩) <;> (unfold mscr; omega)
/-- the tape -/
theorem RMF.tape {l : List B8} (h : RMF y S0 S A) (e : MX y (fun a => a = y + 1) (fun f => f = 1) S S') (c : cBL y 1 1 S' l) : RMF y S0 S' (wB A 0 l) := by
  refine h.gen e (fun a z => by show y ≤ a ∧ a < y + 45; omega) (Or.inl c) (Or.inr ⟨rfl, by omega, by omega⟩) (Or.inr ⟨rfl, by omega, by omega⟩) (Or.inr ⟨rfl, by omega, by omega⟩) (Or.inr ⟨fun j _ => ?_, by omega, by omega⟩) (Or.inr ⟨fun _ _ => rfl, by omega, by omega⟩) (Or.inr ⟨rfl, rfl, by omega⟩) (Or.inr ⟨rfl, rfl, rfl, rfl, by omega, by omega⟩) (fun s hs => Or.inr ⟨⟨rfl, fun d _ => ⟨?_, rfl, rfl⟩⟩, by omega, by omega, by omega⟩) (fun w hw => Or.inr ⟨rfl, by omega, by omega, by omega⟩) (Or.inr ⟨rfl, by omega, by omega, by omega, by omega, by omega⟩) (Or.inr ⟨rfl, rfl, rfl, by omega, by omega, by omega⟩)
  · rw [aB_wB, up_n _ _ (by omega)]
  · rw [aB_wB, up_n _ _ (by omega)]
/-- the state of side s -/
theorem RMF.side {s : Nat} {v : Int32} (h : RMF y S0 S A) (hs : s < 2) (e : S' = sI S (y + 11) (upd (tI S (y + 11)) s v)) (hH : s = 0 → v = 1 → BR S (y + 13) 0 (aB A 20)) (hD : s = 1 → v = 1 → BR S (y + 14) 0 (mac (aB A 23) (b8 99 :: aB A 21)) ∧ BR S (y + 40) 0 (aB A 22))
    (hZ : v = 2 → ∀ d, d < 2 → BR S (y + 15) (32 * (2 * s + d)) (aB A (24 + 2 * s + d)) ∧ tI S (y + 16) (2 * s + d) = aI A (4 + 2 * s + d) ∧ tI S (y + 17) (2 * s + d) = aI A (8 + 2 * s + d)) : RMF y S0 S' (wI A s v) := by
  have x : Ex (fun a => a = y + 11) S S' := by rw [e]; exact (Ex.rf S).I rfl
  have m : MX y (fun a => a = y + 11) (fun _ => False) S S' := MX.of x (by omega)
  have r : tI S' (y + 11) = upd (tI S (y + 11)) s v := by rw [e, tI_sI, up_s]
  have ne : ∀ j, j ≠ s → aI (wI A s v) j = aI A j := fun j hj => by rw [aI_wI, up_n _ _ hj]
  refine h.gen m (fun a z => by show y ≤ a ∧ a < y + 45; omega) (Or.inr ⟨rfl, by omega, fun z => z⟩) (Or.inr ⟨rfl, by omega, fun z => z⟩) (Or.inr ⟨rfl, by omega, fun z => z⟩) (Or.inr ⟨rfl, by omega, fun z => z⟩) (Or.inr ⟨fun _ _ => rfl, by omega, by omega⟩) (Or.inl (fun j hj => ?_)) ?_ ?_ (fun j hj => ?_) (fun w hw => Or.inr ⟨rfl, by omega, by omega, by omega⟩) (Or.inr ⟨rfl, by omega, by omega, by omega, by omega, fun z => z⟩) (Or.inr ⟨ne 14 (by omega), ne 12 (by omega), ne 13 (by omega), fun z => z, fun z => z, fun z => z⟩)
  · rw [r, ne (2 + j) (by omega), (x.2 (y + 12) (by omega)).1]
    refine ⟨?_, (h.st j hj).2⟩
    by_cases hjs : j = s
    · rw [hjs, pk_us, aI_wI, up_s]
    · rw [pk_un hjs, ne j hjs]; exact (h.st j hj).1
  · by_cases h0 : s = 0
    · subst h0
      refine Or.inl (fun c => ?_)
      rw [aI_wI, up_s] at c
      exact (hH rfl c).ex x (by omega)
    · exact Or.inr ⟨ne 0 (fun z => h0 z.symm), rfl, by omega⟩
  · by_cases h0 : s = 1
    · subst h0
      refine Or.inl (fun c => ?_)
      rw [aI_wI, up_s] at c
      exact ⟨(hD rfl c).1.ex x (by omega), (hD rfl c).2.ex x (by omega)⟩
    · exact Or.inr ⟨ne 1 (fun z => h0 z.symm), rfl, rfl, rfl, by omega, by omega⟩
  · by_cases h0 : j = s
    · subst h0
      refine Or.inl (fun c d hd => ?_)
      rw [aI_wI, up_s] at c
      obtain ⟨g1, g2, g3⟩ := hZ c d hd
      rw [ne _ (by omega), ne _ (by omega), (x.2 (y + 16) (by omega)).1, (x.2 (y + 17) (by omega)).1]
      exact ⟨g1.ex x (by omega), g2, g3⟩
    · exact Or.inr ⟨⟨ne j h0, fun d hd => ⟨rfl, ne _ (by omega), ne _ (by omega)⟩⟩, by omega, by omega, by omega⟩
/-- wire w -/
theorem RMF.wire {w : Nat} {L : List (List B8)} (h : RMF y S0 S A) (e : MX y (fun a => a = y + 18 ∨ a = y + 19 ∨ a = y + 20) (fun _ => False) S S') (c : cW y S' w L) (c2 : ∀ v, v < 2 → v ≠ w → cW y S' v (aW A v)) : RMF y S0 S' (wW A w L) := by
  refine h.gen e (fun a z => by show y ≤ a ∧ a < y + 45; omega) (Or.inr ⟨rfl, by omega, fun z => z⟩) (Or.inr ⟨rfl, by omega, fun z => z⟩) (Or.inr ⟨rfl, by omega, fun z => z⟩) (Or.inr ⟨rfl, by omega, fun z => z⟩) (Or.inr ⟨fun _ _ => rfl, by omega, by omega⟩) (Or.inr ⟨fun _ _ => rfl, by omega, by omega⟩) (Or.inr ⟨rfl, rfl, by omega⟩) (Or.inr ⟨rfl, rfl, rfl, rfl, by omega, by omega⟩) (fun s hs => Or.inr ⟨⟨rfl, fun d _ => ⟨rfl, rfl, rfl⟩⟩, by omega, by omega, by omega⟩) (fun v hv => ?_) (Or.inr ⟨rfl, by omega, by omega, by omega, by omega, fun z => z⟩) (Or.inr ⟨rfl, rfl, rfl, fun z => z, fun z => z, fun z => z⟩)
  rw [aW_wW]
  by_cases hvw : v = w
  · subst hvw; rw [up_s]; exact Or.inl c
  · rw [up_n _ _ hvw]; exact Or.inl (c2 v hv hvw)
/-- wire v stays if its places stay -/
theorem cW.fr {v : Nat} {L : List (List B8)} (h : cW y S v L) (e : tI S' (y + 20) v = tI S (y + 20) v) (e1 : ∀ i, 12 * v ≤ i → i < 12 * v + L.length → tI S' (y + 19) i = tI S (y + 19) i) (e2 : ∀ i, 200 * (12 * v) ≤ i → i < 200 * (12 * v + 12) → tI S' (y + 18) i = tI S (y + 18) i) (hl : L.length ≤ 12) (h200 : ∀ l ∈ L, l.length ≤ 200) : cW y S' v L := by
  refine ⟨by rw [e]; exact h.1, fun k hk => ⟨by rw [e1 _ (by omega) (by omega)]; exact (h.2 k hk).1, fun j hj => ?_⟩⟩
  have hm : (L.getD k []) ∈ L := by rw [List.getD_eq_getElem?_getD, List.getElem?_eq_getElem hk]; exact List.getElem_mem hk
  have := h200 _ hm
  rw [e2 _ (by omega) (by omega)]
  exact (h.2 k hk).2 j hj
end RMX
/-- a loop that lays a list into a row of bytes -/
theorem cpl {b o : Nat} {l : List B8} {H : Nat → TS → Prop} {S0 : TS} (st : ∀ k S, k < l.length → Ex (fun z => z = b) S0 S → (∀ S6, S6 = sI S b (upd (tI S b) (o + k) (sx (l.getD k 0))) → H (k + 1) S6) → H k S)
    (fin : ∀ S', Ex (fun z => z = b) S0 S' → BR S' b o l → (∀ i, (i < o ∨ o + l.length ≤ i) → tI S' b i = tI S0 b i) → H l.length S') : H 0 S0 := by
  have go : ∀ (n k : Nat) (S : TS), k + n = l.length → Ex (fun z => z = b) S0 S → (∀ j, j < k → tI S b (o + j) = sx (l.getD j 0)) → (∀ i, (i < o ∨ o + l.length ≤ i) → tI S b i = tI S0 b i) → H k S := by
    intro n
    induction n with
    | zero =>
      intro k S hk x h1 h2
      have : k = l.length := by omega
      subst this
      exact fin S x h1 h2
    | succ n ih =>
      intro k S hk x h1 h2
      refine st k S (by omega) x (fun S6 e6 => ih (k + 1) S6 (by omega) (by rw [e6]; exact x.I rfl) (fun j hj => ?_) (fun i hi => ?_))
      · rw [e6, tI_sI, up_s]
        by_cases hjk : j = k
        · subst hjk; rw [pk_us]
        · rw [pk_un (by omega)]; exact h1 j (by omega)
      · rw [e6, tI_sI, up_s, pk_un (by omega)]; exact h2 i hi
  exact go l.length 0 S0 (by omega) (Ex.rf S0) (fun j hj => absurd hj (by omega)) (fun _ _ => rfl)
