/-! PURE: what the class takes from a wire -/
def aOpen (A : AS) (s : Nat) (k : List B8) : AS := wI (wI (wI (wI (wI (wB (wB A (24 + 2 * s) (mac k (ktx 0 0))) (24 + 2 * s + 1) (mac k (ktx 1 0))) (4 + 2 * s) 0) (4 + 2 * s + 1) 0) (8 + 2 * s) 0) (8 + 2 * s + 1) 0) s 2
def tGreet (A : AS) (s : Nat) (L : List B8) : Int32 × AS :=
  if s = 1 ∧ aI A 1 = 0 ∧ L.length = 36 ∧ (L.getD 35 0).toNat < 8 ∧ aB A (12 + (L.getD 35 0).toNat) ≠ [] then
    (if (aW A 1).length = 12 then (-3, A) else
      (1, wI (wW (wB (wB (wB (wI A 3 (aI A 3 + 1)) 21 (sha ((L.drop 3).take 33 ++ rnd A 1))) 22 (mac (aB A (12 + (L.getD 35 0).toNat)) (sha ((L.drop 3).take 33 ++ rnd A 1)))) 23 (mac (mac (aB A (12 + (L.getD 35 0).toNat)) (sha ((L.drop 3).take 33 ++ rnd A 1))) [102])) 1
        (aW A 1 ++ [hd3 2 64 ++ rnd A 1 ++ mac (mac (mac (aB A (12 + (L.getD 35 0).toNat)) (sha ((L.drop 3).take 33 ++ rnd A 1))) [102]) (b8 115 :: sha ((L.drop 3).take 33 ++ rnd A 1))])) 1 1)) else (-4, A)
def tReply (A : AS) (s : Nat) (L : List B8) : Int32 × AS :=
  if s = 0 ∧ aI A 0 = 1 ∧ L.length = 67 ∧ aB A (4 + ((aB A 20).getD 32 0).toNat) ≠ [] ∧ (L.drop 35).take 32 = mac (mac (mac (aB A (4 + ((aB A 20).getD 32 0).toNat)) (sha (aB A 20 ++ (L.drop 3).take 32))) [102]) (b8 115 :: sha (aB A 20 ++ (L.drop 3).take 32)) then
    (if (aW A 0).length = 12 then (-3, A) else
      (2, wB (aOpen (wW A 0 (aW A 0 ++ [hd3 3 32 ++ mac (mac (mac (aB A (4 + ((aB A 20).getD 32 0).toNat)) (sha (aB A 20 ++ (L.drop 3).take 32))) [102]) (b8 99 :: sha (aB A 20 ++ (L.drop 3).take 32))])) 0 (mac (aB A (4 + ((aB A 20).getD 32 0).toNat)) (sha (aB A 20 ++ (L.drop 3).take 32)))) 3 [])) else (-4, A)
def tProof (A : AS) (s : Nat) (L : List B8) : Int32 × AS :=
  if s = 1 ∧ aI A 1 = 1 ∧ L.length = 35 ∧ (L.drop 3).take 32 = mac (aB A 23) (b8 99 :: aB A 21) then (3, aOpen A 1 (aB A 22)) else (-4, A)
def tReq (A : AS) (p : List B8) : Int32 × AS := match rdq p with
  | none => (-4, A)
  | some (o, nm, dt) => if (aW A 1).length = 12 then (-3, A) else
      (4, wI (aSeal (wT (wI A 6 (aI A 6 + 1)) (srv (aT A) o nm dt).2) 1 1 1 (0 :: (srv (aT A) o nm dt).1)) 12 (aI A 12 + 1))
def tAns (A : AS) (p : List B8) : Int32 × AS :=
  if 2 ≤ p.length ∧ p.length ≤ 2 + (if (p.getD 1 0).toNat = 0 then 64 else 0) ∧ (p.getD 1 0).toNat ≤ 3 then (4, wI (wB (wI A 5 (aI A 5 + 1)) 3 (p.drop 1)) 13 (aI A 13 + 1)) else (-4, A)
def tSealed (A : AS) (s : Nat) (L : List B8) : Int32 × AS :=
  if aI A s = 2 then (match opn (aB A (24 + 2 * s + (1 - s))) (aI A (4 + 2 * s + (1 - s))) L with
    | none => (-4, A)
    | some p => if p.length = 0 then (-4, A) else if (p.getD 0 0).toNat = 0 then (if s = 1 then tReq A p else tAns A p) else if p.length = 1 then (if (p.getD 0 0).toNat = 1 then (4, aNew A s (1 - s)) else if (p.getD 0 0).toNat = 2 then (4, wI A s 3) else (-4, A)) else (-4, A)) else (-4, A)
section QT
variable {G : pG} {x : Nat} {S0 S : TS} {A : AS} {Q : Option Value → TS → Prop}
theorem p_isServer {Q : Option Value → Prop} (R : RF x S0 S A) (ok : AOK A) {s : Nat} (hs : s < 2) (h1 : s = 1 → Q (some (.int 1))) (h0 : s = 0 → Q (some (.int 0))) : CP G J_Side_isServer [.ref (x + 174 + 45 * s)] S Q := by
  have sn := R.sn hs
  refine v_Side_isServer _ S Q ⟨(R.sd hs).o, ?_⟩
  rw [sn.2.2.2]
  rcases (show s = 0 ∨ s = 1 by omega) with rfl | rfl
  · rw [show aI A (16 + 0) = 0 from ok.2.2.2.2.1.1]
    exact ⟨fun _ => h0 rfl, fun c => absurd c (by decide)⟩
  · rw [show aI A (16 + 1) = 1 from ok.2.2.2.2.1.2.1]
    exact ⟨fun c => absurd rfl c, fun _ => h1 rfl⟩
theorem p_agree1 {t : Nat → Nat} (hG : GS G t) (R : RF x S0 S A) {j : Nat} (hj : j < 8) {l : List B8} (hq : BT S (x + 170) 65 l) (hl : l.length ≤ 247)
    (hQ : ∀ S', RF x S0 S' (wB (wB (wB A 21 (sha l)) 22 (mac (aB A (12 + j)) (sha l))) 23 (mac (mac (aB A (12 + j)) (sha l)) [102])) → Ex (fun a => hP (x + 220) a ∨ (x + 240 ≤ a ∧ a < x + 248)) S S' → Q none S') : C0 G J_Side_agree [.ref (x + 219), .int (nI j), .ref (x + 170)] S Q := by
  have kb := R.key (s := 1) (by omega) hj
  rw [show 4 + 8 * 1 + j = 12 + j by omega] at kb
  refine p_agree hG (R.sd (s := 1) (by omega)) hj kb hq hl (by omega) (fun S1 x1 b21 b22 b23 => hQ S1 ?_ x1)
  refine R.gen x1 (fun a => x + 240 ≤ a ∧ a < x + 246) (fun a z => ?_) (fun a z => by unfold inr; omega) (fun i hi => ?_) (fun i hi => Or.inr ⟨rfl, by have := iO_ok i hi; omega⟩) (Or.inr ⟨rfl, fun a h1 h2 z => by omega⟩) (Or.inr ⟨rfl, fun a h1 h2 z => by omega⟩) ⟨rfl, fun a h1 h2 z => by omega⟩
  · simp only [hP] at z
    unfold scr
    omega
  · by_cases h23 : i = 23
    · subst h23; exact Or.inl b23
    · by_cases h22 : i = 22
      · subst h22; exact Or.inl b22
      · by_cases h21 : i = 21
        · subst h21; exact Or.inl b21
        · refine Or.inr ⟨?_, ?_, ?_⟩
          · rw [aB_wB, up_n _ _ h23, aB_wB, up_n _ _ h22, aB_wB, up_n _ _ h21]
          · have d1 : bO i + 1 < 240 ∨ 240 + 1 < bO i := bO_dj i hi 21 (by omega) h21
            have d2 : bO i + 1 < 242 ∨ 242 + 1 < bO i := bO_dj i hi 22 (by omega) h22
            have d3 : bO i + 1 < 244 ∨ 244 + 1 < bO i := bO_dj i hi 23 (by omega) h23
            omega
          · have d1 : bO i + 1 < 240 ∨ 240 + 1 < bO i := bO_dj i hi 21 (by omega) h21
            have d2 : bO i + 1 < 242 ∨ 242 + 1 < bO i := bO_dj i hi 22 (by omega) h22
            have d3 : bO i + 1 < 244 ∨ 244 + 1 < bO i := bO_dj i hi 23 (by omega) h23
            omega
theorem p_open6c {t : Nat → Nat} (hG : GS G t) (R : RF x S0 S A) (c : aI A 16 = 0 ∧ aI A 17 = 1 ∧ aI A 14 = aI A 15 ∧ aI A 18 = 0 ∧ aI A 19 = 1 ∧ aI A 20 = 0 ∧ aI A 21 = 1) {s : Nat} (hs : s < 2) {k : List B8} (hk : BT S (x + 174 + 45 * s + 23) 32 k) (hQ : ∀ S', RF x S0 S' (aOpen A s k) → Q none S') : C0 G J_Side_open [.ref (x + 174 + 45 * s)] S Q := by
  have d0 := R.dnum hs (d := 0) (by omega)
  have d1 := R.dnum hs (d := 1) (by omega)
  have sn := R.sn hs
  have i0 : aI A (18 + 2 * s + 0) = 0 := by rcases (show s = 0 ∨ s = 1 by omega) with rfl | rfl; exact c.2.2.2.1; exact c.2.2.2.2.2.1
  have i1 : aI A (18 + 2 * s + 1) = 1 := by rcases (show s = 0 ∨ s = 1 by omega) with rfl | rfl; exact c.2.2.2.2.1; exact c.2.2.2.2.2.2
  rw [show x + 174 + 45 * s + 9 + 5 * 0 = x + 174 + 45 * s + 9 by omega] at d0
  rw [show x + 174 + 45 * s + 9 + 5 * 1 = x + 174 + 45 * s + 14 by omega] at d1
  refine p_open hG (R.sd hs) hk (by rw [d0.2.2]; exact i0) (by rw [d1.2.2]; exact i1) (fun S1 x1 b0 b1 j0 j1 js => hQ S1 ?_)
  have o0 := bO_dir s hs 0 (by omega)
  have o1 := bO_dir s hs 1 (by omega)
  have io0 := iO_dir s hs 0 (by omega)
  have io1 := iO_dir s hs 1 (by omega)
  have ios := iO_sid s hs
  have hsd : s = 0 ∨ s = 1 := by omega
  refine R.gen x1 (fun a => a = x + 174 + 45 * s ∨ (x + 174 + 45 * s + 9 ≤ a ∧ a < x + 174 + 45 * s + 12) ∨ (x + 174 + 45 * s + 14 ≤ a ∧ a < x + 174 + 45 * s + 17)) (fun a z => ?_) (fun a z => by unfold inr; omega) (fun i hi => ?_) (fun i hi => ?_) (Or.inr ⟨rfl, fun a h1 h2 z => by omega⟩) (Or.inr ⟨rfl, fun a h1 h2 z => by omega⟩) ⟨rfl, fun a h1 h2 z => by omega⟩
  · simp only [gP, hP] at z
    unfold scr
    rcases hsd with rfl | rfl <;> omega
  · unfold aOpen
    simp only [aB_wI, aB_wB]
    by_cases h1 : i = 24 + 2 * s + 1
    · subst h1
      rw [up_s, o1.1, o1.2, show x + (174 + 45 * s + 9 + 5 * 1 + 1) = x + 174 + 45 * s + 15 by omega]
      exact Or.inl b1
    · rw [up_n _ _ h1]
      by_cases h0 : i = 24 + 2 * s
      · subst h0
        have o0' := o0
        simp only [Nat.add_zero, Nat.mul_zero] at o0'
        rw [up_s, o0'.1, o0'.2, show x + (174 + 45 * s + 9 + 1) = x + 174 + 45 * s + 10 by omega]
        exact Or.inl b0
      · rw [up_n _ _ h0]
        have e0 := bO_dj i hi (24 + 2 * s + 0) (by omega) (by omega)
        have e1 := bO_dj i hi (24 + 2 * s + 1) (by omega) (by omega)
        rw [o0.1] at e0
        rw [o1.1] at e1
        have ok := bO_ok i hi
        refine Or.inr ⟨rfl, ?_, ?_⟩
        · rcases hsd with rfl | rfl <;> omega
        · rcases hsd with rfl | rfl <;> omega
  · unfold aOpen
    simp only [aI_wI, aI_wB]
    have hx1 : ∀ s, s < 2 → ∀ j, j < 22 → iO j = 174 + 45 * s + 9 → j = 4 + 2 * s ∨ j = 8 + 2 * s ∨ j = 18 + 2 * s := by decide
    have hx2 : ∀ s, s < 2 → ∀ j, j < 22 → iO j = 174 + 45 * s + 14 → j = 4 + 2 * s + 1 ∨ j = 8 + 2 * s + 1 ∨ j = 18 + 2 * s + 1 := by decide
    have hxi1 := hx1 s hs i hi
    have hxi2 := hx2 s hs i hi
    simp only [Nat.add_zero, Nat.mul_zero] at io0
    by_cases q1 : i = s
    · subst q1
      rw [up_s, ios.1, ios.2.1, ← Nat.add_assoc, js, pk_us]
      exact Or.inl rfl
    rw [up_n _ _ q1]
    by_cases q2 : i = 8 + 2 * s + 1
    · subst q2
      rw [up_s, io1.2.2.1, io1.2.2.2.1, show x + (174 + 45 * s + 9 + 5 * 1) = x + 174 + 45 * s + 14 by omega]
      exact Or.inl j1.2.2
    rw [up_n _ _ q2]
    by_cases q3 : i = 8 + 2 * s
    · subst q3
      rw [up_s, io0.2.2.1, io0.2.2.2.1, show x + (174 + 45 * s + 9) = x + 174 + 45 * s + 9 by omega]
      exact Or.inl j0.2.2
    rw [up_n _ _ q3]
    by_cases q4 : i = 4 + 2 * s + 1
    · subst q4
      rw [up_s, io1.1, io1.2.1, show x + (174 + 45 * s + 9 + 5 * 1) = x + 174 + 45 * s + 14 by omega]
      exact Or.inl j1.2.1
    rw [up_n _ _ q4]
    by_cases q5 : i = 4 + 2 * s
    · subst q5
      rw [up_s, io0.1, io0.2.1, show x + (174 + 45 * s + 9) = x + 174 + 45 * s + 9 by omega]
      exact Or.inl j0.2.1
    rw [up_n _ _ q5]
    by_cases q6 : i = 18 + 2 * s
    · subst q6
      rw [io0.2.2.2.2.1, io0.2.2.2.2.2, show x + (174 + 45 * s + 9) = x + 174 + 45 * s + 9 by omega]
      exact Or.inl (j0.1.trans i0.symm)
    by_cases q7 : i = 18 + 2 * s + 1
    · subst q7
      rw [io1.2.2.2.2.1, io1.2.2.2.2.2, show x + (174 + 45 * s + 9 + 5 * 1) = x + 174 + 45 * s + 14 by omega]
      exact Or.inl (j1.1.trans i1.symm)
    by_cases q8 : iO i = 174 + 45 * s
    · refine Or.inl ?_
      have hne : iF i ≠ 11 := by
        have := iF_dj s (by omega) i hi q1 (by rw [q8, ios.1])
        rw [ios.2.1] at this
        exact this
      have e0 := R.i hi
      rw [q8, ← Nat.add_assoc] at e0 ⊢
      rw [js, pk_un hne]
      exact e0
    · refine Or.inr ⟨rfl, ?_⟩
      have ok := iO_ok i hi
      rcases hsd with rfl | rfl <;> omega
theorem p_open6 {t : Nat → Nat} (hG : GS G t) (R : RF x S0 S A) (ok : AOK A) {s : Nat} (hs : s < 2) {k : List B8} (hk : BT S (x + 174 + 45 * s + 23) 32 k) (hQ : ∀ S', RF x S0 S' (aOpen A s k) → Q none S') : C0 G J_Side_open [.ref (x + 174 + 45 * s)] S Q := p_open6c hG R ok.2.2.2.2.1 hs hk hQ
theorem p_takeGreeting {t : Nat → Nat} (hG : GS G t) (R : RF x S0 S A) (ok : AOK A) {s q : Nat} (hs : s < 2) {L : List B8} (hq : BT S q 200 L) (hqr : x + 22 + 28 * (1 - s) ≤ q ∧ q + 1 < x + 48 + 28 * (1 - s)) (hQ : ∀ S', RF x S0 S' (tGreet A s L).2 → Q (some (.int (tGreet A s L).1)) S') : C0 G J_S_takeGreeting [.ref x, .ref (x + 174 + 45 * s), .ref q] S Q := by
  have hql := hq.2.2
  have no : ¬ (s = 1 ∧ aI A 1 = 0 ∧ L.length = 36 ∧ (L.getD 35 0).toNat < 8 ∧ aB A (12 + (L.getD 35 0).toNat) ≠ []) → Q (some (.int (-4))) S := by
    intro h
    unfold tGreet at hQ
    rw [if_neg h] at hQ
    exact hQ S R
  refine v_S_takeGreeting x _ q S Q ⟨(R.sd hs).o, p_isServer R ok hs (fun e1 => ⟨1, rfl, fun c => absurd c (by decide), fun _ => ?_⟩) (fun e0 => ⟨0, rfl, fun _ => no (fun z => by omega), fun c => absurd rfl c⟩)⟩
  subst e1
  refine p_is R hs (fun e => ⟨1, rfl, fun c => absurd c (by decide), fun _ => ⟨hq.1.1, p_size hq ⟨_, rfl, fun c36 => ?_, fun c36 => no (fun z => c36 (by rw [z.2.2.1]; rfl))⟩⟩⟩) (fun e => ⟨0, rfl, fun _ => no (fun z => e z.2.1), fun c => absurd rfl c⟩)
  have h36 : L.length = 36 := (nI_eq (b := 36) (by omega) (by omega)).mp c36
  have hkb := (L.getD 35 0).isLt
  refine p_at (j := 35) hq (by omega) ⟨_, rfl, R.s.1, x + 219, R.s.r (k := 5) (by omega), (R.sd (s := 1) (by omega)).o, ?_⟩
  rw [zx_nI]
  generalize hk : (L.getD 35 0).toNat = k at *
  by_cases hk8 : k < 8
  · have kb := R.key (s := 1) (by omega) hk8
    rw [show 4 + 8 * 1 + k = 12 + k by omega] at kb
    refine p_hasKey (R.sd (s := 1) (by omega)) hk8 kb (fun hne => ⟨1, rfl, fun _ => ?_, fun c => absurd c (by decide)⟩) (fun he => ⟨0, rfl, fun c => absurd rfl c, fun _ => no (fun z => z.2.2.2.2 he)⟩)
    obtain ⟨f, hf⟩ := R.w1
    unfold tGreet at hQ
    rw [hk, if_pos ⟨rfl, e, h36, hk8, hne⟩] at hQ
    refine ⟨x + 48, R.s.r (k := 7) (by omega), hf.1.1, p_wfull hf (fun e12 => ⟨1, rfl, fun c => absurd c (by decide), fun _ => ?_⟩) (fun hlt => ⟨0, rfl, fun _ => ⟨x + 168, R.s.r (k := 12) (by omega), ?_⟩, fun c => absurd rfl c⟩)⟩
    · rw [if_pos e12] at hQ
      exact hQ S R
    · rw [if_neg (by omega)] at hQ
      have hs1 := (R.sd (s := 1) (by omega))
      have sn := R.sn (s := 1) (by omega)
      have hi := iO_sid 1 (by omega)
      refine p_makeRandom (d := x + 168) hG hs1 R.s.2.2.2.2.2.2.2.1 (by omega) (fun S1 x1 b1 i1 => ⟨rfl, ?_⟩)
      have R1 : RF x S0 S1 (wI A 3 (aI A 3 + 1)) := by
        refine R.wI x1 (i := 3) (by omega) (fun a z => ?_) ?_ (iF_dj 3 (by omega))
        · simp only [hP, bP] at z
          show scr x a ∨ a = x + 219
          unfold scr
          omega
        · show tI S1 (x + 219) = upd (tI S (x + 219)) 12 (aI A 3 + 1)
          rw [i1, sn.2.1]
      have r1 : BT S1 (x + 168) 32 (rnd A 1) := by
        rw [sn.2.1, sn.2.2.1, sn.2.2.2] at b1
        exact b1
      have q1 : BT S1 q 200 L := hq.ex x1 (by simp only [hP, bP]; omega) (by simp only [hP, bP]; omega)
      have bo1 : BS S1 (x + 170) 65 := R1.s.2.2.2.2.2.2.2.2.1
      refine ⟨x + 170, R1.s.r (k := 13) (by omega), bo1.1, p_clear bo1 (fun S2 x2 b2 => ⟨rfl, ?_⟩)⟩
      have q2 : BT S2 q 200 L := q1.ex x2 (by simp only [bP]; omega) (by simp only [bP]; omega)
      refine p_putPart (st := 3) (n := 33) b2 q2 (by omega) (by simp) (fun S3 x3 b3 => ⟨rfl, ?_⟩)
      have x23 := x2.tr x3
      have r3 : BT S3 (x + 168) 32 (rnd A 1) := r1.ex x23 (by simp only [bP]; omega) (by simp only [bP]; omega)
      have l33 : ((L.drop 3).take 33).length = 33 := by simp; omega
      refine p_putAll b3 r3 (by rw [List.nil_append, l33, rnd_len]; omega) (fun S4 x4 b4 => ⟨rfl, ?_⟩)
      have R4 : RF x S0 S4 (wI A 3 (aI A 3 + 1)) := R1.sc (x23.tr x4) (fun a z => by simp only [bP] at z; unfold scr; omega)
      have b4' : BT S4 (x + 170) 65 ((L.drop 3).take 33 ++ rnd A 1) := b4
      have r4 : BT S4 (x + 168) 32 (rnd A 1) := r3.ex x4 (by simp only [bP]; omega) (by simp only [bP]; omega)
      refine p_agree1 hG R4 hk8 b4' (by rw [List.length_append, l33, rnd_len]; omega) (fun S5 R5 x5 => ⟨rfl, ?_⟩)
      have r5 : BT S5 (x + 168) 32 (rnd A 1) := r4.ex x5 (by simp only [hP]; omega) (by simp only [hP]; omega)
      simp only [aB_wI] at R5
      have ag5 : BT S5 (x + 240) 32 (sha ((L.drop 3).take 33 ++ rnd A 1)) := R5.b (j := 21) (by omega)
      have fi5 : BT S5 (x + 244) 32 (mac (mac (aB A (12 + k)) (sha ((L.drop 3).take 33 ++ rnd A 1))) [102]) := R5.b (j := 23) (by omega)
      have pf5 : BS S5 (x + 172) 32 := R5.s.2.2.2.2.2.2.2.2.2
      refine ⟨x + 172, R5.s.r (k := 14) (by omega), p_prove hG (R5.sd (s := 1) (by omega)) ag5 fi5 pf5 (by omega) (fun S6 x6 b6 => ⟨rfl, ?_⟩)⟩
      have R6 := R5.sc x6 (fun a z => by simp only [hP, bP] at z; unfold scr; omega)
      have r6 : BT S6 (x + 168) 32 (rnd A 1) := r5.ex x6 (by simp only [hP, bP]; omega) (by simp only [hP, bP]; omega)
      obtain ⟨f6, hf6⟩ := R6.w1
      have hl6 : (aW (wB (wB (wB (wI A 3 (aI A 3 + 1)) 21 (sha ((L.drop 3).take 33 ++ rnd A 1))) 22 (mac (aB A (12 + k)) (sha ((L.drop 3).take 33 ++ rnd A 1)))) 23 (mac (mac (aB A (12 + k)) (sha ((L.drop 3).take 33 ++ rnd A 1))) [102])) 1).length = (aW A 1).length := rfl
      have g6 := hf6.2.2.1 (aW A 1).length (by omega)
      refine p_draft hf6 (fun S7 x7 b7 => ⟨_, rfl, b7.1.1, p_putHead b7 (by simp) (fun S8 x8 b8' => ⟨rfl, ?_⟩)⟩)
      have x78 := x7.tr x8
      rw [hl6] at x7 x8 x78 b8' ⊢
      have r8 : BT S8 (x + 168) 32 (rnd A 1) := r6.ex x78 (by simp only [bP]; omega) (by simp only [bP]; omega)
      refine p_putAll b8' r8 (by rw [rnd_len]; simp) (fun S9 x9 b9 => ⟨rfl, ?_⟩)
      have x79 := x78.tr x9
      have p9 : BT S9 (x + 172) 32 _ := b6.ex x79 (by simp only [bP]; omega) (by simp only [bP]; omega)
      have hml : ∀ a b : List B8, (mac a b).length = 32 := fun a b => sha_len _
      refine p_putAll b9 p9 (by rw [hml]; simp [rnd_len]) (fun S10 x10 b10 => ⟨rfl, ?_⟩)
      have x710 := x79.tr x10
      have w10 := hf6.ex x710 (fun a _ _ z => z)
      refine p_send w10 hlt b10 (fun S11 x11 w11 => ⟨rfl, ?_⟩)
      have R11 := R6.wW ((x710.mono (fun a z => Or.inl z)).tr (x11.mono (fun a z => Or.inr z))) (w := 1) (by omega) (fun a z => Or.inr (by simp only [bP] at z; omega)) ⟨f6, w11⟩
      exact p_become6 R11 (s := 1) (by omega) 1 (fun S12 R12 => ⟨rfl, hQ S12 R12⟩)
  · refine p_hasKeyX (R.sd (s := 1) (by omega)) (fun j hj ej => ?_) ⟨0, rfl, fun c => absurd rfl c, fun _ => no (fun z => hk8 z.2.2.2.1)⟩
    have : k = j := (nI_eq (by omega) (by omega)).mp ej
    omega
end QT
