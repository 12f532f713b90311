/-! PURE: receive of the class -/
theorem mac_len (a b : List B8) : (mac a b).length = 32 := sha_len _
section QR
variable {G : pG} {x : Nat} {S0 S : TS} {A : AS} {Q : Option Value → TS → Prop}
theorem p_takeReply {t : Nat → Nat} (hG : GS G t) (R : RF x S0 S A) (ok : AOK A) {s q : Nat} (hs : s < 2) {L : List B8} (hq : BT S q 200 L) (hqr : x + 22 + 28 * (1 - s) ≤ q ∧ q + 1 < x + 48 + 28 * (1 - s)) (hQ : ∀ S', RF x S0 S' (tReply A s L).2 → Q (some (.int (tReply A s L).1)) S') : C0 G J_S_takeReply [.ref x, .ref (x + 174 + 45 * s), .ref q] S Q := by
  have hql := hq.2.2
  have no : ∀ S', RF x S0 S' A → ¬ (s = 0 ∧ aI A 0 = 1 ∧ L.length = 67 ∧ aB A (4 + ((aB A 20).getD 32 0).toNat) ≠ [] ∧ (L.drop 35).take 32 = mac (mac (mac (aB A (4 + ((aB A 20).getD 32 0).toNat)) (sha (aB A 20 ++ (L.drop 3).take 32))) [102]) (b8 115 :: sha (aB A 20 ++ (L.drop 3).take 32))) → Q (some (.int (-4))) S' := by
    intro S' R' h
    unfold tReply at hQ
    rw [if_neg h] at hQ
    exact hQ S' R'
  refine v_S_takeReply x _ q S Q ⟨(R.sd hs).o, p_isServer R ok hs (fun e1 => ⟨1, rfl, fun _ => no S R (fun z => by omega), fun c => absurd c (by decide)⟩) (fun e0 => ⟨0, rfl, fun c => absurd rfl c, fun _ => ?_⟩)⟩
  subst e0
  refine p_is R hs (fun e => ⟨1, rfl, fun c => absurd c (by decide), fun _ => ⟨hq.1.1, p_size hq ⟨_, rfl, fun c67 => ?_, fun c67 => no S R (fun z => c67 (by rw [z.2.2.1]; rfl))⟩⟩⟩) (fun e => ⟨0, rfl, fun _ => no S R (fun z => e z.2.1), fun c => absurd rfl c⟩)
  have h67 : L.length = 67 := (nI_eq (b := 67) (by omega) (by omega)).mp c67
  have sd := R.sd (s := 0) (by omega)
  have b20 : BT S (x + 193) 33 (aB A 20) := R.b (j := 20) (by omega)
  obtain ⟨g33, hk8⟩ := ok.2.2.1 e
  refine ⟨R.s.1, x + 174, R.s.r (k := 4) (by omega), sd.o, v_Side_greeting _ S _ ⟨sd.o, x + 193, sd.gr.1, _, rfl, b20.1.1, p_at (j := 32) b20 (by omega) ⟨_, rfl, ?_⟩⟩⟩
  rw [zx_nI]
  generalize hk : ((aB A 20).getD 32 0).toNat = k at *
  have kb := R.key (s := 0) (by omega) hk8
  rw [show 4 + 8 * 0 + k = 4 + k by omega] at kb
  refine p_hasKey sd hk8 kb (fun hne => ⟨1, rfl, fun _ => ?_, fun c => absurd c (by decide)⟩) (fun he => ⟨0, rfl, fun c => absurd rfl c, fun _ => no S R (fun z => z.2.2.2.1 he)⟩)
  have bo : BS S (x + 170) 65 := R.s.2.2.2.2.2.2.2.2.1
  refine ⟨x + 170, R.s.r (k := 13) (by omega), v_Side_greeting _ S _ ⟨sd.o, x + 193, sd.gr.1, _, rfl, bo.1, p_become bo b20 ⟨by omega, by omega⟩ (by omega) (fun S1 x1 b1 => ⟨rfl, ?_⟩)⟩⟩
  have q1 : BT S1 q 200 L := hq.ex x1 (by simp only [bP]; omega) (by simp only [bP]; omega)
  refine p_putPart (st := 3) (n := 32) b1 q1 (by omega) (by omega) (fun S2 x2 b2 => ⟨rfl, ?_⟩)
  have R2 : RF x S0 S2 A := R.sc (x1.tr x2) (fun a z => by simp only [bP] at z; unfold scr; omega)
  have kb2 := R2.key (s := 0) (by omega) hk8
  rw [show 4 + 8 * 0 + k = 4 + k by omega] at kb2
  have l32 : ((L.drop 3).take 32).length = 32 := by simp; omega
  refine p_agree hG (R2.sd (s := 0) (by omega)) hk8 kb2 b2 (by rw [List.length_append, l32]; omega) (by omega) (fun S3 x3 a3 e3 f3 => ⟨rfl, ?_⟩)
  have R3 : RF x S0 S3 A := R2.sc x3 (fun a z => by simp only [hP] at z; unfold scr; omega)
  have pf3 : BS S3 (x + 172) 32 := R3.s.2.2.2.2.2.2.2.2.2
  have q3 : BT S3 q 200 L := (q1.ex x2 (by simp only [bP]; omega) (by simp only [bP]; omega)).ex x3 (by simp only [hP]; omega) (by simp only [hP]; omega)
  generalize hB : sha (aB A 20 ++ (L.drop 3).take 32) = ag at *
  generalize hE : mac (aB A (4 + k)) ag = se at *
  generalize hF : mac se [102] = fi at *
  refine ⟨x + 172, R3.s.r (k := 14) (by omega), p_prove hG (R3.sd (s := 0) (by omega)) a3 f3 pf3 (by omega) (fun S4 x4 b4 => ⟨rfl, ?_⟩)⟩
  have scp : ∀ a, hP (x + 174 + 45 * 0 + 1) a ∨ bP (x + 174 + 45 * 0 + 27) a ∨ bP (x + 172) a → scr x a := fun a z => by simp only [hP, bP] at z; unfold scr; omega
  have R4 : RF x S0 S4 A := R3.sc x4 scp
  have q4 : BT S4 q 200 L := q3.ex x4 (by simp only [hP, bP]; omega) (by simp only [hP, bP]; omega)
  have e4 : BT S4 (x + 174 + 45 * 0 + 23) 32 se := e3.ex x4 (by simp only [hP, bP]; omega) (by simp only [hP, bP]; omega)
  have a4 : BT S4 (x + 174 + 45 * 0 + 21) 32 ag := a3.ex x4 (by simp only [hP, bP]; omega) (by simp only [hP, bP]; omega)
  have f4 : BT S4 (x + 174 + 45 * 0 + 25) 32 fi := f3.ex x4 (by simp only [hP, bP]; omega) (by simp only [hP, bP]; omega)
  refine p_holdsAt (st := 35) q4 b4 (by rw [mac_len]; omega) (fun ff hff => ⟨ff, rfl, ?_⟩)
  rw [mac_len] at hff
  by_cases hc : (L.drop 35).take 32 = mac fi (b8 115 :: ag)
  · rw [if_pos hc] at hff
    subst hff
    refine ⟨fun _ => ?_, fun c => absurd c (by decide)⟩
    unfold tReply at hQ
    rw [hk, hB, hE, hF, if_pos ⟨rfl, e, h67, hne, hc⟩] at hQ
    obtain ⟨f0, hf0⟩ := R4.w0
    have g0 := hf0.2.2.1 (aW A 0).length (by have := hf0.1.2.2.2.2; omega)
    refine ⟨x + 20, R4.s.r (k := 6) (by omega), hf0.1.1, p_wfull hf0 (fun e12 => ⟨1, rfl, fun c => absurd c (by decide), fun _ => ?_⟩) (fun hlt => ⟨0, rfl, fun _ => ?_, fun c => absurd rfl c⟩)⟩
    · rw [if_pos e12] at hQ
      exact hQ S4 R4
    · rw [if_neg (by omega)] at hQ
      refine p_prove hG (R4.sd (s := 0) (by omega)) a4 f4 (pf3.sm x4.1) (by omega) (fun S5 x5 b5 => ⟨rfl, ?_⟩)
      have R5 : RF x S0 S5 A := R4.sc x5 scp
      have e5 : BT S5 (x + 174 + 45 * 0 + 23) 32 se := e4.ex x5 (by simp only [hP, bP]; omega) (by simp only [hP, bP]; omega)
      have hf5 := hf0.ex x5 (fun a h1 h2 z => by simp only [hP, bP] at z; omega)
      refine p_draft hf5 (fun S6 x6 b6 => ⟨_, rfl, b6.1.1, p_putHead b6 (by simp) (fun S7 x7 b7 => ⟨rfl, ?_⟩)⟩)
      have x67 := x6.tr x7
      have p7 : BT S7 (x + 172) 32 (mac fi (b8 99 :: ag)) := b5.ex x67 (by simp only [bP]; omega) (by simp only [bP]; omega)
      refine p_putAll b7 p7 (by rw [mac_len]; simp) (fun S8 x8 b8' => ⟨rfl, ?_⟩)
      have x68 := x67.tr x8
      have w8 := hf5.ex x68 (fun a _ _ z => z)
      refine p_send w8 hlt b8' (fun S9 x9 w9 => ⟨rfl, ?_⟩)
      have x69 := (x68.mono (fun a z => Or.inl z)).tr (x9.mono (fun a (z : a = x + 20) => Or.inr z))
      have R9 := R5.wW x69 (w := 0) (by omega) (fun a z => Or.inr (by simp only [bP] at z; omega)) ⟨f0, w9⟩
      have e9 : BT S9 (x + 174 + 45 * 0 + 23) 32 se := e5.ex x69 (by simp only [bP]; omega) (by simp only [bP]; omega)
      have ok9 : AOK A := ok
      have c9 : (aI A 16 = 0 ∧ aI A 17 = 1 ∧ aI A 14 = aI A 15 ∧ aI A 18 = 0 ∧ aI A 19 = 1 ∧ aI A 20 = 0 ∧ aI A 21 = 1) := ok.2.2.2.2.1
      refine p_open6c hG R9 c9 (s := 0) (by omega) e9 (fun S10 R10 => ⟨rfl, x + 164, R10.s.r (k := 10) (by omega), (R10.b (j := 3) (by omega)).1.1, p_clear (R10.b (j := 3) (by omega)).1 (fun S11 x11 b11 => ⟨rfl, hQ S11 (R10.wB x11 (i := 3) (by omega) (fun a z => Or.inr z) b11)⟩)⟩)
  · rw [if_neg hc] at hff
    subst hff
    exact ⟨fun c => absurd rfl c, fun _ => no S4 R4 (fun z => hc z.2.2.2.2)⟩
theorem p_takeProof {t : Nat → Nat} (hG : GS G t) (R : RF x S0 S A) (ok : AOK A) {s q : Nat} (hs : s < 2) {L : List B8} (hq : BT S q 200 L) (hqr : x + 22 + 28 * (1 - s) ≤ q ∧ q + 1 < x + 48 + 28 * (1 - s)) (hQ : ∀ S', RF x S0 S' (tProof A s L).2 → Q (some (.int (tProof A s L).1)) S') : C0 G J_S_takeProof [.ref x, .ref (x + 174 + 45 * s), .ref q] S Q := by
  have hql := hq.2.2
  have no : ∀ S', RF x S0 S' A → ¬ (s = 1 ∧ aI A 1 = 1 ∧ L.length = 35 ∧ (L.drop 3).take 32 = mac (aB A 23) (b8 99 :: aB A 21)) → Q (some (.int (-4))) S' := by
    intro S' R' h
    unfold tProof at hQ
    rw [if_neg h] at hQ
    exact hQ S' R'
  refine v_S_takeProof x _ q S Q ⟨(R.sd hs).o, p_isServer R ok hs (fun e1 => ⟨1, rfl, fun c => absurd c (by decide), fun _ => ?_⟩) (fun e0 => ⟨0, rfl, fun _ => no S R (fun z => by omega), fun c => absurd rfl c⟩)⟩
  subst e1
  refine p_is R hs (fun e => ⟨1, rfl, fun c => absurd c (by decide), fun _ => ⟨hq.1.1, p_size hq ⟨_, rfl, fun c35 => ?_, fun c35 => no S R (fun z => c35 (by rw [z.2.2.1]; rfl))⟩⟩⟩) (fun e => ⟨0, rfl, fun _ => no S R (fun z => e z.2.1), fun c => absurd rfl c⟩)
  have h35 : L.length = 35 := (nI_eq (b := 35) (by omega) (by omega)).mp c35
  have sd := R.sd (s := 1) (by omega)
  have a0 : BT S (x + 240) 32 (aB A 21) := R.b (j := 21) (by omega)
  have f0 : BT S (x + 244) 32 (aB A 23) := R.b (j := 23) (by omega)
  have pf : BS S (x + 172) 32 := R.s.2.2.2.2.2.2.2.2.2
  refine ⟨R.s.1, x + 219, R.s.r (k := 5) (by omega), x + 172, R.s.r (k := 14) (by omega), sd.o, p_prove hG sd a0 f0 pf (by omega) (fun S1 x1 b1 => ⟨rfl, ?_⟩)⟩
  have R1 : RF x S0 S1 A := R.sc x1 (fun a z => by simp only [hP, bP] at z; unfold scr; omega)
  have q1 : BT S1 q 200 L := hq.ex x1 (by simp only [hP, bP]; omega) (by simp only [hP, bP]; omega)
  refine p_holdsAt (st := 3) q1 b1 (by rw [mac_len]; omega) (fun ff hff => ⟨ff, rfl, ?_⟩)
  rw [mac_len] at hff
  by_cases hc : (L.drop 3).take 32 = mac (aB A 23) (b8 99 :: aB A 21)
  · rw [if_pos hc] at hff
    subst hff
    unfold tProof at hQ
    rw [if_pos ⟨rfl, e, h35, hc⟩] at hQ
    have s1 : BT S1 (x + 174 + 45 * 1 + 23) 32 (aB A 22) := R1.b (j := 22) (by omega)
    exact ⟨fun _ => p_open6 hG R1 ok (s := 1) (by omega) s1 (fun S2 R2 => ⟨rfl, hQ S2 R2⟩), fun c => absurd c (by decide)⟩
  · rw [if_neg hc] at hff
    subst hff
    exact ⟨fun c => absurd rfl c, fun _ => no S1 R1 (fun z => hc z.2.2.2)⟩
theorem p_step6 (R : RF x S0 S A) {s d : Nat} (hs : s < 2) (hd : d < 2) (hQ : ∀ S', RF x S0 S' (wI A (4 + 2 * s + d) (aI A (4 + 2 * s + d) + 1)) → Ex (fun a => a = x + 174 + 45 * s + 9 + 5 * d) S S' → Q none S') : C0 G J_Direction_step [.ref (x + 174 + 45 * s + 9 + 5 * d)] S Q := by
  have io := iO_dir s hs d hd
  have dn := R.dnum hs hd
  refine p_step ((R.sd hs).di hd) (fun S1 x1 i1 => hQ S1 (R.wI x1 (i := 4 + 2 * s + d) (by omega) (fun a z => Or.inr (by omega)) ?_ (iF_dj _ (by omega))) x1)
  rw [io.1, io.2.1, show x + (174 + 45 * s + 9 + 5 * d) = x + 174 + 45 * s + 9 + 5 * d by omega, i1, dn.1]
theorem p_inc (R : RF x S0 S A) {i : Nat} (hi : i = 12 ∨ i = 13) {S' : TS} (e : S' = sI S x (upd (tI S x) (iF i) (tI S x (iF i) + 1))) : RF x S0 S' (wI A i (aI A i + 1)) := by
  have ei := R.i (j := i) (by omega)
  have io : iO i = 0 := by rcases hi with rfl | rfl <;> rfl
  rw [io, Nat.add_zero] at ei
  refine R.wI (P := fun a => a = x) (by rw [e]; exact (Ex.rf S).I rfl) (i := i) (by omega) (fun a z => Or.inr (by omega)) ?_ (iF_dj i (by omega))
  rw [io, Nat.add_zero, e, tI_sI, up_s, ei]
theorem p_takeAnswer (R : RF x S0 S A) {p : List B8} (hp : BT S (x + 166) 200 p) (hQ : ∀ S', RF x S0 S' (tAns A p).2 → Q (some (.int (tAns A p).1)) S') : C0 G J_S_takeAnswer [.ref x, .ref (x + 188)] S Q := by
  have hpl := hp.2.2
  have hsb := (p.getD 1 0).isLt
  have no : ¬ (2 ≤ p.length ∧ p.length ≤ 2 + (if (p.getD 1 0).toNat = 0 then 64 else 0) ∧ (p.getD 1 0).toNat ≤ 3) → Q (some (.int (-4))) S := by
    intro h
    unfold tAns at hQ
    rw [if_neg h] at hQ
    exact hQ S R
  have yes : 2 ≤ p.length → p.length ≤ 66 → (2 ≤ p.length ∧ p.length ≤ 2 + (if (p.getD 1 0).toNat = 0 then 64 else 0) ∧ (p.getD 1 0).toNat ≤ 3) → te S (x + 188) = some (.inr 1) ∧ C0 G J_Direction_step [.ref (x + 188)] S (fun r S9 => r = none ∧ ∃ b10 : Nat, tR S9 x 10 = some b10 ∧ te S9 b10 = some (.inr 0) ∧ C0 G J_Bytes_clear [.ref b10] S9 (fun r S13 => r = none ∧ CP G J_Bytes_size [.ref (x + 166)] S13 (fun r => ∃ r14 : Int32, r = some (.int r14) ∧ C0 G J_Bytes_putPart [.ref b10, .ref (x + 166), .int 1, .int (r14 - (1 : Int32))] S13 (fun r S15 => r = none ∧ ∀ S16 : TS, S16 = sI S15 x (upd (tI S15 x) 16 ((tI S15 x 16) + (1 : Int32))) → Q (some (.int 4)) S16)))) := by
    intro h2 h66 h
    unfold tAns at hQ
    rw [if_pos h] at hQ
    refine ⟨((R.sd (s := 0) (by omega)).di (d := 1) (by omega)).1, p_step6 R (s := 0) (d := 1) (by omega) (by omega) (fun S1 R1 x1 => ⟨rfl, x + 164, R1.s.r (k := 10) (by omega), (R1.b (j := 3) (by omega)).1.1, p_clear (R1.b (j := 3) (by omega)).1 (fun S2 x2 b2 => ⟨rfl, ?_⟩)⟩)⟩
    have p2 : BT S2 (x + 166) 200 p := (hp.ex x1 (by omega) (by omega)).ex x2 (by show ¬ (x + 166 = x + 164 ∨ x + 166 = x + 164 + 1); omega) (by show ¬ (x + 166 + 1 = x + 164 ∨ x + 166 + 1 = x + 164 + 1); omega)
    refine p_size p2 ⟨_, rfl, ?_⟩
    rw [show nI p.length - (1 : Int32) = nI (p.length - 1) from pk_sub (b := 1) (by omega)]
    refine p_putPart (st := 1) b2 p2 (by omega) (by show 0 + _ ≤ 65; omega) (fun S3 x3 b3 => ⟨rfl, fun S4 e4 => ?_⟩)
    have e : ([] : List B8) ++ (p.drop 1).take (p.length - 1) = p.drop 1 := by rw [List.nil_append, List.take_of_length_le (by simp)]
    rw [e] at b3
    have R3 := R1.wB (x2.tr x3) (i := 3) (by omega) (fun a z => Or.inr z) b3
    exact hQ S4 (p_inc R3 (i := 13) (Or.inr rfl) e4)
  refine v_S_takeAnswer x _ S Q ⟨R.s.1, x + 166, R.s.r (k := 11) (by omega), hp.1.1, p_atd (j := 1) hp (by omega) ⟨_, rfl, ?_⟩⟩
  rw [zx_nI]
  generalize hst : (p.getD 1 0).toNat = st at *
  refine ⟨fun c => ?_, fun c => ?_⟩
  · have h0 : st ≠ 0 := fun z => c (by rw [z]; rfl)
    simp only [h0, if_false] at no yes
    refine p_size hp ⟨_, rfl, fun c1 => no (fun z => ?_), fun c1 => p_size hp ⟨_, rfl, fun c2 => no (fun z => ?_), fun c2 => ⟨fun c3 => ?_, fun c3 => no (fun z => c3 (nI_le (b := 3) z.2.2 (by omega)))⟩⟩⟩
    · have := (nI_ltI (b := 2) (by omega) (by omega)).mp c1; omega
    · have := (nI_ltI (a := 2) (by omega) (by omega)).mp c2; omega
    · have k1 : ¬ p.length < 2 := fun z => c1 ((nI_ltI (b := 2) (by omega) (by omega)).mpr z)
      have k2 : ¬ 2 < p.length := fun z => c2 ((nI_ltI (a := 2) (by omega) (by omega)).mpr z)
      have k3 : st ≤ 3 := (nI_leI (b := 3) (by omega) (by omega)).mp c3
      exact yes (by omega) (by omega) ⟨by omega, by omega, k3⟩
  · have h0 : st = 0 := (nI_eq (b := 0) (by omega) (by omega)).mp c
    subst h0
    simp only [if_true] at no yes
    refine p_size hp ⟨_, rfl, fun c1 => no (fun z => ?_), fun c1 => p_size hp ⟨_, rfl, fun c2 => no (fun z => ?_), fun c2 => ⟨fun c3 => ?_, fun c3 => no (fun z => c3 (nI_le (b := 3) z.2.2 (by omega)))⟩⟩⟩
    · have := (nI_ltI (b := 2) (by omega) (by omega)).mp c1; omega
    · have := (nI_ltI (a := 66) (by omega) (by omega)).mp c2; omega
    · have k1 : ¬ p.length < 2 := fun z => c1 ((nI_ltI (b := 2) (by omega) (by omega)).mpr z)
      have k2 : ¬ 66 < p.length := fun z => c2 ((nI_ltI (a := 66) (by omega) (by omega)).mpr z)
      exact yes (by omega) (by omega) ⟨by omega, by omega, by omega⟩
theorem srv_len (st : Stt) (o : Nat) (nm dt : List B8) (h : ∀ k, k < st.length → (sV1 st k).length ≤ 64) : (srv st o nm dt).1.length ≤ 65 := by
  unfold srv
  split
  · split
    · split <;> simp
    · simp
  · rename_i k hk
    split
    · have := h k (by have := sfI_lt hk; omega)
      simp; omega
    · split
      · simp
      · split
        · simp
        · split
          · simp
          · split <;> simp
theorem p_takeRequest {t : Nat → Nat} (hG : GS G t) (R : RF x S0 S A) (ok : AOK A) (h2 : aI A 1 = 2) {p : List B8} (hp : BT S (x + 166) 200 p) (hQ : ∀ S', RF x S0 S' (tReq A p).2 → Q (some (.int (tReq A p).1)) S') : C1 G J_S_takeRequest [.ref x, .ref (x + 228)] S Q := by
  unfold tReq at hQ
  refine v_S_takeRequest x _ S Q ⟨R.s.1, x + 159, R.s.r (k := 9) (by omega), x + 166, R.s.r (k := 11) (by omega), R.s.2.2.2.2.2.1.1, p_readFrom R.s.2.2.2.2.2.1 hp (by omega) (fun S1 x1 e => ⟨0, rfl, fun c => absurd rfl c, fun _ => ?_⟩) (fun S1 o nm dt x1 e ho hn hd io bn bd => ⟨1, rfl, fun _ => ?_, fun c => absurd c (by decide)⟩)⟩
  · rw [e] at hQ
    exact hQ S1 (R.sc x1 (fun a z => by unfold scr; omega))
  · rw [e] at hQ
    have R1 : RF x S0 S1 A := R.sc x1 (fun a z => by unfold scr; omega)
    obtain ⟨f1, hf1⟩ := R1.w1
    refine ⟨x + 48, R1.s.r (k := 7) (by omega), hf1.1.1, p_wfull hf1 (fun e12 => ⟨1, rfl, fun c => absurd c (by decide), fun _ => ?_⟩) (fun hlt => ⟨0, rfl, fun _ => ⟨((R1.sd (s := 1) (by omega)).di (d := 0) (by omega)).1, p_step6 R1 (s := 1) (d := 0) (by omega) (by omega) (fun S2 R2 x2 => ⟨rfl, R2.pl.1, p_clear R2.pl (fun S3 x3 b3 => ⟨rfl, p_put b3 (by simp) (fun S4 x4 b4 => ⟨rfl, ?_⟩)⟩)⟩)⟩, fun c => absurd rfl c⟩)⟩
    · simp only [e12, if_true] at hQ
      exact hQ S1 R1
    · have h12 : ¬ (aW A 1).length = 12 := by omega
      simp only [h12, if_false] at hQ
      have x34 := x3.tr x4
      have R4 : RF x S0 S4 (wI A 6 (aI A 6 + 1)) := R2.sc x34 (fun a z => by simp only [bP] at z; unfold scr; omega)
      obtain ⟨fn, fv, ht⟩ := R4.t
      have x24 : Ex (fun a => a = x + 174 + 45 * 1 + 9 + 5 * 0 ∨ bP (x + 166) a) S1 S4 := (x2.mono (fun a z => Or.inl z)).tr (x34.mono (fun a z => Or.inr z))
      have bn4 : BT S4 (x + 159 + 1) 16 nm := bn.ex x24 (by simp only [bP]; omega) (by simp only [bP]; omega)
      have bd4 : BT S4 (x + 159 + 3) 64 dt := bd.ex x24 (by simp only [bP]; omega) (by simp only [bP]; omega)
      have io4 : tI S4 (x + 159) 2 = nI o := by rw [(x24.2 (x + 159) (by simp only [bP]; omega)).1]; exact io
      have b4' : BT S4 (x + 166) 200 [0] := b4
      refine ⟨x + 76, R4.s.r (k := 8) (by omega), ht.1.1, p_serve ht R4.s.2.2.2.2.2.1 bn4 bd4 (by omega) ho io4 b4' (by simp) (by omega) (by omega) (fun S5 fn' fv' x5 t5 b5 => ⟨rfl, ?_⟩)⟩
      have R5 : RF x S0 S5 (wT (wI A 6 (aI A 6 + 1)) (srv (aT A) o nm dt).2) := by
        refine R4.gen1 x5 (fun a z => ?_) (fun a z => by omega) rfl rfl (Or.inr ⟨rfl, fun a h1 h2 => ⟨fun z => ?_, fun z => by omega⟩⟩) (Or.inr ⟨rfl, fun a h1 h2 => ⟨fun z => ?_, fun z => by omega⟩⟩) (Or.inl ⟨fn', fv', t5⟩)
        · simp only [tP, bP] at z; unfold scr; omega
        · simp only [tP, bP] at z; omega
        · simp only [tP, bP] at z; omega
      have hsl := srv_len (aT A) o nm dt (fun k hk => (ht.2.2.2.2.2 k hk).2.2.2)
      have b5' : BT S5 (x + 166) 200 (0 :: (srv (aT A) o nm dt).1) := b5
      refine ⟨x + 7, R5.s.r (k := 3) (by omega), x + 219, R5.s.r (k := 5) (by omega), (R5.sd (s := 1) (by omega)).o, p_dir (R5.sd (s := 1) (by omega)) (d := 1) (by omega) ⟨_, rfl, x + 166, R5.s.r (k := 11) (by omega), x + 48, R5.s.r (k := 7) (by omega), R5.s.2.2.1.1, ?_⟩⟩
      refine p_seal6 hG R5 (s := 1) (d := 1) (w := 1) (by omega) (by omega) (by omega) b5' (by simp; omega) (ok.1 1 (by omega) h2 1 (by omega)) hlt (fun S6 R6 => ⟨rfl, fun S7 e7 => hQ S7 (p_inc R6 (i := 12) (Or.inl rfl) e7)⟩)
theorem p_takeSealed {t : Nat → Nat} (hG : GS G t) (R : RF x S0 S A) (ok : AOK A) {s q : Nat} (hs : s < 2) {L : List B8} (hq : BT S q 200 L) (hqr : x + 22 + 28 * (1 - s) ≤ q ∧ q + 1 < x + 48 + 28 * (1 - s)) (hQ : ∀ S', RF x S0 S' (tSealed A s L).2 → Q (some (.int (tSealed A s L).1)) S') : C1 G J_S_takeSealed [.ref x, .ref (x + 174 + 45 * s), .ref q] S Q := by
  unfold tSealed at hQ
  have sd := R.sd hs
  have go : aI A s = 2 → ∀ S11 p, RF x S0 S11 A → opn (aB A (24 + 2 * s + (1 - s))) (aI A (4 + 2 * s + (1 - s))) L = some p → BT S11 (x + 166) 200 p →
      te S11 (x + 166) = some (.inr 0) ∧ CP G J_Bytes_size [.ref (x + 166)] S11 (fun r => ∃ r14 : Int32, r = some (.int r14) ∧ ((¬ r14 = 0 → CP G J_Bytes_at [.ref (x + 166), .int 0] S11 (fun r => ∃ r15 : Int32, r = some (.int r15) ∧ ((¬ r15 = 0 → CP G J_Bytes_size [.ref (x + 166)] S11 (fun r => ∃ r16 : Int32, r = some (.int r16) ∧ ((r16 = 1 → ((¬ r15 = 1 → ((¬ r15 = 2 → Q (some (.int ((-4)))) S11) ∧ (r15 = 2 → C0 G J_Side_become [.ref (x + 174 + 45 * s), .int 3] S11 (fun r S17 => r = none ∧ Q (some (.int 4)) S17)))) ∧ (r15 = 1 → C0 G J_Side_makeKeyAnew [.ref (x + 174 + 45 * s), .int (nI (1 - s))] S11 (fun r S18 => r = none ∧ Q (some (.int 4)) S18)))) ∧ (¬ (r16 = 1) → Q (some (.int ((-4)))) S11)))) ∧ (r15 = 0 → CP G J_Side_isServer [.ref (x + 174 + 45 * s)] S11 (fun r => ∃ r19 : Int32, r = some (.int r19) ∧ ((r19 = 0 → C0 G J_S_takeAnswer [.ref x, .ref (x + 174 + 45 * s + 9 + 5 * (1 - s))] S11 (fun r S20 => ∃ r21 : Int32, r = some (.int r21) ∧ Q (some (.int r21)) S20)) ∧ (¬ (r19 = 0) → C1 G J_S_takeRequest [.ref x, .ref (x + 174 + 45 * s + 9 + 5 * (1 - s))] S11 (fun r S22 => ∃ r23 : Int32, r = some (.int r23) ∧ Q (some (.int r23)) S22)))))))) ∧ (r14 = 0 → Q (some (.int ((-4)))) S11))) := by
    intro h2 S11 p R11 eo bp
    rw [if_pos h2, eo] at hQ
    simp only at hQ
    have hpl := bp.2.2
    have hkb := (p.getD 0 0).isLt
    refine ⟨bp.1.1, p_size bp ⟨_, rfl, fun c14 => ?_, fun c14 => ?_⟩⟩
    · have hp0 : ¬ p.length = 0 := fun z => c14 (by rw [z]; rfl)
      rw [if_neg hp0] at hQ
      refine p_at (j := 0) bp (by omega) ⟨_, rfl, ?_⟩
      rw [zx_nI]
      generalize hkk : (p.getD 0 0).toNat = kk at *
      refine ⟨fun c15 => p_size bp ⟨_, rfl, fun c16 => ?_, fun c16 => ?_⟩, fun c15 => ?_⟩
      · have k0 : ¬ kk = 0 := fun z => c15 (by rw [z]; rfl)
        have h1 : p.length = 1 := (nI_eq (b := 1) (by omega) (by omega)).mp c16
        rw [if_neg k0, if_pos h1] at hQ
        refine ⟨fun n1 => ⟨fun n2 => ?_, fun n2 => ?_⟩, fun n1 => ?_⟩
        · rw [if_neg (fun z => n1 (by rw [z]; rfl)), if_neg (fun z => n2 (by rw [z]; rfl))] at hQ
          exact hQ S11 R11
        · have : kk = 2 := (nI_eq (b := 2) (by omega) (by omega)).mp n2
          rw [if_neg (by omega), if_pos this] at hQ
          exact p_become6 R11 hs 3 (fun S12 R12 => ⟨rfl, hQ S12 R12⟩)
        · have : kk = 1 := (nI_eq (b := 1) (by omega) (by omega)).mp n1
          rw [if_pos this] at hQ
          exact p_anew6 hG R11 hs (by omega) (fun S12 R12 => ⟨rfl, hQ S12 R12⟩)
      · have k0 : ¬ kk = 0 := fun z => c15 (by rw [z]; rfl)
        rw [if_neg k0, if_neg (fun z => c16 (by rw [z]; rfl))] at hQ
        exact hQ S11 R11
      · have k0 : kk = 0 := (nI_eq (b := 0) (by omega) (by omega)).mp c15
        rw [if_pos k0] at hQ
        refine p_isServer R11 ok hs (fun e1 => ⟨1, rfl, fun c => absurd c (by decide), fun _ => ?_⟩) (fun e0 => ⟨0, rfl, fun _ => ?_, fun c => absurd rfl c⟩)
        · subst e1
          rw [if_pos rfl] at hQ
          exact p_takeRequest hG R11 ok h2 bp (fun S12 R12 => ⟨_, rfl, hQ S12 R12⟩)
        · subst e0
          rw [if_neg (by decide)] at hQ
          exact p_takeAnswer R11 bp (fun S12 R12 => ⟨_, rfl, hQ S12 R12⟩)
    · have : p.length = 0 := (nI_eq (b := 0) (by omega) (by omega)).mp c14
      rw [if_pos this] at hQ
      exact hQ S11 R11
  refine v_S_takeSealed x _ q S Q ⟨sd.o, p_is R hs (fun e => ⟨1, rfl, fun _ => ?_, fun c => absurd c (by decide)⟩) (fun e => ⟨0, rfl, fun c => absurd rfl c, fun _ => ?_⟩)⟩
  · have hd1 : 1 - s < 2 := by omega
    have go2 := go e
    have dk := R.dkey hs hd1
    have dn := R.dnum hs hd1
    have ds := sd.di hd1
    have un : ∀ (Q' : Option Value → TS → Prop), (∀ S', RF x S0 S' A → opn (aB A (24 + 2 * s + (1 - s))) (aI A (4 + 2 * s + (1 - s))) L = none → Q' (some (.int 0)) S') → (∀ S' p, RF x S0 S' A → opn (aB A (24 + 2 * s + (1 - s))) (aI A (4 + 2 * s + (1 - s))) L = some p → BT S' (x + 166) 200 p → Q' (some (.int 1)) S') → C0 G J_Sealer_unseal [.ref (x + 7), .ref (x + 174 + 45 * s + 9 + 5 * (1 - s)), .ref q, .ref (x + 166)] S Q' := by
      intro Q' u0 u1
      have sc : ∀ a, zP (x + 7) a ∨ bP (x + 166) a → scr x a := fun a z => by simp only [zP, bP] at z; unfold scr; omega
      refine p_unseal hG R.s.2.2.1 ds dk (ok.1 s hs e _ hd1) hq R.pl (by omega) (by omega) (by omega) (by omega) (fun S' x' e' => u0 S' (R.sc x' sc) (by rw [← dn.1]; exact e')) (fun S' p x' e' b' => u1 S' p (R.sc x' sc) (by rw [← dn.1]; exact e') b')
    have none4 : ∀ S', RF x S0 S' A → opn (aB A (24 + 2 * s + (1 - s))) (aI A (4 + 2 * s + (1 - s))) L = none → Q (some (.int (-4))) S' := by
      intro S' R' e'
      rw [if_pos e, e'] at hQ
      exact hQ S' R'
    rcases (show s = 0 ∨ s = 1 by omega) with rfl | rfl
    · refine p_isServer R ok hs (fun z => absurd z (by decide)) (fun _ => ⟨0, rfl, fun _ => ?_, fun c => absurd rfl c⟩)
      refine p_dir sd (d := 1) (by omega) ⟨_, rfl, R.s.1, x + 7, R.s.r (k := 3) (by omega), x + 166, R.s.r (k := 11) (by omega), R.s.2.2.1.1, ?_⟩
      exact un _ (fun S' R' e' => ⟨0, rfl, fun _ => none4 S' R' e', fun c => absurd rfl c⟩) (fun S' p R' e' b' => ⟨1, rfl, fun c => absurd c (by decide), fun _ => go2 S' p R' e' b'⟩)
    · refine p_isServer R ok hs (fun _ => ⟨1, rfl, fun c => absurd c (by decide), fun _ => ?_⟩) (fun z => absurd z (by decide))
      refine p_dir sd (d := 0) (by omega) ⟨_, rfl, R.s.1, x + 7, R.s.r (k := 3) (by omega), x + 166, R.s.r (k := 11) (by omega), R.s.2.2.1.1, ?_⟩
      exact un _ (fun S' R' e' => ⟨0, rfl, fun _ => none4 S' R' e', fun c => absurd rfl c⟩) (fun S' p R' e' b' => ⟨1, rfl, fun c => absurd c (by decide), fun _ => go2 S' p R' e' b'⟩)
  · rw [if_neg e] at hQ
    exact hQ S R
end QR
