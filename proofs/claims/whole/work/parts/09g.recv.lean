/-! PURE: receive of the class, the call -/
def tel (L : List B8) : Prop := 3 ≤ L.length ∧ (zx (L.getD 1 0) <<< ((8 : Int32) &&& 31)) ||| zx (L.getD 2 0) = nI (L.length - 3)
def lsn (v : Int32) : Prop := v ≠ 3 ∧ v ≠ 4
noncomputable def telD (L : List B8) : Decidable (tel L) := inferInstanceAs (Decidable (_ ∧ _))
def tAll (A : AS) (s : Nat) (L : List B8) : Int32 × AS := if (L.getD 0 0).toNat = 1 then tGreet A s L else if (L.getD 0 0).toNat = 2 then tReply A s L else if (L.getD 0 0).toNat = 3 then tProof A s L else if (L.getD 0 0).toNat = 4 then tSealed A s L else (-4, A)
def fRecv1 (A : AS) (s : Nat) (L : List B8) : Int32 × AS := if (aI A s ≠ 3 ∧ aI A s ≠ 4) ∧ (3 ≤ L.length ∧ (zx (L.getD 1 0) <<< ((8 : Int32) &&& 31)) ||| zx (L.getD 2 0) = nI (L.length - 3)) then tAll A s L else (-4, A)
def fRecv2 (r : Int32 × AS) (s w : Nat) : Int32 × AS := if r.1 = -3 then (-3, r.2) else if r.1 = -4 ∧ (aI r.2 s ≠ 3 ∧ aI r.2 s ≠ 4) then (r.1, wW (wI r.2 s 4) w ((aW r.2 w).eraseIdx 0)) else (r.1, wW r.2 w ((aW r.2 w).eraseIdx 0))
def fReceive (A : AS) (w : Int32) : Int32 × AS := match nof 2 w with
  | none => (-1, A)
  | some w => if aW A w = [] then (-2, A) else fRecv2 (fRecv1 A (1 - w) ((aW A w).getD 0 [])) (1 - w) w
theorem tGreet_w (A : AS) (L : List B8) (s : Nat) (hs : s < 2) : aW (tGreet A s L).2 (1 - s) = aW A (1 - s) := by
  unfold tGreet
  split
  · rename_i h
    obtain ⟨rfl, -⟩ := h
    split <;> rfl
  · rfl
theorem tReply_w (A : AS) (L : List B8) (s : Nat) (hs : s < 2) : aW (tReply A s L).2 (1 - s) = aW A (1 - s) := by
  unfold tReply
  split
  · rename_i h
    obtain ⟨rfl, -⟩ := h
    split <;> rfl
  · rfl
theorem tProof_w (A : AS) (L : List B8) (s : Nat) (hs : s < 2) : aW (tProof A s L).2 (1 - s) = aW A (1 - s) := by
  unfold tProof
  split <;> rfl
theorem tSealed_w (A : AS) (L : List B8) (s : Nat) (hs : s < 2) : aW (tSealed A s L).2 (1 - s) = aW A (1 - s) := by
  unfold tSealed
  split
  · split
    · rfl
    · split
      · rfl
      · split
        · split
          · rename_i h1
            subst h1
            unfold tReq
            split
            · rfl
            · split <;> rfl
          · have e : ∀ p, aW (tAns A p).2 = aW A := fun p => by
              unfold tAns
              generalize (if (p.getD 1 0).toNat = 0 then 64 else 0) = m
              split <;> rfl
            rw [e]
        · split
          · split
            · rfl
            · split <;> rfl
          · rfl
  · rfl
theorem fRecv1_w (A : AS) (L : List B8) (s : Nat) (hs : s < 2) : aW (fRecv1 A s L).2 (1 - s) = aW A (1 - s) := by
  unfold fRecv1
  split
  · unfold tAll
    split
    · exact tGreet_w A L s hs
    · split
      · exact tReply_w A L s hs
      · split
        · exact tProof_w A L s hs
        · split
          · exact tSealed_w A L s hs
          · rfl
  · rfl
section QRV
variable {G : pG} {x : Nat} {S0 S : TS} {A : AS}
theorem p_listens {Q : Option Value → Prop} (R : RF x S0 S A) {s : Nat} (hs : s < 2) (h1 : (aI A s ≠ 3 ∧ aI A s ≠ 4) → Q (some (.int 1))) (h0 : ¬ (aI A s ≠ 3 ∧ aI A s ≠ 4) → Q (some (.int 0))) : CP G J_Side_listens [.ref (x + 174 + 45 * s)] S Q := by
  have sn := R.sn hs
  refine v_Side_listens _ S Q ⟨(R.sd hs).o, ?_⟩
  rw [sn.1]
  exact ⟨fun c => h0 (fun z => z.1 c), fun c => ⟨fun c2 => h0 (fun z => z.2 c2), fun c2 => h1 ⟨c, c2⟩⟩⟩
theorem q_recv_end {Q : Option Value → TS → Prop} {r : Int32} {w q : Nat} {x1 : Int32} (hw : w < 2) (R : RF x S0 S A) (hne : 0 < (aW A w).length) (hQ : ∀ S', RF x S0 S' (fRecv2 (r, A) (1 - w) w).2 → Q (some (.int (fRecv2 (r, A) (1 - w) w).1)) S') : T1 G J_S_receive 152 [(0, .ref x), (1, .int x1), (2, .ref (x + 20 + 28 * w)), (3, .ref (x + 174 + 45 * (1 - w))), (4, .ref q), (5, .int r)] [] S Q := by
  have hs : 1 - w < 2 := by omega
  unfold fRecv2 at hQ
  have rm : ∀ {S : TS} {A' : AS}, RF x S0 S A' → aW A' w = aW A w → (∀ S', RF x S0 S' (wW A' w ((aW A w).eraseIdx 0)) → Q (some (.int r)) S') → T1 G J_S_receive 181 [(0, .ref x), (1, .int x1), (2, .ref (x + 20 + 28 * w)), (3, .ref (x + 174 + 45 * (1 - w))), (4, .ref q), (5, .int r)] [] S Q := by
    intro S A' R' ew hq
    obtain ⟨f, hf⟩ := R'.w hw
    rw [ew] at hf
    refine v_S_receive_181 x x1 _ _ q r S Q ⟨hf.1.1, p_remove (k := 0) hf hne (fun S1 e1 w1 => ⟨rfl, hq S1 (rf_wW1 R' e1 hw (fun z hz => by omega) (fun z hz => by omega) ⟨_, w1⟩)⟩)⟩
  refine v_S_receive_152 x x1 _ _ q r S Q ⟨fun c3 => v_S_receive_162 x x1 _ _ q r S Q ⟨fun c4 => ?_, fun c4 => ⟨(R.sd hs).o, p_listens R hs (fun hl => ⟨1, rfl, fun c => absurd c (by decide), fun _ => ?_⟩) (fun hl => ⟨0, rfl, fun _ => ?_, fun c => absurd rfl c⟩)⟩⟩, fun c3 => ?_⟩
  · rw [if_neg c3, if_neg (fun z => c4 z.1)] at hQ
    exact rm R rfl hQ
  · rw [if_neg c3, if_pos ⟨c4, hl⟩] at hQ
    exact p_become6 R hs 4 (fun S1 R1 => ⟨rfl, rm R1 rfl hQ⟩)
  · rw [if_neg c3, if_neg (fun z => hl z.2)] at hQ
    exact rm R rfl hQ
  · rw [if_pos c3] at hQ
    exact hQ S R
theorem q_receive {t : Nat → Nat} (hG : GS G t) (h : RC x S A) (ok : AOK A) (w : Int32) : C1 G J_S_receive [.ref x, .int w] S (fun r S' => r = some (.int (fReceive A w).1) ∧ RF x S S' (fReceive A w).2) := by
  have R := RF.rf h
  unfold fReceive
  refine v_S_receive x w S _ (p_isWire (fun j hj ej => ⟨1, rfl, fun _ => ?_, fun c => absurd c (by decide)⟩) (fun hno => ⟨0, rfl, fun c => absurd rfl c, fun _ => ?_⟩))
  · subst ej
    simp only [nof_some hj (show j < 2 ^ 32 by omega)]
    obtain ⟨f, hf⟩ := R.w hj
    refine v_S_receive_9 x _ S _ ⟨R.s.1, p_wireOf R.s hj ⟨_, rfl, hf.1.1, p_whas hf (fun i hi ei => ⟨1, rfl, fun _ => ?_, fun c => absurd c (by decide)⟩) (fun hno => ⟨0, rfl, fun c => absurd rfl c, fun _ => ?_⟩)⟩⟩
    · have hne : 0 < (aW A j).length := by omega
      rw [if_neg (fun z => by rw [z] at hne; simp at hne)]
      have f0 := hf.2.2.1 0 (by omega)
      have bt := hf.2.2.2.2.2 0 hne
      have hs : 1 - j < 2 := by omega
      generalize hL : (aW A j).getD 0 [] = L at *
      have fin : ∀ (r : Int32 × AS) (S1 : TS), r = fRecv1 A (1 - j) L → RF x S S1 r.2 → T1 G J_S_receive 152 [(0, .ref x), (1, .int (nI j)), (2, .ref (x + 20 + 28 * j)), (3, .ref (x + 174 + 45 * (1 - j))), (4, .ref (f 0)), (5, .int r.1)] [] S1 (fun r S' => r = some (.int (fRecv2 (fRecv1 A (1 - j) L) (1 - j) j).1) ∧ RF x S S' (fRecv2 (fRecv1 A (1 - j) L) (1 - j) j).2) := by
        intro r S1 er R1
        have ew := fRecv1_w A L (1 - j) hs
        rw [show 1 - (1 - j) = j by omega] at ew
        rw [← er] at ew ⊢
        exact q_recv_end hj R1 (by rw [ew]; exact hne) (fun S' R' => ⟨rfl, R'⟩)
      have main : ∀ (b2 : Nat), b2 = x + 174 + 45 * (1 - j) → CP G J_Wire_at [.ref (x + 20 + 28 * j), .int 0] S (fun r => ∃ b5 : Nat, r = some (.ref b5) ∧ te S b2 = some (.inr 6) ∧ CP G J_Side_listens [.ref b2] S (fun r => ∃ r7 : Int32, r = some (.int r7) ∧ ((r7 = 0 → T1 G J_S_receive 152 [(0, .ref x), (1, .int (nI j)), (2, .ref (x + 20 + 28 * j)), (3, .ref b2), (4, .ref b5), (5, .int ((-4)))] [] S (fun r S' => r = some (.int (fRecv2 (fRecv1 A (1 - j) L) (1 - j) j).1) ∧ RF x S S' (fRecv2 (fRecv1 A (1 - j) L) (1 - j) j).2)) ∧ (¬ (r7 = 0) → te S b5 = some (.inr 0) ∧ CP G J_Bytes_tellsItsLength [.ref b5] S (fun r => ∃ r9 : Int32, r = some (.int r9) ∧ ((r9 = 0 → T1 G J_S_receive 152 [(0, .ref x), (1, .int (nI j)), (2, .ref (x + 20 + 28 * j)), (3, .ref b2), (4, .ref b5), (5, .int ((-4)))] [] S (fun r S' => r = some (.int (fRecv2 (fRecv1 A (1 - j) L) (1 - j) j).1) ∧ RF x S S' (fRecv2 (fRecv1 A (1 - j) L) (1 - j) j).2)) ∧ (¬ (r9 = 0) → CP G J_Bytes_at [.ref b5, .int 0] S (fun r => ∃ r10 : Int32, r = some (.int r10) ∧ ((r10 = 1 → T1 G J_S_receive 104 [(0, .ref x), (1, .int (nI j)), (2, .ref (x + 20 + 28 * j)), (3, .ref b2), (4, .ref b5), (5, .int ((-4)))] [] S (fun r S' => r = some (.int (fRecv2 (fRecv1 A (1 - j) L) (1 - j) j).1) ∧ RF x S S' (fRecv2 (fRecv1 A (1 - j) L) (1 - j) j).2)) ∧ (r10 = 2 → T1 G J_S_receive 116 [(0, .ref x), (1, .int (nI j)), (2, .ref (x + 20 + 28 * j)), (3, .ref b2), (4, .ref b5), (5, .int ((-4)))] [] S (fun r S' => r = some (.int (fRecv2 (fRecv1 A (1 - j) L) (1 - j) j).1) ∧ RF x S S' (fRecv2 (fRecv1 A (1 - j) L) (1 - j) j).2)) ∧ (r10 = 3 → T1 G J_S_receive 128 [(0, .ref x), (1, .int (nI j)), (2, .ref (x + 20 + 28 * j)), (3, .ref b2), (4, .ref b5), (5, .int ((-4)))] [] S (fun r S' => r = some (.int (fRecv2 (fRecv1 A (1 - j) L) (1 - j) j).1) ∧ RF x S S' (fRecv2 (fRecv1 A (1 - j) L) (1 - j) j).2)) ∧ (r10 = 4 → T1 G J_S_receive 140 [(0, .ref x), (1, .int (nI j)), (2, .ref (x + 20 + 28 * j)), (3, .ref b2), (4, .ref b5), (5, .int ((-4)))] [] S (fun r S' => r = some (.int (fRecv2 (fRecv1 A (1 - j) L) (1 - j) j).1) ∧ RF x S S' (fRecv2 (fRecv1 A (1 - j) L) (1 - j) j).2)) ∧ (¬ r10 = 1 → ¬ r10 = 2 → ¬ r10 = 3 → ¬ r10 = 4 → T1 G J_S_receive 152 [(0, .ref x), (1, .int (nI j)), (2, .ref (x + 20 + 28 * j)), (3, .ref b2), (4, .ref b5), (5, .int ((-4)))] [] S (fun r S' => r = some (.int (fRecv2 (fRecv1 A (1 - j) L) (1 - j) j).1) ∧ RF x S S' (fRecv2 (fRecv1 A (1 - j) L) (1 - j) j).2))))))))))) := by
        intro b2 eb
        subst eb
        refine p_wat (j := 0) hf hne ⟨_, rfl, (R.sd hs).o, p_listens R hs (fun hl => ⟨1, rfl, fun c => absurd c (by decide), fun _ => ⟨bt.1.1, p_tells bt (fun ff hff => ⟨ff, rfl, ?_⟩)⟩⟩) (fun hl => ⟨0, rfl, fun _ => ?_, fun c => absurd rfl c⟩)⟩
        · by_cases ht : 3 ≤ L.length ∧ (zx (L.getD 1 0) <<< ((8 : Int32) &&& 31)) ||| zx (L.getD 2 0) = nI (L.length - 3)
          · rw [if_pos ht] at hff
            subst hff
            refine ⟨fun c => absurd c (by decide), fun _ => p_at (j := 0) bt (by omega) ⟨_, rfl, ?_⟩⟩
            have hkb := (L.getD 0 0).isLt
            have e1 : fRecv1 A (1 - j) L = tAll A (1 - j) L := by unfold fRecv1; rw [if_pos ⟨hl, ht⟩]
            unfold tAll at e1
            rw [zx_nI]
            generalize hkk : (L.getD 0 0).toNat = kk at *
            have rg : x + 22 + 28 * (1 - (1 - j)) ≤ f 0 ∧ f 0 + 1 < x + 48 + 28 * (1 - (1 - j)) := by omega
            refine ⟨fun c => ?_, fun c => ?_, fun c => ?_, fun c => ?_, fun c1 c2 c3 c4 => ?_⟩
            · have : kk = 1 := (nI_eq (b := 1) (by omega) (by omega)).mp c
              rw [if_pos this] at e1
              exact v_S_receive_104 x _ _ _ _ _ S _ ⟨R.s.1, p_takeGreeting hG R ok hs bt rg (fun S1 R1 => ⟨_, rfl, fin _ S1 e1.symm R1⟩)⟩
            · have : kk = 2 := (nI_eq (b := 2) (by omega) (by omega)).mp c
              rw [if_neg (by omega), if_pos this] at e1
              exact v_S_receive_116 x _ _ _ _ _ S _ ⟨R.s.1, p_takeReply hG R ok hs bt rg (fun S1 R1 => ⟨_, rfl, fin _ S1 e1.symm R1⟩)⟩
            · have : kk = 3 := (nI_eq (b := 3) (by omega) (by omega)).mp c
              rw [if_neg (by omega), if_neg (by omega), if_pos this] at e1
              exact v_S_receive_128 x _ _ _ _ _ S _ ⟨R.s.1, p_takeProof hG R ok hs bt rg (fun S1 R1 => ⟨_, rfl, fin _ S1 e1.symm R1⟩)⟩
            · have : kk = 4 := (nI_eq (b := 4) (by omega) (by omega)).mp c
              rw [if_neg (by omega), if_neg (by omega), if_neg (by omega), if_pos this] at e1
              exact v_S_receive_140 x _ _ _ _ _ S _ ⟨R.s.1, p_takeSealed hG R ok hs bt rg (fun S1 R1 => ⟨_, rfl, fin _ S1 e1.symm R1⟩)⟩
            · rw [if_neg (fun z => c1 (by rw [z]; rfl)), if_neg (fun z => c2 (by rw [z]; rfl)), if_neg (fun z => c3 (by rw [z]; rfl)), if_neg (fun z => c4 (by rw [z]; rfl))] at e1
              exact fin (-4, A) S e1.symm R
          · rw [if_neg ht] at hff
            subst hff
            exact ⟨fun _ => fin (-4, A) S (by unfold fRecv1; rw [if_neg (fun z => ht z.2)]) R, fun c => absurd rfl c⟩
        · exact fin (-4, A) S (by unfold fRecv1; rw [if_neg (fun z => hl z.1)]) R
      rcases (show j = 0 ∨ j = 1 by omega) with rfl | rfl
      · exact v_S_receive_26 x _ _ S _ ⟨fun c => absurd rfl c, fun _ => ⟨R.s.1, x + 219, R.s.r (k := 5) (by omega), hf.1.1, main (x + 219) rfl⟩⟩
      · exact v_S_receive_26 x _ _ S _ ⟨fun _ => v_S_receive_37 x _ _ S _ ⟨R.s.1, x + 174, R.s.r (k := 4) (by omega), hf.1.1, main (x + 174) rfl⟩, fun c => absurd c (by decide)⟩
    · have : aW A j = [] := by
        apply List.eq_nil_of_length_eq_zero
        apply Nat.eq_zero_of_not_pos
        intro hp
        exact hno 0 hp rfl
      rw [if_pos this]
      exact ⟨rfl, R⟩
  · simp only [nof_none hno]
    exact ⟨trivial, R⟩
end QRV
