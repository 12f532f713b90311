/-! PURE: the reference opens a sealed record -/
section MOE
variable {G : pG} {y : Nat} {S : TS} {A : AS}
def uR (y : Nat) : Nat → Prop := fun a => y + 27 ≤ a ∧ a ≤ y + 36
theorem m_opened {Q : Option Value → TS → Prop} {a n kk : Nat} {L key : List B8} {cn : Int32} (hs : MS y S) (ha : a + n + 3 ≤ 4800) (hL : BR S (y + 18) a L) (hn : L.length = n + 3) (h116 : n ≤ 116) (hkk : kk < 4) (hkey : key.length = 32) (hk : BR S (y + 15) (32 * kk) key) (hc : tI S (y + 16) kk = cn)
    (h0 : ∀ S', Ex (uR y) S S' → (n < 17 ∨ opn key cn L = none) → Q (some (.int (-1))) S')
    (h1 : ∀ S' p, Ex (uR y) S S' → 17 ≤ n → opn key cn L = some p → p.length = n - 16 → BR S' (y + 36) 0 p → Q (some (.int (nI (n - 16)))) S') : C0 G J_M_opened [.ref y, .int (nI a), .int (nI n), .int (nI kk)] S Q := by
  refine v_M_opened y _ _ _ S Q ⟨fun c => ?_, fun c => h0 S (Ex.rf S) (Or.inl (Nat.not_le.mp (fun z => c (nI_le (a := 17) z (by omega)))))⟩
  have h17 : 17 ≤ n := (nI_leI (a := 17) (by omega) (by omega)).mp c
  intro y1 e1
  rw [show nI n - (16 : Int32) = nI (n - 16) from pk_sub (b := 16) (by omega)] at e1
  rw [e1]
  have hcl : ((L.drop 3).take (n - 16)).length = n - 16 := by rw [List.length_take, List.length_drop]; omega
  have hhl : (L.take 3).length = 3 := by rw [List.length_take]; omega
  have htl : (L.drop (3 + (n - 16))).length = 16 := by rw [List.length_drop]; omega
  have bh : BR S (y + 18) a (L.take 3) := hL.take 3
  have bc : BR S (y + 18) (a + 3) ((L.drop 3).take (n - 16)) := (hL.drop 3).take (n - 16)
  have bt : BR S (y + 18) (a + (3 + (n - 16))) (L.drop (3 + (n - 16))) := hL.drop (3 + (n - 16))
  have hop : opn key cn L = if L.drop (3 + (n - 16)) = stag key cn (L.take 3) ((L.drop 3).take (n - 16)) then some (cov key cn ((L.drop 3).take (n - 16))) else none := by
    unfold opn
    rw [show L.length - 16 = 3 + (n - 16) by omega, show L.length - 19 = n - 16 by omega]
    by_cases hc : L.drop (3 + (n - 16)) = stag key cn (L.take 3) ((L.drop 3).take (n - 16))
    · rw [if_pos ⟨by omega, hc⟩, if_pos hc]
    · rw [if_neg (fun z => hc z.2), if_neg hc]
  rw [hop] at h0 h1
  clear hop
  generalize hcc : (L.drop 3).take (n - 16) = c0 at *
  generalize hhh : L.take 3 = hd at *
  generalize htt : L.drop (3 + (n - 16)) = tl at *
  have kcall := fun Q' => m_tagRecord (G := G) (Q := Q') (c := c0) (h := hd) hs hkk hkey (show y + 18 < y + 27 ∨ y + 35 < y + 18 by omega) (show 4800 < 65536 by omega) (show a + 3 + c0.length ≤ 4800 by omega) (hs.t 18 (by omega) (by omega)) hk hc hhl (show c0.length ≤ 272 by omega) bh bc
  rw [hcl] at kcall
  refine ⟨hs.1, y + 18, hs.r 18 (by omega) (by omega), kcall _ (fun S5 x5 b5 => ⟨rfl, ?_⟩)⟩
  have s5 := hs.sm x5.1
  have hgl := stag_len key cn hd c0
  generalize hgg : stag key cn hd c0 = tg at *
  have q18 : tI S5 (y + 18) = tI S (y + 18) := (x5.2 (y + 18) (by simp only [wR]; omega)).1
  have x5' : Ex (uR y) S S5 := x5.mono (fun a z => by simp only [wR] at z; show y + 27 ≤ a ∧ a ≤ y + 36; omega)
  have fin : tl = tg → T0 G J_M_opened 71 [(0, .ref y), (1, .int (nI a)), (2, .int (nI n)), (3, .int (nI kk)), (4, .int (nI (n - 16))), (5, .int 0)] [] S5 Q := by
    intro he
    rw [if_pos he] at h1
    have bc5 : BR S5 (y + 18) (a + 3) c0 := bc.eq q18
    refine cpl (b := y + 36) (o := 0) (l := c0) (S0 := S5) (H := fun i Si => T0 G J_M_opened 71 [(0, .ref y), (1, .int (nI a)), (2, .int (nI n)), (3, .int (nI kk)), (4, .int (nI (n - 16))), (5, .int (nI i))] [] Si Q) (fun i Si hi xi nx => ?_) (fun S6 x6 b6 f6' => ?_)
    · rw [hcl] at hi
      have si := s5.sm xi.1
      refine v_M_opened_71 y _ _ _ _ _ Si Q ⟨fun c => absurd c (nI_ge hi (by omega)), fun _ => ⟨si.1, y + 36, si.r 36 (by omega) (by omega), y + 18, si.r 18 (by omega) (by omega), 4800, si.t 18 (by omega) (by omega), ?_⟩⟩
      rw [show nI a + (3 : Int32) = nI (a + 3) from nI_add a 3, nI_add, nI_clamp (show a + 3 + i < 2 ^ 31 by omega), nI_clamp (show i < 2 ^ 31 by omega), nI_1, (xi.2 (y + 18) (by omega)).1, bc5 i (by omega), nar1s]
      refine ⟨vp_in_nI (by omega) (by omega), 128, si.t 36 (by omega) (by omega), vp_in_nI (by omega) (by omega), fun S9 e9 z ez => ?_⟩
      rw [ez]
      exact nx S9 (by rw [Nat.zero_add]; exact e9)
    · rw [hcl]
      have s6 := s5.sm x6.1
      have x56 : Ex (uR y) S S6 := x5'.tr (x6.mono (fun a z => by show y + 27 ≤ a ∧ a ≤ y + 36; omega))
      have kc := fun Q' => m_cover (G := G) (Q := Q') (l := c0) (o := 0) (n := cn) s6 hkk hkey (show y + 36 ≠ y ∧ y + 36 ≠ y + 15 ∧ y + 36 ≠ y + 16 ∧ (y + 36 < y + 27 ∨ y + 29 < y + 36) by omega) (show 128 < 65536 by omega) (show 0 + c0.length ≤ 128 by omega) (s6.t 36 (by omega) (by omega)) (hk.ex x56 (by simp only [uR]; omega)) (by rw [(x56.2 (y + 16) (by simp only [uR]; omega)).1]; exact hc) b6
      rw [hcl] at kc
      refine v_M_opened_71 y _ _ _ _ _ S6 Q ⟨fun _ => ⟨s6.1, y + 36, s6.r 36 (by omega) (by omega), kc _ (fun S7 x7 f7 b7 => ⟨rfl, h1 S7 _ (x56.tr (x7.mono (fun a z => by simp only [sQ] at z; show y + 27 ≤ a ∧ a ≤ y + 36; omega))) h17 rfl (by rw [cov_len]; exact hcl) b7⟩)⟩, fun c => absurd (Int32.le_refl _) c⟩
  have go : ∀ (m i : Nat), i + m = 16 → (∀ j, j < i → tl.getD j 0 = tg.getD j 0) → T0 G J_M_opened 29 [(0, .ref y), (1, .int (nI a)), (2, .int (nI n)), (3, .int (nI kk)), (4, .int (nI (n - 16))), (5, .int (nI i))] [] S5 Q := by
    intro m
    induction m with
    | zero =>
      intro i hi he
      have : i = 16 := by omega
      subst this
      refine v_M_opened_29 y _ _ _ _ _ S5 Q ⟨fun _ => fin (List.ext_getElem (by omega) (fun j h1 h2 => ?_)), fun c => absurd (Int32.le_refl _) c⟩
      have := he j (by omega)
      rw [List.getD_eq_getElem?_getD, List.getD_eq_getElem?_getD, List.getElem?_eq_getElem h1, List.getElem?_eq_getElem h2] at this
      exact this
    | succ m ih =>
      intro i hi he
      refine v_M_opened_29 y _ _ _ _ _ S5 Q ⟨fun c => absurd c (nI_ge (b := 16) (by omega) (by omega)), fun _ => ⟨s5.1, y + 18, s5.r 18 (by omega) (by omega), 4800, s5.t 18 (by omega) (by omega), ?_⟩⟩
      have bti := bt i (by omega)
      rw [show a + (3 + (n - 16)) + i = a + 3 + (n - 16) + i by omega] at bti
      rw [show nI a + (3 : Int32) = nI (a + 3) from nI_add a 3, nI_add, nI_add, nI_clamp (show a + 3 + (n - 16) + i < 2 ^ 31 by omega), nI_clamp (show i < 2 ^ 31 by omega), nI_1, q18, bti]
      refine ⟨vp_in_nI (by omega) (by omega), y + 34, s5.r 34 (by omega) (by omega), 16, s5.t 34 (by omega) (by omega), vp_in_nI (by omega) (by omega), ?_⟩
      rw [b5.at0 (by omega)]
      refine ⟨fun c z ez => ?_, fun c => h0 S5 x5' (Or.inr (by rw [if_neg (fun e => c (by rw [e]))]))⟩
      rw [ez]
      refine ih (i + 1) (by omega) (fun j hj => ?_)
      by_cases hji : j = i
      · rw [hji]; exact sx_inj c
      · exact he j (by omega)
  exact go 16 0 (by omega) (fun j hj => absurd hj (by omega))
theorem sub_ng {a b : Nat} (ha : a < 2 ^ 30) (hb : b < 2 ^ 30) (h : a < b) : nI a - nI b < 0 := by
  rw [Int32.lt_iff_toInt_lt, pk_sub_toInt ha hb, Int32.toInt_zero]
  omega
theorem m_isRequest {Q : Option Value → Prop} {p : List B8} (hs : MS y S) (hp : BR S (y + 36) 0 p) (hpl : p.length ≤ 100) (h1 : ∀ o nm dt, rdq p = some (o, nm, dt) → Q (some (.int 1))) (h0 : rdq p = none → Q (some (.int 0))) : CP G J_M_isRequest [.ref y, .int (nI p.length)] S Q := by
  have no : ¬ ((p.getD 1 0).toNat ≤ 4 ∧ 1 ≤ (p.getD 2 0).toNat ∧ (p.getD 2 0).toNat ≤ 16 ∧ 3 + (p.getD 2 0).toNat ≤ p.length ∧ p.length - 3 - (p.getD 2 0).toNat ≤ qmx (p.getD 1 0).toNat) → Q (some (.int 0)) := fun h => h0 (by unfold rdq; rw [if_neg h])
  have yes : ((p.getD 1 0).toNat ≤ 4 ∧ 1 ≤ (p.getD 2 0).toNat ∧ (p.getD 2 0).toNat ≤ 16 ∧ 3 + (p.getD 2 0).toNat ≤ p.length ∧ p.length - 3 - (p.getD 2 0).toNat ≤ qmx (p.getD 1 0).toNat) → Q (some (.int 1)) := fun h => h1 _ _ _ (by unfold rdq; rw [if_pos h])
  have i1 : vp_in 1 128 := vp_in_nI (n := 1) (by omega) (by omega)
  have i2 : vp_in 2 128 := vp_in_nI (n := 2) (by omega) (by omega)
  refine v_M_isRequest y _ S Q ⟨fun c => no (fun z => ?_), fun c => ⟨hs.1, y + 36, hs.r 36 (by omega) (by omega), 128, hs.t 36 (by omega) (by omega), i1, ?_⟩⟩
  · have := (nI_ltI (b := 4) (by omega) (by omega)).mp c
    omega
  have h4 : 4 ≤ p.length := Nat.not_lt.mp (fun z => c (nI_lt (b := 4) z (by omega)))
  rw [hp.at0 (j := 1) (by omega), hp.at0 (j := 2) (by omega)]
  generalize p.getD 1 0 = b1 at *
  generalize p.getD 2 0 = b2 at *
  have l1 := b1.isLt
  have l2 := b2.isLt
  refine ⟨fun c1 => no (fun z => ?_), fun c1 => ⟨i1, ?_⟩⟩
  · rw [sx_sm (by omega)] at c1; exact nI_pos (by omega) c1
  have k1 : b1.toNat < 128 := Nat.not_le.mp (fun z => c1 (sx_ng z))
  rw [sx_sm k1]
  refine ⟨fun c2 => no (fun z => ?_), fun c2 => ⟨i2, fun c3 => no (fun z => ?_), fun c3 => ⟨i2, ?_⟩⟩⟩
  · have := (nI_ltI (a := 4) (by omega) (by omega)).mp c2; omega
  · rw [sx_sm (by omega)] at c3
    have := (nI_ltI (b := 1) (by omega) (by omega)).mp c3
    omega
  have k4 : b1.toNat ≤ 4 := Nat.not_lt.mp (fun z => c2 (nI_lt (a := 4) z (by omega)))
  have k2 : b2.toNat < 128 := Nat.not_le.mp (fun z => c3 (by
    have := sx_ng z
    rw [Int32.lt_iff_toInt_lt] at this ⊢
    have e0 : (0 : Int32).toInt = 0 := rfl
    have e1 : (1 : Int32).toInt = 1 := rfl
    omega))
  rw [sx_sm k2] at c3 ⊢
  have k21 : 1 ≤ b2.toNat := Nat.not_lt.mp (fun z => c3 (nI_lt (b := 1) z (by omega)))
  refine ⟨fun c4 => ⟨i2, fun y6 e6 => ?_⟩, fun c4 => no (fun z => c4 (nI_le (b := 16) z.2.2.1 (by omega)))⟩
  have k16 : b2.toNat ≤ 16 := (nI_leI (b := 16) (by omega) (by omega)).mp c4
  rw [show nI p.length - (3 : Int32) = nI (p.length - 3) from pk_sub (b := 3) (by omega)] at e6
  refine ⟨fun c5 => no (fun z => ?_), fun c5 => ?_⟩
  · rw [e6, pk_sub (by omega)] at c5
    exact nI_pos (by omega) c5
  have k3 : b2.toNat ≤ p.length - 3 := Nat.not_lt.mp (fun z => c5 (by rw [e6]; exact sub_ng (by omega) (by omega) z))
  rw [pk_sub k3] at e6
  rw [e6]
  have small : ∀ M : Nat, M < 100 → (¬ (p.length - 3 - b2.toNat ≤ M) ↔ nI M < nI (p.length - 3 - b2.toNat)) := fun M hM => by rw [nI_ltI (by omega) (by omega)]; omega
  refine ⟨i1, fun c6 => ?_, fun c6 => ⟨i1, fun c7 => ?_, fun c7 => ?_⟩⟩
  · have z0 : b1.toNat = 0 := (nI_eq (b := 0) (by omega) (by omega)).mp c6
    have hq : qmx b1.toNat = 0 := by rw [z0]; rfl
    rw [hq] at no yes
    exact ⟨fun c8 => no (fun z => (small 0 (by omega)).mpr c8 z.2.2.2.2), fun c8 => yes ⟨by omega, k21, k16, by omega, Classical.not_not.mp (fun z => c8 ((small 0 (by omega)).mp z))⟩⟩
  · have n0 : b1.toNat ≠ 0 := fun z => c6 (by rw [z]; rfl)
    have n2 : b1.toNat ≠ 2 := fun z => c7 (by rw [z]; rfl)
    have hq : qmx b1.toNat = 64 := by unfold qmx; rw [if_neg (by omega)]
    rw [hq] at no yes
    exact ⟨fun c8 => no (fun z => (small 64 (by omega)).mpr c8 z.2.2.2.2), fun c8 => yes ⟨by omega, k21, k16, by omega, Classical.not_not.mp (fun z => c8 ((small 64 (by omega)).mp z))⟩⟩
  · have z2 : b1.toNat = 2 := (nI_eq (b := 2) (by omega) (by omega)).mp c7
    have hq : qmx b1.toNat = 0 := by rw [z2]; rfl
    rw [hq] at no yes
    exact ⟨fun c8 => no (fun z => (small 0 (by omega)).mpr c8 z.2.2.2.2), fun c8 => yes ⟨by omega, k21, k16, by omega, Classical.not_not.mp (fun z => c8 ((small 0 (by omega)).mp z))⟩⟩
theorem m_isAnswer {Q : Option Value → Prop} {p : List B8} (hs : MS y S) (hp : BR S (y + 36) 0 p) (hpl : p.length ≤ 100) (h1 : (2 ≤ p.length ∧ p.length ≤ 2 + (if (p.getD 1 0).toNat = 0 then 64 else 0) ∧ (p.getD 1 0).toNat ≤ 3) → Q (some (.int 1))) (h0 : ¬ (2 ≤ p.length ∧ p.length ≤ 2 + (if (p.getD 1 0).toNat = 0 then 64 else 0) ∧ (p.getD 1 0).toNat ≤ 3) → Q (some (.int 0))) : CP G J_M_isAnswer [.ref y, .int (nI p.length)] S Q := by
  have i1 : vp_in 1 128 := vp_in_nI (n := 1) (by omega) (by omega)
  refine v_M_isAnswer y _ S Q ⟨fun c => h0 (fun z => ?_), fun c => ⟨hs.1, y + 36, hs.r 36 (by omega) (by omega), 128, hs.t 36 (by omega) (by omega), i1, ?_⟩⟩
  · have := (nI_ltI (b := 2) (by omega) (by omega)).mp c
    omega
  have h2 : 2 ≤ p.length := Nat.not_lt.mp (fun z => c (nI_lt (b := 2) z (by omega)))
  rw [hp.at0 (j := 1) (by omega), show nI p.length - (2 : Int32) = nI (p.length - 2) from pk_sub (b := 2) (by omega)]
  generalize p.getD 1 0 = b1 at *
  have l1 := b1.isLt
  refine ⟨fun c1 => h0 (fun z => ?_), fun c1 => ⟨i1, ?_⟩⟩
  · rw [sx_sm (by omega)] at c1; exact nI_pos (by omega) c1
  have k1 : b1.toNat < 128 := Nat.not_le.mp (fun z => c1 (sx_ng z))
  rw [sx_sm k1]
  refine ⟨fun c2 => h0 (fun z => ?_), fun c2 => ⟨i1, fun c3 => ?_, fun c3 => ?_⟩⟩
  · have := (nI_ltI (a := 3) (by omega) (by omega)).mp c2; omega
  · have k3 : b1.toNat ≤ 3 := Nat.not_lt.mp (fun z => c2 (nI_lt (a := 3) z (by omega)))
    have n0 : ¬ b1.toNat = 0 := fun z => c3 (by rw [z]; rfl)
    rw [if_neg n0] at h0 h1
    refine ⟨fun c4 => h0 (fun z => ?_), fun c4 => h1 ⟨h2, ?_, k3⟩⟩
    · have := (nI_ltI (a := 0) (by omega) (by omega)).mp c4; omega
    · have : ¬ 0 < p.length - 2 := fun z => c4 (nI_lt (a := 0) z (by omega))
      omega
  · have k3 : b1.toNat ≤ 3 := Nat.not_lt.mp (fun z => c2 (nI_lt (a := 3) z (by omega)))
    have z0 : b1.toNat = 0 := (nI_eq (b := 0) (by omega) (by omega)).mp c3
    rw [if_pos z0] at h0 h1
    refine ⟨fun c4 => h0 (fun z => ?_), fun c4 => h1 ⟨h2, ?_, k3⟩⟩
    · have := (nI_ltI (a := 64) (by omega) (by omega)).mp c4; omega
    · have : ¬ 64 < p.length - 2 := fun z => c4 (nI_lt (a := 64) z (by omega))
      omega
end MOE
