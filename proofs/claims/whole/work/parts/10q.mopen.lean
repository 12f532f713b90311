/-! PURE: the reference opens, compares -/
theorem sx_sm {b : B8} (h : b.toNat < 128) : sx b = nI b.toNat := by
  have g : ∀ n, n < 128 → sx (BitVec.ofNat 8 n) = nI n := by decide +kernel
  have := g b.toNat h
  rw [BitVec.ofNat_toNat, BitVec.setWidth_eq] at this
  exact this
theorem sx_ng {b : B8} (h : 128 ≤ b.toNat) : sx b < 0 := by
  have g : ∀ n, n < 256 → 128 ≤ n → sx (BitVec.ofNat 8 n) < 0 := by decide +kernel
  have := g b.toNat b.isLt h
  rw [BitVec.ofNat_toNat, BitVec.setWidth_eq] at this
  exact this
section MOP
variable {G : pG} {y : Nat} {S : TS} {A : AS}
theorem m_same {Q : Option Value → Prop} {a0 N0 o0 a2 N2 o2 : Nat} {l1 l2 : List B8} (h1l : l1.length = 32) (h2l : l2.length = 32) (ht0 : te S a0 = some (.inl (.byte, N0))) (ht2 : te S a2 = some (.inl (.byte, N2))) (hN0 : N0 < 65536) (hN2 : N2 < 65536) (ho0 : o0 + 32 ≤ N0) (ho2 : o2 + 32 ≤ N2) (b0 : BR S a0 o0 l1) (b2 : BR S a2 o2 l2) (hy : l1 = l2 → Q (some (.int 1))) (hn : l1 ≠ l2 → Q (some (.int 0))) : CP G J_M_same [.ref a0, .int (nI o0), .ref a2, .int (nI o2)] S Q := by
  have go : ∀ (n i : Nat), i + n = 32 → (∀ j, j < i → l1.getD j 0 = l2.getD j 0) → TP G J_M_same 3 [(0, .ref a0), (1, .int (nI o0)), (2, .ref a2), (3, .int (nI o2)), (4, .int (nI i))] [] S Q := by
    intro n
    induction n with
    | zero =>
      intro i hi he
      have : i = 32 := by omega
      subst this
      refine v_M_same_3 a0 _ a2 _ _ S Q ⟨fun _ => hy (List.ext_getElem (by omega) (fun j h1 h2 => ?_)), fun c => absurd (Int32.le_refl _) c⟩
      have := he j (by omega)
      rw [List.getD_eq_getElem?_getD, List.getD_eq_getElem?_getD, List.getElem?_eq_getElem h1, List.getElem?_eq_getElem h2] at this
      exact this
    | succ n ih =>
      intro i hi he
      refine v_M_same_3 a0 _ a2 _ _ S Q ⟨fun c => absurd c (nI_ge (b := 32) (by omega) (by omega)), fun _ => ⟨N0, ht0, ?_⟩⟩
      rw [nI_add, nI_add, nI_clamp (show o0 + i < 2 ^ 31 by omega), nI_clamp (show o2 + i < 2 ^ 31 by omega), b0 i (by omega), b2 i (by omega), nI_1]
      refine ⟨vp_in_nI (by omega) (by omega), N2, ht2, vp_in_nI (by omega) (by omega), fun c z ez => ?_, fun c => hn (fun e => c (by rw [e]))⟩
      rw [ez]
      refine ih (i + 1) (by omega) (fun j hj => ?_)
      by_cases hji : j = i
      · rw [hji]; exact sx_inj c
      · exact he j (by omega)
  exact v_M_same a0 _ a2 _ S Q (go 32 0 (by omega) (fun j hj => absurd hj (by omega)))
def oQ (y : Nat) : Nat → Prop := fun a => (y + 3 ≤ a ∧ a ≤ y + 8) ∨ (y + 15 ≤ a ∧ a ≤ y + 17)
theorem m_op1 {t : Nat → Nat} (hG : GS G t) {Q : Option Value → TS → Prop} {s d a2 N2 : Nat} {k : List B8} (hs : MS y S) (hs2 : s < 2) (hd : d < 2) (ht : te S a2 = some (.inl (.byte, N2))) (hN : N2 < 65536) (h32 : 32 ≤ N2) (ha : a2 = y + 37 ∨ a2 = y + 40) (hk : BR S a2 0 k) (hkl : k.length = 32)
    (hQ : ∀ S', MX y (oQ y) vF S S' → BR S' (y + 15) (32 * (2 * s + d)) (mac k (ktx (nI d) 0)) → (∀ i, (i < 32 * (2 * s + d) ∨ 32 * (2 * s + d) + 32 ≤ i) → tI S' (y + 15) i = tI S (y + 15) i) → tI S' (y + 16) = upd (tI S (y + 16)) (2 * s + d) 0 → tI S' (y + 17) = upd (tI S (y + 17)) (2 * s + d) 0 → T0 G J_M_opens 9 [(0, .ref y), (1, .int (nI s)), (2, .ref a2), (3, .int (nI (d + 1)))] [] S' Q) : T0 G J_M_opens 24 [(0, .ref y), (1, .int (nI s)), (2, .ref a2), (3, .int (nI d)), (4, .int (nI (2 * s + d))), (5, .int 0)] [] S Q := by
  have in4 : vp_in (nI (2 * s + d)) 4 := vp_in_nI (by omega) (by omega)
  refine cpl (b := y + 7) (o := 0) (l := k) (S0 := S) (H := fun i Si => T0 G J_M_opens 24 [(0, .ref y), (1, .int (nI s)), (2, .ref a2), (3, .int (nI d)), (4, .int (nI (2 * s + d))), (5, .int (nI i))] [] Si Q) (fun i Si hi xi nx => ?_) (fun S1 x1 b1 f1 => ?_)
  · rw [hkl] at hi
    have si := hs.sm xi.1
    refine v_M_opens_24 y _ a2 _ _ _ Si Q ⟨fun c => absurd c (nI_ge (b := 32) hi (by omega)), fun _ => ⟨si.1, y + 7, si.r 7 (by omega) (by omega), N2, by rw [xi.1.1]; exact ht, vp_in_nI (by omega) (by omega), 32, si.t 7 (by omega) (by omega), vp_in_nI (by omega) (by omega), fun S9 e9 z ez => ?_⟩⟩
    rw [nI_clamp (show i < 2 ^ 31 by omega), (xi.2 a2 (by omega)).1, hk.at0 (by omega), nar1s] at e9
    rw [ez, nI_1]
    exact nx S9 (by rw [Nat.zero_add]; exact e9)
  rw [hkl]
  have s1 := hs.sm x1.1
  refine v_M_opens_24 y _ a2 _ _ _ S1 Q ⟨fun _ => ⟨s1.1, y + 8, s1.r 8 (by omega) (by omega), 256, s1.t 8 (by omega) (by omega), vp_in_nI (n := 0) (by omega) (by omega), fun T6 d6 => ⟨vp_in_nI (n := 1) (by omega) (by omega), fun T7 d7 => ⟨vp_in_nI (n := 2) (by omega) (by omega), fun T8 d8 T9 d9 => ?_⟩⟩⟩, fun c => absurd (Int32.le_refl _) c⟩
  obtain ⟨z8, b8'⟩ := ktx_br (x4 := 0) (S8 := T8) d6 d7 (by rw [d8]; rfl)
  obtain ⟨m9, c9⟩ := cnt12 d9
  have t8 := s1.sm z8.1
  have t9 := t8.sm m9.sm
  refine ⟨y + 15, t9.r 15 (by omega) (by omega), ?_⟩
  rw [show (32 : Int32) * nI (2 * s + d) = nI (32 * (2 * s + d)) from pk_mul 32 _]
  have bk : BR T9 (y + 7) 0 k := (b1.ex z8 (by omega)).mx m9 (by omega) (fun z => z)
  refine m_macTo (x := ktx (nI d) 0) hG t9 hkl bk (b8'.mx m9 (by omega) (fun z => z)) c9 (by show 3 ≤ 200; omega) (t9.t 15 (by omega) (by omega)) (by omega) (by omega) (by omega) (fun S12 m12 f12 b12 => ⟨rfl, ?_⟩)
  have t12 := t9.sm m12.sm
  refine ⟨y + 16, t12.r 16 (by omega) (by omega), 4, t12.t 16 (by omega) (by omega), in4, fun S17 e17 => ?_⟩
  have x17 : Ex (fun a => a = y + 16) S12 S17 := by rw [e17]; exact (Ex.rf S12).I rfl
  have t17 := t12.sm x17.1
  refine ⟨y + 17, t17.r 17 (by omega) (by omega), 4, t17.t 17 (by omega) (by omega), in4, fun S22 e22 z ez => ?_⟩
  have x22 : Ex (fun a => a = y + 17) S17 S22 := by rw [e22]; exact (Ex.rf S17).I rfl
  have mA : MX y (fun a => a = y + 7 ∨ a = y + 8) vF S T9 := ((MX.of x1 (by omega) : MX y (fun a => a = y + 7) vF S S1).mono (fun a z => Or.inl z) (fun f z => z)).tr (((MX.of z8 (by omega) : MX y (fun a => a = y + 8) vF S1 T8).mono (fun a z => Or.inr z) (fun f z => z)).tr (m9.mono (fun a z => z.elim) (fun f z => Or.inr z)))
  have mB : MX y (oQ y) vF S S12 := (mA.mono (fun a z => by unfold oQ; omega) (fun f z => z)).tr (m12.mono (fun a z => by simp only [mQ] at z; unfold oQ; omega) (fun f z => Or.inl z))
  have mC : MX y (oQ y) vF S S22 := (mB.tr ((MX.of x17 (by omega) : MX y (fun a => a = y + 16) vF S12 S17).mono (fun a z => by unfold oQ; omega) (fun f z => z))).tr ((MX.of x22 (by omega) : MX y (fun a => a = y + 17) vF S17 S22).mono (fun a z => by unfold oQ; omega) (fun f z => z))
  have r16 : tI S12 (y + 16) = tI S (y + 16) := by rw [m12.row (by omega) (by simp only [mQ]; omega), mA.row (by omega) (by omega)]
  have r17 : tI S12 (y + 17) = tI S (y + 17) := by rw [m12.row (by omega) (by simp only [mQ]; omega), mA.row (by omega) (by omega)]
  rw [nI_clamp (by omega)] at e17 e22
  rw [ez, nI_1]
  refine hQ S22 mC ((b12.ex x17 (by omega)).ex x22 (by omega)) (fun i hi => ?_) (by rw [(x22.2 (y + 16) (by omega)).1, e17, tI_sI, up_s, r16]) (by rw [e22, tI_sI, up_s, (x17.2 (y + 17) (by omega)).1, r17])
  rw [(x22.2 (y + 15) (by omega)).1, (x17.2 (y + 15) (by omega)).1, f12 i hi, mA.row (by omega) (by omega)]
theorem aOpen_I {A : AS} {s : Nat} {k : List B8} (hs : s < 2) {j : Nat} (h0 : j ≠ s) (h1 : j ≠ 4 + 2 * s) (h2 : j ≠ 4 + 2 * s + 1) (h3 : j ≠ 8 + 2 * s) (h4 : j ≠ 8 + 2 * s + 1) : aI (aOpen A s k) j = aI A j := by
  unfold aOpen
  rw [aI_wI, up_n _ _ h0, aI_wI, up_n _ _ h4, aI_wI, up_n _ _ h3, aI_wI, up_n _ _ h2, aI_wI, up_n _ _ h1, aI_wB, aI_wB]
theorem aOpen_B {A : AS} {s : Nat} {k : List B8} {j : Nat} (h1 : j ≠ 24 + 2 * s) (h2 : j ≠ 24 + 2 * s + 1) : aB (aOpen A s k) j = aB A j := by
  unfold aOpen
  rw [aB_wI, aB_wI, aB_wI, aB_wI, aB_wI, aB_wB, up_n _ _ h2, aB_wB, up_n _ _ h1]
theorem aOpen_z {A : AS} {s d : Nat} {k : List B8} (hs : s < 2) (hd : d < 2) : aB (aOpen A s k) (24 + 2 * s + d) = mac k (ktx (nI d) 0) ∧ aI (aOpen A s k) (4 + 2 * s + d) = 0 ∧ aI (aOpen A s k) (8 + 2 * s + d) = 0 := by
  have hB : aB (aOpen A s k) = va_up (va_up (aB A) (24 + 2 * s) (mac k (ktx 0 0))) (24 + 2 * s + 1) (mac k (ktx 1 0)) := by
    unfold aOpen
    rw [aB_wI, aB_wI, aB_wI, aB_wI, aB_wI, aB_wB, aB_wB]
  have hI : aI (aOpen A s k) = va_up (va_up (va_up (va_up (va_up (aI A) (4 + 2 * s) 0) (4 + 2 * s + 1) 0) (8 + 2 * s) 0) (8 + 2 * s + 1) 0) s 2 := by
    unfold aOpen
    rw [aI_wI, aI_wI, aI_wI, aI_wI, aI_wI, aI_wB, aI_wB]
  rw [hB, hI]
  rcases (show d = 0 ∨ d = 1 by omega) with rfl | rfl
  · refine ⟨?_, ?_, ?_⟩
    · rw [up_n _ _ (by omega)]
      show va_up (aB A) (24 + 2 * s) (mac k (ktx 0 0)) (24 + 2 * s) = mac k (ktx 0 0)
      rw [up_s]
    · rw [up_n _ _ (by omega), up_n _ _ (by omega), up_n _ _ (by omega), up_n _ _ (by omega)]
      exact up_s _ _ _
    · rw [up_n _ _ (by omega), up_n _ _ (by omega)]
      exact up_s _ _ _
  · refine ⟨?_, ?_, ?_⟩
    · rw [up_s]
      show mac k (ktx 1 0) = mac k (ktx 1 0)
      rfl
    · rw [up_n _ _ (by omega), up_n _ _ (by omega), up_n _ _ (by omega), up_s]
    · rw [up_n _ _ (by omega), up_s]
theorem aOpen_W {A : AS} {s : Nat} {k : List B8} : aW (aOpen A s k) = aW A := by
  unfold aOpen
  rw [aW_wI, aW_wI, aW_wI, aW_wI, aW_wI, aW_wB, aW_wB]
theorem aOpen_T {A : AS} {s : Nat} {k : List B8} : aT (aOpen A s k) = aT A := by
  unfold aOpen
  rw [aT_wI, aT_wI, aT_wI, aT_wI, aT_wI, aT_wB, aT_wB]
theorem m_opens {t : Nat → Nat} (hG : GS G t) {Q : Option Value → TS → Prop} {s a2 N2 : Nat} {k : List B8} {S0 : TS} (R : RMF y S0 S A) (ok : ∀ s, s < 2 → aI A s = 2 → ∀ d, d < 2 → (aB A (24 + 2 * s + d)).length = 32) (hs2 : s < 2) (ht : te S a2 = some (.inl (.byte, N2))) (hN : N2 < 65536) (h32 : 32 ≤ N2) (ha : a2 = y + 37 ∨ a2 = y + 40) (hk : BR S a2 0 k) (hkl : k.length = 32)
    (hQ : ∀ S', RMF y S0 S' (if s = 0 then wB (aOpen A s k) 3 [] else aOpen A s k) → MX y (fun a => oQ y a ∨ a = y + 11) (fun f => vF f ∨ f = 33) S S' → Q none S') : C0 G J_M_opens [.ref y, .int (nI s), .ref a2] S Q := by
  refine v_M_opens y _ a2 S Q ⟨R.ms.1, y + 11, R.ms.r 11 (by omega) (by omega), 2, R.ms.t 11 (by omega) (by omega), vp_in_nI (by omega) (by omega), fun S6 e6 => ?_⟩
  rw [nI_clamp (by omega)] at e6
  have x6 : Ex (fun a => a = y + 11) S S6 := by rw [e6]; exact (Ex.rf S).I rfl
  have s6 := R.ms.sm x6.1
  have q11 : tI S6 (y + 11) = upd (tI S (y + 11)) s 2 := by rw [e6, tI_sI, up_s]
  have e2s : ∀ d, (2 : Int32) * nI s + nI d = nI (2 * s + d) := fun d => by rw [show (2 : Int32) * nI s = nI (2 * s) from pk_mul 2 s, nI_add]
  refine v_M_opens_9 y _ a2 _ S6 Q ⟨fun c => absurd c (by decide), fun _ y3 e3 => ?_⟩
  rw [show (2 : Int32) * nI s + 0 = nI (2 * s + 0) from e2s 0] at e3
  rw [e3]
  refine m_op1 (d := 0) hG s6 hs2 (by omega) (by rw [x6.1.1]; exact ht) hN h32 ha (hk.ex x6 (by omega)) hkl (fun S7 m7 b7 f7 q16 q17 => ?_)
  have s7 := s6.sm m7.sm
  refine v_M_opens_9 y _ a2 _ S7 Q ⟨fun c => absurd c (by decide), fun _ y3 e3 => ?_⟩
  rw [e2s (0 + 1)] at e3
  rw [e3]
  have hk7 : BR S7 a2 0 k := (hk.ex x6 (by omega)).mx m7 (by omega) (by simp only [oQ]; omega)
  refine m_op1 (d := 1) hG s7 hs2 (by omega) (by rw [m7.sm.1, x6.1.1]; exact ht) hN h32 ha hk7 hkl (fun S8 m8 b8' f8 r16 r17 => ?_)
  have s8 := s7.sm m8.sm
  have mm : MX y (fun a => oQ y a ∨ a = y + 11) (fun f => vF f ∨ f = 33) S S8 := (((MX.of x6 (by omega) : MX y (fun a => a = y + 11) vF S S6).mono (fun a z => Or.inr z) (fun f z => Or.inl z)).tr (m7.mono (fun a z => Or.inl z) (fun f z => Or.inl z))).tr (m8.mono (fun a z => Or.inl z) (fun f z => Or.inl z))
  have q15 : ∀ i, (i < 64 * s ∨ 64 * s + 64 ≤ i) → tI S8 (y + 15) i = tI S (y + 15) i := fun i hi => by rw [f8 i (by omega), f7 i (by omega), (x6.2 (y + 15) (by omega)).1]
  have p16 : tI S8 (y + 16) = upd (upd (tI S (y + 16)) (2 * s + 0) 0) (2 * s + 1) 0 := by rw [r16, q16, (x6.2 (y + 16) (by omega)).1]
  have p17 : tI S8 (y + 17) = upd (upd (tI S (y + 17)) (2 * s + 0) 0) (2 * s + 1) 0 := by rw [r17, q17, (x6.2 (y + 17) (by omega)).1]
  have p11 : tI S8 (y + 11) = upd (tI S (y + 11)) s 2 := by rw [m8.row (by omega) (by simp only [oQ]; omega), m7.row (by omega) (by simp only [oQ]; omega), q11]
  have b70 : BR S8 (y + 15) (32 * (2 * s + 0)) (mac k (ktx (nI 0) 0)) := b7.row (fun i h1 h2 => f8 i (by rw [mac_len] at h2; omega))
  have fin : ∀ (S' : TS) (A' : AS), MX y (fun a => oQ y a ∨ a = y + 11) (fun f => vF f ∨ f = 33) S S' → (∀ a, a ≠ y → tI S' a = tI S8 a) → aI A' = aI (aOpen A s k) → (∀ j, j ≠ 3 → aB A' j = aB (aOpen A s k) j) → aW A' = aW A → aT A' = aT A → (cBL y 33 26 S' (aB A' 3)) → RMF y S0 S' A' := by
    intro S' A' m' hrow hI hB hW hT hans
    have ne : ∀ j, j ≠ s → (j < 4 ∨ 12 ≤ j) → aI A' j = aI A j := fun j h0 h1 => by rw [hI]; exact aOpen_I hs2 h0 (by omega) (by omega) (by omega) (by omega)
    have nb : ∀ j, j ≠ 3 → (j < 24 ∨ 28 ≤ j) → aB A' j = aB A j := fun j h3 h0 => by rw [hB j h3]; exact aOpen_B (by omega) (by omega)
    refine R.gen m' (fun a z => by simp only [oQ] at z; show y ≤ a ∧ a < y + 45; omega) (Or.inr ⟨nb 0 (by omega) (by omega), by simp only [oQ]; omega, by simp only [vF]; omega⟩) (Or.inr ⟨nb 1 (by omega) (by omega), by simp only [oQ]; omega, by simp only [vF]; omega⟩) (Or.inr ⟨nb 2 (by omega) (by omega), by simp only [oQ]; omega, by simp only [vF]; omega⟩) (Or.inl hans) (Or.inr ⟨fun j _ => nb _ (by omega) (by omega), by simp only [oQ]; omega, by simp only [oQ]; omega⟩) (Or.inl (fun j hj => ?_)) ?_ ?_ (fun j hj => Or.inl (fun c d hd => ?_)) (fun w hw => Or.inr ⟨by rw [hW], by simp only [oQ]; omega, by simp only [oQ]; omega, by simp only [oQ]; omega⟩) (Or.inr ⟨hT, by simp only [oQ]; omega, by simp only [oQ]; omega, by simp only [oQ]; omega, by simp only [oQ]; omega, by simp only [vF]; omega⟩) (Or.inr ⟨ne 14 (by omega) (by omega), ne 12 (by omega) (by omega), ne 13 (by omega) (by omega), by simp only [vF]; omega, by simp only [vF]; omega, by simp only [vF]; omega⟩)
    · rw [hrow (y + 11) (by omega), p11, m'.row (a := y + 12) (by omega) (by simp only [oQ]; omega), ne (2 + j) (by omega) (by omega)]
      refine ⟨?_, (R.st j hj).2⟩
      by_cases hjs : j = s
      · rw [hjs, pk_us, hI]
        unfold aOpen
        rw [aI_wI, up_s]
      · rw [pk_un hjs, ne j hjs (by omega)]; exact (R.st j hj).1
    · by_cases h0 : s = 0
      · subst h0
        refine Or.inl (fun c => ?_)
        rw [hI] at c
        unfold aOpen at c
        rw [aI_wI, up_s] at c
        exact absurd c (by decide)
      · exact Or.inr ⟨ne 0 (fun z => h0 z.symm) (by omega), nb 20 (by omega) (by omega), by simp only [oQ]; omega⟩
    · by_cases h0 : s = 1
      · subst h0
        refine Or.inl (fun c => ?_)
        rw [hI] at c
        unfold aOpen at c
        rw [aI_wI, up_s] at c
        exact absurd c (by decide)
      · exact Or.inr ⟨ne 1 (fun z => h0 z.symm) (by omega), nb 21 (by omega) (by omega), nb 22 (by omega) (by omega), nb 23 (by omega) (by omega), by simp only [oQ]; omega, by simp only [oQ]; omega⟩
    · rw [hrow (y + 16) (by omega), hrow (y + 17) (by omega), p16, p17, hB _ (by omega), hI]
      by_cases h0 : j = s
      · subst h0
        obtain ⟨z1, z2, z3⟩ := aOpen_z (A := A) (k := k) hs2 hd
        rw [z1, z2, z3]
        rcases (show d = 0 ∨ d = 1 by omega) with rfl | rfl
        · rw [pk_un (by omega), pk_us, pk_un (by omega), pk_us]
          exact ⟨b70.eq (hrow (y + 15) (by omega)), rfl, rfl⟩
        · rw [pk_us, pk_us]
          exact ⟨b8'.eq (hrow (y + 15) (by omega)), rfl, rfl⟩
      · rw [ne j h0 (by omega)] at c
        obtain ⟨g1, g2, g3⟩ := R.sk j hj c d hd
        have hl := ok j hj c d hd
        rw [pk_un (by omega), pk_un (by omega), pk_un (by omega), pk_un (by omega), aOpen_B (by omega) (by omega), aOpen_I hs2 (by omega) (by omega) (by omega) (by omega) (by omega), aOpen_I hs2 (by omega) (by omega) (by omega) (by omega) (by omega)]
        exact ⟨g1.row (fun i h1 h2 => by rw [hrow (y + 15) (by omega)]; exact q15 i (by omega)), g2, g3⟩
  refine v_M_opens_9 y _ a2 _ S8 Q ⟨fun _ => ⟨fun c => ?_, fun c => ⟨s8.1, fun S2 e2 => ?_⟩⟩, fun c => absurd (by decide) c⟩
  · have h0 : ¬ s = 0 := fun z => c (by rw [z]; rfl)
    rw [if_neg h0] at hQ
    refine hQ S8 (fin S8 (aOpen A s k) mm (fun _ _ => rfl) rfl (fun _ _ => rfl) aOpen_W aOpen_T ?_) mm
    rw [aOpen_B (by omega) (by omega)]
    exact ⟨by rw [m8.2 33 (by simp only [vF]; omega), m7.2 33 (by simp only [vF]; omega), (x6.2 y (by omega)).1]; exact R.an.1, R.an.2.mx mm (by omega) (by simp only [oQ]; omega)⟩
  · have h0 : s = 0 := (nI_eq (b := 0) (by omega) (by omega)).mp c
    rw [if_pos h0] at hQ
    have ry : tI S2 y = upd (tI S8 y) 33 0 := by rw [e2, tI_sI, up_s]
    have m2 : MX y (fun a => oQ y a ∨ a = y + 11) (fun f => vF f ∨ f = 33) S8 S2 := ⟨by rw [e2]; exact (Ex.rf S8).I (Or.inl rfl), fun f hf => by rw [ry, pk_un (fun z => hf (Or.inr z))]⟩
    refine hQ S2 (fin S2 (wB (aOpen A s k) 3 []) (mm.tr m2) (fun a ha => by rw [e2, tI_sI, up_n _ _ ha]) (aI_wB _ _ _) (fun j hj => by rw [aB_wB, up_n _ _ hj]) ((aW_wB _ _ _).trans aOpen_W) ((aT_wB _ _ _).trans aOpen_T) ?_) (mm.tr m2)
    rw [aB_wB, up_s]
    exact ⟨by rw [ry, pk_us]; rfl, BR.nil _ _ _⟩
end MOP
