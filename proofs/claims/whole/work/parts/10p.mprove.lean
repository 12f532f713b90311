/-! PURE: the reference's proofs -/
section MPV
variable {G : pG} {y : Nat} {S : TS} {A : AS}
def vQ (y a5 : Nat) : Nat → Prop := fun a => (y + 3 ≤ a ∧ a ≤ y + 8) ∨ a = y + 37 ∨ a = y + 38 ∨ a = a5
def vF : Nat → Prop := fun f => f = 6 ∨ f = 12
theorem m_prove {t : Nat → Nat} (hG : GS G t) {Q : Option Value → TS → Prop} {j a2 N2 a5 N5 o5 : Nat} {x4 : Int32} {h33 rn K : List B8} (hs : MS y S) (hj : j < 16) (hh : BR S (y + 39) 0 h33) (hhl : h33.length = 33) (hr : BR S a2 0 rn) (hrl : rn.length = 32) (ht2 : te S a2 = some (.inl (.byte, N2))) (hN2 : N2 < 65536) (h32 : 32 ≤ N2) (ha2 : a2 ≠ y ∧ a2 ≠ y + 3) (hK : BR S (y + 10) (32 * j) K) (hKl : K.length = 32)
    (ht5 : te S a5 = some (.inl (.byte, N5))) (hN5 : N5 < 65536) (ho5 : o5 + 32 ≤ N5) (ha5 : a5 ≠ y ∧ (a5 < y + 3 ∨ y + 8 < a5) ∧ a5 ≠ y + 37 ∧ a5 ≠ y + 38)
    (hQ : ∀ S', MX y (vQ y a5) vF S S' → (∀ i, (i < o5 ∨ o5 + 32 ≤ i) → tI S' a5 i = tI S a5 i) → BR S' a5 o5 (mac (mac (mac K (sha (h33 ++ rn))) [102]) (b8 x4 :: sha (h33 ++ rn))) → BR S' (y + 37) 0 (mac K (sha (h33 ++ rn))) → Q none S') : C0 G J_M_prove [.ref y, .int (nI j), .ref a2, .int 0, .int x4, .ref a5, .int (nI o5)] S Q := by
  have hal := sha_len (h33 ++ rn)
  generalize hag : sha (h33 ++ rn) = ag at *
  have hsl := mac_len K ag
  generalize hsec : mac K ag = sec at *
  have hfl := mac_len sec [102]
  refine v_M_prove y _ a2 _ x4 a5 _ S Q ⟨hs.1, fun S2 e2 => ?_⟩
  obtain ⟨m2, w2⟩ := rw_clear e2
  have s2 := hs.sm m2.sm
  refine ⟨y + 39, s2.r 39 (by omega) (by omega), ?_⟩
  have h2 : BR S2 (y + 39) 0 h33 := hh.mx m2 (by omega) (fun z => z)
  have r2 : BR S2 a2 0 rn := hr.mx m2 ha2.1 (fun z => z)
  have k1 := fun Q' => m_addA (G := G) (Q := Q') (o := 0) (l := []) (l2 := h33) s2 (by omega) (s2.t 39 (by omega) (by omega)) (by omega) (by omega) h2 w2 (by simp; omega)
  rw [hhl] at k1
  refine k1 _ (fun S5 x5 w5 => ⟨rfl, ?_⟩)
  have s5 := s2.sm x5.sm
  rw [List.nil_append] at w5
  have k2 := fun Q' => m_addA (G := G) (Q := Q') (o := 0) (l := h33) (l2 := rn) s5 ha2 (by rw [x5.sm.1, m2.sm.1]; exact ht2) hN2 (by omega) (r2.mx x5 ha2.1 ha2.2) w5 (by omega)
  rw [hrl] at k2
  refine k2 _ (fun S6 x6 w6 => ⟨rfl, y + 8, (s5.sm x6.sm).r 8 (by omega) (by omega), ?_⟩)
  have s6 := s5.sm x6.sm
  refine m_hashTo (o := 0) hG (by rw [List.length_append]; omega) s6 w6 (s6.t 8 (by omega) (by omega)) (by omega) (by omega) (by omega) (fun S9 x9 f9 b9 => ⟨rfl, fun S10 e10 => ?_⟩)
  rw [hag] at b9
  obtain ⟨m10, c10⟩ := cnt12 e10
  have mA : MX y (fun a => y + 3 ≤ a ∧ a ≤ y + 8) vF S S10 := ((((m2.mono (fun a z => z.elim) (fun f z => Or.inl z)).tr (x5.mono (fun a z => by omega) (fun f z => Or.inl z))).tr (x6.mono (fun a z => by omega) (fun f z => Or.inl z))).tr ((MX.of x9 (by omega) : MX y (fun a => a = y + 4 ∨ a = y + 5 ∨ a = y + 8) vF S6 S9).mono (fun a z => by omega) (fun f z => z))).tr (m10.mono (fun a z => z.elim) (fun f z => Or.inr z))
  have s10 := hs.sm mA.sm
  have b10 : BR S10 (y + 8) 0 ag := b9.mx m10 (by omega) (fun z => z)
  have K10 : BR S10 (y + 10) (32 * j) K := hK.mx mA (by omega) (by omega)
  refine cpl (b := y + 7) (o := 0) (l := K) (S0 := S10) (H := fun i Si => T0 G J_M_prove 42 [(0, .ref y), (1, .int (nI j)), (2, .ref a2), (3, .int 0), (4, .int x4), (5, .ref a5), (6, .int (nI o5)), (7, .int (nI i))] [] Si Q) (fun i Si hi xi nx => ?_) (fun S11 x11 b11 f11 => ?_)
  · rw [hKl] at hi
    have si := s10.sm xi.1
    refine v_M_prove_42 y _ a2 _ x4 a5 _ _ Si Q ⟨fun c => absurd c (nI_ge (b := 32) hi (by omega)), fun _ => ⟨si.1, y + 7, si.r 7 (by omega) (by omega), y + 10, si.r 10 (by omega) (by omega), 512, si.t 10 (by omega) (by omega), ?_⟩⟩
    rw [show (32 : Int32) * nI j = nI (32 * j) from pk_mul 32 _, nI_add, nI_clamp (show 32 * j + i < 2 ^ 31 by omega), nI_clamp (show i < 2 ^ 31 by omega), nI_1, (xi.2 (y + 10) (by omega)).1, K10 i (by omega), nar1s]
    refine ⟨vp_in_nI (by omega) (by omega), 32, si.t 7 (by omega) (by omega), vp_in_nI (by omega) (by omega), fun S9 e9 z ez => ?_⟩
    rw [ez]
    exact nx S9 (by rw [Nat.zero_add]; exact e9)
  rw [hKl]
  have s11 := s10.sm x11.1
  refine v_M_prove_42 y _ a2 _ x4 a5 _ _ S11 Q ⟨fun _ => ⟨s11.1, y + 37, s11.r 37 (by omega) (by omega), ?_⟩, fun c => absurd (Int32.le_refl _) c⟩
  have b11' : BR S11 (y + 8) 0 ag := b10.ex x11 (by omega)
  refine m_macTo (o := 0) (x := ag) hG s11 hKl b11 b11' (by rw [(x11.2 y (by omega)).1, hal]; exact c10) (by omega) (s11.t 37 (by omega) (by omega)) (by omega) (by omega) (by omega) (fun S12 m12 f12 b12 => ⟨rfl, ?_⟩)
  rw [hsec] at b12
  have s12 := s11.sm m12.sm
  have mB : MX y (fun a => (y + 3 ≤ a ∧ a ≤ y + 8) ∨ a = y + 37) vF S S12 := ((mA.mono (fun a z => Or.inl z) (fun f z => z)).tr ((MX.of x11 (by omega) : MX y (fun a => a = y + 7) vF S10 S11).mono (fun a z => by omega) (fun f z => z))).tr (m12.mono (fun a z => by simp only [mQ] at z; omega) (fun f z => Or.inl z))
  have b12' : BR S12 (y + 8) 0 ag := b11'.mx m12 (by omega) (by simp only [mQ]; omega)
  refine cpl (b := y + 38) (o := 0) (l := ag) (S0 := S12) (H := fun i Si => T0 G J_M_prove 86 [(0, .ref y), (1, .int (nI j)), (2, .ref a2), (3, .int 0), (4, .int x4), (5, .ref a5), (6, .int (nI o5)), (7, .int (nI i))] [] Si Q) (fun i Si hi xi nx => ?_) (fun S13 x13 b13 f13 => ?_)
  · rw [hal] at hi
    have si := s12.sm xi.1
    refine v_M_prove_86 y _ a2 _ x4 a5 _ _ Si Q ⟨fun c => absurd c (nI_ge (b := 32) hi (by omega)), fun _ => ⟨si.1, y + 38, si.r 38 (by omega) (by omega), y + 8, si.r 8 (by omega) (by omega), 256, si.t 8 (by omega) (by omega), vp_in_nI (by omega) (by omega), 32, si.t 38 (by omega) (by omega), vp_in_nI (by omega) (by omega), fun S9 e9 z ez => ?_⟩⟩
    rw [nI_clamp (show i < 2 ^ 31 by omega), (xi.2 (y + 8) (by omega)).1, b12'.at0 (by omega), nar1s] at e9
    rw [ez, nI_1]
    exact nx S9 (by rw [Nat.zero_add]; exact e9)
  rw [hal]
  have s13 := s12.sm x13.1
  refine v_M_prove_86 y _ a2 _ x4 a5 _ _ S13 Q ⟨fun _ => ?_, fun c => absurd (Int32.le_refl _) c⟩
  have b13s : BR S13 (y + 37) 0 sec := b12.ex x13 (by omega)
  refine cpl (b := y + 7) (o := 0) (l := sec) (S0 := S13) (H := fun i Si => T0 G J_M_prove 116 [(0, .ref y), (1, .int (nI j)), (2, .ref a2), (3, .int 0), (4, .int x4), (5, .ref a5), (6, .int (nI o5)), (7, .int (nI i))] [] Si Q) (fun i Si hi xi nx => ?_) (fun S14 x14 b14 f14 => ?_)
  · rw [hsl] at hi
    have si := s13.sm xi.1
    refine v_M_prove_116 y _ a2 _ x4 a5 _ _ Si Q ⟨fun c => absurd c (nI_ge (b := 32) hi (by omega)), fun _ => ⟨si.1, y + 7, si.r 7 (by omega) (by omega), y + 37, si.r 37 (by omega) (by omega), 32, si.t 37 (by omega) (by omega), vp_in_nI (by omega) (by omega), 32, si.t 7 (by omega) (by omega), vp_in_nI (by omega) (by omega), fun S9 e9 z ez => ?_⟩⟩
    rw [nI_clamp (show i < 2 ^ 31 by omega), (xi.2 (y + 37) (by omega)).1, b13s.at0 (by omega), nar1s] at e9
    rw [ez, nI_1]
    exact nx S9 (by rw [Nat.zero_add]; exact e9)
  rw [hsl]
  have s14 := s13.sm x14.1
  have in256 : vp_in 0 256 := vp_in_nI (n := 0) (by omega) (by omega)
  refine v_M_prove_116 y _ a2 _ x4 a5 _ _ S14 Q ⟨fun _ => ⟨s14.1, y + 8, s14.r 8 (by omega) (by omega), 256, s14.t 8 (by omega) (by omega), in256, fun S15 e15 S16 e16 => ?_⟩, fun c => absurd (Int32.le_refl _) c⟩
  have x15 : Ex (fun a => a = y + 8) S14 S15 := by rw [e15]; exact (Ex.rf S14).I rfl
  have b15 : BR S15 (y + 8) 0 [102] := fun i hi => by
    have : i = 0 := by simpa using hi
    subst this
    rw [e15, tI_sI, up_s]
    rfl
  obtain ⟨m16, c16⟩ := cnt12 e16
  have s15 := s14.sm x15.1
  have s16 := s15.sm m16.sm
  have b16k : BR S16 (y + 7) 0 sec := (b14.ex x15 (by omega)).mx m16 (by omega) (fun z => z)
  refine ⟨y + 7, s16.r 7 (by omega) (by omega), m_macTo (o := 0) (x := [102]) hG s16 hsl b16k (b15.mx m16 (by omega) (fun z => z)) c16 (by show 1 ≤ 200; omega) (s16.t 7 (by omega) (by omega)) (by omega) (by omega) (by omega) (fun S17 m17 f17 b17 => ⟨rfl, in256, fun S18 e18 => ?_⟩)⟩
  have s17 := s16.sm m17.sm
  rw [nar2] at e18
  have x18 : Ex (fun a => a = y + 8) S17 S18 := by rw [e18]; exact (Ex.rf S17).I rfl
  have s18 := s17.sm x18.1
  have b38 : BR S18 (y + 38) 0 ag := ((((b13.ex x14 (by omega)).ex x15 (by omega)).mx m16 (by omega) (fun z => z)).mx m17 (by omega) (by simp only [mQ]; omega)).ex x18 (by omega)
  refine cpl (b := y + 8) (o := 1) (l := ag) (S0 := S18) (H := fun i Si => T0 G J_M_prove 177 [(0, .ref y), (1, .int (nI j)), (2, .ref a2), (3, .int 0), (4, .int x4), (5, .ref a5), (6, .int (nI o5)), (7, .int (nI i))] [] Si Q) (fun i Si hi xi nx => ?_) (fun S19 x19 b19 f19 => ?_)
  · rw [hal] at hi
    have si := s18.sm xi.1
    refine v_M_prove_177 y _ a2 _ x4 a5 _ _ Si Q ⟨fun c => absurd c (nI_ge (b := 32) hi (by omega)), fun _ => ⟨si.1, y + 8, si.r 8 (by omega) (by omega), y + 38, si.r 38 (by omega) (by omega), 32, si.t 38 (by omega) (by omega), vp_in_nI (by omega) (by omega), 256, si.t 8 (by omega) (by omega), ?_⟩⟩
    rw [show (1 : Int32) + nI i = nI (1 + i) from nI_add 1 i, nI_clamp (show 1 + i < 2 ^ 31 by omega), nI_clamp (show i < 2 ^ 31 by omega), (xi.2 (y + 38) (by omega)).1, b38.at0 (by omega), nar1s, nI_1]
    refine ⟨vp_in_nI (by omega) (by omega), fun S9 e9 z ez => ?_⟩
    rw [ez]
    exact nx S9 e9
  rw [hal]
  have s19 := s18.sm x19.1
  refine v_M_prove_177 y _ a2 _ x4 a5 _ _ S19 Q ⟨fun _ => ⟨s19.1, fun S20 e20 => ?_⟩, fun c => absurd (Int32.le_refl _) c⟩
  obtain ⟨m20, c20⟩ := cnt12 e20
  have s20 := s19.sm m20.sm
  have l1 : BR S19 (y + 8) 0 [b8 x4] := fun i hi => by
    have : i = 0 := by simpa using hi
    subst this
    rw [Nat.zero_add, f19 0 (by omega), e18, tI_sI, up_s]
    rfl
  have l2 : BR S19 (y + 8) 0 (b8 x4 :: ag) := l1.append (l2 := ag) b19
  have hfk : BR S20 (y + 7) 0 (mac sec [102]) := ((b17.ex x18 (by omega)).ex x19 (by omega)).mx m20 (by omega) (fun z => z)
  have mC : MX y (fun a => (y + 3 ≤ a ∧ a ≤ y + 8) ∨ a = y + 37 ∨ a = y + 38) vF S S20 := by
    have c1 : MX y (fun a => (y + 3 ≤ a ∧ a ≤ y + 8) ∨ a = y + 37 ∨ a = y + 38) vF S12 S13 := (MX.of x13 (by omega) : MX y (fun a => a = y + 38) vF S12 S13).mono (fun a z => by omega) (fun f z => z)
    have c2 : MX y (fun a => (y + 3 ≤ a ∧ a ≤ y + 8) ∨ a = y + 37 ∨ a = y + 38) vF S13 S14 := (MX.of x14 (by omega) : MX y (fun a => a = y + 7) vF S13 S14).mono (fun a z => by omega) (fun f z => z)
    have c3 : MX y (fun a => (y + 3 ≤ a ∧ a ≤ y + 8) ∨ a = y + 37 ∨ a = y + 38) vF S14 S15 := (MX.of x15 (by omega) : MX y (fun a => a = y + 8) vF S14 S15).mono (fun a z => by omega) (fun f z => z)
    have c5 : MX y (fun a => (y + 3 ≤ a ∧ a ≤ y + 8) ∨ a = y + 37 ∨ a = y + 38) vF S17 S18 := (MX.of x18 (by omega) : MX y (fun a => a = y + 8) vF S17 S18).mono (fun a z => by omega) (fun f z => z)
    have c6 : MX y (fun a => (y + 3 ≤ a ∧ a ≤ y + 8) ∨ a = y + 37 ∨ a = y + 38) vF S18 S19 := (MX.of x19 (by omega) : MX y (fun a => a = y + 8) vF S18 S19).mono (fun a z => by omega) (fun f z => z)
    exact (((((((mB.mono (fun a z => by omega) (fun f z => z)).tr c1).tr c2).tr c3).tr (m16.mono (fun a z => z.elim) (fun f z => Or.inr z))).tr (m17.mono (fun a z => by simp only [mQ] at z; omega) (fun f z => Or.inl z))).tr c5).tr (c6.tr (m20.mono (fun a z => z.elim) (fun f z => Or.inr z)))
  have sec20 : BR S20 (y + 37) 0 sec := (((((b13s.ex x14 (by omega)).ex x15 (by omega)).mx m16 (by omega) (fun z => z)).mx m17 (by omega) (by simp only [mQ]; omega)).ex x18 (by omega)).ex x19 (by omega) |>.mx m20 (by omega) (fun z => z)
  refine m_macTo (x := b8 x4 :: ag) hG s20 hfl hfk (l2.mx m20 (by omega) (fun z => z)) (by rw [c20, List.length_cons, hal]; rfl) (by rw [List.length_cons, hal]; omega) (by rw [mC.sm.1]; exact ht5) hN5 ho5 (by omega) (fun S' m' f' b' => ⟨rfl, hQ S' ?_ (fun i hi => ?_) b' (sec20.mx m' (by omega) (by simp only [mQ]; omega))⟩)
  · exact (mC.mono (fun a z => by unfold vQ; omega) (fun f z => z)).tr (m'.mono (fun a z => by simp only [mQ] at z; unfold vQ; omega) (fun f z => Or.inl z))
  · rw [f' i hi, mC.row ha5.1 (by omega)]
end MPV
