/-! PURE: MAC of the reference -/
section MMC
variable {G : pG} {y : Nat} {Q : Option Value → TS → Prop}
def mQ (y a1 : Nat) : Nat → Prop := fun a => (y + 3 ≤ a ∧ a ≤ y + 6) ∨ a = a1
theorem m_mc1 {a1 : Nat} {x2 : Int32} {k : List B8} (hk : k.length = 32) : ∀ (n j : Nat) (S : TS), j + n = 64 → MS y S → BR S (y + 7) 0 k → RW y S (kx k 54 j) →
    (∀ S', MX y (fun a => a = y + 3) f6 S S' → RW y S' (kx k 54 64) → T0 G J_M_macTo 7 [(0, .ref y), (1, .ref a1), (2, .int x2), (3, .int (nI 64))] [] S' Q) → T0 G J_M_macTo 7 [(0, .ref y), (1, .ref a1), (2, .int x2), (3, .int (nI j))] [] S Q := by
  intro n
  induction n with
  | zero =>
    intro j S hj hs hb hw hQ
    have : j = 64 := by omega
    subst this
    exact hQ S (MX.rf S) hw
  | succ n ih =>
    intro j S hj hs hb hw hQ
    have nx : ∀ (v : Int32) (S1 : TS), b8 v = k.getD j 0 ^^^ 54 → MX y (fun a => a = y + 3) f6 S S1 → RW y S1 (kx k 54 j ++ [b8 v]) → ∀ z : Int32, z = nI j + 1 → T0 G J_M_macTo 7 [(0, .ref y), (1, .ref a1), (2, .int x2), (3, .int z)] [] S1 Q := by
      intro v S1 ev x1 w1 z ez
      rw [ez, nI_1]
      rw [ev] at w1
      exact ih (j + 1) S1 (by omega) (hs.sm x1.sm) (hb.mx x1 (by omega) (by omega)) w1 (fun S' x' w' => hQ S' (x1.tr x') w')
    refine v_M_macTo_7 y a1 x2 _ S Q ⟨fun c => absurd c (nI_ge (b := 64) (by omega) (by omega)), fun _ => ⟨fun c => ?_, fun c => ?_⟩⟩
    · have h32 : 32 ≤ j := (nI_leI (a := 32) (by omega) (by omega)).mp c
      refine ⟨hs.1, m_addI hs hw (by rw [kx_len]; omega) (fun S1 x1 w1 => ⟨rfl, nx _ S1 ?_ x1 w1⟩)⟩
      rw [List.getD_eq_getElem?_getD, List.getElem?_eq_none (by omega)]
      rfl
    · have h32 : ¬ 32 ≤ j := fun z => c (nI_le (a := 32) z (by omega))
      have hbj := hb j (by omega)
      rw [Nat.zero_add] at hbj
      refine ⟨hs.1, y + 7, hs.r 7 (by omega) (by omega), 32, hs.t 7 (by omega) (by omega), vp_in_nI (by omega) (by omega), ?_⟩
      rw [nI_clamp (by omega), hbj]
      refine m_addI hs hw (by rw [kx_len]; omega) (fun S1 x1 w1 => ⟨rfl, nx _ S1 ?_ x1 w1⟩)
      rw [b8_xor, b8_sx]
      rfl
theorem m_mc2 {a1 : Nat} {x2 : Int32} {k : List B8} (hk : k.length = 32) : ∀ (n j : Nat) (S : TS), j + n = 64 → MS y S → BR S (y + 7) 0 k → RW y S (kx k 92 j) →
    (∀ S', MX y (fun a => a = y + 3) f6 S S' → RW y S' (kx k 92 64) → T0 G J_M_macTo 71 [(0, .ref y), (1, .ref a1), (2, .int x2), (3, .int (nI 64))] [] S' Q) → T0 G J_M_macTo 71 [(0, .ref y), (1, .ref a1), (2, .int x2), (3, .int (nI j))] [] S Q := by
  intro n
  induction n with
  | zero =>
    intro j S hj hs hb hw hQ
    have : j = 64 := by omega
    subst this
    exact hQ S (MX.rf S) hw
  | succ n ih =>
    intro j S hj hs hb hw hQ
    have nx : ∀ (v : Int32) (S1 : TS), b8 v = k.getD j 0 ^^^ 92 → MX y (fun a => a = y + 3) f6 S S1 → RW y S1 (kx k 92 j ++ [b8 v]) → ∀ z : Int32, z = nI j + 1 → T0 G J_M_macTo 71 [(0, .ref y), (1, .ref a1), (2, .int x2), (3, .int z)] [] S1 Q := by
      intro v S1 ev x1 w1 z ez
      rw [ez, nI_1]
      rw [ev] at w1
      exact ih (j + 1) S1 (by omega) (hs.sm x1.sm) (hb.mx x1 (by omega) (by omega)) w1 (fun S' x' w' => hQ S' (x1.tr x') w')
    refine v_M_macTo_71 y a1 x2 _ S Q ⟨fun c => absurd c (nI_ge (b := 64) (by omega) (by omega)), fun _ => ⟨fun c => ?_, fun c => ?_⟩⟩
    · have h32 : 32 ≤ j := (nI_leI (a := 32) (by omega) (by omega)).mp c
      refine ⟨hs.1, m_addI hs hw (by rw [kx_len]; omega) (fun S1 x1 w1 => ⟨rfl, nx _ S1 ?_ x1 w1⟩)⟩
      rw [List.getD_eq_getElem?_getD, List.getElem?_eq_none (by omega)]
      rfl
    · have h32 : ¬ 32 ≤ j := fun z => c (nI_le (a := 32) z (by omega))
      have hbj := hb j (by omega)
      rw [Nat.zero_add] at hbj
      refine ⟨hs.1, y + 7, hs.r 7 (by omega) (by omega), 32, hs.t 7 (by omega) (by omega), vp_in_nI (by omega) (by omega), ?_⟩
      rw [nI_clamp (by omega), hbj]
      refine m_addI hs hw (by rw [kx_len]; omega) (fun S1 x1 w1 => ⟨rfl, nx _ S1 ?_ x1 w1⟩)
      rw [b8_xor, b8_sx]
      rfl
theorem rw_clear {S S' : TS} (e : S' = sI S y (upd (tI S y) 6 0)) : MX y (fun _ => False) f6 S S' ∧ RW y S' [] := by
  have hx : Ex (fun a => a = y ∨ False) S S' := by rw [e]; exact (Ex.rf S).I (Or.inl rfl)
  have r : tI S' y = upd (tI S y) 6 0 := by rw [e, tI_sI, up_s]
  refine ⟨⟨hx, fun k hk => by rw [r, pk_un hk]⟩, ⟨by rw [r, pk_us]; rfl, fun j hj => by simp at hj, by simp⟩⟩
theorem m_macTo {t : Nat → Nat} (hG : GS G t) {a1 N o : Nat} {k x : List B8} {S : TS} (hs : MS y S) (hk : k.length = 32) (hb : BR S (y + 7) 0 k) (hx : BR S (y + 8) 0 x) (hc : tI S y 12 = nI x.length) (hxl : x.length ≤ 200) (ht : te S a1 = some (.inl (.byte, N))) (hN : N < 65536) (ho : o + 32 ≤ N) (ha : a1 ≠ y ∧ (a1 < y + 3 ∨ y + 6 < a1))
    (hQ : ∀ S', MX y (mQ y a1) f6 S S' → (∀ i, (i < o ∨ o + 32 ≤ i) → tI S' a1 i = tI S a1 i) → BR S' a1 o (mac k x) → Q none S') : C0 G J_M_macTo [.ref y, .ref a1, .int (nI o)] S Q := by
  refine v_M_macTo y a1 _ S Q ⟨hs.1, fun S2 e2 => ?_⟩
  obtain ⟨x2, w2⟩ := rw_clear e2
  have q3 : ∀ {S S' : TS}, MX y (fun a => a = y + 3) f6 S S' → MX y (mQ y a1) f6 S S' := fun h => h.mono (fun a z => Or.inl (by omega)) (fun _ z => z)
  have q0 : ∀ {S S' : TS}, MX y (fun _ => False) f6 S S' → MX y (mQ y a1) f6 S S' := fun h => h.mono (fun a z => z.elim) (fun _ z => z)
  refine m_mc1 hk 64 0 S2 (by omega) (hs.sm x2.sm) (hb.mx x2 (by omega) (fun z => z)) w2 (fun S3 x3 w3 => ?_)
  have x13 := (q0 x2).tr (q3 x3)
  have x13' : MX y (fun a => a = y + 3) f6 S S3 := (x2.mono (fun _ z => z.elim) (fun _ z => z)).tr x3
  have s3 := hs.sm x13.sm
  refine v_M_macTo_7 y a1 _ _ S3 Q ⟨fun _ => ⟨s3.1, y + 8, s3.r 8 (by omega) (by omega), ?_⟩, fun c => absurd (Int32.le_refl _) c⟩
  have c3 : tI S3 y 12 = nI x.length := by rw [x13.2 12 (by unfold f6; omega)]; exact hc
  rw [c3]
  refine m_addA s3 ⟨by omega, by omega⟩ (s3.t 8 (by omega) (by omega)) (by omega) (by show 0 + x.length ≤ 256; omega) (hx.mx x13' (by omega) (by omega)) w3 (by rw [kx_len]; omega) (fun S4 x4 w4 => ⟨rfl, ?_⟩)
  have x14' := x13'.tr x4
  have s4 := hs.sm x14'.sm
  refine ⟨y + 6, s4.r 6 (by omega) (by omega), m_hashTo (o := 0) hG (by rw [List.length_append, kx_len]; omega) s4 w4 (s4.t 6 (by omega) (by omega)) (by omega) (by show 0 + 32 ≤ 32; omega) ⟨by omega, by omega, by omega, by omega⟩ (fun S5 x5 f5 b5 => ⟨rfl, fun S6 e6 => ?_⟩)⟩
  have x5' : MX y (fun a => y + 4 ≤ a ∧ a ≤ y + 6) f6 S4 S5 := MX.of (x5.mono (fun a z => by omega)) (by omega)
  obtain ⟨x6, w6⟩ := rw_clear e6
  have x16 : MX y (fun a => y + 3 ≤ a ∧ a ≤ y + 6) f6 S S6 := ((x14'.mono (fun a z => by omega) (fun _ z => z)).tr (x5'.mono (fun a z => by omega) (fun _ z => z))).tr (x6.mono (fun _ z => z.elim) (fun _ z => z))
  have b6 : BR S6 (y + 6) 0 (sha (kx k 54 64 ++ x)) := b5.mx x6 (by omega) (fun z => z)
  refine m_mc2 hk 64 0 S6 (by omega) (hs.sm x16.sm) (hb.mx x16 (by omega) (by omega)) w6 (fun S7 x7 w7 => ?_)
  have x17 : MX y (fun a => y + 3 ≤ a ∧ a ≤ y + 6) f6 S S7 := x16.tr (x7.mono (fun a z => by omega) (fun _ z => z))
  have s7 := hs.sm x17.sm
  have b7 : BR S7 (y + 6) 0 (sha (kx k 54 64 ++ x)) := b6.mx x7 (by omega) (by omega)
  refine v_M_macTo_71 y a1 _ _ S7 Q ⟨fun _ => ⟨s7.1, y + 6, s7.r 6 (by omega) (by omega), ?_⟩, fun c => absurd (Int32.le_refl _) c⟩
  have hsl := sha_len (kx k 54 64 ++ x)
  generalize hsh : sha (kx k 54 64 ++ x) = sh at *
  have e32 : (32 : Int32) = nI sh.length := by rw [hsl]; rfl
  rw [e32]
  refine m_addA (o := 0) s7 ⟨by omega, by omega⟩ (s7.t 6 (by omega) (by omega)) (by omega) (by show 0 + sh.length ≤ 32; omega) b7 w7 (by rw [kx_len]; omega) (fun S8 x8 w8 => ⟨rfl, ?_⟩)
  have x18 : MX y (fun a => y + 3 ≤ a ∧ a ≤ y + 6) f6 S S8 := x17.tr (x8.mono (fun a z => by omega) (fun _ z => z))
  refine m_hashTo hG (by rw [List.length_append, kx_len]; omega) (hs.sm x18.sm) w8 (by rw [x18.sm.1]; exact ht) hN ho ⟨by omega, by omega, by omega, by omega⟩ (fun S9 x9 f9 b9 => ⟨rfl, hQ S9 ((x18.mono (fun a z => Or.inl z) (fun _ z => z)).tr ((MX.of x9 (by omega)).mono (fun a z => by show (y + 3 ≤ a ∧ a ≤ y + 6) ∨ a = a1; omega) (fun _ z => z))) (fun i hi => ?_) ?_⟩)
  · rw [f9 i hi, x18.row ha.1 (by omega)]
  · unfold mac
    rw [hsh]
    exact b9
end MMC
