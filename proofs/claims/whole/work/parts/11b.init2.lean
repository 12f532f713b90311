/-! PURE: the constructors of wires, store, sides -/
section INJ
variable {G : pG} {Q : Option Value → TS → Prop}
theorem c_wi15 {q : Nat} {S0 : TS} : ∀ (n k : Nat) (S : TS), k + n = 13 → te S q = some (.inr 9) → tI S q = (fun _ => 0) → tR S q 0 = some (q + 1) → te S (q + 1) = some (.inl (.object "SealedWire$Bytes", 13)) → tz S = q + 2 + 2 * k → tk S = tk S0 + 13 + 202 * k → OLD q S0 S → (∀ j, j < k → tR S (q + 1) j = some (q + 2 + 2 * j) ∧ BT S (q + 2 + 2 * j) 200 []) →
    (∀ S', OLD q S0 S' → tz S' = q + 28 → tk S' = tk S0 + 2639 → WR S' q [] (fun j => q + 2 + 2 * j) → Q none S') → T G J_Wire_init 15 [(0, .ref q), (1, .int (nI k))] [] S Q := by
  intro n
  induction n with
  | zero =>
    intro k S hk h1 h2 h3 h4 hz hkk ho hj hQ
    have : k = 13 := by omega
    subst this
    refine v_Wire_init_15 q _ S Q ⟨fun _ => hQ S ho (by omega) (by omega) ⟨⟨h1, h3, h4, by rw [h2]; rfl, by simp⟩, fun k hk => (hj k hk).1, fun k hk => by dsimp only; omega, fun j k hj hk e => by dsimp only at e; omega, fun k hk => (hj k hk).2.1, fun k hk => absurd hk (by simp)⟩, fun c => absurd (nI_lt (a := 12) (by omega) (by omega)) c⟩
  | succ n ih =>
    intro k S hk h1 h2 h3 h4 hz hkk ho hj hQ
    refine v_Wire_init_15 q _ S Q ⟨fun c => absurd c (nI_nlt (a := 12) (by omega) (by omega)), fun _ => ⟨h1, q + 1, h3, fun S4 e4 => ?_⟩⟩
    refine c_Bytes (q := tz S) (N := 200) (by rw [e4]; exact sN_fre S 0 2) (by omega) (fun S5 o5 z5 k5 b5 => ⟨rfl, 13, ?_, b5.1.1, vp_in_nI (by omega) (by omega), fun S9 e9 z ez => ?_⟩)
    · rw [(o5 (q + 1) (by omega)).1, e4, te_sN, up_n _ _ (by omega)]; exact h4
    have o4 : OLD (tz S) S S4 := by rw [e4]; exact sN_old S _ _
    have o45 : ∀ a, a < tz S → SAM S S5 a := fun a ha => (o4 a ha).tr (o5 a ha)
    have s9 : ∀ a, a ≠ q + 1 → SAM S5 S9 a := fun a ha => by rw [e9]; exact sR_sam ha
    have r9 : tR S9 (q + 1) = va_up (tR S (q + 1)) k (some (tz S)) := by rw [e9, tR_sR, up_s, nI_clamp (by omega), (o45 (q + 1) (by omega)).2.2.2]
    have sm : ∀ a, a < tz S → a ≠ q + 1 → SAM S S9 a := fun a h1 h2 => (o45 a h1).tr (s9 a h2)
    have k4 : tk S4 = tk S + 2 := by rw [e4, tk_sN]
    rw [ez, nI_1]
    refine ih (k + 1) S9 (by omega) (by rw [(sm q (by omega) (by omega)).1]; exact h1) (by rw [(sm q (by omega) (by omega)).2.1]; exact h2) (by rw [(sm q (by omega) (by omega)).2.2.2]; exact h3) ?_ (by rw [e9, tz_sR, z5]; omega) (by rw [e9, tk_sR]; omega) (fun a ha => (ho a ha).tr (sm a (by omega) (by omega))) (fun j hjk => ?_) hQ
    · rw [e9, te_sR, (o45 (q + 1) (by omega)).1]; exact h4
    · rw [r9]
      by_cases hjk2 : j = k
      · subst hjk2
        rw [up_s, hz]
        refine ⟨rfl, ?_⟩
        rw [hz] at b5
        exact b5.ag (fun a a1 a2 => s9 a (by omega))
      · rw [up_n _ _ hjk2]
        exact ⟨(hj j (by omega)).1, (hj j (by omega)).2.ag (fun a a1 a2 => sm a (by omega) (by omega))⟩
theorem c_Wire {q : Nat} {S : TS} (hf : FRE S q 9) (hQ : ∀ S', OLD q S S' → tz S' = q + 28 → tk S' = tk S + 2639 → WR S' q [] (fun j => q + 2 + 2 * j) → Q none S') : CT G J_Wire_init [.ref q] S Q := by
  have hz := hf.2.2
  refine v_Wire_init q S Q (fun S1 e1 => ⟨by rw [e1, te_sN, up_n _ _ (by omega)]; exact hf.1, fun S3 e3 => ?_⟩)
  obtain ⟨p3, c3, _, z3, k3⟩ := stA (by omega) e1 e3
  rw [hz] at p3 c3 z3
  exact c_wi15 13 0 S3 (by omega) (p3.tr2 hf.1) (by rw [p3.2.2.1]; exact hf.2.1) (by rw [p3.2.2.2, up_s]) c3 (by omega) (by omega) (p3.1.old (by omega)) (fun j hj => absurd hj (by omega)) hQ
theorem c_st24 {q : Nat} {S0 : TS} : ∀ (n k : Nat) (S : TS), k + n = 20 → te S q = some (.inr 7) → tI S q = (fun _ => 0) → tR S q 0 = some (q + 1) → tR S q 1 = some (q + 2) → te S (q + 1) = some (.inl (.object "SealedWire$Bytes", 20)) → te S (q + 2) = some (.inl (.object "SealedWire$Bytes", 20)) → tz S = q + 3 + 4 * k → tk S = tk S0 + 40 + 84 * k → OLD q S0 S → (∀ j, j < k → tR S (q + 1) j = some (q + 3 + 4 * j) ∧ tR S (q + 2) j = some (q + 5 + 4 * j) ∧ BT S (q + 3 + 4 * j) 16 [] ∧ BT S (q + 5 + 4 * j) 64 []) →
    (∀ S', OLD q S0 S' → tz S' = q + 83 → tk S' = tk S0 + 1720 → ST S' q [] (fun j => q + 3 + 4 * j) (fun j => q + 5 + 4 * j) → Q none S') → T G J_Store_init 24 [(0, .ref q), (1, .int (nI k))] [] S Q := by
  intro n
  induction n with
  | zero =>
    intro k S hk h1 h2 h3 h3' h4 h4' hz hkk ho hj hQ
    have : k = 20 := by omega
    subst this
    refine v_Store_init_24 q _ S Q ⟨fun _ => hQ S ho (by omega) (by omega) ⟨⟨h1, h3, h4, h3', h4', by rw [h2]; rfl, by simp⟩, fun k hk => ⟨(hj k hk).1, (hj k hk).2.1⟩, fun k hk => by dsimp only; omega, fun j k hj hk e => by dsimp only at e; omega, fun k hk => ⟨(hj k hk).2.2.1.1, (hj k hk).2.2.2.1⟩, fun k hk => absurd hk (by simp)⟩, fun c => absurd (Int32.le_refl _) c⟩
  | succ n ih =>
    intro k S hk h1 h2 h3 h3' h4 h4' hz hkk ho hj hQ
    refine v_Store_init_24 q _ S Q ⟨fun c => absurd c (nI_ge (b := 20) (by omega) (by omega)), fun _ => ⟨h1, q + 1, h3, fun S4 e4 => ?_⟩⟩
    refine c_Bytes (q := tz S) (N := 16) (by rw [e4]; exact sN_fre S 0 2) (by omega) (fun S5 o5 z5 k5 b5 => ⟨rfl, 20, ?_, b5.1.1, vp_in_nI (by omega) (by omega), fun S9 e9 => ?_⟩)
    · rw [(o5 (q + 1) (by omega)).1, e4, te_sN, up_n _ _ (by omega)]; exact h4
    have o4 : OLD (tz S) S S4 := by rw [e4]; exact sN_old S _ _
    have o45 : ∀ a, a < tz S → SAM S S5 a := fun a ha => (o4 a ha).tr (o5 a ha)
    have s9 : ∀ a, a ≠ q + 1 → SAM S5 S9 a := fun a ha => by rw [e9]; exact sR_sam ha
    have r9 : tR S9 (q + 1) = va_up (tR S (q + 1)) k (some (tz S)) := by rw [e9, tR_sR, up_s, nI_clamp (by omega), (o45 (q + 1) (by omega)).2.2.2]
    have sm : ∀ a, a < tz S → a ≠ q + 1 → SAM S S9 a := fun a h1 h2 => (o45 a h1).tr (s9 a h2)
    have k4 : tk S4 = tk S + 2 := by rw [e4, tk_sN]
    have z9 : tz S9 = q + 5 + 4 * k := by rw [e9, tz_sR, z5]; omega
    have t9 : te S9 q = some (.inr 7) := by rw [(sm q (by omega) (by omega)).1]; exact h1
    have k9 : tk S9 = tk S5 := by rw [e9, tk_sR]
    refine ⟨t9, q + 2, by rw [(sm q (by omega) (by omega)).2.2.2]; exact h3', fun S13 e13 => ?_⟩
    have e92 : te S9 (q + 2) = some (.inl (.object "SealedWire$Bytes", 20)) := by rw [(sm (q + 2) (by omega) (by omega)).1]; exact h4'
    refine c_Bytes (q := tz S9) (N := 64) (by rw [e13]; exact sN_fre S9 0 2) (by omega) (fun S14 o14 z14 k14 b14 => ⟨rfl, 20, ?_, b14.1.1, vp_in_nI (by omega) (by omega), fun S18 e18 z ez => ?_⟩)
    · rw [(o14 (q + 2) (by omega)).1, e13, te_sN, up_n _ _ (by omega)]; exact e92
    have o13 : OLD (tz S9) S9 S13 := by rw [e13]; exact sN_old S9 _ _
    have o134 : ∀ a, a < tz S9 → SAM S9 S14 a := fun a ha => (o13 a ha).tr (o14 a ha)
    have s18 : ∀ a, a ≠ q + 2 → SAM S14 S18 a := fun a ha => by rw [e18]; exact sR_sam ha
    have r18 : tR S18 (q + 2) = va_up (tR S (q + 2)) k (some (tz S9)) := by rw [e18, tR_sR, up_s, nI_clamp (by omega), (o134 (q + 2) (by omega)).2.2.2, (sm (q + 2) (by omega) (by omega)).2.2.2]
    have sn : ∀ a, a < tz S9 → a ≠ q + 2 → SAM S9 S18 a := fun a h1 h2 => (o134 a h1).tr (s18 a h2)
    have sA : ∀ a, a < tz S → a ≠ q + 1 → a ≠ q + 2 → SAM S S18 a := fun a h1 h2 h3 => (sm a h1 h2).tr (sn a (by omega) h3)
    have k13 : tk S13 = tk S9 + 2 := by rw [e13, tk_sN]
    have r181 : tR S18 (q + 1) = va_up (tR S (q + 1)) k (some (tz S)) := by rw [(sn (q + 1) (by omega) (by omega)).2.2.2, r9]
    rw [ez, nI_1]
    refine ih (k + 1) S18 (by omega) (by rw [(sA q (by omega) (by omega) (by omega)).1]; exact h1) (by rw [(sA q (by omega) (by omega) (by omega)).2.1]; exact h2) (by rw [(sA q (by omega) (by omega) (by omega)).2.2.2]; exact h3) (by rw [(sA q (by omega) (by omega) (by omega)).2.2.2]; exact h3') ?_ ?_ (by rw [e18, tz_sR, z14]; omega) (by rw [e18, tk_sR]; omega) (fun a ha => (ho a ha).tr (sA a (by omega) (by omega) (by omega))) (fun j hjk => ?_) hQ
    · rw [(sn (q + 1) (by omega) (by omega)).1, e9, te_sR, (o45 (q + 1) (by omega)).1]; exact h4
    · rw [e18, te_sR, (o134 (q + 2) (by omega)).1]; exact e92
    · rw [r181, r18]
      by_cases hjk2 : j = k
      · subst hjk2
        rw [up_s, up_s, hz, z9]
        rw [hz] at b5
        rw [z9] at b14
        exact ⟨rfl, rfl, b5.ag (fun a a1 a2 => (s9 a (by omega)).tr (sn a (by omega) (by omega))), b14.ag (fun a a1 a2 => s18 a (by omega))⟩
      · rw [up_n _ _ hjk2, up_n _ _ hjk2]
        obtain ⟨g1, g2, g3, g4⟩ := hj j (by omega)
        exact ⟨g1, g2, g3.ag (fun a a1 a2 => sA a (by omega) (by omega) (by omega)), g4.ag (fun a a1 a2 => sA a (by omega) (by omega) (by omega))⟩
theorem c_Store {q : Nat} {S : TS} (hf : FRE S q 7) (hQ : ∀ S', OLD q S S' → tz S' = q + 83 → tk S' = tk S + 1720 → ST S' q [] (fun j => q + 3 + 4 * j) (fun j => q + 5 + 4 * j) → Q none S') : CT G J_Store_init [.ref q] S Q := by
  have hz := hf.2.2
  refine v_Store_init q S Q (fun S1 e1 => ⟨by rw [e1, te_sN, up_n _ _ (by omega)]; exact hf.1, fun S3 e3 => ?_⟩)
  obtain ⟨p3, c3, _, z3, k3⟩ := stA (by omega) e1 e3
  rw [hz] at p3 c3 z3
  have t3 := p3.tr2 hf.1
  refine fun S4 e4 => ⟨by rw [e4, te_sN, up_n _ _ (by omega)]; exact t3, fun S6 e6 => ?_⟩
  obtain ⟨p6, c6, _, z6, k6⟩ := stA (by omega) e4 e6
  rw [z3] at p6 c6 z6
  refine c_st24 20 0 S6 (by omega) (p6.tr2 t3) (by rw [p6.2.2.1, p3.2.2.1]; exact hf.2.1) (by rw [p6.2.2.2, up_n _ _ (by omega), p3.2.2.2, up_s]) (by rw [p6.2.2.2, up_s]) ?_ c6 (by omega) (by omega) ((p3.1.tr p6.1 (by omega)).old (by omega)) (fun j hj => absurd hj (by omega)) hQ
  rw [(p6.1 (q + 1) (by omega) (by omega)).1]; exact c3
/-- what a side holds when it is made -/
def SDf (S : TS) (s : Nat) (x1 x2 : Int32) : Prop := SD S s ∧ (∀ k, k < 8 → BT S (s + 29 + 2 * k) 32 []) ∧ BT S (s + 10) 32 [] ∧ BT S (s + 15) 32 [] ∧ BT S (s + 19) 33 [] ∧ BT S (s + 21) 32 [] ∧ BT S (s + 23) 32 [] ∧ BT S (s + 25) 32 [] ∧ tI S s = upd (upd (upd (fun _ => 0) 11 0) 0 x1) 1 x2 ∧ (tI S (s + 9) 0 = 0 ∧ tI S (s + 9) 3 = 0 ∧ tI S (s + 9) 4 = 0) ∧ (tI S (s + 14) 0 = 1 ∧ tI S (s + 14) 3 = 0 ∧ tI S (s + 14) 4 = 0)
theorem SDf.ag {S S' : TS} {s : Nat} {x1 x2 : Int32} (k : SDf S s x1 x2) (e : AGR s (s + 45) S S') : SDf S' s x1 x2 := by
  obtain ⟨k1, k2, k3, k4, k5, k6, k7, k8, k9, k10, k11⟩ := k
  refine ⟨k1.agr e, fun k hk => (k2 k hk).ag (e.sub (by omega) (by omega)), k3.ag (e.sub (by omega) (by omega)), k4.ag (e.sub (by omega) (by omega)), k5.ag (e.sub (by omega) (by omega)), k6.ag (e.sub (by omega) (by omega)), k7.ag (e.sub (by omega) (by omega)), k8.ag (e.sub (by omega) (by omega)), by rw [(e s (by omega) (by omega)).2.1]; exact k9, by rw [(e (s + 9) (by omega) (by omega)).2.1]; exact k10, by rw [(e (s + 14) (by omega) (by omega)).2.1]; exact k11⟩
theorem c_sd130 {q : Nat} {x1 x2 : Int32} {S0 : TS} : ∀ (n k : Nat) (S : TS), k + n = 8 → te S q = some (.inr 6) → tR S q 3 = some (q + 8) → te S (q + 8) = some (.inl (.object "SealedWire$Bytes", 8)) → tz S = q + 29 + 2 * k → (∀ j, j < k → tR S (q + 8) j = some (q + 29 + 2 * j) ∧ BT S (q + 29 + 2 * j) 32 []) →
    (∀ S', (∀ a, a < q + 29 → a ≠ q + 8 → SAM S S' a) → te S' (q + 8) = some (.inl (.object "SealedWire$Bytes", 8)) → tz S' = q + 45 → tk S' = tk S + 34 * n → (∀ j, j < 8 → tR S' (q + 8) j = some (q + 29 + 2 * j) ∧ BT S' (q + 29 + 2 * j) 32 []) → Q none S') → T G J_Side_init 130 [(0, .ref q), (1, .int x1), (2, .int x2), (3, .int (nI k))] [] S Q := by
  intro n
  induction n with
  | zero =>
    intro k S hk h1 h3 h4 hz hj hQ
    have : k = 8 := by omega
    subst this
    exact v_Side_init_130 q x1 x2 _ S Q ⟨fun _ => hQ S (fun a _ _ => SAM.rf S a) h4 (by omega) (by omega) hj, fun c => absurd (Int32.le_refl _) c⟩
  | succ n ih =>
    intro k S hk h1 h3 h4 hz hj hQ
    refine v_Side_init_130 q x1 x2 _ S Q ⟨fun c => absurd c (nI_ge (b := 8) (by omega) (by omega)), fun _ => ⟨h1, q + 8, h3, fun S4 e4 => ?_⟩⟩
    refine c_Bytes (q := tz S) (N := 32) (by rw [e4]; exact sN_fre S 0 2) (by omega) (fun S5 o5 z5 k5 b5 => ⟨rfl, 8, ?_, b5.1.1, vp_in_nI (by omega) (by omega), fun S9 e9 z ez => ?_⟩)
    · rw [(o5 (q + 8) (by omega)).1, e4, te_sN, up_n _ _ (by omega)]; exact h4
    have o4 : OLD (tz S) S S4 := by rw [e4]; exact sN_old S _ _
    have o45 : ∀ a, a < tz S → SAM S S5 a := fun a ha => (o4 a ha).tr (o5 a ha)
    have s9 : ∀ a, a ≠ q + 8 → SAM S5 S9 a := fun a ha => by rw [e9]; exact sR_sam ha
    have r9 : tR S9 (q + 8) = va_up (tR S (q + 8)) k (some (tz S)) := by rw [e9, tR_sR, up_s, nI_clamp (by omega), (o45 (q + 8) (by omega)).2.2.2]
    have sm : ∀ a, a < tz S → a ≠ q + 8 → SAM S S9 a := fun a h1 h2 => (o45 a h1).tr (s9 a h2)
    have k4 : tk S4 = tk S + 2 := by rw [e4, tk_sN]
    rw [ez, nI_1]
    refine ih (k + 1) S9 (by omega) (by rw [(sm q (by omega) (by omega)).1]; exact h1) (by rw [(sm q (by omega) (by omega)).2.2.2]; exact h3) (by rw [e9, te_sR, (o45 (q + 8) (by omega)).1]; exact h4) (by rw [e9, tz_sR, z5]; omega) (fun j hjk => ?_) (fun S' s' t' z' k' j' => hQ S' (fun a a1 a2 => (sm a (by omega) a2).tr (s' a a1 a2)) t' z' (by rw [k', e9, tk_sR]; omega) j')
    rw [r9]
    by_cases hjk2 : j = k
    · subst hjk2
      rw [up_s, hz]
      refine ⟨rfl, ?_⟩
      rw [hz] at b5
      exact b5.ag (fun a a1 a2 => s9 a (by omega))
    · rw [up_n _ _ hjk2]
      exact ⟨(hj j (by omega)).1, (hj j (by omega)).2.ag (fun a a1 a2 => sm a (by omega) (by omega))⟩
theorem c_Side {q : Nat} {x1 x2 : Int32} {S : TS} (hf : FRE S q 6) (hQ : ∀ S', OLD q S S' → tz S' = q + 45 → tk S' = tk S + 916 → SDf S' q x1 x2 → Q none S') : CT G J_Side_init [.ref q, .int x1, .int x2] S Q := by
  have hz := hf.2.2
  refine v_Side_init q x1 x2 S Q (fun S1 e1 => ?_)
  refine c_Hash (q := tz S) (by rw [e1]; exact sN_fre S 2 4) (fun S2 o2 z2 k2 b2 => ⟨rfl, ?_, fun S4 e4 => ?_⟩)
  · rw [(o2 q (by omega)).1, e1, te_sN, up_n _ _ (by omega)]; exact hf.1
  obtain ⟨p4, ag4, z4, k4⟩ := stC (by omega) e1 o2 e4
  have b4 := b2.ag (ag4 _)
  have k1 : tk S1 = tk S + 4 := by rw [e1, tk_sN]
  have z4' : tz S4 = q + 8 := by rw [z4, z2, hz]
  rw [hz] at p4 b4
  have t4 := p4.tr2 hf.1
  refine fun S5 e5 => ⟨by rw [e5, te_sN, up_n _ _ (by omega)]; exact t4, fun S7 e7 => ?_⟩
  obtain ⟨p7, c7, _, z7, k7⟩ := stA (by omega) e5 e7
  rw [z4'] at p7 c7 z7
  have t7 := p7.tr2 t4
  intro S8 e8
  refine c_Direction (q := tz S7) (x1 := 0) (by rw [e8]; exact sN_fre S7 1 5) (fun S9 o9 z9 k9 b9 bb9 i90 i93 i94 => ⟨rfl, ?_, fun S11 e11 => ?_⟩)
  · rw [(o9 q (by omega)).1, e8, te_sN, up_n _ _ (by omega)]; exact t7
  obtain ⟨p11, ag11, z11, k11⟩ := stC (by omega) e8 o9 e11
  have b11 := b9.ag (ag11 _)
  have bb11 := bb9.ag ((ag11 (tz S7 + 5)).sub (by omega) (by omega))
  have i11 := (ag11 (tz S7 + 5) (tz S7) (by omega) (by omega)).2.1
  rw [← i11] at i90 i93 i94
  have k8 : tk S8 = tk S7 + 5 := by rw [e8, tk_sN]
  have z11' : tz S11 = q + 14 := by rw [z11, z9, z7]
  rw [z7] at p11 b11 bb11 i90 i93 i94
  have t11 := p11.tr2 t7
  intro S12 e12
  refine c_Direction (q := tz S11) (x1 := 1) (by rw [e12]; exact sN_fre S11 1 5) (fun S13 o13 z13 k13 b13 bb13 j0 j3 j4 => ⟨rfl, ?_, fun S15 e15 => ?_⟩)
  · rw [(o13 q (by omega)).1, e12, te_sN, up_n _ _ (by omega)]; exact t11
  obtain ⟨p15, ag15, z15, k15⟩ := stC (by omega) e12 o13 e15
  have b15 := b13.ag (ag15 _)
  have bb15 := bb13.ag ((ag15 (tz S11 + 5)).sub (by omega) (by omega))
  have i15 := (ag15 (tz S11 + 5) (tz S11) (by omega) (by omega)).2.1
  rw [← i15] at j0 j3 j4
  have k12 : tk S12 = tk S11 + 5 := by rw [e12, tk_sN]
  have z15' : tz S15 = q + 19 := by rw [z15, z13, z11']
  rw [z11'] at p15 b15 bb15 j0 j3 j4
  have t15 := p15.tr2 t11
  intro S16 e16
  refine c_Bytes (q := tz S15) (N := 33) (by rw [e16]; exact sN_fre S15 0 2) (by omega) (fun S17 o17 z17 k17 b17 => ⟨rfl, ?_, fun S19 e19 => ?_⟩)
  · rw [(o17 q (by omega)).1, e16, te_sN, up_n _ _ (by omega)]; exact t15
  obtain ⟨p19, ag19, z19, k19⟩ := stC (by omega) e16 o17 e19
  have b19 := b17.ag (ag19 _)
  have k16 : tk S16 = tk S15 + 2 := by rw [e16, tk_sN]
  have z19' : tz S19 = q + 21 := by rw [z19, z17, z15']
  rw [z15'] at p19 b19
  have t19 := p19.tr2 t15
  intro S20 e20
  refine c_Bytes (q := tz S19) (N := 32) (by rw [e20]; exact sN_fre S19 0 2) (by omega) (fun S21 o21 z21 k21 b21 => ⟨rfl, ?_, fun S23 e23 => ?_⟩)
  · rw [(o21 q (by omega)).1, e20, te_sN, up_n _ _ (by omega)]; exact t19
  obtain ⟨p23, ag23, z23, k23⟩ := stC (by omega) e20 o21 e23
  have b23 := b21.ag (ag23 _)
  have k20 : tk S20 = tk S19 + 2 := by rw [e20, tk_sN]
  have z23' : tz S23 = q + 23 := by rw [z23, z21, z19']
  rw [z19'] at p23 b23
  have t23 := p23.tr2 t19
  intro S24 e24
  refine c_Bytes (q := tz S23) (N := 32) (by rw [e24]; exact sN_fre S23 0 2) (by omega) (fun S25 o25 z25 k25 b25 => ⟨rfl, ?_, fun S27 e27 => ?_⟩)
  · rw [(o25 q (by omega)).1, e24, te_sN, up_n _ _ (by omega)]; exact t23
  obtain ⟨p27, ag27, z27, k27⟩ := stC (by omega) e24 o25 e27
  have b27 := b25.ag (ag27 _)
  have k24 : tk S24 = tk S23 + 2 := by rw [e24, tk_sN]
  have z27' : tz S27 = q + 25 := by rw [z27, z25, z23']
  rw [z23'] at p27 b27
  have t27 := p27.tr2 t23
  intro S28 e28
  refine c_Bytes (q := tz S27) (N := 32) (by rw [e28]; exact sN_fre S27 0 2) (by omega) (fun S29 o29 z29 k29 b29 => ⟨rfl, ?_, fun S31 e31 => ?_⟩)
  · rw [(o29 q (by omega)).1, e28, te_sN, up_n _ _ (by omega)]; exact t27
  obtain ⟨p31, ag31, z31, k31⟩ := stC (by omega) e28 o29 e31
  have b31 := b29.ag (ag31 _)
  have k28 : tk S28 = tk S27 + 2 := by rw [e28, tk_sN]
  have z31' : tz S31 = q + 27 := by rw [z31, z29, z27']
  rw [z27'] at p31 b31
  have t31 := p31.tr2 t27
  intro S32 e32
  refine c_Bytes (q := tz S31) (N := 33) (by rw [e32]; exact sN_fre S31 0 2) (by omega) (fun S33 o33 z33 k33 b33 => ⟨rfl, ?_, fun S35 e35 => ?_⟩)
  · rw [(o33 q (by omega)).1, e32, te_sN, up_n _ _ (by omega)]; exact t31
  obtain ⟨p35, ag35, z35, k35⟩ := stC (by omega) e32 o33 e35
  have b35 := b33.ag (ag35 _)
  have k32 : tk S32 = tk S31 + 2 := by rw [e32, tk_sN]
  have z35' : tz S35 = q + 29 := by rw [z35, z33, z31']
  rw [z31'] at p35 b35
  have t35 := p35.tr2 t31
  refine ⟨t35, fun S37 e37 => ⟨by rw [e37, te_sI]; exact t35, fun S39 e39 => ⟨by rw [e39, te_sI, e37, te_sI]; exact t35, fun S41 e41 => ?_⟩⟩⟩
  have s41 : ∀ a, a ≠ q → SAM S35 S41 a := fun a ha => ((show SAM S35 S37 a by rw [e37]; exact sI_sam ha).tr (show SAM S37 S39 a by rw [e39]; exact sI_sam ha)).tr (by rw [e41]; exact sI_sam ha)
  have iq : tI S35 q = (fun _ => 0) := by rw [p35.2.2.1, p31.2.2.1, p27.2.2.1, p23.2.2.1, p19.2.2.1, p15.2.2.1, p11.2.2.1, p7.2.2.1, p4.2.2.1]; exact hf.2.1
  have i41 : tI S41 q = upd (upd (upd (fun _ => 0) 11 0) 0 x1) 1 x2 := by rw [e41, tI_sI, up_s, e39, tI_sI, up_s, e37, tI_sI, up_s, iq]
  have r41 : tR S41 q = tR S35 q := by rw [e41, tR_sI, e39, tR_sI, e37, tR_sI]
  have rr : tR S41 q = va_up (va_up (va_up (va_up (va_up (va_up (va_up (va_up (va_up (tR S q) 2 (some (q + 1))) 3 (some (q + 8))) 4 (some (q + 8 + 1))) 5 (some (q + 14))) 6 (some (q + 19))) 7 (some (q + 21))) 8 (some (q + 23))) 9 (some (q + 25))) 10 (some (q + 27)) := by
    rw [r41, p35.2.2.2, p31.2.2.2, p27.2.2.2, p23.2.2.2, p19.2.2.2, p15.2.2.2, p11.2.2.2, p7.2.2.2, p4.2.2.2]
  have te41 : te S41 q = some (.inr 6) := by rw [e41, te_sI, e39, te_sI, e37, te_sI]; exact t35
  -- from each step to S41
  have u41 : ∀ {n : Nat} {S9 : TS}, UPX n q S9 S35 → UPX n q S9 S41 := fun h a h1 h2 => (h a h1 h2).tr (s41 a h2)
  have U35 : UPX (q + 29) q S35 S41 := fun a _ h2 => s41 a h2
  have U31 : UPX (q + 27) q S31 S41 := u41 p35.1
  have U27 : UPX (q + 25) q S27 S41 := p31.1.tr U31 (by omega)
  have U23 : UPX (q + 23) q S23 S41 := p27.1.tr U27 (by omega)
  have U19 : UPX (q + 21) q S19 S41 := p23.1.tr U23 (by omega)
  have U15 : UPX (q + 19) q S15 S41 := p19.1.tr U19 (by omega)
  have U11 : UPX (q + 14) q S11 S41 := p15.1.tr U15 (by omega)
  have U7 : UPX (q + 8 + 1) q S7 S41 := p11.1.tr U11 (by omega)
  have U4 : UPX (q + 8) q S4 S41 := p7.1.tr U7 (by omega)
  have U0 : UPX (q + 1) q S S41 := p4.1.tr U4 (by omega)
  have c41 : te S41 (q + 8) = some (.inl (.object "SealedWire$Bytes", 8)) := by rw [(U7 (q + 8) (by omega) (by omega)).1]; exact c7
  have z41 : tz S41 = q + 29 + 2 * 0 := by rw [e41, tz_sI, e39, tz_sI, e37, tz_sI, z35']
  have k41 : tk S41 = tk S35 := by rw [e41, tk_sI, e39, tk_sI, e37, tk_sI]
  refine c_sd130 (S0 := S) 8 0 S41 (by omega) te41 (by rw [rr, up_n _ _ (by omega), up_n _ _ (by omega), up_n _ _ (by omega), up_n _ _ (by omega), up_n _ _ (by omega), up_n _ _ (by omega), up_n _ _ (by omega), up_s]) c41 z41 (fun j hj => absurd hj (by omega)) (fun S' s' t' z' k' j' => ?_)
  have V : ∀ lo hi, q < lo → hi ≤ q + 29 → (hi ≤ q + 8 ∨ q + 8 < lo) → AGR lo hi S41 S' := fun lo hi h1 h2 h3 a a1 a2 => s' a (by omega) (by omega)
  have rq : tR S' q = tR S41 q := (s' q (by omega) (by omega)).2.2.2
  refine hQ S' (fun a ha => (U0 a (by omega) (by omega)).tr (s' a (by omega) (by omega))) z' (by omega) ⟨⟨by rw [(s' q (by omega) (by omega)).1]; exact te41, ?_, (b4.ag (U4.ag (by omega) (by omega))).ag (V _ _ (by omega) (by omega) (by omega)), ?_, t', fun k hk => ⟨(j' k hk).1, (j' k hk).2.1⟩, ?_, (b11.ag (U11.ag (by omega) (by omega))).ag (V _ _ (by omega) (by omega) (by omega)), ?_, (b15.ag (U15.ag (by omega) (by omega))).ag (V _ _ (by omega) (by omega) (by omega)), ?_, (b19.1.ag (U19.ag (by omega) (by omega))).ag (V _ _ (by omega) (by omega) (by omega)), ?_, (b23.1.ag (U23.ag (by omega) (by omega))).ag (V _ _ (by omega) (by omega) (by omega)), ?_, (b27.1.ag (U27.ag (by omega) (by omega))).ag (V _ _ (by omega) (by omega) (by omega)), ?_, (b31.1.ag (U31.ag (by omega) (by omega))).ag (V _ _ (by omega) (by omega) (by omega)), ?_, (b35.1.ag (U35.ag (by omega) (by omega))).ag (V _ _ (by omega) (by omega) (by omega))⟩, fun k hk => (j' k hk).2, (bb11.ag (U11.ag (by omega) (by omega))).ag (V _ _ (by omega) (by omega) (by omega)), (bb15.ag (U15.ag (by omega) (by omega))).ag (V _ _ (by omega) (by omega) (by omega)), (b19.ag (U19.ag (by omega) (by omega))).ag (V _ _ (by omega) (by omega) (by omega)), (b23.ag (U23.ag (by omega) (by omega))).ag (V _ _ (by omega) (by omega) (by omega)), (b27.ag (U27.ag (by omega) (by omega))).ag (V _ _ (by omega) (by omega) (by omega)), (b31.ag (U31.ag (by omega) (by omega))).ag (V _ _ (by omega) (by omega) (by omega)), by rw [(s' q (by omega) (by omega)).2.1]; exact i41, ?_, ?_⟩
  · rw [rq, rr, up_n _ _ (by omega), up_n _ _ (by omega), up_n _ _ (by omega), up_n _ _ (by omega), up_n _ _ (by omega), up_n _ _ (by omega), up_n _ _ (by omega), up_n _ _ (by omega), up_s]
  · rw [rq, rr, up_n _ _ (by omega), up_n _ _ (by omega), up_n _ _ (by omega), up_n _ _ (by omega), up_n _ _ (by omega), up_n _ _ (by omega), up_n _ _ (by omega), up_s]
  · rw [rq, rr, up_n _ _ (by omega), up_n _ _ (by omega), up_n _ _ (by omega), up_n _ _ (by omega), up_n _ _ (by omega), up_n _ _ (by omega), up_s]
  · rw [rq, rr, up_n _ _ (by omega), up_n _ _ (by omega), up_n _ _ (by omega), up_n _ _ (by omega), up_n _ _ (by omega), up_s]
  · rw [rq, rr, up_n _ _ (by omega), up_n _ _ (by omega), up_n _ _ (by omega), up_n _ _ (by omega), up_s]
  · rw [rq, rr, up_n _ _ (by omega), up_n _ _ (by omega), up_n _ _ (by omega), up_s]
  · rw [rq, rr, up_n _ _ (by omega), up_n _ _ (by omega), up_s]
  · rw [rq, rr, up_n _ _ (by omega), up_s]
  · rw [rq, rr, up_s]
  · rw [(s' (q + 9) (by omega) (by omega)).2.1, (U11 (q + 9) (by omega) (by omega)).2.1]; exact ⟨i90, i93, i94⟩
  · rw [(s' (q + 14) (by omega) (by omega)).2.1, (U15 (q + 14) (by omega) (by omega)).2.1]; exact ⟨j0, j3, j4⟩
end INJ
