/-! PURE: the reference's store -/
section MWK
variable {G : pG} {y : Nat} {S : TS} {A : AS}
def stoP (y a : Nat) : Prop := mscr y a ∨ (y + 22 ≤ a ∧ a ≤ y + 25)
theorem RMF.store {S0 S S' : TS} {st : Stt} {P F : Nat → Prop} (R : RMF y S0 S A) (e : MX y P F S S') (hp : ∀ a, P a → stoP y a) (hf : ∀ f, F f → fscr f ∨ f = 31) (c : cST y S' st) : RMF y S0 S' (wT A st) := by
  have n : ∀ k, ¬ stoP y (y + k) → ¬ P (y + k) := fun k hk z => hk (hp _ z)
  have m : ∀ k, (k ≠ 6 ∧ k ≠ 12 ∧ k ≠ 46 ∧ k ≠ 31) → ¬ F k := fun k hk z => by have := hf _ z; unfold fscr at this; omega
  refine R.gen e (fun a z => (hp a z).elim mscr_in (fun z => by show y ≤ a ∧ a < y + 45; omega)) (Or.inr ⟨rfl, n 1 ?_, m 1 (by omega)⟩) (Or.inr ⟨rfl, n 2 ?_, m 3 (by omega)⟩) (Or.inr ⟨rfl, n 21 ?_, m 26 (by omega)⟩) (Or.inr ⟨rfl, n 26 ?_, m 33 (by omega)⟩) (Or.inr ⟨fun _ _ => rfl, n 9 ?_, n 10 ?_⟩) (Or.inr ⟨fun _ _ => rfl, n 11 ?_, n 12 ?_⟩) (Or.inr ⟨rfl, rfl, n 13 ?_⟩) (Or.inr ⟨rfl, rfl, rfl, rfl, n 14 ?_, n 40 ?_⟩) (fun s hs => Or.inr ⟨⟨rfl, fun _ _ => ⟨rfl, rfl, rfl⟩⟩, n 15 ?_, n 16 ?_, n 17 ?_⟩) (fun w hw => Or.inr ⟨rfl, n 18 ?_, n 19 ?_, n 20 ?_⟩) (Or.inl c) (Or.inr ⟨rfl, rfl, rfl, m 4 (by omega), m 34 (by omega), m 35 (by omega)⟩) <;> (unfold stoP mscr; omega)
theorem sN1_set {st : Stt} {k j : Nat} {e : List B8 × List B8} (hk : k < st.length) : (st.set k e).getD j ([], []) = if j = k then e else st.getD j ([], []) := by
  by_cases h : j = k
  · rw [if_pos h, h, List.getD_eq_getElem?_getD, List.getElem?_set_self hk]; rfl
  · rw [if_neg h, List.getD_eq_getElem?_getD, List.getElem?_set_ne (fun z => h z.symm), ← List.getD_eq_getElem?_getD]
theorem cST.setV {S S' : TS} {st : Stt} {k : Nat} {v : List B8} (h : cST y S st) (h64 : ∀ e ∈ st, e.1.length ≤ 16 ∧ e.2.length ≤ 64) (hk : k < st.length) (e31 : tI S' y 31 = tI S y 31) (e22 : tI S' (y + 22) = tI S (y + 22)) (e23 : tI S' (y + 23) = tI S (y + 23)) (e25 : tI S' (y + 25) = upd (tI S (y + 25)) k (nI v.length)) (b : BR S' (y + 24) (64 * k) v) (e24 : ∀ i, (i < 64 * k ∨ 64 * k + 64 ≤ i) → tI S' (y + 24) i = tI S (y + 24) i) : cST y S' (st.set k (sN1 st k, v)) := by
  refine ⟨by rw [e31, List.length_set]; exact h.1, fun j hj => ?_⟩
  rw [List.length_set] at hj
  obtain ⟨h1, h2, h3, h4⟩ := h.2 j hj
  have hm := (h64 _ (sn_mem hj)).2
  unfold sN1 sV1 at *
  rw [sN1_set hk, e23, e25]
  by_cases hjk : j = k
  · rw [if_pos hjk, hjk, pk_us]
    rw [hjk] at h1 h2
    exact ⟨h1, h2.eq e22, rfl, b⟩
  · rw [if_neg hjk, pk_un hjk]
    exact ⟨h1, h2.eq e22, h3, h4.row (fun i g1 g2 => e24 i (by omega))⟩
theorem cST.app {S S' : TS} {st : Stt} {nm v : List B8} (h : cST y S st) (h64 : ∀ e ∈ st, e.1.length ≤ 16 ∧ e.2.length ≤ 64) (e31 : tI S' y 31 = nI (st.length + 1)) (e23 : tI S' (y + 23) = upd (tI S (y + 23)) st.length (nI nm.length)) (bn : BR S' (y + 22) (16 * st.length) nm) (e22 : ∀ i, (i < 16 * st.length ∨ 16 * st.length + 16 ≤ i) → tI S' (y + 22) i = tI S (y + 22) i) (e25 : tI S' (y + 25) = upd (tI S (y + 25)) st.length (nI v.length)) (b : BR S' (y + 24) (64 * st.length) v) (e24 : ∀ i, (i < 64 * st.length ∨ 64 * st.length + 64 ≤ i) → tI S' (y + 24) i = tI S (y + 24) i) : cST y S' (st ++ [(nm, v)]) := by
  refine ⟨by rw [e31]; simp, fun j hj => ?_⟩
  have hj2 : j < st.length + 1 := by simpa using hj
  unfold sN1 sV1 at *
  by_cases hjk : j = st.length
  · have eg : (st ++ [(nm, v)]).getD j ([], []) = (nm, v) := by rw [hjk, List.getD_eq_getElem?_getD, List.getElem?_append_right (Nat.le_refl _), Nat.sub_self]; rfl
    rw [eg, e23, e25, hjk, pk_us, pk_us]
    exact ⟨rfl, bn, rfl, b⟩
  · have hlt : j < st.length := by omega
    have eg : (st ++ [(nm, v)]).getD j ([], []) = st.getD j ([], []) := by rw [List.getD_eq_getElem?_getD, List.getElem?_append_left hlt, ← List.getD_eq_getElem?_getD]
    obtain ⟨h1, h2, h3, h4⟩ := h.2 j hlt
    have hm := h64 _ (sn_mem hlt)
    unfold sN1 sV1 at *
    rw [eg, e23, e25, pk_un hjk, pk_un hjk]
    exact ⟨h1, h2.row (fun i g1 g2 => e22 i (by omega)), h3, h4.row (fun i g1 g2 => e24 i (by omega))⟩
theorem m_remove {Q : Option Value → TS → Prop} {k : Nat} {S0 : TS} (R : RMF y S0 S A) (ok : (aT A).length ≤ 20 ∧ ∀ e ∈ aT A, 1 ≤ e.1.length ∧ e.1.length ≤ 16 ∧ e.2.length ≤ 64) (hk : k < (aT A).length) (hQ : ∀ S', RMF y S0 S' (wT A (sRm (aT A) k)) → MX y (fun a => y + 22 ≤ a ∧ a ≤ y + 25) (fun f => f = 31) S S' → Q none S') : C0 G J_M_remove [.ref y, .int (nI k)] S Q := by
  have hl20 := ok.1
  have hs := R.ms
  refine v_M_remove y _ S Q ⟨hs.1, ?_⟩
  rw [R.so.1, show nI (aT A).length - (1 : Int32) = nI ((aT A).length - 1) from pk_sub (b := 1) (by omega)]
  intro S2 e2
  have ry : tI S2 y = upd (tI S y) 31 (nI ((aT A).length - 1)) := by rw [e2, tI_sI, up_s]
  have x2 : Ex (fun a => a = y) S S2 := by rw [e2]; exact (Ex.rf S).I rfl
  have s2 := hs.sm x2.1
  have h31 : tI S2 y 31 = nI ((aT A).length - 1) := by rw [ry, pk_us]
  rw [h31]
  obtain ⟨l1, l2, l3, l4⟩ := R.so.2 ((aT A).length - 1) (by omega)
  have hlm := ok.2 _ (sn_mem (show (aT A).length - 1 < (aT A).length by omega))
  have in20 : ∀ j, j < 20 → vp_in (nI j) 20 := fun j hj => vp_in_nI hj (by omega)
  refine ⟨y + 23, s2.r 23 (by omega) (by omega), 20, s2.t 23 (by omega) (by omega), in20 _ (by omega), in20 _ (by omega), ?_⟩
  rw [nI_clamp (by omega), nI_clamp (by omega), (x2.2 (y + 23) (by omega)).1, l1]
  intro S7 e7
  have x7 : Ex (fun a => a = y + 23) S2 S7 := by rw [e7]; exact (Ex.rf S2).I rfl
  have s7 := s2.sm x7.1
  have h31b : tI S7 y 31 = nI ((aT A).length - 1) := by rw [(x7.2 y (by omega)).1, h31]
  refine ⟨y + 25, s7.r 25 (by omega) (by omega), 20, s7.t 25 (by omega) (by omega), by rw [h31b]; exact in20 _ (by omega), in20 _ (by omega), ?_⟩
  rw [h31b, nI_clamp (by omega), (x7.2 (y + 25) (by omega)).1, (x2.2 (y + 25) (by omega)).1, l3]
  intro S12 e12
  have x12 : Ex (fun a => a = y + 25) S7 S12 := by rw [e12]; exact (Ex.rf S7).I rfl
  have s12 := s7.sm x12.1
  have h31c : tI S12 y 31 = nI ((aT A).length - 1) := by rw [(x12.2 y (by omega)).1, h31b]
  have q23 : tI S12 (y + 23) = upd (tI S (y + 23)) k (nI (sN1 (aT A) ((aT A).length - 1)).length) := by rw [(x12.2 (y + 23) (by omega)).1, e7, tI_sI, up_s]
  have q25 : tI S12 (y + 25) = upd (tI S (y + 25)) k (nI (sV1 (aT A) ((aT A).length - 1)).length) := by rw [e12, tI_sI, up_s]
  have q22 : tI S12 (y + 22) = tI S (y + 22) := by rw [(x12.2 (y + 22) (by omega)).1, (x7.2 (y + 22) (by omega)).1, (x2.2 (y + 22) (by omega)).1]
  have q24 : tI S12 (y + 24) = tI S (y + 24) := by rw [(x12.2 (y + 24) (by omega)).1, (x7.2 (y + 24) (by omega)).1, (x2.2 (y + 24) (by omega)).1]
  generalize hla : (aT A).length - 1 = la at *
  have l2' : BR S12 (y + 22) (16 * la) (sN1 (aT A) la) := l2.eq q22
  have l4' : BR S12 (y + 24) (64 * la) (sV1 (aT A) la) := l4.eq q24
  have hn16 : (sN1 (aT A) la).length ≤ 16 := hlm.2.1
  have hv64 : (sV1 (aT A) la).length ≤ 64 := hlm.2.2
  have srcN : ∀ (Si : TS) i, (∀ z, (z < 16 * k ∨ 16 * k + 16 ≤ z) → tI Si (y + 22) z = tI S12 (y + 22) z) → k ≠ la → i < (sN1 (aT A) la).length → tI Si (y + 22) (16 * la + i) = sx ((sN1 (aT A) la).getD i 0) := fun Si i h hne hi => by rw [h _ (by omega)]; exact l2' i hi
  by_cases hkla : k = la
  · -- the last itself: the rows may hold anything there
    subst hkla
    refine cpm (b := y + 22) (o := 16 * k) (N := 16) (l := []) (S0 := S12) (H := fun i Si => T0 G J_M_remove 42 [(0, .ref y), (1, .int (nI k)), (2, .int (nI i))] [] Si Q) (by simp) (fun i Si hi xi fi nx => ?_) (fun S13 x13 _ f13 => ?_)
    · have si := s12.sm xi.1
      refine v_M_remove_42 y _ _ Si Q ⟨fun c => absurd c (nI_ge (b := 16) hi (by omega)), fun _ => ⟨si.1, y + 22, si.r 22 (by omega) (by omega), 320, si.t 22 (by omega) (by omega), ?_⟩⟩
      rw [(xi.2 y (by omega)).1, h31c, show (16 : Int32) * nI k = nI (16 * k) from pk_mul 16 k, nI_add, nI_clamp (show 16 * k + i < 2 ^ 31 by omega), nI_1]
      refine ⟨vp_in_nI (by omega) (by omega), vp_in_nI (by omega) (by omega), fun S9 e9 z ez => ?_⟩
      rw [ez]
      exact nx _ S9 (fun h => absurd h (by simp)) e9
    have s13 := s12.sm x13.1
    refine v_M_remove_42 y _ _ S13 Q ⟨fun _ => ?_, fun c => absurd (Int32.le_refl _) c⟩
    refine cpm (b := y + 24) (o := 64 * k) (N := 64) (l := []) (S0 := S13) (H := fun i Si => T0 G J_M_remove 81 [(0, .ref y), (1, .int (nI k)), (2, .int (nI i))] [] Si Q) (by simp) (fun i Si hi xi fi nx => ?_) (fun S14 x14 _ f14 => ?_)
    · have si := s13.sm xi.1
      refine v_M_remove_81 y _ _ Si Q ⟨fun c => absurd c (nI_ge (b := 64) hi (by omega)), fun _ => ⟨si.1, y + 24, si.r 24 (by omega) (by omega), 1280, si.t 24 (by omega) (by omega), ?_⟩⟩
      rw [(xi.2 y (by omega)).1, (x13.2 y (by omega)).1, h31c, show (64 : Int32) * nI k = nI (64 * k) from pk_mul 64 k, nI_add, nI_clamp (show 64 * k + i < 2 ^ 31 by omega), nI_1]
      refine ⟨vp_in_nI (by omega) (by omega), vp_in_nI (by omega) (by omega), fun S9 e9 z ez => ?_⟩
      rw [ez]
      exact nx _ S9 (fun h => absurd h (by simp)) e9
    refine v_M_remove_81 y _ _ S14 Q ⟨fun _ => ?_, fun c => absurd (Int32.le_refl _) c⟩
    have mm : MX y (fun a => y + 22 ≤ a ∧ a ≤ y + 25) (fun f => f = 31) S S14 := by
      have c0 : MX y (fun a => y + 22 ≤ a ∧ a ≤ y + 25) (fun f => f = 31) S S2 := ⟨x2.mono (fun a z => Or.inl z), fun f hf => by rw [ry, pk_un hf]⟩
      exact (((c0.tr ((MX.of x7 (by omega)).mono (fun a z => by omega) (fun f z => z))).tr ((MX.of x12 (by omega)).mono (fun a z => by omega) (fun f z => z))).tr ((MX.of x13 (by omega)).mono (fun a z => by omega) (fun f z => z))).tr ((MX.of x14 (by omega)).mono (fun a z => by omega) (fun f z => z))
    refine hQ S14 (R.store mm (fun a z => Or.inr z) (fun f z => Or.inr z) ⟨?_, fun j hj => ?_⟩) mm
    · rw [sRm_len, (x14.2 y (by omega)).1, (x13.2 y (by omega)).1, h31c, hla]
    · rw [sRm_len] at hj
      obtain ⟨g1, g2, g3, g4⟩ := R.so.2 j (by omega)
      have hm := ok.2 _ (sn_mem (show j < (aT A).length by omega))
      unfold sN1 sV1 at *
      rw [sRm_get _ hk hj, if_neg (by omega), (x14.2 (y + 23) (by omega)).1, (x13.2 (y + 23) (by omega)).1, q23, (x14.2 (y + 25) (by omega)).1, (x13.2 (y + 25) (by omega)).1, q25, pk_un (by omega), pk_un (by omega)]
      refine ⟨g1, g2.row (fun i h1 h2 => ?_), g3, g4.row (fun i h1 h2 => ?_)⟩
      · rw [(x14.2 (y + 22) (by omega)).1, f13 i (by omega), q22]
      · rw [f14 i (by omega), (x13.2 (y + 24) (by omega)).1, q24]
  · have hklt : k < la := by omega
    refine cpm (b := y + 22) (o := 16 * k) (N := 16) (l := sN1 (aT A) la) (S0 := S12) (H := fun i Si => T0 G J_M_remove 42 [(0, .ref y), (1, .int (nI k)), (2, .int (nI i))] [] Si Q) hn16 (fun i Si hi xi fi nx => ?_) (fun S13 x13 b13 f13 => ?_)
    · have si := s12.sm xi.1
      refine v_M_remove_42 y _ _ Si Q ⟨fun c => absurd c (nI_ge (b := 16) hi (by omega)), fun _ => ⟨si.1, y + 22, si.r 22 (by omega) (by omega), 320, si.t 22 (by omega) (by omega), ?_⟩⟩
      rw [(xi.2 y (by omega)).1, h31c, show (16 : Int32) * nI k = nI (16 * k) from pk_mul 16 k, show (16 : Int32) * nI la = nI (16 * la) from pk_mul 16 la, nI_add, nI_add, nI_clamp (show 16 * k + i < 2 ^ 31 by omega), nI_clamp (show 16 * la + i < 2 ^ 31 by omega), nI_1]
      refine ⟨vp_in_nI (by omega) (by omega), vp_in_nI (by omega) (by omega), fun S9 e9 z ez => ?_⟩
      rw [ez]
      exact nx _ S9 (fun h => by rw [srcN Si i fi hkla h, nar1s]) e9
    have s13 := s12.sm x13.1
    refine v_M_remove_42 y _ _ S13 Q ⟨fun _ => ?_, fun c => absurd (Int32.le_refl _) c⟩
    refine cpm (b := y + 24) (o := 64 * k) (N := 64) (l := sV1 (aT A) la) (S0 := S13) (H := fun i Si => T0 G J_M_remove 81 [(0, .ref y), (1, .int (nI k)), (2, .int (nI i))] [] Si Q) hv64 (fun i Si hi xi fi nx => ?_) (fun S14 x14 b14 f14 => ?_)
    · have si := s13.sm xi.1
      refine v_M_remove_81 y _ _ Si Q ⟨fun c => absurd c (nI_ge (b := 64) hi (by omega)), fun _ => ⟨si.1, y + 24, si.r 24 (by omega) (by omega), 1280, si.t 24 (by omega) (by omega), ?_⟩⟩
      rw [(xi.2 y (by omega)).1, (x13.2 y (by omega)).1, h31c, show (64 : Int32) * nI k = nI (64 * k) from pk_mul 64 k, show (64 : Int32) * nI la = nI (64 * la) from pk_mul 64 la, nI_add, nI_add, nI_clamp (show 64 * k + i < 2 ^ 31 by omega), nI_clamp (show 64 * la + i < 2 ^ 31 by omega), nI_1]
      refine ⟨vp_in_nI (by omega) (by omega), vp_in_nI (by omega) (by omega), fun S9 e9 z ez => ?_⟩
      rw [ez]
      refine nx _ S9 (fun h => ?_) e9
      rw [fi _ (by omega), (x13.2 (y + 24) (by omega)).1, l4' i h, nar1s]
    refine v_M_remove_81 y _ _ S14 Q ⟨fun _ => ?_, fun c => absurd (Int32.le_refl _) c⟩
    have mm : MX y (fun a => y + 22 ≤ a ∧ a ≤ y + 25) (fun f => f = 31) S S14 := by
      have c0 : MX y (fun a => y + 22 ≤ a ∧ a ≤ y + 25) (fun f => f = 31) S S2 := ⟨x2.mono (fun a z => Or.inl z), fun f hf => by rw [ry, pk_un hf]⟩
      exact (((c0.tr ((MX.of x7 (by omega)).mono (fun a z => by omega) (fun f z => z))).tr ((MX.of x12 (by omega)).mono (fun a z => by omega) (fun f z => z))).tr ((MX.of x13 (by omega)).mono (fun a z => by omega) (fun f z => z))).tr ((MX.of x14 (by omega)).mono (fun a z => by omega) (fun f z => z))
    refine hQ S14 (R.store mm (fun a z => Or.inr z) (fun f z => Or.inr z) ⟨?_, fun j hj => ?_⟩) mm
    · rw [sRm_len, (x14.2 y (by omega)).1, (x13.2 y (by omega)).1, h31c, hla]
    · rw [sRm_len] at hj
      obtain ⟨g1, g2, g3, g4⟩ := R.so.2 j (by omega)
      have hm := ok.2 _ (sn_mem (show j < (aT A).length by omega))
      have e22 : tI S14 (y + 22) = tI S13 (y + 22) := (x14.2 (y + 22) (by omega)).1
      unfold sN1 sV1 at *
      rw [sRm_get _ hk hj, hla, (x14.2 (y + 23) (by omega)).1, (x13.2 (y + 23) (by omega)).1, q23, (x14.2 (y + 25) (by omega)).1, (x13.2 (y + 25) (by omega)).1, q25]
      by_cases hjk : j = k
      · rw [if_pos hjk, hjk, pk_us, pk_us]
        exact ⟨rfl, b13.eq e22, rfl, b14⟩
      · rw [if_neg hjk, pk_un hjk, pk_un hjk]
        refine ⟨g1, g2.row (fun i h1 h2 => ?_), g3, g4.row (fun i h1 h2 => ?_)⟩
        · rw [e22, f13 i (by omega), q22]
        · rw [f14 i (by omega), (x13.2 (y + 24) (by omega)).1, q24]
end MWK
