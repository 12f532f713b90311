/-! PURE: the text under the tag of the reference -/
theorem BR.snoc {S S' : TS} {a : Nat} {l : List B8} {b : B8} (h : BR S a 0 l) (e : tI S' a = upd (tI S a) l.length (sx b)) : BR S' a 0 (l ++ [b]) := by
  intro j hj
  have hj2 : j < l.length + 1 := by simpa using hj
  rw [Nat.zero_add, e]
  by_cases hjl : j = l.length
  · rw [hjl, pk_us]; simp
  · rw [pk_un hjl]
    have := h j (by omega)
    rw [Nat.zero_add] at this
    rw [this]
    simp [List.getD_eq_getElem?_getD, List.getElem?_append_left (show j < l.length by omega)]
theorem take_snoc {l : List B8} {k : Nat} (h : k < l.length) : l.take (k + 1) = l.take k ++ [l.getD k 0] := by
  rw [List.take_add_one, List.getD_eq_getElem?_getD, List.getElem?_eq_getElem h]
  rfl
def tzs (c : List B8) : List B8 := List.replicate ((65536 - (16 + c.length)) % 16) 0
theorem ptext_eq {h c : List B8} (hh : h.length = 3) : ptext h c = (pz h ++ (c ++ tzs c)) ++ leB 3 4 ++ leB 0 4 ++ leB c.length 4 ++ leB 0 4 := by
  have h1 : (pz h).length = 16 := by rw [pz_len h (by omega), hh]
  unfold ptext tzs
  conv => lhs; rw [pz.eq_1 (pz h ++ c)]
  rw [List.length_append, h1, List.append_assoc (pz h)]
section MTR
variable {G : pG} {y : Nat} {Q : Option Value → TS → Prop}
theorem m_tr6 {a1 N o : Nat} {x3 x4 x5 : Int32} {h : List B8} (ha : a1 ≠ y + 33) (hh : h.length = 3) (hN : N < 65536) (hr : o + 3 ≤ N) : ∀ (n k : Nat) (S : TS), k + n = 16 → MS y S → te S a1 = some (.inl (.byte, N)) → BR S a1 o h → BR S (y + 33) 0 ((pz h).take k) →
    (∀ S', Ex (fun z => z = y + 33) S S' → BR S' (y + 33) 0 (pz h) → T0 G J_M_tagRecord 49 [(0, .ref y), (1, .ref a1), (2, .int (nI o)), (3, .int x3), (4, .int x4), (5, .int 16), (6, .int 0)] [] S' Q) → T0 G J_M_tagRecord 6 [(0, .ref y), (1, .ref a1), (2, .int (nI o)), (3, .int x3), (4, .int x4), (5, .int x5), (6, .int (nI k))] [] S Q := by
  have h16 : (pz h).length = 16 := by rw [pz_len h (by omega), hh]
  intro n
  induction n with
  | zero =>
    intro k S hk hs ht hb h1 hQ
    have : k = 16 := by omega
    subst this
    rw [List.take_of_length_le (by omega)] at h1
    exact v_M_tagRecord_6 y a1 _ x3 x4 x5 _ S Q ⟨fun _ => hQ S (Ex.rf S) h1, fun c => absurd (Int32.le_refl _) c⟩
  | succ n ih =>
    intro k S hk hs ht hb h1 hQ
    have hlen : ((pz h).take k).length = k := by rw [List.length_take]; omega
    have go : ∀ v : Int32, v = sx ((pz h).getD k 0) → ∀ S6 : TS, S6 = sI S (y + 33) (upd (tI S (y + 33)) k v) → ∀ z : Int32, z = nI (k + 1) → T0 G J_M_tagRecord 6 [(0, .ref y), (1, .ref a1), (2, .int (nI o)), (3, .int x3), (4, .int x4), (5, .int x5), (6, .int z)] [] S6 Q := by
      intro v ev S6 e6 z ez
      have x6 : Ex (fun z => z = y + 33) S S6 := by rw [e6]; exact (Ex.rf S).I rfl
      rw [ez]
      refine ih (k + 1) S6 (by omega) (hs.sm x6.1) (by rw [x6.1.1]; exact ht) (hb.ex x6 ha) ?_ (fun S' x' f' => hQ S' (x6.tr x') f')
      rw [take_snoc (by omega)]
      exact h1.snoc (by rw [e6, tI_sI, up_s, hlen, ev])
    have in320 : vp_in (nI k) 320 := vp_in_nI (by omega) (by omega)
    have t33 := hs.t 33 (by omega) (by omega)
    refine v_M_tagRecord_6 y a1 _ x3 x4 x5 _ S Q ⟨fun c => absurd c (nI_ge (b := 16) (by omega) (by omega)), fun _ => ⟨hs.1, y + 33, hs.r 33 (by omega) (by omega), ?_⟩⟩
    rw [nI_add, nI_clamp (show k < 2 ^ 31 by omega), nI_1]
    refine ⟨fun c => ⟨320, t33, in320, go _ ?_⟩, fun c => ?_⟩
    · have h3 : 3 ≤ k := (nI_leI (a := 3) (by omega) (by omega)).mp c
      have e0 : (pz h).getD k 0 = 0 := by
        unfold pz
        rw [List.getD_eq_getElem?_getD, List.getElem?_append_right (by omega), hh, List.getElem?_replicate, if_pos (by omega)]
        rfl
      rw [e0]; rfl
    · have h3 : k < 3 := Nat.not_le.mp (fun h => c (nI_le (a := 3) h (by omega)))
      rw [nI_clamp (show o + k < 2 ^ 31 by omega), hb k (by omega), nar1s]
      have e0 : (pz h).getD k 0 = h.getD k 0 := by
        unfold pz
        rw [List.getD_eq_getElem?_getD, List.getElem?_append_left (by omega), ← List.getD_eq_getElem?_getD]
      exact ⟨N, ht, vp_in_nI (by omega) (by omega), 320, t33, in320, go _ (by rw [e0])⟩
theorem m_tr49 {a1 N o : Nat} {x4 : Int32} {h c : List B8} (ha : a1 ≠ y + 33) (hh : h.length = 3) (hc : c.length ≤ 272) (hN : N < 65536) (hr : o + 3 + c.length ≤ N) : ∀ (n k : Nat) (S : TS), k + n = (c ++ tzs c).length → MS y S → te S a1 = some (.inl (.byte, N)) → BR S a1 (o + 3) c → BR S (y + 33) 0 (pz h ++ (c ++ tzs c).take k) →
    (∀ S', Ex (fun z => z = y + 33) S S' → BR S' (y + 33) 0 (pz h ++ (c ++ tzs c)) → T0 G J_M_tagRecord 100 [(0, .ref y), (1, .ref a1), (2, .int (nI o)), (3, .int (nI c.length)), (4, .int x4), (5, .int (nI (16 + (c ++ tzs c).length))), (6, .int 0)] [] S' Q) → T0 G J_M_tagRecord 49 [(0, .ref y), (1, .ref a1), (2, .int (nI o)), (3, .int (nI c.length)), (4, .int x4), (5, .int (nI (16 + k))), (6, .int (nI k))] [] S Q := by
  have h16 : (pz h).length = 16 := by rw [pz_len h (by omega), hh]
  have hm : (c ++ tzs c).length = c.length + (65536 - (16 + c.length)) % 16 := by simp [tzs]
  intro n
  induction n with
  | zero =>
    intro k S hk hs ht hb h1 hQ
    rw [Nat.add_zero] at hk
    have h15 : nI (16 + k) &&& (15 : Int32) = 0 := by
      rw [pk_andN (by omega) (m := 15) 4 (by decide)]
      show nI _ = nI 0
      exact congrArg nI (by omega)
    refine v_M_tagRecord_49 y a1 _ _ x4 _ _ S Q ⟨fun c2 => absurd c2 (nI_nlt (by omega) (by omega)), fun _ => ⟨fun _ => ?_, fun c2 => absurd h15 c2⟩⟩
    rw [List.take_of_length_le (by omega)] at h1
    rw [hk]
    exact hQ S (Ex.rf S) h1
  | succ n ih =>
    intro k S hk hs ht hb h1 hQ
    have hlen : (pz h ++ (c ++ tzs c).take k).length = 16 + k := by rw [List.length_append, h16, List.length_take]; omega
    have go : ∀ v : Int32, v = sx ((c ++ tzs c).getD k 0) → ∀ S6 : TS, S6 = sI S (y + 33) (upd (tI S (y + 33)) (16 + k) v) → ∀ z5 : Int32, z5 = nI (16 + k + 1) → ∀ z6 : Int32, z6 = nI (k + 1) → T0 G J_M_tagRecord 49 [(0, .ref y), (1, .ref a1), (2, .int (nI o)), (3, .int (nI c.length)), (4, .int x4), (5, .int z5), (6, .int z6)] [] S6 Q := by
      intro v ev S6 e6 z5 e5 z ez
      have x6 : Ex (fun z => z = y + 33) S S6 := by rw [e6]; exact (Ex.rf S).I rfl
      rw [ez, e5]
      refine ih (k + 1) S6 (by omega) (hs.sm x6.1) (by rw [x6.1.1]; exact ht) (hb.ex x6 ha) ?_ (fun S' x' f' => hQ S' (x6.tr x') f')
      rw [take_snoc (by omega), ← List.append_assoc]
      exact h1.snoc (by rw [e6, tI_sI, up_s, hlen, ev])
    have in320 : vp_in (nI (16 + k)) 320 := vp_in_nI (by omega) (by omega)
    have t33 := hs.t 33 (by omega) (by omega)
    have e3 : (nI o + (3 : Int32)) + nI k = nI (o + 3 + k) := by rw [show nI o + (3 : Int32) = nI (o + 3) from nI_add o 3, nI_add]
    have st : (k < c.length → vp_in (nI (o + 3 + k)) N ∧ (tI S a1 (o + 3 + k) : Int32).toInt8.toInt32 = sx ((c ++ tzs c).getD k 0)) := by
      intro hkc
      refine ⟨vp_in_nI (by omega) (by omega), ?_⟩
      have e0 : (c ++ tzs c).getD k 0 = c.getD k 0 := by rw [List.getD_eq_getElem?_getD, List.getElem?_append_left hkc, ← List.getD_eq_getElem?_getD]
      rw [hb k hkc, nar1s, e0]
    have z0 : c.length ≤ k → (0 : Int32).toInt8.toInt32 = sx ((c ++ tzs c).getD k 0) := by
      intro hkc
      have e0 : (c ++ tzs c).getD k 0 = 0 := by
        unfold tzs
        rw [List.getD_eq_getElem?_getD, List.getElem?_append_right hkc, List.getElem?_replicate, if_pos (by omega)]
        rfl
      rw [e0]; rfl
    refine v_M_tagRecord_49 y a1 _ _ x4 _ _ S Q ?_
    rw [e3, nI_clamp (show 16 + k < 2 ^ 31 by omega), nI_1, nI_1]
    by_cases hkc : k < c.length
    · obtain ⟨s1, s2⟩ := st hkc
      refine ⟨fun _ => ⟨hs.1, y + 33, hs.r 33 (by omega) (by omega), fun c2 => absurd c2 (nI_ge hkc (by omega)), fun _ => ⟨N, ht, s1, 320, t33, in320, go _ ?_⟩⟩, fun c2 => absurd (nI_lt hkc (by omega)) c2⟩
      rw [nI_clamp (show o + 3 + k < 2 ^ 31 by omega)]
      exact s2
    · refine ⟨fun c2 => absurd c2 (nI_nlt (by omega) (by omega)), fun _ => ⟨fun c2 => ?_, fun _ => ⟨hs.1, y + 33, hs.r 33 (by omega) (by omega), fun _ => ⟨320, t33, in320, go _ (z0 (by omega))⟩, fun c2 => absurd (nI_le (by omega) (by omega)) c2⟩⟩⟩
      exfalso
      rw [pk_andN (by omega) (m := 15) 4 (by decide)] at c2
      have := (nI_eq (b := 0) (by omega) (by omega)).mp c2
      omega
theorem m_tr100 {a1 : Nat} {x2 x4 : Int32} {A : List B8} {cl : Nat} (hA : A.length + 16 ≤ 320) (hcl : cl < 65536) {P : TS → Prop} : ∀ (n k : Nat) (S : TS), k + n = 16 → MS y S → BR S (y + 33) 0 (A ++ List.replicate k 0) →
    (∀ S', Ex (fun z => z = y + 33) S S' → BR S' (y + 33) 0 (A ++ leB 3 4 ++ leB 0 4 ++ leB cl 4 ++ leB 0 4) → C0 G J_M_block_II [.ref y, .int x4, .int 0] S' (fun r S9 => r = none ∧ C0 G J_M_tagOf [.ref y, .int (nI (A.length + 16))] S9 (fun r S10 => r = none ∧ Q none S10))) → T0 G J_M_tagRecord 100 [(0, .ref y), (1, .ref a1), (2, .int x2), (3, .int (nI cl)), (4, .int x4), (5, .int (nI A.length)), (6, .int (nI k))] [] S Q := by
  intro n
  induction n with
  | zero =>
    intro k S hk hs h1 hQ
    have : k = 16 := by omega
    subst this
    have inA : ∀ i, i < 16 → vp_in (nI (A.length + i)) 320 := fun i hi => vp_in_nI (by omega) (by omega)
    refine v_M_tagRecord_100 y a1 x2 _ x4 _ _ S Q ⟨fun _ => ⟨hs.1, y + 33, hs.r 33 (by omega) (by omega), 320, hs.t 33 (by omega) (by omega), inA 0 (by omega), ?_⟩, fun c => absurd (Int32.le_refl _) c⟩
    rw [show nI A.length + (8 : Int32) = nI (A.length + 8) from nI_add _ 8, show nI A.length + (9 : Int32) = nI (A.length + 9) from nI_add _ 9, show nI A.length + (16 : Int32) = nI (A.length + 16) from nI_add _ 16, nI_clamp (show A.length < 2 ^ 31 by omega), nI_clamp (show A.length + 8 < 2 ^ 31 by omega), nI_clamp (show A.length + 9 < 2 ^ 31 by omega), nar2, sh8 (by omega), nar2, b8_nI, b8_nI]
    refine fun S6 e6 => ⟨inA 8 (by omega), fun S7 e7 => ⟨inA 9 (by omega), fun S8 e8 => ?_⟩⟩
    have x6 : Ex (fun z => z = y + 33) S S6 := by rw [e6]; exact (Ex.rf S).I rfl
    have x7 : Ex (fun z => z = y + 33) S S7 := by rw [e7]; exact x6.I rfl
    have x8 : Ex (fun z => z = y + 33) S S8 := by rw [e8]; exact x7.I rfl
    have r8 : tI S8 (y + 33) = upd (upd (upd (tI S (y + 33)) A.length (sx 3)) (A.length + 8) (sx (BitVec.ofNat 8 cl))) (A.length + 9) (sx (BitVec.ofNat 8 (cl / 256))) := by
      rw [e8, tI_sI, up_s, e7, tI_sI, up_s, e6, tI_sI, up_s]
      rfl
    refine hQ S8 x8 (fun j hj => ?_)
    have hj2 : j < A.length + 16 := by simpa [leB] using hj
    have h1j := h1 j (by simp; omega)
    rw [Nat.zero_add] at h1j ⊢
    rw [r8]
    by_cases hjA : j < A.length
    · rw [pk_un (by omega), pk_un (by omega), pk_un (by omega), h1j]
      simp [List.getD_eq_getElem?_getD, List.getElem?_append_left hjA]
    · obtain ⟨i, rfl⟩ : ∃ i, j = A.length + i := ⟨j - A.length, by omega⟩
      have hz : tI S (y + 33) (A.length + i) = sx 0 := by
        rw [h1j]
        congr 1
        rw [List.getD_eq_getElem?_getD, List.getElem?_append_right (by omega), Nat.add_sub_cancel_left, List.getElem?_replicate, if_pos (by omega)]
        rfl
      have e1 : (A ++ leB 3 4 ++ leB 0 4 ++ leB cl 4 ++ leB 0 4).getD (A.length + i) 0 = ([3, 0, 0, 0, 0, 0, 0, 0, BitVec.ofNat 8 cl, BitVec.ofNat 8 (cl / 256), BitVec.ofNat 8 (cl / 256 / 256), BitVec.ofNat 8 (cl / 256 / 256 / 256), 0, 0, 0, 0] : List B8).getD i 0 := by
        rw [List.append_assoc, List.append_assoc, List.append_assoc, List.getD_eq_getElem?_getD, List.getElem?_append_right (by omega), Nat.add_sub_cancel_left, List.getD_eq_getElem?_getD]
        rfl
      rw [e1, show cl / 256 / 256 = 0 by omega]
      rcases (show i = 0 ∨ i = 8 ∨ i = 9 ∨ (i ≠ 0 ∧ i ≠ 8 ∧ i ≠ 9) by omega) with rfl | rfl | rfl | ⟨i0, i8, i9⟩
      · rw [pk_un (by omega), pk_un (by omega)]
        exact pk_us
      · rw [pk_un (by omega), pk_us]; rfl
      · rw [pk_us]; rfl
      · rw [pk_un (by omega), pk_un (by omega), pk_un (by omega), hz]
        rcases (show i = 1 ∨ i = 2 ∨ i = 3 ∨ i = 4 ∨ i = 5 ∨ i = 6 ∨ i = 7 ∨ i = 10 ∨ i = 11 ∨ i = 12 ∨ i = 13 ∨ i = 14 ∨ i = 15 by omega) with rfl | rfl | rfl | rfl | rfl | rfl | rfl | rfl | rfl | rfl | rfl | rfl | rfl <;> rfl
  | succ n ih =>
    intro k S hk hs h1 hQ
    refine v_M_tagRecord_100 y a1 x2 _ x4 _ _ S Q ⟨fun c => absurd c (nI_ge (b := 16) (by omega) (by omega)), fun _ => ⟨hs.1, y + 33, hs.r 33 (by omega) (by omega), 320, hs.t 33 (by omega) (by omega), ?_⟩⟩
    rw [nI_add, nI_clamp (show A.length + k < 2 ^ 31 by omega), nI_1]
    refine ⟨vp_in_nI (by omega) (by omega), fun S6 e6 z ez => ?_⟩
    have x6 : Ex (fun z => z = y + 33) S S6 := by rw [e6]; exact (Ex.rf S).I rfl
    rw [ez]
    refine ih (k + 1) S6 (by omega) (hs.sm x6.1) ?_ (fun S' x' f' => hQ S' (x6.tr x') f')
    rw [show List.replicate (k + 1) (0 : B8) = List.replicate k 0 ++ [0] from List.replicate_succ', ← List.append_assoc]
    exact h1.snoc (by rw [e6, tI_sI, up_s, List.length_append, List.length_replicate]; rfl)
def wR (y : Nat) : Nat → Prop := fun z => y + 27 ≤ z ∧ z ≤ y + 35
theorem m_tagRecord {S : TS} {kk a1 N o : Nat} {key h c : List B8} {n : Int32} (hs : MS y S) (hkk : kk < 4) (hkey : key.length = 32) (ha : a1 < y + 27 ∨ y + 35 < a1) (hN : N < 65536) (hr : o + 3 + c.length ≤ N) (ht : te S a1 = some (.inl (.byte, N))) (hb : BR S (y + 15) (32 * kk) key) (hn : tI S (y + 16) kk = n) (hh : h.length = 3) (hc : c.length ≤ 272) (hl1 : BR S a1 o h) (hl2 : BR S a1 (o + 3) c)
    (hQ : ∀ S', Ex (wR y) S S' → BR S' (y + 34) 0 (stag key n h c) → Q none S') : C0 G J_M_tagRecord [.ref y, .ref a1, .int (nI o), .int (nI c.length), .int (nI kk)] S Q := by
  have h16 : (pz h).length = 16 := by rw [pz_len h (by omega), hh]
  have hm : (c ++ tzs c).length = c.length + (65536 - (16 + c.length)) % 16 := by simp [tzs]
  have hA : (pz h ++ (c ++ tzs c)).length = 16 + (c ++ tzs c).length := by rw [List.length_append, h16]
  refine v_M_tagRecord y a1 _ _ _ S Q (m_tr6 (by omega) hh hN (by omega) 16 0 S (by omega) hs ht hl1 (fun j hj => absurd hj (by simp)) (fun S1 x1 b1 => ?_))
  have hs1 := hs.sm x1.1
  refine m_tr49 (h := h) (c := c) (by omega) hh hc hN hr _ 0 S1 (Nat.zero_add _) hs1 (by rw [x1.1.1]; exact ht) (hl2.ex x1 (by omega)) (by simpa using b1) (fun S2 x2 b2 => ?_)
  have hs2 := hs1.sm x2.1
  rw [← hA]
  refine m_tr100 (A := pz h ++ (c ++ tzs c)) (cl := c.length) (P := fun _ => True) (by omega) (by omega) 16 0 S2 (by omega) hs2 (by simpa using b2) (fun S3 x3 b3 => ?_)
  have hs3 := hs2.sm x3.1
  have x13 := (x1.tr x2).tr x3
  rw [← ptext_eq hh] at b3
  have hpl := ptext_len h c hh (by omega)
  refine m_block2 (key := key) (n := n) hs3 hkk hkey (hb.ex x13 (by omega)) (by rw [(x13.2 (y + 16) (by omega)).1]; exact hn) (fun S4 x4 w4 => ⟨rfl, ?_⟩)
  have hs4 := hs3.sm x4.1
  rw [show (pz h ++ (c ++ tzs c)).length + 16 = (ptext h c).length by rw [hA, hpl]; omega]
  refine m_tagOf hs4 w4 (b3.ex x4 (by simp only [sQ]; omega)) (by omega) (by omega) (fun S5 x5 b5 => ⟨rfl, hQ S5 ?_ b5⟩)
  exact ((x13.mono (fun z h => by show y + 27 ≤ z ∧ z ≤ y + 35; omega)).tr (x4.mono (fun z h => by simp only [sQ] at h; show y + 27 ≤ z ∧ z ≤ y + 35; omega))).tr (x5.mono (fun z h => by simp only [tR2] at h; show y + 27 ≤ z ∧ z ≤ y + 35; omega))
end MTR
