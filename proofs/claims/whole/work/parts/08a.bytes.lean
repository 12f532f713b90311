/-! PURE: bytes, and rows of them -/
abbrev B8 : Type := BitVec 8
def zx (b : B8) : Int32 := Int32.ofBitVec (b.setWidth 32)
def sx (b : B8) : Int32 := Int32.ofBitVec (b.signExtend 32)
def b8 (x : Int32) : B8 := x.toBitVec.setWidth 8
theorem zx_nI (b : B8) : zx b = nI b.toNat := by
  apply Int32.toBitVec_inj.mp
  apply BitVec.eq_of_toNat_eq
  have h := b.isLt
  rw [pk_tn (by omega)]
  simp [zx]
  omega
theorem zx_lt (b : B8) : b.toNat < 256 := b.isLt
theorem zx_and (x : Int32) : x &&& 255 = zx (b8 x) := by
  apply Int32.toBitVec_inj.mp
  apply BitVec.eq_of_toNat_eq
  have h : (255 : Nat) = 2 ^ 8 - 1 := rfl
  simp only [zx, b8, Int32.toBitVec_and, BitVec.toNat_and, Int32.toBitVec_ofBitVec, BitVec.toNat_setWidth]
  rw [show ((255 : Int32).toBitVec).toNat = 2 ^ 8 - 1 from rfl, Nat.and_two_pow_sub_one_eq_mod]
  omega
theorem b8_zx (b : B8) : b8 (zx b) = b := by
  apply BitVec.eq_of_toNat_eq
  have h := b.isLt
  simp [b8, zx]
theorem b8_sx (b : B8) : b8 (sx b) = b := by
  apply BitVec.eq_of_getLsbD_eq
  intro i hi
  show (BitVec.setWidth 8 (BitVec.signExtend 32 b)).getLsbD i = b.getLsbD i
  rw [BitVec.getLsbD_setWidth, BitVec.getLsbD_signExtend]
  simp [hi, show i < 32 by omega]
theorem zx_inj {a b : B8} (h : zx a = zx b) : a = b := by rw [← b8_zx a, ← b8_zx b, h]
theorem sx_inj {a b : B8} (h : sx a = sx b) : a = b := by rw [← b8_sx a, ← b8_sx b, h]
theorem i8_sx (x : Int32) : x.toInt8.toInt32 = sx (b8 x) := by
  apply Int32.toBitVec_inj.mp
  simp only [sx, b8, Int32.toBitVec_ofBitVec, Int8.toBitVec_toInt32, Int32.toBitVec_toInt8]
  rw [BitVec.signExtend_eq_setWidth_of_le (v := 8) x.toBitVec (by decide)]
theorem sx_and (b : B8) : sx b &&& 255 = zx b := by rw [zx_and, b8_sx]
theorem b8_xor (x y : Int32) : b8 (x ^^^ y) = b8 x ^^^ b8 y := by
  simp [b8]
theorem zx_xor (a b : B8) : zx a ^^^ zx b = zx (a ^^^ b) := by
  apply Int32.toBitVec_inj.mp
  simp [zx]
/-! a Bytes -/
def BS (S : TS) (q N : Nat) : Prop := te S q = some (.inr 0) ∧ tR S q 0 = some (q + 1) ∧ te S (q + 1) = some (.inl (.int, N)) ∧ N < 65536
def BL (S : TS) (q : Nat) (l : List B8) : Prop := tI S q 1 = nI l.length ∧ ∀ j, j < l.length → tI S (q + 1) j = zx (l.getD j 0)
def BT (S : TS) (q N : Nat) (l : List B8) : Prop := BS S q N ∧ BL S q l ∧ l.length ≤ N
def Ex (P : Nat → Prop) (S S' : TS) : Prop := Sm0 S S' ∧ ∀ a, ¬ P a → tI S' a = tI S a ∧ tL S' a = tL S a
def bP (q : Nat) : Nat → Prop := fun a => a = q ∨ a = q + 1
theorem BS.sm {S S' : TS} {q N : Nat} (h : BS S q N) (e : Sm0 S S') : BS S' q N := by
  obtain ⟨h1, h2, h3, h4⟩ := h
  exact ⟨by rw [e.1]; exact h1, by rw [e.R]; exact h2, by rw [e.1]; exact h3, h4⟩
theorem BL.ex {P : Nat → Prop} {S S' : TS} {q : Nat} {l : List B8} (h : BL S q l) (e : Ex P S S') (h1 : ¬ P q) (h2 : ¬ P (q + 1)) : BL S' q l :=
  ⟨by rw [(e.2 q h1).1]; exact h.1, fun j hj => by rw [(e.2 (q + 1) h2).1]; exact h.2 j hj⟩
theorem BT.ex {P : Nat → Prop} {S S' : TS} {q N : Nat} {l : List B8} (h : BT S q N l) (e : Ex P S S') (h1 : ¬ P q) (h2 : ¬ P (q + 1)) : BT S' q N l := ⟨h.1.sm e.1, h.2.1.ex e h1 h2, h.2.2⟩
theorem Ex.rf {P : Nat → Prop} (S : TS) : Ex P S S := ⟨Sm0.rf S, fun _ _ => ⟨rfl, rfl⟩⟩
theorem Ex.tr {P : Nat → Prop} {S S1 S2 : TS} (h : Ex P S S1) (k : Ex P S1 S2) : Ex P S S2 := ⟨h.1.tr k.1, fun a ha => ⟨(k.2 a ha).1.trans (h.2 a ha).1, (k.2 a ha).2.trans (h.2 a ha).2⟩⟩
theorem Ex.mono {P P' : Nat → Prop} {S S' : TS} (h : Ex P S S') (hp : ∀ a, P a → P' a) : Ex P' S S' := ⟨h.1, fun a ha => h.2 a (fun z => ha (hp a z))⟩
theorem Ex.I {P : Nat → Prop} {S S1 : TS} {a : Nat} {f : Nat → Int32} (h : Ex P S S1) (ha : P a) : Ex P S (sI S1 a f) := by
  refine ⟨h.1.I, fun b hb => ?_⟩
  have hne : b ≠ a := fun e => hb (e ▸ ha)
  rw [tI_sI, tL_sI, up_n _ _ hne]
  exact h.2 b hb
theorem Ex.L {P : Nat → Prop} {S S1 : TS} {a : Nat} {f : Nat → Int64} (h : Ex P S S1) (ha : P a) : Ex P S (sL S1 a f) := by
  refine ⟨h.1.L, fun b hb => ?_⟩
  have hne : b ≠ a := fun e => hb (e ▸ ha)
  rw [tI_sL, tL_sL, up_n _ _ hne]
  exact h.2 b hb
section PB
variable {G : pG} {q N : Nat} {l : List B8} {S : TS}
theorem p_size {Q : Option Value → Prop} (h : BT S q N l) (hQ : Q (some (.int (nI l.length)))) : CP G J_Bytes_size [.ref q] S Q :=
  v_Bytes_size q S Q ⟨h.1.1, by rw [h.2.1.1]; exact hQ⟩
theorem p_has {Q : Option Value → Prop} {x : Int32} (h : BT S q N l) (h1 : ∀ j, j < l.length → x = nI j → Q (some (.int 1))) (h0 : (∀ j, j < l.length → x ≠ nI j) → Q (some (.int 0))) : CP G J_Bytes_has [.ref q, .int x] S Q := by
  have hl : l.length < 2 ^ 31 := by have := h.1.2.2.2; have := h.2.2; omega
  refine v_Bytes_has q x S Q ⟨fun c => h0 (fun j hj e => ?_), fun c => ⟨h.1.1, ?_⟩⟩
  · rw [e] at c
    exact nI_pos (by omega) c
  · rw [h.2.1.1]
    refine ⟨fun c2 => h0 (fun j hj e => ?_), fun c2 => ?_⟩
    · rw [e] at c2
      exact nI_ge hj hl c2
    · obtain ⟨j, hj, e1, -⟩ := pk_mu c c2 hl
      exact h1 j hj e1
theorem p_at {Q : Option Value → Prop} {j : Nat} (h : BT S q N l) (hj : j < l.length) (hQ : Q (some (.int (zx (l.getD j 0))))) : CP G J_Bytes_at [.ref q, .int (nI j)] S Q := by
  have hN := h.1.2.2.2
  have hl := h.2.2
  refine v_Bytes_at q (nI j) S Q ⟨fun c => absurd c (nI_pos (by omega)), fun c => ⟨h.1.1, ?_⟩⟩
  rw [h.2.1.1]
  refine ⟨fun c2 => absurd c2 (nI_ge hj (by omega)), fun c2 => ⟨q + 1, h.1.2.1, N, h.1.2.2.1, vp_in_nI (by omega) (by omega), ?_⟩⟩
  rw [nI_clamp (by omega), h.2.1.2 j hj]
  exact hQ
theorem p_at0 {Q : Option Value → Prop} {j : Nat} (h : BT S q N l) (hj : l.length ≤ j) (hj2 : j < 2 ^ 31) (hQ : Q (some (.int 0))) : CP G J_Bytes_at [.ref q, .int (nI j)] S Q := by
  refine v_Bytes_at q (nI j) S Q ⟨fun c => absurd c (nI_pos (by omega)), fun c => ⟨h.1.1, ?_⟩⟩
  rw [h.2.1.1]
  exact ⟨fun _ => hQ, fun c2 => absurd (nI_le hj hj2) c2⟩
theorem p_put {Q : Option Value → TS → Prop} {x : Int32} (h : BT S q N l) (hl : l.length < N) (hQ : ∀ S', Ex (bP q) S S' → BT S' q N (l ++ [b8 x]) → Q none S') : C0 G J_Bytes_put [.ref q, .int x] S Q := by
  obtain ⟨⟨h1, h2, h3, h4⟩, ⟨h5, h6⟩, h7⟩ := id h
  refine v_Bytes_put q x S Q ⟨h1, q + 1, h2, N, h3, fun c => ?_, fun c => ?_⟩
  · rw [h5] at c
    exact absurd c (nI_ge hl (by omega))
  · rw [h5]
    refine ⟨vp_in_nI hl (by omega), ?_⟩
    rw [nI_clamp (by omega), zx_and]
    intro S6 e6 S7 e7
    have hx : Ex (bP q) S S7 := by rw [e7, e6]; exact ((Ex.rf S).I (Or.inr rfl)).I (Or.inl rfl)
    have g6 : tI S6 q = tI S q := by rw [e6, tI_sI, up_n _ _ (by omega)]
    have g7 : tI S7 q = upd (tI S q) 1 (nI l.length + 1) := by rw [e7, tI_sI, up_s, g6, h5]
    have g8 : tI S7 (q + 1) = upd (tI S (q + 1)) l.length (zx (b8 x)) := by rw [e7, tI_sI, up_n _ _ (by omega), e6, tI_sI, up_s]
    refine hQ S7 hx ⟨h.1.sm hx.1, ⟨?_, fun j hj => ?_⟩, by simp; omega⟩
    · rw [g7, pk_us, nI_1]
      simp
    · rw [g8]
      have hj2 : j < l.length + 1 := by simpa using hj
      by_cases hjl : j = l.length
      · rw [hjl, pk_us]
        simp
      · rw [pk_un hjl, h6 j (by omega)]
        simp [List.getD_eq_getElem?_getD, List.getElem?_append_left (show j < l.length by omega)]
theorem p_clear {Q : Option Value → TS → Prop} (h : BS S q N) (hQ : ∀ S', Ex (bP q) S S' → BT S' q N [] → Q none S') : C0 G J_Bytes_clear [.ref q] S Q := by
  refine v_Bytes_clear q S Q ⟨h.1, fun S2 e2 => ?_⟩
  have hx : Ex (bP q) S S2 := by rw [e2]; exact (Ex.rf S).I (Or.inl rfl)
  refine hQ S2 hx ⟨h.sm hx.1, ⟨?_, fun j hj => by simp at hj⟩, Nat.zero_le _⟩
  rw [e2, tI_sI, up_s, pk_us]
  rfl
theorem p_cut {Q : Option Value → TS → Prop} {n : Nat} (h : BT S q N l) (hn : n ≤ l.length) (hQ : ∀ S', Ex (bP q) S S' → BT S' q N (l.take n) → Q none S') : C0 G J_Bytes_cut [.ref q, .int (nI n)] S Q := by
  have hN := h.1.2.2.2
  have hl := h.2.2
  refine v_Bytes_cut q (nI n) S Q ⟨fun c => absurd c (nI_pos (by omega)), fun c => ⟨h.1.1, ?_⟩⟩
  rw [h.2.1.1]
  refine ⟨fun c2 => ?_, fun c2 S2 e2 => ?_⟩
  · have e : n = l.length := by
      have := (nI_leI (a := l.length) (b := n) (by omega) (by omega)).mp c2
      omega
    refine hQ S (Ex.rf S) ?_
    rw [e, List.take_length]
    exact h
  · have hx : Ex (bP q) S S2 := by rw [e2]; exact (Ex.rf S).I (Or.inl rfl)
    refine hQ S2 hx ⟨h.1.sm hx.1, ⟨?_, fun j hj => ?_⟩, by simp; omega⟩
    · rw [e2, tI_sI, up_s, pk_us]
      simp [Nat.min_eq_left hn]
    · have hj2 : j < n := by simp at hj; omega
      rw [e2, tI_sI, up_n _ _ (by omega), h.2.1.2 j (by omega)]
      simp [List.getD_eq_getElem?_getD, List.getElem?_take, hj2]
theorem p_putPart {Q : Option Value → TS → Prop} {q2 N2 st n : Nat} {l2 : List B8} (h : BT S q N l) (h2 : BT S q2 N2 l2) (hn : st + n ≤ l2.length) (hr : l.length + n ≤ N) (hQ : ∀ S', Ex (bP q) S S' → BT S' q N (l ++ (l2.drop st).take n) → Q none S') : C0 G J_Bytes_putPart [.ref q, .ref q2, .int (nI st), .int (nI n)] S Q := by
  have hN := h.1.2.2.2
  have hl := h.2.2
  have hN2 := h2.1.2.2.2
  have hl2 := h2.2.2
  refine v_Bytes_putPart q q2 (nI st) (nI n) S Q ⟨fun c => absurd c (nI_pos (by omega)), fun c => ⟨fun c2 => absurd c2 (nI_pos (by omega)), fun c2 => ⟨h2.1.1, ?_⟩⟩⟩
  rw [h2.2.1.1, pk_sub (by omega)]
  refine ⟨fun c3 => absurd c3 (nI_nlt (by omega) (by omega)), fun c3 => ⟨h.1.1, q + 1, h.1.2.1, N, h.1.2.2.1, ?_⟩⟩
  rw [h.2.1.1, pk_sub (by omega)]
  refine ⟨fun c4 => ⟨q2 + 1, h2.1.2.1, N2, h2.1.2.2.1, c, nI_pos (by omega), c2, ?_⟩, fun c4 => absurd (nI_le (by omega) (by omega)) c4⟩
  rw [nI_clamp (by omega), nI_clamp (by omega), nI_clamp (by omega)]
  refine ⟨by omega, by omega, fun S3 e3 S4 e4 => ?_⟩
  have hx : Ex (bP q) S S4 := by rw [e4, e3]; exact ((Ex.rf S).I (Or.inr rfl)).I (Or.inl rfl)
  have g3 : tI S3 q = tI S q := by rw [e3, tI_sI, up_n _ _ (by omega)]
  have g4 : tI S4 q = upd (tI S q) 1 (nI l.length + nI n) := by rw [e4, tI_sI, up_s, g3, h.2.1.1]
  have g5 : tI S4 (q + 1) = va_cpy (tI S (q2 + 1)) (tI S (q + 1)) st l.length n := by rw [e4, tI_sI, up_n _ _ (by omega), e3, tI_sI, up_s]
  refine hQ S4 hx ⟨h.1.sm hx.1, ⟨?_, fun j hj => ?_⟩, by simp; omega⟩
  · rw [g4, pk_us, nI_add]
    congr 1
    simp
    omega
  · have hj2 : j < l.length + n := by simp at hj; omega
    rw [g5]
    by_cases hjl : j < l.length
    · rw [pk_cpy_out (Or.inl hjl), h.2.1.2 j hjl]
      simp [List.getD_eq_getElem?_getD, List.getElem?_append_left hjl]
    · rw [pk_cpy_in (by omega) (by omega), h2.2.1.2 _ (by omega)]
      simp only [List.getD_eq_getElem?_getD]
      rw [List.getElem?_append_right (by omega), List.getElem?_take, if_pos (by omega), List.getElem?_drop]
theorem p_putAll {Q : Option Value → TS → Prop} {q2 N2 : Nat} {l2 : List B8} (h : BT S q N l) (h2 : BT S q2 N2 l2) (hr : l.length + l2.length ≤ N) (hQ : ∀ S', Ex (bP q) S S' → BT S' q N (l ++ l2) → Q none S') : C0 G J_Bytes_putAll [.ref q, .ref q2] S Q := by
  refine v_Bytes_putAll q q2 S Q ⟨h2.1.1, h.1.1, ?_⟩
  rw [h2.2.1.1]
  refine p_putPart (st := 0) h h2 (by omega) hr (fun S' e hb => ⟨rfl, hQ S' e ?_⟩)
  simpa using hb
theorem p_become {Q : Option Value → TS → Prop} {q2 N2 : Nat} {l2 : List B8} (h : BS S q N) (h2 : BT S q2 N2 l2) (hne : q ≠ q2 ∧ q ≠ q2 + 1) (hr : l2.length ≤ N) (hQ : ∀ S', Ex (bP q) S S' → BT S' q N l2 → Q none S') : C0 G J_Bytes_become [.ref q, .ref q2] S Q := by
  refine v_Bytes_become q q2 S Q ⟨h.1, fun S2 e2 => ?_⟩
  have hx : Ex (fun a => a = q) S S2 := by rw [e2]; exact (Ex.rf S).I rfl
  have h2' : BT S2 q2 N2 l2 := h2.ex hx (fun e => hne.1 e.symm) (fun e => hne.2 e.symm)
  have hb : BT S2 q N [] := by
    refine ⟨h.sm hx.1, ⟨?_, fun j hj => by simp at hj⟩, Nat.zero_le _⟩
    rw [e2, tI_sI, up_s, pk_us]
    rfl
  refine ⟨h2'.1.1, ?_⟩
  rw [h2'.2.1.1]
  refine p_putPart (st := 0) hb h2' (by omega) (by simpa using hr) (fun S' e hb => ⟨rfl, hQ S' ((hx.mono (fun a z => Or.inl z)).tr e) ?_⟩)
  simpa using hb
/-- the loop of holdsAt: from place k on, the rows agree so far iff the flag is 1 -/
theorem p_holds_loop {Q : Option Value → Prop} {q2 N2 st : Nat} {l2 : List B8} (h : BT S q N l) (h2 : BT S q2 N2 l2) (hn : st + l2.length ≤ l.length) (hQ : ∀ f : Int32, f = (if (l.drop st).take l2.length = l2 then 1 else 0) → Q (some (.int f))) :
    ∀ (n k : Nat) (f : Int32), k + n = l2.length → f = (if (l.drop st).take k = l2.take k then 1 else 0) → TP G J_Bytes_holdsAt 26 [(0, .ref q), (1, .int (nI st)), (2, .ref q2), (3, .int f), (4, .int (nI k))] [] S Q := by
  have hN := h.1.2.2.2
  have hl := h.2.2
  have hN2 := h2.1.2.2.2
  have hl2 := h2.2.2
  have hno : ∀ k, k ≤ l2.length → ¬ (l.drop st).take k = l2.take k → ¬ (l.drop st).take l2.length = l2 := by
    intro k hk hne he
    apply hne
    have e2 := congrArg (List.take k) he
    rwa [List.take_take, Nat.min_eq_left hk] at e2
  intro n
  induction n with
  | zero =>
    intro k f hk hf
    have hk : k = l2.length := by omega
    subst hk
    rw [List.take_length] at hf
    refine v_Bytes_holdsAt_26 q (nI st) q2 f (nI l2.length) S Q ⟨fun c => ⟨Or.inl c, hQ f hf⟩, fun c => ⟨h2.1.1, ?_⟩⟩
    rw [h2.2.1.1]
    refine ⟨fun _ => ⟨?_, hQ f hf⟩, fun c2 => absurd (Int32.le_refl _) c2⟩
    by_cases hc : (l.drop st).take l2.length = l2
    · rw [if_pos hc] at hf; exact Or.inr hf
    · rw [if_neg hc] at hf; exact absurd hf c
  | succ n ih =>
    intro k f hk hf
    have hkl : k < l2.length := by omega
    refine v_Bytes_holdsAt_26 q (nI st) q2 f (nI k) S Q ⟨fun c => ⟨Or.inl c, ?_⟩, fun c => ⟨h2.1.1, ?_⟩⟩
    · by_cases hc : (l.drop st).take k = l2.take k
      · rw [if_pos hc, c] at hf; exact absurd hf (by decide)
      · refine hQ f ?_
        rw [if_neg (hno k (by omega) hc)]
        exact c
    · rw [h2.2.1.1]
      have hc : (l.drop st).take k = l2.take k := by
        by_cases hc : (l.drop st).take k = l2.take k
        · exact hc
        · rw [if_neg hc] at hf; exact absurd hf c
      refine ⟨fun c2 => absurd c2 (nI_ge hkl (by omega)), fun c2 => ⟨h.1.1, q + 1, h.1.2.1, N, h.1.2.2.1, ?_⟩⟩
      rw [nI_add]
      refine ⟨vp_in_nI (by omega) (by omega), q2 + 1, h2.1.2.1, N2, h2.1.2.2.1, vp_in_nI (by omega) (by omega), ?_⟩
      rw [nI_clamp (by omega), nI_clamp (by omega), h.2.1.2 _ (by omega), h2.2.1.2 _ (by omega)]
      have ek : ((l.drop st).take (k + 1) = l2.take (k + 1)) ↔ l.getD (st + k) 0 = l2.getD k 0 := by
        rw [List.take_add_one, List.take_add_one, hc, List.append_cancel_left_eq]
        simp only [List.getElem?_drop, List.getD_eq_getElem?_getD]
        rw [List.getElem?_eq_getElem (show st + k < l.length by omega), List.getElem?_eq_getElem (show k < l2.length by omega)]
        simp only [Option.toList, Option.getD_some, List.cons.injEq, and_true]
      refine ⟨fun c3 y hy => ?_, fun c3 y hy => ?_⟩
      · rw [hy, nI_1]
        refine ih (k + 1) 0 (by omega) ?_
        rw [if_neg (fun z => c3 (by rw [ek.mp z]))]
      · rw [hy, nI_1]
        refine ih (k + 1) 1 (by omega) ?_
        rw [if_pos (ek.mpr (zx_inj c3))]
theorem p_holdsAt {Q : Option Value → Prop} {q2 N2 st : Nat} {l2 : List B8} (h : BT S q N l) (h2 : BT S q2 N2 l2) (hn : st + l2.length ≤ l.length) (hQ : ∀ f : Int32, f = (if (l.drop st).take l2.length = l2 then 1 else 0) → Q (some (.int f))) : CP G J_Bytes_holdsAt [.ref q, .int (nI st), .ref q2] S Q := by
  have hN := h.1.2.2.2
  have hl := h.2.2
  have hN2 := h2.1.2.2.2
  have hl2 := h2.2.2
  refine v_Bytes_holdsAt q (nI st) q2 S Q ⟨fun c => absurd c (nI_pos (by omega)), fun c => ⟨h.1.1, h2.1.1, ?_⟩⟩
  rw [h.2.1.1, h2.2.1.1, pk_sub (by omega)]
  refine ⟨fun c2 => absurd c2 (nI_nlt (by omega) (by omega)), fun c2 => ?_⟩
  exact p_holds_loop h h2 hn hQ l2.length 0 1 (by omega) (by simp)
theorem p_same {Q : Option Value → Prop} {q2 N2 : Nat} {l2 : List B8} (h : BT S q N l) (h2 : BT S q2 N2 l2) (hQ : ∀ f : Int32, f = (if l = l2 then 1 else 0) → Q (some (.int f))) : CP G J_Bytes_same [.ref q, .ref q2] S Q := by
  have hN := h.1.2.2.2
  have hl := h.2.2
  have hN2 := h2.1.2.2.2
  have hl2 := h2.2.2
  refine v_Bytes_same q q2 S Q ⟨h.1.1, h2.1.1, ?_⟩
  rw [h.2.1.1, h2.2.1.1]
  refine ⟨fun c => hQ 0 ?_, fun c => ?_⟩
  · rw [if_neg (fun e => c (by rw [e]))]
  · have e : l.length = l2.length := (nI_eq (by omega) (by omega)).mp c
    refine p_holdsAt (st := 0) h h2 (by omega) (fun f hf => ⟨f, rfl, ?_⟩)
    rw [List.drop_zero, ← e, List.take_length] at hf
    refine ⟨fun c2 => hQ 0 (c2.symm.trans hf), fun c2 => hQ 1 ?_⟩
    by_cases hc : l = l2
    · rw [if_pos hc]
    · rw [if_neg hc] at hf; exact absurd hf c2
/-- four bytes of a number, the highest first -/
def be4 (x : Int32) : List B8 := [b8 (ushr x 24), b8 (ushr x 16), b8 (ushr x 8), b8 x]
theorem p_putNumber {Q : Option Value → TS → Prop} {x : Int32} (h : BT S q N l) (hl : l.length + 4 ≤ N) (hQ : ∀ S', Ex (bP q) S S' → BT S' q N (l ++ be4 x) → Q none S') : C0 G J_Bytes_putNumber [.ref q, .int x] S Q := by
  refine v_Bytes_putNumber q x S Q ⟨h.1.1, ?_⟩
  refine p_put h (by omega) (fun S1 e1 b1 => ⟨rfl, ?_⟩)
  refine p_put b1 (by simp; omega) (fun S2 e2 b2 => ⟨rfl, ?_⟩)
  refine p_put b2 (by simp; omega) (fun S3 e3 b3 => ⟨rfl, ?_⟩)
  refine p_put b3 (by simp; omega) (fun S4 e4 b4 => ⟨rfl, ?_⟩)
  refine hQ S4 (((e1.tr e2).tr e3).tr e4) ?_
  simpa [be4] using b4
theorem p_putHead {Q : Option Value → TS → Prop} {x y : Int32} (h : BT S q N l) (hl : l.length + 3 ≤ N) (hQ : ∀ S', Ex (bP q) S S' → BT S' q N (l ++ [b8 x, b8 (ushr y 8), b8 y]) → Q none S') : C0 G J_Bytes_putHead [.ref q, .int x, .int y] S Q := by
  refine v_Bytes_putHead q x y S Q ⟨h.1.1, ?_⟩
  refine p_put h (by omega) (fun S1 e1 b1 => ⟨rfl, ?_⟩)
  refine p_put b1 (by simp; omega) (fun S2 e2 b2 => ⟨rfl, ?_⟩)
  refine p_put b2 (by simp; omega) (fun S3 e3 b3 => ⟨rfl, ?_⟩)
  refine hQ S3 ((e1.tr e2).tr e3) ?_
  simpa using b3
/-- the number in four bytes, the highest first -/
def num4 (a b c d : B8) : Int32 := (((zx a <<< ((24 : Int32) &&& 31)) ||| (zx b <<< ((16 : Int32) &&& 31))) ||| (zx c <<< ((8 : Int32) &&& 31))) ||| zx d
theorem p_numberAt {Q : Option Value → Prop} {j : Nat} (h : BT S q N l) (hj : j + 4 ≤ l.length) (hQ : Q (some (.int (num4 (l.getD j 0) (l.getD (j + 1) 0) (l.getD (j + 2) 0) (l.getD (j + 3) 0))))) : CP G J_Bytes_numberAt [.ref q, .int (nI j)] S Q := by
  have hN := h.1.2.2.2
  have hl := h.2.2
  refine v_Bytes_numberAt q (nI j) S Q ⟨fun c => absurd c (nI_pos (by omega)), fun c => ⟨h.1.1, ?_⟩⟩
  have e4 : (4 : Int32) = nI 4 := rfl
  have e1 : nI j + (1 : Int32) = nI (j + 1) := nI_1 j
  have e2 : nI j + (2 : Int32) = nI (j + 2) := nI_add j 2
  have e3 : nI j + (3 : Int32) = nI (j + 3) := nI_add j 3
  rw [h.2.1.1, e4, pk_sub (by omega), e1, e2, e3]
  refine ⟨fun c2 => ⟨q + 1, h.1.2.1, N, h.1.2.2.1, vp_in_nI (by omega) (by omega), vp_in_nI (by omega) (by omega), vp_in_nI (by omega) (by omega), vp_in_nI (by omega) (by omega), ?_⟩, fun c2 => absurd (nI_le (by omega) (by omega)) c2⟩
  rw [nI_clamp (by omega), nI_clamp (by omega), nI_clamp (by omega), nI_clamp (by omega), h.2.1.2 _ (by omega), h.2.1.2 _ (by omega), h.2.1.2 _ (by omega), h.2.1.2 _ (by omega)]
  exact hQ
theorem p_flipBits {Q : Option Value → TS → Prop} {j : Nat} {x : Int32} (h : BT S q N l) (hj : j < l.length) (hQ : ∀ S', Ex (bP q) S S' → BT S' q N (l.set j (l.getD j 0 ^^^ b8 x)) → Q (some (.int (zx (l.getD j 0 ^^^ b8 x)))) S') : C0 G J_Bytes_flipBits [.ref q, .int (nI j), .int x] S Q := by
  have hN := h.1.2.2.2
  have hl := h.2.2
  refine v_Bytes_flipBits q (nI j) x S Q ⟨h.1.1, ?_⟩
  refine p_has h (fun j2 hj2 ej => ?_) (fun hno => absurd rfl (hno j hj))
  have : j = j2 := (nI_eq (by omega) (by omega)).mp ej
  subst this
  refine ⟨1, rfl, fun c => absurd c (by decide), fun c => ⟨q + 1, h.1.2.1, N, h.1.2.2.1, vp_in_nI (by omega) (by omega), vp_in_nI (by omega) (by omega), ?_⟩⟩
  rw [nI_clamp (by omega), h.2.1.2 _ hj, zx_and, zx_xor]
  intro S8 e8
  have hx : Ex (bP q) S S8 := by rw [e8]; exact (Ex.rf S).I (Or.inr rfl)
  have hb : BT S8 q N (l.set j (l.getD j 0 ^^^ b8 x)) := by
    refine ⟨h.1.sm hx.1, ⟨?_, fun k hk => ?_⟩, by simp; omega⟩
    · rw [e8, tI_sI, up_n _ _ (by omega), h.2.1.1]
      simp
    · have hk2 : k < l.length := by simpa using hk
      rw [e8, tI_sI, up_s]
      by_cases hkj : k = j
      · subst hkj
        rw [pk_us]
        simp [List.getD_eq_getElem?_getD, hk2]
      · rw [pk_un hkj, h.2.1.2 k hk2]
        simp [List.getD_eq_getElem?_getD, List.getElem?_set, Ne.symm hkj]
  refine p_at hb (by simpa using hj) ⟨_, rfl, ?_⟩
  have e : (l.set j (l.getD j 0 ^^^ b8 x)).getD j 0 = l.getD j 0 ^^^ b8 x := by simp [List.getD_eq_getElem?_getD, hj]
  rw [e]
  exact hQ S8 hx hb
theorem p_tells {Q : Option Value → Prop} (h : BT S q N l) (hQ : ∀ f : Int32, f = (if 3 ≤ l.length ∧ (zx (l.getD 1 0) <<< ((8 : Int32) &&& 31)) ||| zx (l.getD 2 0) = nI (l.length - 3) then 1 else 0) → Q (some (.int f))) : CP G J_Bytes_tellsItsLength [.ref q] S Q := by
  have hN := h.1.2.2.2
  have hl := h.2.2
  refine v_Bytes_tellsItsLength q S Q ⟨h.1.1, ?_⟩
  rw [h.2.1.1]
  have e3 : (3 : Int32) = nI 3 := rfl
  refine ⟨fun c => hQ 0 ?_, fun c => ?_⟩
  · rw [e3, nI_ltI (by omega) (by omega)] at c
    rw [if_neg (fun z => by omega)]
  · rw [e3, nI_ltI (by omega) (by omega)] at c
    refine p_at (j := 1) h (by omega) ⟨_, rfl, p_at (j := 2) h (by omega) ⟨_, rfl, ?_⟩⟩
    rw [e3, pk_sub (by omega)]
    refine ⟨fun c2 => hQ 0 ?_, fun c2 => hQ 1 ?_⟩
    · rw [if_neg (fun z => c2 z.2)]
    · rw [if_pos ⟨by omega, c2⟩]
end PB
