/-! PURE: ChaCha20 of the reference -/
theorem sw_rvb (x : Int32) : (((x <<< ((24 : Int32) &&& 31)) ||| ((x &&& (65280 : Int32)) <<< ((8 : Int32) &&& 31))) ||| ((x >>> ((8 : Int32) &&& 31)) &&& (65280 : Int32))) ||| (ushr x 24) = rvb x := by
  unfold rvb
  have e : (x >>> ((8 : Int32) &&& 31)) &&& (65280 : Int32) = (ushr x 8) &&& (65280 : Int32) := by
    apply b_ext
    intro i hi
    have h1 : bt (x >>> (nI 8 &&& 31)) i = if 8 + i < 32 then bt x (8 + i) else bt x 31 := b_sshr 8 (by omega) x hi
    have h2 : bt (ushr x (nI 8)) i = bt x (8 + i) := b_ushr 8 (by omega) x i
    have hm : ∀ i, i < 32 → bt 65280 i = (decide (8 ≤ i) && decide (i < 16)) := by decide +kernel
    rw [b_and, b_and, hm i hi]
    by_cases h16 : i < 16
    · rw [if_pos (by omega)] at h1
      have e1 : bt (x >>> ((8 : Int32) &&& 31)) i = bt (ushr x 8) i := h1.trans h2.symm
      rw [e1]
    · simp [h16]
  rw [e]
theorem td_rl (x : Int32) (n : Nat) (hn : n = 16 ∨ n = 12 ∨ n = 8 ∨ n = 7) : (x <<< (nI n &&& 31)) ||| (ushr x ((32 : Int32) - nI n)) = rl x (nI n) := by
  unfold rl
  congr 1
  rcases hn with rfl | rfl | rfl | rfl <;> rfl
theorem qr_seq (f : Nat → Int32) {i j k l : Nat} (hij : i ≠ j) (hik : i ≠ k) (hil : i ≠ l) (hjk : j ≠ k) (hjl : j ≠ l) (hkl : k ≠ l) {f1 f2 f3 f4 f5 f6 f7 f8 : Nat → Int32}
    (e1 : f1 = upd f i (f i + f j)) (e2 : f2 = upd f1 l (rl (f1 l ^^^ f1 i) 16)) (e3 : f3 = upd f2 k (f2 k + f2 l)) (e4 : f4 = upd f3 j (rl (f3 j ^^^ f3 k) 12)) (e5 : f5 = upd f4 i (f4 i + f4 j)) (e6 : f6 = upd f5 l (rl (f5 l ^^^ f5 i) 8)) (e7 : f7 = upd f6 k (f6 k + f6 l)) (e8 : f8 = upd f7 j (rl (f7 j ^^^ f7 k) 7)) : f8 = qr f i j k l := by
  have u : ∀ (g : Nat → Int32) (a b : Nat) (v : Int32), upd g a v b = if b = a then v else g b := fun g a b v => rfl
  have a1i : f1 i = f i + f j := by rw [e1, pk_us]
  have a1l : f1 l = f l := by rw [e1, pk_un (Ne.symm hil)]
  have a1k : f1 k = f k := by rw [e1, pk_un (Ne.symm hik)]
  have a1j : f1 j = f j := by rw [e1, pk_un (Ne.symm hij)]
  have a2l : f2 l = rl (f l ^^^ (f i + f j)) 16 := by rw [e2, pk_us, a1l, a1i]
  have a2i : f2 i = f i + f j := by rw [e2, pk_un hil, a1i]
  have a2k : f2 k = f k := by rw [e2, pk_un hkl, a1k]
  have a2j : f2 j = f j := by rw [e2, pk_un hjl, a1j]
  have a3k : f3 k = f k + rl (f l ^^^ (f i + f j)) 16 := by rw [e3, pk_us, a2k, a2l]
  have a3i : f3 i = f i + f j := by rw [e3, pk_un hik, a2i]
  have a3j : f3 j = f j := by rw [e3, pk_un hjk, a2j]
  have a3l : f3 l = rl (f l ^^^ (f i + f j)) 16 := by rw [e3, pk_un (Ne.symm hkl), a2l]
  have a4j : f4 j = rl (f j ^^^ (f k + rl (f l ^^^ (f i + f j)) 16)) 12 := by rw [e4, pk_us, a3j, a3k]
  have a4i : f4 i = f i + f j := by rw [e4, pk_un hij, a3i]
  have a4k : f4 k = f k + rl (f l ^^^ (f i + f j)) 16 := by rw [e4, pk_un (Ne.symm hjk), a3k]
  have a4l : f4 l = rl (f l ^^^ (f i + f j)) 16 := by rw [e4, pk_un (Ne.symm hjl), a3l]
  have a5i : f5 i = (f i + f j) + rl (f j ^^^ (f k + rl (f l ^^^ (f i + f j)) 16)) 12 := by rw [e5, pk_us, a4i, a4j]
  have a5l : f5 l = rl (f l ^^^ (f i + f j)) 16 := by rw [e5, pk_un (Ne.symm hil), a4l]
  have a5k : f5 k = f k + rl (f l ^^^ (f i + f j)) 16 := by rw [e5, pk_un (Ne.symm hik), a4k]
  have a5j : f5 j = rl (f j ^^^ (f k + rl (f l ^^^ (f i + f j)) 16)) 12 := by rw [e5, pk_un (Ne.symm hij), a4j]
  have a6l : f6 l = rl (rl (f l ^^^ (f i + f j)) 16 ^^^ ((f i + f j) + rl (f j ^^^ (f k + rl (f l ^^^ (f i + f j)) 16)) 12)) 8 := by rw [e6, pk_us, a5l, a5i]
  have a6i' := (show f6 i = f5 i by rw [e6, pk_un hil]).trans a5i
  have a6k : f6 k = f k + rl (f l ^^^ (f i + f j)) 16 := by rw [e6, pk_un hkl, a5k]
  have a6j : f6 j = rl (f j ^^^ (f k + rl (f l ^^^ (f i + f j)) 16)) 12 := by rw [e6, pk_un hjl, a5j]
  have a7k : f7 k = (f k + rl (f l ^^^ (f i + f j)) 16) + rl (rl (f l ^^^ (f i + f j)) 16 ^^^ ((f i + f j) + rl (f j ^^^ (f k + rl (f l ^^^ (f i + f j)) 16)) 12)) 8 := by rw [e7, pk_us, a6k, a6l]
  have a7i := (show f7 i = f6 i by rw [e7, pk_un hik]).trans a6i'
  have a7j := (show f7 j = f6 j by rw [e7, pk_un hjk]).trans a6j
  have a7l := (show f7 l = f6 l by rw [e7, pk_un (Ne.symm hkl)]).trans a6l
  funext z
  unfold qr
  by_cases zl : z = l
  · subst zl
    rw [pk_us, e8, pk_un (Ne.symm hjl), a7l]
  · rw [pk_un zl]
    by_cases zk : z = k
    · subst zk
      rw [pk_us, e8, pk_un (Ne.symm hjk), a7k]
    · rw [pk_un zk]
      by_cases zj : z = j
      · subst zj
        rw [pk_us, e8, pk_us, a7j, a7k]
      · rw [pk_un zj]
        by_cases zi : z = i
        · subst zi
          rw [pk_us, e8, pk_un hij, a7i]
        · rw [pk_un zi, e8, pk_un zj, e7, pk_un zk, e6, pk_un zl, e5, pk_un zi, e4, pk_un zj, e3, pk_un zk, e2, pk_un zl, e1, pk_un zi]
section MCH
variable {G : pG} {y : Nat} {Q : Option Value → TS → Prop}
theorem m_turned {S : TS} {Q : Option Value → Prop} {x : Int32} {n : Nat} (hn : n = 16 ∨ n = 12 ∨ n = 8 ∨ n = 7) (hQ : Q (some (.int (rl x (nI n))))) : CP G J_M_turned [.int x, .int (nI n)] S Q := by
  refine v_M_turned _ _ S Q ?_
  rw [td_rl x n hn]
  exact hQ
theorem m_mix {S : TS} {i j k l : Nat} (hs : MS y S) (hi : i < 16) (hj : j < 16) (hk : k < 16) (hl : l < 16) (hij : i ≠ j) (hik : i ≠ k) (hil : i ≠ l) (hjk : j ≠ k) (hjl : j ≠ l) (hkl : k ≠ l) (hQ : ∀ S', Ex (fun a => a = y + 27) S S' → tI S' (y + 27) = qr (tI S (y + 27)) i j k l → Q none S') : C0 G J_M_mix [.ref y, .int (nI i), .int (nI j), .int (nI k), .int (nI l)] S Q := by
  have hin : ∀ z, z < 16 → vp_in (nI z) 16 := fun z hz => vp_in_nI hz (by omega)
  refine v_M_mix y _ _ _ _ S Q ⟨hs.1, y + 27, hs.r 27 (by omega) (by omega), 16, hs.t 27 (by omega) (by omega), ?_⟩
  rw [nI_clamp (show i < 2 ^ 31 by omega), nI_clamp (show j < 2 ^ 31 by omega), nI_clamp (show k < 2 ^ 31 by omega), nI_clamp (show l < 2 ^ 31 by omega)]
  refine ⟨hin i hi, hin j hj, hin i hi, fun S6 e6 => ⟨hin l hl, hin i hi, m_turned (n := 16) (by omega) ⟨_, rfl, hin l hl, fun S8 e8 => ⟨hin k hk, hin l hl, hin k hk, fun S9 e9 => ⟨hin j hj, hin k hk, m_turned (n := 12) (by omega) ⟨_, rfl, hin j hj, fun S11 e11 => ⟨hin i hi, hin j hj, hin i hi, fun S12 e12 => ⟨hin l hl, hin i hi, m_turned (n := 8) (by omega) ⟨_, rfl, hin l hl, fun S14 e14 => ⟨hin k hk, hin l hl, hin k hk, fun S15 e15 => ⟨hin j hj, hin k hk, m_turned (n := 7) (by omega) ⟨_, rfl, hin j hj, fun S17 e17 => ?_⟩⟩⟩⟩⟩⟩⟩⟩⟩⟩⟩⟩
  have x6 : Ex (fun a => a = y + 27) S S6 := by rw [e6]; exact (Ex.rf S).I rfl
  have x8 : Ex (fun a => a = y + 27) S S8 := by rw [e8]; exact x6.I rfl
  have x9 : Ex (fun a => a = y + 27) S S9 := by rw [e9]; exact x8.I rfl
  have x11 : Ex (fun a => a = y + 27) S S11 := by rw [e11]; exact x9.I rfl
  have x12 : Ex (fun a => a = y + 27) S S12 := by rw [e12]; exact x11.I rfl
  have x14 : Ex (fun a => a = y + 27) S S14 := by rw [e14]; exact x12.I rfl
  have x15 : Ex (fun a => a = y + 27) S S15 := by rw [e15]; exact x14.I rfl
  have x17 : Ex (fun a => a = y + 27) S S17 := by rw [e17]; exact x15.I rfl
  refine hQ S17 x17 (qr_seq (tI S (y + 27)) hij hik hil hjk hjl hkl (f1 := tI S6 (y + 27)) (f2 := tI S8 (y + 27)) (f3 := tI S9 (y + 27)) (f4 := tI S11 (y + 27)) (f5 := tI S12 (y + 27)) (f6 := tI S14 (y + 27)) (f7 := tI S15 (y + 27)) ?_ ?_ ?_ ?_ ?_ ?_ ?_ ?_)
  · rw [e6, tI_sI, up_s]
  · rw [e8, tI_sI, up_s]; rfl
  · rw [e9, tI_sI, up_s]
  · rw [e11, tI_sI, up_s]; rfl
  · rw [e12, tI_sI, up_s]
  · rw [e14, tI_sI, up_s]; rfl
  · rw [e15, tI_sI, up_s]
  · rw [e17, tI_sI, up_s]; rfl
theorem m_c34 {kk : Nat} {key : List B8} {n c : Int32} (hkk : kk < 4) (hkey : key.length = 32) : ∀ (m i : Nat) (S : TS), i + m = 8 → MS y S → BR S (y + 15) (32 * kk) key → tI S (y + 16) kk = n → (∀ a, a < 4 + i → tI S (y + 28) a = chs key n c a) →
    (∀ S', Ex (fun a => a = y + 28) S S' → (∀ a, a < 16 → tI S' (y + 28) a = chs key n c a) → T0 G J_M_block_II 111 [(0, .ref y), (1, .int (nI kk)), (2, .int c), (3, .int 0)] [] S' Q) → T0 G J_M_block_II 34 [(0, .ref y), (1, .int (nI kk)), (2, .int c), (3, .int (nI i))] [] S Q := by
  intro m
  induction m with
  | zero =>
    intro i S hi hs hb hn h1 hQ
    have : i = 8 := by omega
    subst this
    have hin : ∀ z, z < 16 → vp_in (nI z) 16 := fun z hz => vp_in_nI hz (by omega)
    refine v_M_block_II_34 y _ c _ S Q ⟨fun _ => ⟨hs.1, y + 28, hs.r 28 (by omega) (by omega), 16, hs.t 28 (by omega) (by omega), hin 12 (by omega), fun S6 e6 => ⟨hin 13 (by omega), fun S7 e7 => ⟨hin 14 (by omega), fun S8 e8 => ?_⟩⟩⟩, fun c => absurd (Int32.le_refl _) c⟩
    have x6 : Ex (fun a => a = y + 28) S S6 := by rw [e6]; exact (Ex.rf S).I rfl
    have x7 : Ex (fun a => a = y + 28) S S7 := by rw [e7]; exact x6.I rfl
    have x8 : Ex (fun a => a = y + 28) S S8 := by rw [e8]; exact x7.I rfl
    have s8 := hs.sm x8.1
    refine ⟨y + 16, s8.r 16 (by omega) (by omega), 4, s8.t 16 (by omega) (by omega), vp_in_nI hkk (by omega), ?_⟩
    rw [nI_clamp (by omega), (x8.2 (y + 16) (by omega)).1, hn]
    refine v_M_swapped n S8 _ ⟨_, rfl, hin 15 (by omega), fun S14 e14 => ?_⟩
    rw [sw_rvb] at e14
    have x14 : Ex (fun a => a = y + 28) S S14 := by rw [e14]; exact x8.I rfl
    refine hQ S14 x14 (fun a ha => ?_)
    rw [e14, tI_sI, up_s, e8, tI_sI, up_s, e7, tI_sI, up_s, e6, tI_sI, up_s]
    by_cases a15 : a = 15
    · subst a15; rfl
    · by_cases a14 : a = 14
      · subst a14; rfl
      · by_cases a13 : a = 13
        · subst a13; rfl
        · by_cases a12 : a = 12
          · subst a12; rfl
          · rw [pk_un a15, pk_un a14, pk_un a13, pk_un a12]
            exact h1 a (by omega)
  | succ m ih =>
    intro i S hi hs hb hn h1 hQ
    refine v_M_block_II_34 y _ c _ S Q ⟨fun c => absurd c (nI_ge (b := 8) (by omega) (by omega)), fun _ => ⟨hs.1, y + 28, hs.r 28 (by omega) (by omega), y + 15, hs.r 15 (by omega) (by omega), ?_⟩⟩
    have e0 : (32 : Int32) * nI kk + (4 : Int32) * nI i = nI (32 * kk + 4 * i) := by rw [show (32 : Int32) * nI kk = nI (32 * kk) from pk_mul 32 kk, show (4 : Int32) * nI i = nI (4 * i) from pk_mul 4 i, nI_add]
    have e1 : nI (32 * kk + 4 * i) + (1 : Int32) = nI (32 * kk + 4 * i + 1) := nI_1 _
    have e2 : nI (32 * kk + 4 * i) + (2 : Int32) = nI (32 * kk + 4 * i + 2) := nI_add _ 2
    have e3 : nI (32 * kk + 4 * i) + (3 : Int32) = nI (32 * kk + 4 * i + 3) := nI_add _ 3
    have e4 : (4 : Int32) + nI i = nI (4 + i) := nI_add 4 i
    rw [e0, e4]
    have hb0 := hb (4 * i) (by omega)
    have hb1 := hb (4 * i + 1) (by omega)
    have hb2 := hb (4 * i + 2) (by omega)
    have hb3 := hb (4 * i + 3) (by omega)
    have hin : ∀ z, z < 128 → vp_in (nI z) 128 := fun z hz => vp_in_nI hz (by omega)
    refine v_M_low _ _ S _ ⟨128, hs.t 15 (by omega) (by omega), hin _ (by omega), ?_⟩
    rw [e1, e2, e3, nI_clamp (by omega), nI_clamp (by omega), nI_clamp (by omega), nI_clamp (by omega)]
    rw [show 32 * kk + 4 * i + 1 = 32 * kk + (4 * i + 1) by omega, show 32 * kk + 4 * i + 2 = 32 * kk + (4 * i + 2) by omega, show 32 * kk + 4 * i + 3 = 32 * kk + (4 * i + 3) by omega, hb0, hb1, hb2, hb3, sx_and, sx_and, sx_and, sx_and]
    refine ⟨hin _ (by omega), hin _ (by omega), hin _ (by omega), _, rfl, 16, hs.t 28 (by omega) (by omega), vp_in_nI (by omega) (by omega), fun S1 e23 z ez => ?_⟩
    rw [nI_clamp (by omega)] at e23
    have x1 : Ex (fun a => a = y + 28) S S1 := by rw [e23]; exact (Ex.rf S).I rfl
    rw [ez, nI_1]
    refine ih (i + 1) S1 (by omega) (hs.sm x1.1) (hb.ex x1 (by omega)) (by rw [(x1.2 (y + 16) (by omega)).1]; exact hn) (fun a ha => ?_) (fun S' x' f' => hQ S' (x1.tr x') f')
    rw [e23, tI_sI, up_s]
    by_cases hai : a = 4 + i
    · subst hai
      rw [pk_us]
      simp only [chs]
      rw [if_neg (by omega), if_pos (by omega), show 4 * (4 + i - 4) = 4 * i by omega]
      rfl
    · rw [pk_un hai]
      exact h1 a (by omega)
theorem m_c111 {x1 x2 : Int32} : ∀ (m i : Nat) (S : TS), i + m = 16 → MS y S → (∀ a, a < i → tI S (y + 27) a = tI S (y + 28) a) →
    (∀ S', Ex (fun a => a = y + 27) S S' → (∀ a, a < 16 → tI S' (y + 27) a = tI S (y + 28) a) → T0 G J_M_block_II 137 [(0, .ref y), (1, .int x1), (2, .int x2), (3, .int 0)] [] S' Q) → T0 G J_M_block_II 111 [(0, .ref y), (1, .int x1), (2, .int x2), (3, .int (nI i))] [] S Q := by
  intro m
  induction m with
  | zero =>
    intro i S hi hs h1 hQ
    have : i = 16 := by omega
    subst this
    exact v_M_block_II_111 y x1 x2 _ S Q ⟨fun _ => hQ S (Ex.rf S) h1, fun c => absurd (Int32.le_refl _) c⟩
  | succ m ih =>
    intro i S hi hs h1 hQ
    refine v_M_block_II_111 y x1 x2 _ S Q ⟨fun c => absurd c (nI_ge (b := 16) (by omega) (by omega)), fun _ => ⟨hs.1, y + 27, hs.r 27 (by omega) (by omega), y + 28, hs.r 28 (by omega) (by omega), 16, hs.t 28 (by omega) (by omega), vp_in_nI (by omega) (by omega), 16, hs.t 27 (by omega) (by omega), vp_in_nI (by omega) (by omega), fun S1 e1 z ez => ?_⟩⟩
    rw [nI_clamp (by omega)] at e1
    have x1' : Ex (fun a => a = y + 27) S S1 := by rw [e1]; exact (Ex.rf S).I rfl
    have r28 : tI S1 (y + 28) = tI S (y + 28) := (x1'.2 (y + 28) (by omega)).1
    rw [ez, nI_1]
    refine ih (i + 1) S1 (by omega) (hs.sm x1'.1) (fun a ha => ?_) (fun S' x' f' => hQ S' (x1'.tr x') (fun a ha => by rw [f' a ha, r28]))
    rw [r28, e1, tI_sI, up_s]
    by_cases hai : a = i
    · subst hai; rw [pk_us]
    · rw [pk_un hai]; exact h1 a (by omega)
theorem m_c146 {x1 x2 x3 : Int32} {f : Nat → Int32} : ∀ (m i : Nat) (S : TS), i + m = 4 → MS y S → tI S (y + 27) = dr1 f i →
    (∀ S', Ex (fun a => a = y + 27) S S' → tI S' (y + 27) = dr1 f 4 → T0 G J_M_block_II 181 [(0, .ref y), (1, .int x1), (2, .int x2), (3, .int x3), (4, .int 0)] [] S' Q) → T0 G J_M_block_II 146 [(0, .ref y), (1, .int x1), (2, .int x2), (3, .int x3), (4, .int (nI i))] [] S Q := by
  intro m
  induction m with
  | zero =>
    intro i S hi hs hf hQ
    have : i = 4 := by omega
    subst this
    exact v_M_block_II_146 y x1 x2 x3 _ S Q ⟨fun _ => hQ S (Ex.rf S) hf, fun c => absurd (Int32.le_refl _) c⟩
  | succ m ih =>
    intro i S hi hs hf hQ
    refine v_M_block_II_146 y x1 x2 x3 _ S Q ⟨fun c => absurd c (nI_ge (b := 4) (by omega) (by omega)), fun _ => ⟨hs.1, ?_⟩⟩
    rw [show (4 : Int32) + nI i = nI (4 + i) from nI_add 4 i, show (8 : Int32) + nI i = nI (8 + i) from nI_add 8 i, show (12 : Int32) + nI i = nI (12 + i) from nI_add 12 i]
    refine m_mix hs (by omega) (by omega) (by omega) (by omega) (by omega) (by omega) (by omega) (by omega) (by omega) (by omega) (fun S1 x1' f1 => ⟨rfl, fun z ez => ?_⟩)
    rw [ez, nI_1]
    refine ih (i + 1) S1 (by omega) (hs.sm x1'.1) ?_ (fun S' x' f' => hQ S' (x1'.tr x') f')
    rw [f1, hf]
    simp only [dr1]
    rw [show i % 4 = i by omega, show i / 4 = 0 by omega, show 4 + (i + 0) % 4 = 4 + i by omega, show 8 + (i + 2 * 0) % 4 = 8 + i by omega, show 12 + (i + 3 * 0) % 4 = 12 + i by omega]
theorem m_c181 {x1 x2 x3 : Int32} {f : Nat → Int32} : ∀ (m i : Nat) (S : TS), i + m = 4 → MS y S → tI S (y + 27) = dr1 f (4 + i) →
    (∀ S', Ex (fun a => a = y + 27) S S' → tI S' (y + 27) = dr1 f 8 → ∀ z : Int32, z = x3 + 1 → T0 G J_M_block_II 137 [(0, .ref y), (1, .int x1), (2, .int x2), (3, .int z)] [] S' Q) → T0 G J_M_block_II 181 [(0, .ref y), (1, .int x1), (2, .int x2), (3, .int x3), (4, .int (nI i))] [] S Q := by
  intro m
  induction m with
  | zero =>
    intro i S hi hs hf hQ
    have : i = 4 := by omega
    subst this
    exact v_M_block_II_181 y x1 x2 x3 _ S Q ⟨fun _ => hQ S (Ex.rf S) hf, fun c => absurd (Int32.le_refl _) c⟩
  | succ m ih =>
    intro i S hi hs hf hQ
    refine v_M_block_II_181 y x1 x2 x3 _ S Q ⟨fun c => absurd c (nI_ge (b := 4) (by omega) (by omega)), fun _ => ⟨hs.1, ?_⟩⟩
    have ix : ∀ i, i < 4 → (4 : Int32) + ((nI i + (1 : Int32)) - (nI i + (1 : Int32)) / (4 : Int32) * (4 : Int32)) = nI (4 + (i + 1) % 4) ∧ (8 : Int32) + ((nI i + (2 : Int32)) - (nI i + (2 : Int32)) / (4 : Int32) * (4 : Int32)) = nI (8 + (i + 2) % 4) ∧ (12 : Int32) + ((nI i + (3 : Int32)) - (nI i + (3 : Int32)) / (4 : Int32) * (4 : Int32)) = nI (12 + (i + 3) % 4) := by decide +kernel
    obtain ⟨i1, i2, i3⟩ := ix i (by omega)
    rw [i1, i2, i3]
    refine m_mix hs (by omega) (by omega) (by omega) (by omega) (by omega) (by omega) (by omega) (by omega) (by omega) (by omega) (fun S1 x1' f1 => ⟨rfl, fun z ez => ?_⟩)
    rw [ez, nI_1]
    refine ih (i + 1) S1 (by omega) (hs.sm x1'.1) ?_ (fun S' x' f' => hQ S' (x1'.tr x') f')
    rw [f1, hf, show 4 + (i + 1) = (4 + i) + 1 by omega]
    simp only [dr1]
    rw [show (4 + i) % 4 = i by omega, show (4 + i) / 4 = 1 by omega]
theorem m_c137 {x1 x2 : Int32} {f : Nat → Int32} : ∀ (m r : Nat) (S : TS), r + m = 10 → MS y S → tI S (y + 27) = drs f r →
    (∀ S', Ex (fun a => a = y + 27) S S' → tI S' (y + 27) = drs f 10 → T0 G J_M_block_II 233 [(0, .ref y), (1, .int x1), (2, .int x2), (3, .int 0)] [] S' Q) → T0 G J_M_block_II 137 [(0, .ref y), (1, .int x1), (2, .int x2), (3, .int (nI r))] [] S Q := by
  intro m
  induction m with
  | zero =>
    intro r S hr hs hf hQ
    have : r = 10 := by omega
    subst this
    exact v_M_block_II_137 y x1 x2 _ S Q ⟨fun _ => hQ S (Ex.rf S) hf, fun c => absurd (Int32.le_refl _) c⟩
  | succ m ih =>
    intro r S hr hs hf hQ
    refine v_M_block_II_137 y x1 x2 _ S Q ⟨fun c => absurd c (nI_ge (b := 10) (by omega) (by omega)), fun _ => ?_⟩
    refine m_c146 (f := drs f r) 4 0 S (by omega) hs hf (fun S1 x1' f1 => m_c181 (f := drs f r) 4 0 S1 (by omega) (hs.sm x1'.1) f1 (fun S2 x2' f2 z ez => ?_))
    rw [ez, nI_1]
    exact ih (r + 1) S2 (by omega) ((hs.sm x1'.1).sm x2'.1) f2 (fun S' x' f' => hQ S' ((x1'.tr x2').tr x') f')
theorem m_c257 {x1 x2 : Int32} {w : Nat → Int32} {i : Nat} (hi : i < 16) : ∀ (m j : Nat) (S : TS), j + m = 4 → MS y S → (∀ a, a < 4 * i + j → tI S (y + 29) a = sx (wbyte w a)) →
    (∀ S', Ex (fun a => a = y + 29) S S' → (∀ a, a < 4 * (i + 1) → tI S' (y + 29) a = sx (wbyte w a)) → T0 G J_M_block_II 233 [(0, .ref y), (1, .int x1), (2, .int x2), (3, .int (nI (i + 1)))] [] S' Q) → T0 G J_M_block_II 257 [(0, .ref y), (1, .int x1), (2, .int x2), (3, .int (nI i)), (4, .int (w i)), (5, .int (nI j))] [] S Q := by
  intro m
  induction m with
  | zero =>
    intro j S hj hs h1 hQ
    have : j = 4 := by omega
    subst this
    refine v_M_block_II_257 y x1 x2 _ _ _ S Q ⟨fun _ z ez => ?_, fun c => absurd (Int32.le_refl _) c⟩
    rw [ez, nI_1]
    exact hQ S (Ex.rf S) h1
  | succ m ih =>
    intro j S hj hs h1 hQ
    refine v_M_block_II_257 y x1 x2 _ _ _ S Q ⟨fun c => absurd c (nI_ge (b := 4) (by omega) (by omega)), fun _ => ⟨hs.1, y + 29, hs.r 29 (by omega) (by omega), 64, hs.t 29 (by omega) (by omega), ?_⟩⟩
    rw [show (4 : Int32) * nI i = nI (4 * i) from pk_mul 4 i, nI_add, nI_clamp (by omega), nar2, show (8 : Int32) * nI j = nI (8 * j) from pk_mul 8 j, b8_neg8 _ j (by omega)]
    refine ⟨vp_in_nI (by omega) (by omega), fun S1 e1 z ez => ?_⟩
    have x1' : Ex (fun a => a = y + 29) S S1 := by rw [e1]; exact (Ex.rf S).I rfl
    rw [ez, nI_1]
    refine ih (j + 1) S1 (by omega) (hs.sm x1'.1) (fun a ha => ?_) (fun S' x' f' => hQ S' (x1'.tr x') f')
    rw [e1, tI_sI, up_s]
    by_cases hai : a = 4 * i + j
    · subst hai
      rw [pk_us]
      unfold wbyte
      rw [show (4 * i + j) / 4 = i by omega, show (4 * i + j) % 4 = j by omega]
    · rw [pk_un hai]; exact h1 a (by omega)
theorem m_c233 {x1 x2 : Int32} {w : Nat → Int32} : ∀ (m i : Nat) (S : TS), i + m = 16 → MS y S → (∀ a, a < 16 → tI S (y + 27) a + tI S (y + 28) a = w a) → (∀ a, a < 4 * i → tI S (y + 29) a = sx (wbyte w a)) →
    (∀ S', Ex (fun a => a = y + 29) S S' → (∀ a, a < 64 → tI S' (y + 29) a = sx (wbyte w a)) → Q none S') → T0 G J_M_block_II 233 [(0, .ref y), (1, .int x1), (2, .int x2), (3, .int (nI i))] [] S Q := by
  intro m
  induction m with
  | zero =>
    intro i S hi hs hw h1 hQ
    have : i = 16 := by omega
    subst this
    exact v_M_block_II_233 y x1 x2 _ S Q ⟨fun _ => hQ S (Ex.rf S) h1, fun c => absurd (Int32.le_refl _) c⟩
  | succ m ih =>
    intro i S hi hs hw h1 hQ
    refine v_M_block_II_233 y x1 x2 _ S Q ⟨fun c => absurd c (nI_ge (b := 16) (by omega) (by omega)), fun _ => ⟨hs.1, y + 27, hs.r 27 (by omega) (by omega), 16, hs.t 27 (by omega) (by omega), vp_in_nI (by omega) (by omega), y + 28, hs.r 28 (by omega) (by omega), 16, hs.t 28 (by omega) (by omega), vp_in_nI (by omega) (by omega), fun v ev => ?_⟩⟩
    rw [nI_clamp (by omega), hw i (by omega)] at ev
    rw [ev]
    refine m_c257 (by omega) 4 0 S (by omega) hs h1 (fun S1 x1' f1 => ?_)
    exact ih (i + 1) S1 (by omega) (hs.sm x1'.1) (fun a ha => by rw [(x1'.2 (y + 27) (by omega)).1, (x1'.2 (y + 28) (by omega)).1]; exact hw a ha) f1 (fun S' x' f' => hQ S' (x1'.tr x') f')
def sQ (y : Nat) : Nat → Prop := fun a => y + 27 ≤ a ∧ a ≤ y + 29
theorem m_block2 {S : TS} {kk : Nat} {key : List B8} {n c : Int32} (hs : MS y S) (hkk : kk < 4) (hkey : key.length = 32) (hb : BR S (y + 15) (32 * kk) key) (hn : tI S (y + 16) kk = n) (hQ : ∀ S', Ex (sQ y) S S' → (∀ a, a < 64 → tI S' (y + 29) a = sx (wbyte (strm key n c) a)) → Q none S') : C0 G J_M_block_II [.ref y, .int (nI kk), .int c] S Q := by
  have hin : ∀ z, z < 16 → vp_in (nI z) 16 := fun z hz => vp_in_nI hz (by omega)
  refine v_M_block_II y _ c S Q ⟨hs.1, y + 28, hs.r 28 (by omega) (by omega), 16, hs.t 28 (by omega) (by omega), hin 0 (by omega), fun S6 e6 => ⟨hin 1 (by omega), fun S7 e7 => ⟨hin 2 (by omega), fun S8 e8 => ⟨hin 3 (by omega), fun S9 e9 => ?_⟩⟩⟩⟩
  have x6 : Ex (fun a => a = y + 28) S S6 := by rw [e6]; exact (Ex.rf S).I rfl
  have x7 : Ex (fun a => a = y + 28) S S7 := by rw [e7]; exact x6.I rfl
  have x8 : Ex (fun a => a = y + 28) S S8 := by rw [e8]; exact x7.I rfl
  have x9 : Ex (fun a => a = y + 28) S S9 := by rw [e9]; exact x8.I rfl
  refine m_c34 (n := n) hkk hkey 8 0 S9 (by omega) (hs.sm x9.1) (hb.ex x9 (by omega)) (by rw [(x9.2 (y + 16) (by omega)).1]; exact hn) (fun a ha => ?_) (fun S10 x10 f10 => ?_)
  · rw [e9, tI_sI, up_s, e8, tI_sI, up_s, e7, tI_sI, up_s, e6, tI_sI, up_s]
    rcases (show a = 0 ∨ a = 1 ∨ a = 2 ∨ a = 3 by omega) with rfl | rfl | rfl | rfl <;> rfl
  · have x910 := x9.tr x10
    refine m_c111 16 0 S10 (by omega) (hs.sm x910.1) (fun a ha => absurd ha (by omega)) (fun S11 x11 f11 => ?_)
    have s11 := (hs.sm x910.1).sm x11.1
    refine m_c137 (f := tI S11 (y + 27)) 10 0 S11 (by omega) s11 rfl (fun S12 x12 f12 => ?_)
    have s12 := s11.sm x12.1
    refine m_c233 (w := strm key n c) 16 0 S12 (by omega) s12 (fun a ha => ?_) (fun a ha => absurd ha (by omega)) (fun S13 x13 f13 => hQ S13 ?_ f13)
    · rw [f12, (x12.2 (y + 28) (by omega)).1, (x11.2 (y + 28) (by omega)).1, f10 a ha]
      show _ = drs (chs key n c) 10 a + chs key n c a
      rw [drs_cong (g := chs key n c) (fun b hb => (f11 b hb).trans (f10 b hb)) 10 a ha]
    · exact (((x910.mono (fun a z => by show y + 27 ≤ a ∧ a ≤ y + 29; omega)).tr (x11.mono (fun a z => by show y + 27 ≤ a ∧ a ≤ y + 29; omega))).tr (x12.mono (fun a z => by show y + 27 ≤ a ∧ a ≤ y + 29; omega))).tr (x13.mono (fun a z => by show y + 27 ≤ a ∧ a ≤ y + 29; omega))
theorem sx_xn (a b : B8) : ((sx a ^^^ sx b : Int32).toInt8.toInt32 : Int32).toInt8.toInt32 = sx (a ^^^ b) := by rw [nar2, b8_xor, b8_sx, b8_sx]
theorem m_cov1 {kk a1 N o : Nat} {key l : List B8} {n : Int32} (hkk : kk < 4) (hkey : key.length = 32) (ha : a1 ≠ y ∧ a1 ≠ y + 15 ∧ a1 ≠ y + 16 ∧ (a1 < y + 27 ∨ y + 29 < a1)) (hN : N < 65536) (hr : o + l.length ≤ N) : ∀ (m i : Nat) (S : TS), i + m = l.length → MS y S → te S a1 = some (.inl (.byte, N)) → BR S (y + 15) (32 * kk) key → tI S (y + 16) kk = n → (∀ j, j < i → tI S a1 (o + j) = sx ((covN key n l i).getD j 0)) → (∀ j, i ≤ j → j < l.length → tI S a1 (o + j) = sx (l.getD j 0)) → (i % 64 ≠ 0 → ∀ a, a < 64 → tI S (y + 29) a = sx (wbyte (strm key n (nI (1 + i / 64))) a)) →
    (∀ S', Ex (fun a => sQ y a ∨ a = a1) S S' → (∀ j, (j < o ∨ o + l.length ≤ j) → tI S' a1 j = tI S a1 j) → BR S' a1 o (cov key n l) → Q none S') → T0 G J_M_cover 3 [(0, .ref y), (1, .ref a1), (2, .int (nI o)), (3, .int (nI l.length)), (4, .int (nI kk)), (5, .int (nI i))] [] S Q := by
  intro m
  induction m with
  | zero =>
    intro i S hi hs ht hb hn h1 h2 hw hQ
    have : i = l.length := by omega
    subst this
    exact v_M_cover_3 y a1 _ _ _ _ S Q ⟨fun _ => hQ S (Ex.rf S) (fun _ _ => rfl) (fun j hj => h1 j (by rw [cov_len] at hj; exact hj)), fun c => absurd (Int32.le_refl _) c⟩
  | succ m ih =>
    intro i S hi hs ht hb hn h1 h2 hw hQ
    have er : nI i - nI i / (64 : Int32) * (64 : Int32) = nI (i % 64) := pk_rem (d := 64) (by omega) (by omega) (by omega)
    have ed : nI i / (64 : Int32) = nI (i / 64) := pk_div (d := 64) (by omega) (by omega) (by omega)
    have go : ∀ S1 : TS, Ex (sQ y) S S1 → (∀ a, a < 64 → tI S1 (y + 29) a = sx (wbyte (strm key n (nI (1 + i / 64))) a)) → ∀ S8 : TS, S8 = sI S1 a1 (upd (tI S1 a1) (o + i) (((tI S1 a1 (o + i)) ^^^ (tI S1 (y + 29) (i % 64)) : Int32).toInt8.toInt32 : Int32).toInt8.toInt32) → ∀ z : Int32, z = nI i + 1 → T0 G J_M_cover 3 [(0, .ref y), (1, .ref a1), (2, .int (nI o)), (3, .int (nI l.length)), (4, .int (nI kk)), (5, .int z)] [] S8 Q := by
      intro S1 x1 w1 S8 e8 z ez
      have r1 : tI S1 a1 = tI S a1 := (x1.2 a1 (by simp only [sQ]; omega)).1
      rw [r1, h2 i (Nat.le_refl i) (by omega), w1 (i % 64) (by omega), sx_xn] at e8
      have x8 : Ex (fun a => sQ y a ∨ a = a1) S S8 := by rw [e8]; exact (x1.mono (fun a z => Or.inl z)).I (Or.inr rfl)
      have r8 : tI S8 a1 = upd (tI S a1) (o + i) (sx (l.getD i 0 ^^^ cvb key n i)) := by rw [e8, tI_sI, up_s]; rfl
      rw [ez, nI_1]
      refine ih (i + 1) S8 (by omega) (hs.sm x8.1) (by rw [x8.1.1]; exact ht) (hb.ex x8 (by simp only [sQ]; omega)) (by rw [(x8.2 (y + 16) (by simp only [sQ]; omega)).1]; exact hn) (fun j hj => ?_) (fun j hj hj2 => ?_) (fun hm a ha2 => ?_) (fun S' x' f' b' => hQ S' (x8.tr x') (fun j hj => ?_) b')
      · rw [r8]
        simp only [covN, List.getD_eq_getElem?_getD]
        by_cases hji : j = i
        · subst hji
          rw [pk_us, List.getElem?_append_right (by rw [covN_len]; exact Nat.le_refl _), covN_len, Nat.sub_self]
          rfl
        · rw [pk_un (by omega), List.getElem?_append_left (by rw [covN_len]; omega), ← List.getD_eq_getElem?_getD]
          exact h1 j (by omega)
      · rw [r8, pk_un (by omega)]; exact h2 j (by omega) hj2
      · rw [e8, tI_sI, up_n _ _ (by omega), show (i + 1) / 64 = i / 64 by omega]; exact w1 a ha2
      · rw [f' j hj, r8, pk_un (by omega)]
    refine v_M_cover_3 y a1 _ _ _ _ S Q ⟨fun c => absurd c (nI_ge (by omega) (by omega)), fun _ => ?_⟩
    rw [er, ed, nI_add, nI_clamp (show o + i < 2 ^ 31 by omega), nI_clamp (show i % 64 < 2 ^ 31 by omega)]
    have hin1 : vp_in (nI (o + i)) N := vp_in_nI (by omega) (by omega)
    have hin2 : vp_in (nI (i % 64)) 64 := vp_in_nI (by omega) (by omega)
    refine ⟨fun c => ?_, fun c => ?_⟩
    · have hc : i % 64 ≠ 0 := fun h0 => c (by rw [h0]; rfl)
      exact ⟨N, ht, hin1, hs.1, y + 29, hs.r 29 (by omega) (by omega), 64, hs.t 29 (by omega) (by omega), hin2, hin1, go S (Ex.rf S) (hw hc)⟩
    · rw [show (1 : Int32) + nI (i / 64) = nI (1 + i / 64) from nI_add 1 _]
      refine ⟨hs.1, m_block2 hs hkk hkey hb hn (fun S1 x1 w1 => ⟨rfl, N, by rw [x1.1.1]; exact ht, hin1, y + 29, (hs.sm x1.1).r 29 (by omega) (by omega), 64, (hs.sm x1.1).t 29 (by omega) (by omega), hin2, hin1, go S1 x1 w1⟩)⟩
theorem m_cover {S : TS} {kk a1 N o : Nat} {key l : List B8} {n : Int32} (hs : MS y S) (hkk : kk < 4) (hkey : key.length = 32) (ha : a1 ≠ y ∧ a1 ≠ y + 15 ∧ a1 ≠ y + 16 ∧ (a1 < y + 27 ∨ y + 29 < a1)) (hN : N < 65536) (hr : o + l.length ≤ N) (ht : te S a1 = some (.inl (.byte, N))) (hb : BR S (y + 15) (32 * kk) key) (hn : tI S (y + 16) kk = n) (hl : BR S a1 o l)
    (hQ : ∀ S', Ex (fun a => sQ y a ∨ a = a1) S S' → (∀ j, (j < o ∨ o + l.length ≤ j) → tI S' a1 j = tI S a1 j) → BR S' a1 o (cov key n l) → Q none S') : C0 G J_M_cover [.ref y, .ref a1, .int (nI o), .int (nI l.length), .int (nI kk)] S Q :=
  v_M_cover y a1 _ _ _ S Q (m_cov1 hkk hkey ha hN hr l.length 0 S (by omega) hs ht hb hn (fun j hj => absurd hj (by omega)) (fun j _ hj => hl j hj) (fun h => absurd rfl h) hQ)
end MCH
