/-! PURE: ChaCha20, and the class Stream -/
def rl (x n : Int32) : Int32 := (x <<< (n &&& 31)) ||| (ushr x (-n))
def rvb (x : Int32) : Int32 := (((x <<< ((24 : Int32) &&& 31)) ||| ((x &&& (65280 : Int32)) <<< ((8 : Int32) &&& 31))) ||| ((ushr x 8) &&& (65280 : Int32))) ||| (ushr x 24)
def qr (f : Nat → Int32) (i j k l : Nat) : Nat → Int32 :=
  upd (upd (upd (upd f i ((f i + f j) + rl (f j ^^^ (f k + rl (f l ^^^ (f i + f j)) 16)) 12))
    j (rl (rl (f j ^^^ (f k + rl (f l ^^^ (f i + f j)) 16)) 12 ^^^ ((f k + rl (f l ^^^ (f i + f j)) 16) + rl (rl (f l ^^^ (f i + f j)) 16 ^^^ ((f i + f j) + rl (f j ^^^ (f k + rl (f l ^^^ (f i + f j)) 16)) 12)) 8)) 7))
    k ((f k + rl (f l ^^^ (f i + f j)) 16) + rl (rl (f l ^^^ (f i + f j)) 16 ^^^ ((f i + f j) + rl (f j ^^^ (f k + rl (f l ^^^ (f i + f j)) 16)) 12)) 8))
    l (rl (rl (f l ^^^ (f i + f j)) 16 ^^^ ((f i + f j) + rl (f j ^^^ (f k + rl (f l ^^^ (f i + f j)) 16)) 12)) 8)
def dr1 (f : Nat → Int32) : Nat → Nat → Int32
  | 0 => f
  | n + 1 => qr (dr1 f n) (n % 4) (4 + (n % 4 + n / 4) % 4) (8 + (n % 4 + 2 * (n / 4)) % 4) (12 + (n % 4 + 3 * (n / 4)) % 4)
def drs (f : Nat → Int32) : Nat → Nat → Int32
  | 0 => f
  | n + 1 => dr1 (drs f n) 8
def chacha (f : Nat → Int32) : Nat → Int32 := fun i => drs f 10 i + f i
def le4 (l : List B8) (j : Nat) : Int32 := ((zx (l.getD j 0) ||| (zx (l.getD (j + 1) 0) <<< ((8 : Int32) &&& 31))) ||| (zx (l.getD (j + 2) 0) <<< ((16 : Int32) &&& 31))) ||| (zx (l.getD (j + 3) 0) <<< ((24 : Int32) &&& 31))
def chs (k : List B8) (n c : Int32) : Nat → Int32 := fun i => if i < 4 then ro 2 i else if i < 12 then le4 k (4 * (i - 4)) else if i = 12 then c else if i = 15 then rvb n else 0
/-- the STREAM's words -/
def strm (k : List B8) (n c : Int32) : Nat → Int32 := chacha (chs k n c)
theorem qr_cong {f g : Nat → Int32} {i j k l : Nat} (h : ∀ a, a < 16 → f a = g a) (hi : i < 16) (hj : j < 16) (hk : k < 16) (hl : l < 16) : ∀ a, a < 16 → qr f i j k l a = qr g i j k l a := by
  intro a ha
  simp only [qr, upd, h i hi, h j hj, h k hk, h l hl, h a ha]
theorem dr1_cong {f g : Nat → Int32} (h : ∀ a, a < 16 → f a = g a) (n : Nat) : ∀ a, a < 16 → dr1 f n a = dr1 g n a := by
  induction n with
  | zero => exact h
  | succ n ih => exact qr_cong ih (by omega) (by omega) (by omega) (by omega)
theorem drs_cong {f g : Nat → Int32} (h : ∀ a, a < 16 → f a = g a) (n : Nat) : ∀ a, a < 16 → drs f n a = drs g n a := by
  induction n with
  | zero => exact h
  | succ n ih => exact dr1_cong ih 8
theorem chacha_cong {f g : Nat → Int32} (h : ∀ a, a < 16 → f a = g a) : ∀ a, a < 16 → chacha f a = chacha g a := fun a ha => by simp only [chacha, drs_cong h 10 a ha, h a ha]
theorem q_ix : ∀ q, q < 8 → ushr (nI q) 2 = nI (q / 4) ∧ nI q &&& (3 : Int32) = nI (q % 4) ∧ (4 : Int32) + ((nI (q % 4) + nI (q / 4)) &&& (3 : Int32)) = nI (4 + (q % 4 + q / 4) % 4) ∧ (8 : Int32) + ((nI (q % 4) + ((2 : Int32) * nI (q / 4))) &&& (3 : Int32)) = nI (8 + (q % 4 + 2 * (q / 4)) % 4) ∧ (12 : Int32) + ((nI (q % 4) + ((3 : Int32) * nI (q / 4))) &&& (3 : Int32)) = nI (12 + (q % 4 + 3 * (q / 4)) % 4) := by decide +kernel
def SS (S : TS) (s : Nat) : Prop := te S s = some (.inr 8) ∧ tR S s 0 = some (s + 1) ∧ te S (s + 1) = some (.inl (.int, 16)) ∧ tR S s 1 = some (s + 2) ∧ te S (s + 2) = some (.inl (.int, 16))
theorem SS.sm {S S' : TS} {s : Nat} (k : SS S s) (e : Sm0 S S') : SS S' s := by
  obtain ⟨h1, h2, h3, h4, h5⟩ := k
  exact ⟨by rw [e.1]; exact h1, by rw [e.R]; exact h2, by rw [e.1]; exact h3, by rw [e.R]; exact h4, by rw [e.1]; exact h5⟩
section PST
variable {G : pG} {s : Nat} {Q : Option Value → TS → Prop}
theorem p_rl {S : TS} {x n : Int32} {Q : Option Value → Prop} (hQ : Q (some (.int (rl x n)))) : CP G J_Int_rotateLeft [.int x, .int n] S Q := v_Int_rotateLeft x n S Q hQ
theorem p_rvb {S : TS} {x : Int32} {Q : Option Value → Prop} (hQ : Q (some (.int (rvb x)))) : CP G J_Int_reverseBytes [.int x] S Q := v_Int_reverseBytes x S Q hQ
theorem p_quarter {S : TS} {i j k l : Nat} (hs : SS S s) (hi : i < 16) (hj : j < 16) (hk : k < 16) (hl : l < 16) (hQ : ∀ S', Ex (fun a => a = s + 2) S S' → tI S' (s + 2) = qr (tI S (s + 2)) i j k l → Q none S') : C0 G J_Stream_quarter [.ref s, .int (nI i), .int (nI j), .int (nI k), .int (nI l)] S Q := by
  have hin : ∀ z, z < 16 → vp_in (nI z) 16 := fun z hz => vp_in_nI hz (by omega)
  refine v_Stream_quarter s (nI i) (nI j) (nI k) (nI l) S Q ⟨hs.1, s + 2, hs.2.2.2.1, 16, hs.2.2.2.2, ?_⟩
  rw [nI_clamp (by omega), nI_clamp (by omega), nI_clamp (by omega), nI_clamp (by omega)]
  refine ⟨hin i hi, fun y6 e6 => ⟨hin j hj, fun y7 e7 => ⟨hin k hk, fun y8 e8 => ⟨hin l hl, fun y9 e9 y10 e10 => p_rl ⟨_, rfl, fun y12 e12 => p_rl ⟨_, rfl, fun y14 e14 => p_rl ⟨_, rfl, fun y16 e16 => p_rl ⟨_, rfl, hin i hi, fun S18 e18 => ⟨hin j hj, fun S19 e19 => ⟨hin k hk, fun S20 e20 => ⟨hin l hl, fun S21 e21 => ?_⟩⟩⟩⟩⟩⟩⟩⟩⟩⟩⟩
  have x18 : Ex (fun a => a = s + 2) S S18 := by rw [e18]; exact (Ex.rf S).I rfl
  have x19 : Ex (fun a => a = s + 2) S S19 := by rw [e19]; exact x18.I rfl
  have x20 : Ex (fun a => a = s + 2) S S20 := by rw [e20]; exact x19.I rfl
  have x21 : Ex (fun a => a = s + 2) S S21 := by rw [e21]; exact x20.I rfl
  refine hQ S21 x21 ?_
  rw [e21, tI_sI, up_s, e20, tI_sI, up_s, e19, tI_sI, up_s, e18, tI_sI, up_s, e16, e14, e12, e10, e6, e7, e8, e9]
  rfl
theorem p_make3 {x1 x2 : Int32} {f : Nat → Int32} : ∀ (n q : Nat) (S : TS), q + n = 8 → SS S s → tI S (s + 2) = dr1 f q →
    (∀ S', Ex (fun a => a = s + 2) S S' → tI S' (s + 2) = dr1 f 8 → ∀ y1 : Int32, y1 = x2 + 1 → T0 G J_Stream_make 28 [(0, .ref s), (1, .int x1), (2, .int y1)] [] S' Q) → T0 G J_Stream_make 36 [(0, .ref s), (1, .int x1), (2, .int x2), (3, .int (nI q))] [] S Q := by
  intro n
  induction n with
  | zero =>
    intro q S hq hs hf hQ
    have : q = 8 := by omega
    subst this
    exact v_Stream_make_36 s x1 x2 (nI 8) S Q ⟨fun _ => hQ S (Ex.rf S) hf, fun c => absurd (Int32.le_refl _) c⟩
  | succ n ih =>
    intro q S hq hs hf hQ
    obtain ⟨i1, i2, i3, i4, i5⟩ := q_ix q (by omega)
    refine v_Stream_make_36 s x1 x2 (nI q) S Q ⟨fun c => absurd c (nI_ge (b := 8) (by omega) (by omega)), fun _ y2 e2 y3 e3 => ⟨hs.1, ?_⟩⟩
    rw [e2, e3, i1, i2, i3, i4, i5]
    refine p_quarter hs (by omega) (by omega) (by omega) (by omega) (fun S1 x1' f1 => ⟨rfl, fun y ey => ?_⟩)
    rw [ey, nI_1]
    refine ih (q + 1) S1 (by omega) (hs.sm x1'.1) ?_ (fun S' x' f' => hQ S' (x1'.tr x') f')
    rw [f1, hf]
    rfl
theorem p_make2 {x1 : Int32} {f : Nat → Int32} : ∀ (n r : Nat) (S : TS), r + n = 10 → SS S s → tI S (s + 2) = drs f r →
    (∀ S', Ex (fun a => a = s + 2) S S' → tI S' (s + 2) = drs f 10 → T0 G J_Stream_make 105 [(0, .ref s), (1, .int x1), (2, .int 0)] [] S' Q) → T0 G J_Stream_make 28 [(0, .ref s), (1, .int x1), (2, .int (nI r))] [] S Q := by
  intro n
  induction n with
  | zero =>
    intro r S hr hs hf hQ
    have : r = 10 := by omega
    subst this
    exact v_Stream_make_28 s x1 (nI 10) S Q ⟨fun _ => hQ S (Ex.rf S) hf, fun c => absurd (Int32.le_refl _) c⟩
  | succ n ih =>
    intro r S hr hs hf hQ
    refine v_Stream_make_28 s x1 (nI r) S Q ⟨fun c => absurd c (nI_ge (b := 10) (by omega) (by omega)), fun _ => ?_⟩
    refine p_make3 (f := drs f r) 8 0 S (by omega) hs hf (fun S1 x1' f1 y ey => ?_)
    rw [ey, nI_1]
    exact ih (r + 1) S1 (by omega) (hs.sm x1'.1) f1 (fun S' x' f' => hQ S' (x1'.tr x') f')
theorem p_make4 {x1 : Int32} {f g : Nat → Int32} : ∀ (n i : Nat) (S : TS), i + n = 16 → SS S s → tI S (s + 1) = g → (∀ a, a < i → tI S (s + 2) a = f a + g a) → (∀ a, i ≤ a → a < 16 → tI S (s + 2) a = f a) →
    (∀ S', Ex (fun a => a = s + 2) S S' → (∀ a, a < 16 → tI S' (s + 2) a = f a + g a) → Q none S') → T0 G J_Stream_make 105 [(0, .ref s), (1, .int x1), (2, .int (nI i))] [] S Q := by
  intro n
  induction n with
  | zero =>
    intro i S hi hs hg h1 h2 hQ
    have : i = 16 := by omega
    subst this
    exact v_Stream_make_105 s x1 (nI 16) S Q ⟨hs.1, s + 2, hs.2.2.2.1, 16, hs.2.2.2.2, fun _ => hQ S (Ex.rf S) h1, fun c => absurd (Int32.le_refl _) c⟩
  | succ n ih =>
    intro i S hi hs hg h1 h2 hQ
    refine v_Stream_make_105 s x1 (nI i) S Q ⟨hs.1, s + 2, hs.2.2.2.1, 16, hs.2.2.2.2, fun c => absurd c (nI_ge (by omega) (by omega)), fun _ => ⟨vp_in_nI (by omega) (by omega), s + 1, hs.2.1, 16, hs.2.2.1, vp_in_nI (by omega) (by omega), vp_in_nI (by omega) (by omega), ?_⟩⟩
    rw [nI_clamp (by omega)]
    intro S1 e1 y ey
    have x1' : Ex (fun a => a = s + 2) S S1 := by rw [e1]; exact (Ex.rf S).I rfl
    have r1 : tI S1 (s + 2) = upd (tI S (s + 2)) i (tI S (s + 2) i + tI S (s + 1) i) := by rw [e1, tI_sI, up_s]
    rw [ey, nI_1]
    refine ih (i + 1) S1 (by omega) (hs.sm x1'.1) ?_ (fun a ha => ?_) (fun a ha hb => ?_) (fun S' x' f' => hQ S' (x1'.tr x') f')
    · rw [(x1'.2 (s + 1) (by omega)).1]; exact hg
    · rw [r1]
      by_cases hai : a = i
      · subst hai
        rw [pk_us, h2 a (by omega) (by omega), hg]
      · rw [pk_un hai]
        exact h1 a (by omega)
    · rw [r1, pk_un (by omega)]
      exact h2 a (by omega) hb
theorem p_make {S : TS} {k : List B8} {m c : Int32} (hs : SS S s) (hst : ∀ a, a < 16 → a ≠ 12 → tI S (s + 1) a = chs k m 0 a) (hQ : ∀ S', Ex (fun a => a = s + 1 ∨ a = s + 2) S S' → (∀ a, a < 16 → a ≠ 12 → tI S' (s + 1) a = chs k m 0 a) → (∀ a, a < 16 → tI S' (s + 2) a = strm k m c a) → Q none S') : C0 G J_Stream_make [.ref s, .int c] S Q := by
  refine v_Stream_make s c S Q ⟨hs.1, s + 1, hs.2.1, 16, hs.2.2.1, vp_in_nI (n := 12) (by omega) (by omega), fun S1 e1 => ?_⟩
  have x1 : Ex (fun a => a = s + 1 ∨ a = s + 2) S S1 := by rw [e1]; exact (Ex.rf S).I (Or.inl rfl)
  have hs1 := hs.sm x1.1
  refine ⟨s + 2, hs1.2.2.2.1, 16, hs1.2.2.2.2, by decide, by decide, by decide, by decide, by decide, fun S2 e2 => ?_⟩
  have x2 : Ex (fun a => a = s + 1 ∨ a = s + 2) S S2 := by rw [e2]; exact x1.I (Or.inr rfl)
  have r1 : tI S1 (s + 1) = upd (tI S (s + 1)) 12 c := by rw [e1, tI_sI, up_s]
  have r1' : ∀ a, a < 16 → tI S1 (s + 1) a = chs k m c a := by
    intro a ha
    rw [r1]
    by_cases h12 : a = 12
    · subst h12
      rw [pk_us]
      rfl
    · rw [pk_un h12, hst a ha h12]
      simp [chs, h12]
  have r2 : ∀ a, a < 16 → tI S2 (s + 2) a = tI S1 (s + 1) a := by
    intro a ha
    rw [e2, tI_sI, up_s, sb_cl0, nI_clamp (by omega), pk_cpy_in (Nat.zero_le _) (by omega), Nat.zero_add, Nat.sub_zero]
  have r21 : tI S2 (s + 1) = tI S1 (s + 1) := by rw [e2, tI_sI, up_n _ _ (by omega)]
  refine p_make2 (f := tI S2 (s + 2)) 10 0 S2 (by omega) (hs.sm x2.1) rfl (fun S3 x3 f3 => ?_)
  have r3 : tI S3 (s + 1) = tI S2 (s + 1) := (x3.2 (s + 1) (by omega)).1
  refine p_make4 (f := tI S3 (s + 2)) (g := tI S3 (s + 1)) 16 0 S3 (by omega) ((hs.sm x2.1).sm x3.1) rfl (fun a ha => absurd ha (by omega)) (fun a _ _ => rfl) (fun S4 x4 f4 => ?_)
  have r4 : tI S4 (s + 1) = tI S3 (s + 1) := (x4.2 (s + 1) (by omega)).1
  have x34 := (x2.tr (x3.mono (fun a z => Or.inr z))).tr (x4.mono (fun a z => Or.inr z))
  refine hQ S4 x34 (fun a ha h12 => ?_) (fun a ha => ?_)
  · rw [r4, r3, r21, r1, pk_un h12]
    exact hst a ha h12
  · rw [f4 a ha, f3, r3, r21, r1' a ha]
    show _ = drs (chs k m c) 10 a + chs k m c a
    rw [drs_cong (g := chs k m c) (fun b hb => (r2 b hb).trans (r1' b hb)) 10 a ha]
theorem p_begin2 {q N : Nat} {k : List B8} {m : Int32} (hk : k.length = 32) (hqq : q + 1 < s ∨ s + 3 ≤ q) : ∀ (n i : Nat) (S : TS), i + n = 8 → SS S s → BT S q N k → (∀ a, a < 4 + i → tI S (s + 1) a = chs k m 0 a) →
    (∀ S', Ex (fun a => a = s + 1) S S' → (∀ a, a < 16 → a ≠ 12 → tI S' (s + 1) a = chs k m 0 a) → Q none S') → T0 G J_Stream_begin 18 [(0, .ref s), (1, .ref q), (2, .int m), (3, .int (nI i))] [] S Q := by
  intro n
  induction n with
  | zero =>
    intro i S hi hs hq h1 hQ
    have : i = 8 := by omega
    subst this
    refine v_Stream_begin_18 s q m (nI 8) S Q ⟨fun _ => ⟨hs.1, s + 1, hs.2.1, 16, hs.2.2.1, vp_in_nI (n := 13) (by omega) (by omega), fun S1 e1 => ⟨vp_in_nI (n := 14) (by omega) (by omega), fun S2 e2 => p_rvb ⟨_, rfl, vp_in_nI (n := 15) (by omega) (by omega), fun S3 e3 => ?_⟩⟩⟩, fun c => absurd (Int32.le_refl _) c⟩
    have x1 : Ex (fun a => a = s + 1) S S1 := by rw [e1]; exact (Ex.rf S).I rfl
    have x2 : Ex (fun a => a = s + 1) S S2 := by rw [e2]; exact x1.I rfl
    have x3 : Ex (fun a => a = s + 1) S S3 := by rw [e3]; exact x2.I rfl
    refine hQ S3 x3 (fun a ha h12 => ?_)
    rw [e3, tI_sI, up_s, e2, tI_sI, up_s, e1, tI_sI, up_s]
    by_cases a15 : a = 15
    · subst a15; rfl
    · by_cases a14 : a = 14
      · subst a14; rfl
      · by_cases a13 : a = 13
        · subst a13; rfl
        · rw [pk_un a15, pk_un a14, pk_un a13]
          exact h1 a (by omega)
  | succ n ih =>
    intro i S hi hs hq h1 hQ
    have hN := hq.1.2.2.2
    refine v_Stream_begin_18 s q m (nI i) S Q ⟨fun c => absurd c (nI_ge (b := 8) (by omega) (by omega)), fun _ y ey => ⟨hs.1, s + 1, hs.2.1, hq.1.1, ?_⟩⟩
    have e0 : y = nI (4 * i) := by rw [ey]; exact pk_mul 4 i
    have ea : y + (1 : Int32) = nI (4 * i + 1) := by rw [e0]; exact nI_1 _
    have eb : y + (2 : Int32) = nI (4 * i + 2) := by rw [e0]; exact nI_add _ 2
    have ec : y + (3 : Int32) = nI (4 * i + 3) := by rw [e0]; exact nI_add _ 3
    have ed : (4 : Int32) + nI i = nI (4 + i) := nI_add 4 i
    rw [ea, eb, ec, ed, e0]
    refine p_at hq (by omega) ⟨_, rfl, p_at hq (by omega) ⟨_, rfl, p_at hq (by omega) ⟨_, rfl, p_at hq (by omega) ⟨_, rfl, 16, hs.2.2.1, vp_in_nI (by omega) (by omega), ?_⟩⟩⟩⟩
    rw [nI_clamp (by omega)]
    intro S1 e1 z ez
    have x1 : Ex (fun a => a = s + 1) S S1 := by rw [e1]; exact (Ex.rf S).I rfl
    rw [ez, nI_1]
    refine ih (i + 1) S1 (by omega) (hs.sm x1.1) (hq.ex x1 (by omega) (by omega)) (fun a ha => ?_) (fun S' x' f' => hQ S' (x1.tr x') f')
    rw [e1, tI_sI, up_s]
    by_cases hai : a = 4 + i
    · subst hai
      rw [pk_us]
      simp only [chs]
      rw [if_neg (by omega), if_pos (by omega), show 4 * (4 + i - 4) = 4 * i by omega]
      rfl
    · rw [pk_un hai]
      exact h1 a (by omega)
theorem p_begin {t : Nat → Nat} (hG : GS G t) {S : TS} {q N : Nat} {k : List B8} {m : Int32} (hs : SS S s) (hq : BT S q N k) (hk : k.length = 32) (hqq : q + 1 < s ∨ s + 3 ≤ q) (hQ : ∀ S', Ex (fun a => a = s + 1) S S' → (∀ a, a < 16 → a ≠ 12 → tI S' (s + 1) a = chs k m 0 a) → Q none S') : C0 G J_Stream_begin [.ref s, .ref q, .int m] S Q := by
  refine v_Stream_beginR hG s q m S Q ⟨hs.1, s + 1, hs.2.1, 16, hs.2.2.1, by decide, by decide, by decide, fun S1 e1 => ?_⟩
  have x1 : Ex (fun a => a = s + 1) S S1 := by rw [e1]; exact (Ex.rf S).I rfl
  refine p_begin2 hk hqq 8 0 S1 (by omega) (hs.sm x1.1) (hq.ex x1 (by omega) (by omega)) (fun a ha => ?_) (fun S' x' f' => hQ S' (x1.tr x') f')
  rw [e1, tI_sI, up_s, sb_cl0, nI_clamp (by omega), pk_cpy_in (Nat.zero_le _) (by omega), Nat.zero_add, Nat.sub_zero]
  simp only [chs]
  rw [if_pos (by omega)]
theorem p_word {S : TS} {Q : Option Value → Prop} {i : Nat} (hs : SS S s) (hi : i < 16) (hQ : Q (some (.int (tI S (s + 2) i)))) : CP G J_Stream_word [.ref s, .int (nI i)] S Q := by
  have e : nI i &&& (15 : Int32) = nI i := by
    rw [pk_andN (by omega) (m := 15) 4 rfl, Nat.mod_eq_of_lt (by omega)]
  refine v_Stream_word s (nI i) S Q ⟨hs.1, s + 2, hs.2.2.2.1, 16, hs.2.2.2.2, ?_⟩
  rw [e, nI_clamp (by omega)]
  exact ⟨vp_in_nI hi (by omega), hQ⟩
/-- byte i of the words w, the lowest first -/
def wbyte (w : Nat → Int32) (i : Nat) : B8 := b8 (ushr (w (i / 4)) (nI (8 * (i % 4))))
theorem p_byteAt {S : TS} {Q : Option Value → Prop} {i : Nat} (hs : SS S s) (hi : i < 64) (hQ : Q (some (.int (zx (wbyte (tI S (s + 2)) i))))) : CP G J_Stream_byteAt [.ref s, .int (nI i)] S Q := by
  have e1 : ushr (nI i) 2 = nI (i / 4) := pk_ushrN (by omega) 2 2 rfl
  have e2 : nI (i / 4) &&& (15 : Int32) = nI (i / 4) := by
    rw [pk_andN (by omega) (m := 15) 4 rfl, Nat.mod_eq_of_lt (by omega)]
  have e3 : nI i &&& (3 : Int32) = nI (i % 4) := pk_andN (by omega) (m := 3) 2 rfl
  have e4 : (8 : Int32) * nI (i % 4) = nI (8 * (i % 4)) := pk_mul 8 (i % 4)
  refine v_Stream_byteAt s (nI i) S Q ⟨hs.1, s + 2, hs.2.2.2.1, 16, hs.2.2.2.2, ?_⟩
  rw [e1, e2, e3, e4, nI_clamp (by omega), zx_and]
  exact ⟨vp_in_nI (by omega) (by omega), hQ⟩
end PST
