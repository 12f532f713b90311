/-! PURE: the tag of the reference -/
section MTG
variable {G : pG} {y : Nat} {Q : Option Value → TS → Prop}
theorem m_to2 {x1 : Int32} {w : Nat → Int32} : ∀ (n k : Nat) (S : TS), k + n = 16 → MS y S → (∀ a, a < 64 → tI S (y + 29) a = sx (wbyte w a)) → NR S (y + 32) k (rb w) →
    (∀ S', Ex (fun z => z = y + 32) S S' → NR S' (y + 32) 16 (rb w) → T0 G J_M_tagOf 60 [(0, .ref y), (1, .int x1), (2, .int 0)] [] S' Q) → T0 G J_M_tagOf 2 [(0, .ref y), (1, .int x1), (2, .int (nI k))] [] S Q := by
  intro n
  induction n with
  | zero =>
    intro k S hk hs hw h1 hQ
    have : k = 16 := by omega
    subst this
    exact v_M_tagOf_2 y x1 _ S Q ⟨fun _ => hQ S (Ex.rf S) h1, fun c => absurd (Int32.le_refl _) c⟩
  | succ n ih =>
    intro k S hk hs hw h1 hQ
    have go : ∀ v : Int32, v = nI (rb w k) → ∀ S10 : TS, S10 = sI S (y + 32) (upd (tI S (y + 32)) k v) → ∀ z : Int32, z = nI (k + 1) → T0 G J_M_tagOf 2 [(0, .ref y), (1, .int x1), (2, .int z)] [] S10 Q := by
      intro v ev S6 e6 z ez
      have x6 : Ex (fun z => z = y + 32) S S6 := by rw [e6]; exact (Ex.rf S).I rfl
      rw [ez]
      refine ih (k + 1) S6 (by omega) (hs.sm x6.1) (fun a ha => by rw [(x6.2 (y + 29) (by omega)).1]; exact hw a ha) (fun j hj => ?_) (fun S' x' f' => hQ S' (x6.tr x') f')
      rw [e6, tI_sI, up_s]
      by_cases hjk : j = k
      · subst hjk; rw [pk_us, ev]
      · rw [pk_un hjk]; exact h1 j (by omega)
    have in16 : vp_in (nI k) 16 := vp_in_nI (by omega) (by omega)
    have er : nI k - nI k / (4 : Int32) * (4 : Int32) = nI (k % 4) := pk_rem (d := 4) (by omega) (by omega) (by omega)
    refine v_M_tagOf_2 y x1 _ S Q ⟨fun c => absurd c (nI_ge (b := 16) (by omega) (by omega)), fun _ => ⟨hs.1, y + 32, hs.r 32 (by omega) (by omega), y + 29, hs.r 29 (by omega) (by omega), 64, hs.t 29 (by omega) (by omega), vp_in_nI (by omega) (by omega), ?_⟩⟩
    rw [er, nI_clamp (show k < 2 ^ 31 by omega), hw k (by omega), sx255, sx252, sx15, nI_1]
    have t32 := hs.t 32 (by omega) (by omega)
    refine ⟨fun c3 => ⟨fun c0 => ⟨16, t32, in16, go _ ?_⟩, fun c0 => ⟨fun c4 => ⟨16, t32, in16, go _ ?_⟩, fun c4 => ⟨16, t32, in16, go _ ?_⟩⟩⟩, fun c3 => ⟨16, t32, in16, go _ ?_⟩⟩
    · have h3 : ¬ k % 4 = 3 := fun h => c3 (by rw [h]; rfl)
      have h0 : k ≤ 0 := (nI_leI (b := 0) (by omega) (by omega)).mp c0
      unfold rb
      rw [if_neg h3, if_pos (by omega)]
    · have h3 : ¬ k % 4 = 3 := fun h => c3 (by rw [h]; rfl)
      have h4 : ¬ k % 4 = 0 := fun h => c4 (by rw [h]; rfl)
      unfold rb
      rw [if_neg h3, if_neg (by omega), if_neg h4]
    · have h4 : k % 4 = 0 := (nI_eq (b := 0) (by omega) (by omega)).mp c4
      have h0 : ¬ k = 0 := fun h => c0 (by rw [h]; exact Int32.le_refl _)
      unfold rb
      rw [if_neg (by omega), if_neg h0, if_pos h4]
    · have h3 : k % 4 = 3 := (nI_eq (b := 3) (by omega) (by omega)).mp c3
      unfold rb
      rw [if_pos h3]
theorem m_to60 {x1 : Int32} : ∀ (n k : Nat) (S : TS), k + n = 17 → MS y S → NR S (y + 30) k (fun _ => 0) →
    (∀ S', Ex (fun z => z = y + 30) S S' → NR S' (y + 30) 17 (fun _ => 0) → T0 G J_M_tagOf 81 [(0, .ref y), (1, .int x1), (2, .int 0)] [] S' Q) → T0 G J_M_tagOf 60 [(0, .ref y), (1, .int x1), (2, .int (nI k))] [] S Q := by
  intro n
  induction n with
  | zero =>
    intro k S hk hs h1 hQ
    have : k = 17 := by omega
    subst this
    exact v_M_tagOf_60 y x1 _ S Q ⟨fun _ => hQ S (Ex.rf S) h1, fun c => absurd (Int32.le_refl _) c⟩
  | succ n ih =>
    intro k S hk hs h1 hQ
    refine v_M_tagOf_60 y x1 _ S Q ⟨fun c => absurd c (nI_ge (b := 17) (by omega) (by omega)), fun _ => ⟨hs.1, y + 30, hs.r 30 (by omega) (by omega), 17, hs.t 30 (by omega) (by omega), vp_in_nI (by omega) (by omega), fun S6 e6 z ez => ?_⟩⟩
    have x6 : Ex (fun z => z = y + 30) S S6 := by rw [e6]; exact (Ex.rf S).I rfl
    rw [nI_clamp (by omega)] at e6
    rw [ez, nI_1]
    refine ih (k + 1) S6 (by omega) (hs.sm x6.1) (fun j hj => ?_) (fun S' x' f' => hQ S' (x6.tr x') f')
    rw [e6, tI_sI, up_s]
    by_cases hjk : j = k
    · subst hjk; rw [pk_us]; rfl
    · rw [pk_un hjk]; exact h1 j (by omega)
theorem m_to88 {x1 : Int32} {s : Nat → Nat} {t : List B8} {p : Nat} (hp : p + 16 ≤ t.length) (hl : t.length ≤ 320) : ∀ (n k : Nat) (S : TS), k + n = 16 → MS y S → BR S (y + 33) 0 t → NR S (y + 30) 17 (fun j => s j + if j < k then (t.getD (p + j) 0).toNat else 0) →
    (∀ S', Ex (fun z => z = y + 30) S S' → NR S' (y + 30) 17 (fun j => s j + if j < 16 then (t.getD (p + j) 0).toNat else 1) → T0 G J_M_tagOf 134 [(0, .ref y), (1, .int x1), (2, .int (nI p)), (3, .int 0)] [] S' Q) → T0 G J_M_tagOf 88 [(0, .ref y), (1, .int x1), (2, .int (nI p)), (3, .int (nI k))] [] S Q := by
  intro n
  induction n with
  | zero =>
    intro k S hk hs hb h1 hQ
    have : k = 16 := by omega
    subst this
    refine v_M_tagOf_88 y x1 _ _ S Q ⟨fun _ => ⟨hs.1, y + 30, hs.r 30 (by omega) (by omega), 17, hs.t 30 (by omega) (by omega), vp_in_nI (n := 16) (by omega) (by omega), vp_in_nI (n := 16) (by omega) (by omega), fun S6 e6 => ?_⟩, fun c => absurd (Int32.le_refl _) c⟩
    have x6 : Ex (fun z => z = y + 30) S S6 := by rw [e6]; exact (Ex.rf S).I rfl
    have h116 : tI S (y + 30) 16 = nI (s 16) := h1 16 (by omega)
    rw [h116, nI_1] at e6
    refine hQ S6 x6 (fun j hj => ?_)
    rw [e6, tI_sI, up_s]
    by_cases h16 : j = 16
    · subst h16; rw [pk_us]; rfl
    · rw [pk_un h16, h1 j hj]
      show nI (s j + if j < 16 then _ else 0) = nI (s j + if j < 16 then _ else 1)
      rw [if_pos (by omega), if_pos (by omega)]
  | succ n ih =>
    intro k S hk hs hb h1 hQ
    have in17 : vp_in (nI k) 17 := vp_in_nI (by omega) (by omega)
    refine v_M_tagOf_88 y x1 _ _ S Q ⟨fun c => absurd c (nI_ge (b := 16) (by omega) (by omega)), fun _ => ⟨hs.1, y + 30, hs.r 30 (by omega) (by omega), 17, hs.t 30 (by omega) (by omega), in17, y + 33, hs.r 33 (by omega) (by omega), 320, hs.t 33 (by omega) (by omega), ?_⟩⟩
    have hbk := hb (p + k) (by omega)
    rw [Nat.zero_add] at hbk
    have h1k : tI S (y + 30) k = nI (s k) := by
      rw [h1 k (by omega)]
      show nI (s k + if k < k then _ else 0) = _
      rw [if_neg (by omega), Nat.add_zero]
    rw [nI_add, nI_clamp (show p + k < 2 ^ 31 by omega), nI_clamp (show k < 2 ^ 31 by omega), hbk, sx255, h1k, nI_add, nI_1]
    refine ⟨vp_in_nI (by omega) (by omega), in17, fun S6 e6 z ez => ?_⟩
    have x6 : Ex (fun z => z = y + 30) S S6 := by rw [e6]; exact (Ex.rf S).I rfl
    rw [ez]
    refine ih (k + 1) S6 (by omega) (hs.sm x6.1) (hb.ex x6 (by omega)) (fun j hj => ?_) (fun S' x' f' => hQ S' (x6.tr x') f')
    rw [e6, tI_sI, up_s]
    by_cases hjk : j = k
    · subst hjk
      rw [pk_us]
      show _ = nI (s j + if j < j + 1 then _ else 0)
      rw [if_pos (by omega)]
    · rw [pk_un hjk, h1 j hj]
      show nI (s j + if j < k then _ else 0) = nI (s j + if j < k + 1 then _ else 0)
      by_cases hlt : j < k
      · rw [if_pos hlt, if_pos (by omega)]
      · rw [if_neg hlt, if_neg (by omega)]
theorem m_to134 {x1 x2 : Int32} : ∀ (n k : Nat) (S : TS), k + n = 35 → MS y S → NR S (y + 31) k (fun _ => 0) →
    (∀ S', Ex (fun z => z = y + 31) S S' → NR S' (y + 31) 35 (fun _ => 0) → T0 G J_M_tagOf 155 [(0, .ref y), (1, .int x1), (2, .int x2), (3, .int 0)] [] S' Q) → T0 G J_M_tagOf 134 [(0, .ref y), (1, .int x1), (2, .int x2), (3, .int (nI k))] [] S Q := by
  intro n
  induction n with
  | zero =>
    intro k S hk hs h1 hQ
    have : k = 35 := by omega
    subst this
    exact v_M_tagOf_134 y x1 x2 _ S Q ⟨fun _ => hQ S (Ex.rf S) h1, fun c => absurd (Int32.le_refl _) c⟩
  | succ n ih =>
    intro k S hk hs h1 hQ
    refine v_M_tagOf_134 y x1 x2 _ S Q ⟨fun c => absurd c (nI_ge (b := 35) (by omega) (by omega)), fun _ => ⟨hs.1, y + 31, hs.r 31 (by omega) (by omega), 35, hs.t 31 (by omega) (by omega), vp_in_nI (by omega) (by omega), fun S6 e6 z ez => ?_⟩⟩
    have x6 : Ex (fun z => z = y + 31) S S6 := by rw [e6]; exact (Ex.rf S).I rfl
    rw [nI_clamp (by omega)] at e6
    rw [ez, nI_1]
    refine ih (k + 1) S6 (by omega) (hs.sm x6.1) (fun j hj => ?_) (fun S' x' f' => hQ S' (x6.tr x') f')
    rw [e6, tI_sI, up_s]
    by_cases hjk : j = k
    · subst hjk; rw [pk_us]; rfl
    · rw [pk_un hjk]; exact h1 j (by omega)
theorem m_to164 {x1 x2 : Int32} {s r : Nat → Nat} {i V : Nat} (hi : i < 17) (hsb : ∀ j, j < 17 → s j < 2 ^ 9) (hrb : ∀ j, j < 16 → r j < 256) : ∀ (n j : Nat) (d : Nat → Nat) (S : TS), j + n = 16 → MS y S → NR S (y + 30) 17 s → NR S (y + 32) 16 r → NR S (y + 31) 35 d → pv d 35 = V + s i * 256 ^ i * pv r j → (∀ z, z < 35 → d z ≤ (16 * i + j) * 2 ^ 17) →
    (∀ S' d', Ex (fun z => z = y + 31) S S' → NR S' (y + 31) 35 d' → pv d' 35 = V + s i * 256 ^ i * pv r 16 → (∀ z, z < 35 → d' z ≤ (16 * (i + 1)) * 2 ^ 17) → T0 G J_M_tagOf 155 [(0, .ref y), (1, .int x1), (2, .int x2), (3, .int (nI (i + 1)))] [] S' Q) → T0 G J_M_tagOf 164 [(0, .ref y), (1, .int x1), (2, .int x2), (3, .int (nI i)), (4, .int (nI j))] [] S Q := by
  intro n
  induction n with
  | zero =>
    intro j d S hj hs h30 h32 h31 hv hd hQ
    have : j = 16 := by omega
    subst this
    refine v_M_tagOf_164 y x1 x2 _ _ S Q ⟨fun _ z ez => ?_, fun c => absurd (Int32.le_refl _) c⟩
    rw [ez, nI_1]
    exact hQ S d (Ex.rf S) h31 hv (fun z hz => by have := hd z hz; omega)
  | succ n ih =>
    intro j d S hj hs h30 h32 h31 hv hd hQ
    have in35 : vp_in (nI (i + j)) 35 := vp_in_nI (by omega) (by omega)
    refine v_M_tagOf_164 y x1 x2 _ _ S Q ⟨fun c => absurd c (nI_ge (b := 16) (by omega) (by omega)), fun _ => ⟨hs.1, y + 31, hs.r 31 (by omega) (by omega), 35, hs.t 31 (by omega) (by omega), ?_⟩⟩
    rw [nI_add, nI_clamp (show i + j < 2 ^ 31 by omega), nI_clamp (show i < 2 ^ 31 by omega), nI_clamp (show j < 2 ^ 31 by omega), h31 (i + j) (by omega)]
    refine ⟨in35, y + 30, hs.r 30 (by omega) (by omega), 17, hs.t 30 (by omega) (by omega), vp_in_nI (by omega) (by omega), y + 32, hs.r 32 (by omega) (by omega), 16, hs.t 32 (by omega) (by omega), vp_in_nI (by omega) (by omega), in35, ?_⟩
    rw [h30 i (by omega), h32 j (by omega), pk_mul, nI_add, nI_1]
    intro S6 e6 z ez
    have x6 : Ex (fun z => z = y + 31) S S6 := by rw [e6]; exact (Ex.rf S).I rfl
    have hm : s i * r j ≤ 2 ^ 17 := Nat.le_trans (Nat.mul_le_mul (show s i ≤ 2 ^ 9 by have := hsb i hi; omega) (show r j ≤ 2 ^ 8 by have := hrb j (by omega); omega)) (by decide)
    rw [ez]
    refine ih (j + 1) (ups d (i + j) (d (i + j) + s i * r j)) S6 (by omega) (hs.sm x6.1) (h30.ex x6 (by omega)) (h32.ex x6 (by omega)) (fun z hz => ?_) ?_ (fun z hz => ?_) (fun S' d' x' f' => hQ S' d' (x6.tr x') f')
    · rw [e6, tI_sI, up_s]
      simp only [ups]
      by_cases hze : z = i + j
      · rw [hze, pk_us, if_pos rfl]
      · rw [pk_un hze, if_neg hze]; exact h31 z hz
    · rw [pv_ups 35 (by omega), hv]
      simp only [pv]
      rw [Nat.pow_add]
      generalize pv r j = P at *
      generalize 256 ^ i = X at *
      generalize 256 ^ j = Y at *
      grind
    · have h1 := hd z hz
      have h2 := hd (i + j) (by omega)
      clear hv
      simp only [ups]
      rw [show 16 * i + (j + 1) = (16 * i + j) + 1 from rfl, Nat.add_mul, Nat.one_mul]
      split
      · exact Nat.add_le_add h2 hm
      · exact Nat.le_trans h1 (Nat.le_add_right _ _)
theorem m_to155 {x1 x2 : Int32} {s r : Nat → Nat} (hsb : ∀ j, j < 17 → s j < 2 ^ 9) (hrb : ∀ j, j < 16 → r j < 256) (hvl : pv s 17 * pv r 16 < 2 ^ 264) : ∀ (n i : Nat) (d : Nat → Nat) (S : TS), i + n = 17 → MS y S → NR S (y + 30) 17 s → NR S (y + 32) 16 r → NR S (y + 31) 35 d → pv d 35 = pv s i * pv r 16 → (∀ z, z < 35 → d z ≤ (16 * i) * 2 ^ 17) →
    (∀ S' b, Ex (qR y) S S' → NR S' (y + 31) 35 b → (∀ j, j < 35 → b j < 256) → pv b 35 < 2 ^ 130 → pv b 35 % P130 = pv s 17 * pv r 16 % P130 → T0 G J_M_tagOf 215 [(0, .ref y), (1, .int x1), (2, .int x2), (3, .int 0)] [] S' Q) → T0 G J_M_tagOf 155 [(0, .ref y), (1, .int x1), (2, .int x2), (3, .int (nI i))] [] S Q := by
  intro n
  induction n with
  | zero =>
    intro i d S hi hs h30 h32 h31 hv hd hQ
    have : i = 17 := by omega
    subst this
    refine v_M_tagOf_155 y x1 x2 _ S Q ⟨fun _ => ⟨hs.1, m_settle (a := d) (fun j hj => by have := hd j hj; omega) (by rw [hv]; exact hvl) hs h31 (fun S' b x' r' d' l' m' => ⟨rfl, hQ S' b x' r' d' l' (by rw [m', hv])⟩)⟩, fun c => absurd (Int32.le_refl _) c⟩
  | succ n ih =>
    intro i d S hi hs h30 h32 h31 hv hd hQ
    refine v_M_tagOf_155 y x1 x2 _ S Q ⟨fun c => absurd c (nI_ge (b := 17) (by omega) (by omega)), fun _ => ?_⟩
    refine m_to164 (V := pv s i * pv r 16) (by omega) hsb hrb 16 0 d S (by omega) hs h30 h32 h31 (by rw [hv, pv_0, Nat.mul_zero, Nat.add_zero]) (fun z hz => hd z hz) (fun S1 d1 x1' r1 v1 b1 => ?_)
    refine ih (i + 1) d1 S1 (by omega) (hs.sm x1'.1) (h30.ex x1' (by omega)) (h32.ex x1' (by omega)) r1 ?_ b1 (fun S' b x' => hQ S' b ((x1'.mono (fun z h => Or.inl h)).tr x'))
    rw [v1, pv_s s i, Nat.add_mul]
theorem m_to215 {x1 : Int32} {p : Nat} {b : Nat → Nat} : ∀ (n k : Nat) (S : TS), k + n = 17 → MS y S → NR S (y + 31) 35 b → NR S (y + 30) k b →
    (∀ S', Ex (fun z => z = y + 30) S S' → NR S' (y + 30) 17 b → T0 G J_M_tagOf 81 [(0, .ref y), (1, .int x1), (2, .int (nI (p + 16)))] [] S' Q) → T0 G J_M_tagOf 215 [(0, .ref y), (1, .int x1), (2, .int (nI p)), (3, .int (nI k))] [] S Q := by
  intro n
  induction n with
  | zero =>
    intro k S hk hs h31 h1 hQ
    have : k = 17 := by omega
    subst this
    refine v_M_tagOf_215 y x1 _ _ S Q ⟨fun _ z ez => ?_, fun c => absurd (Int32.le_refl _) c⟩
    rw [ez, show nI p + (16 : Int32) = nI (p + 16) from nI_add p 16]
    exact hQ S (Ex.rf S) h1
  | succ n ih =>
    intro k S hk hs h31 h1 hQ
    refine v_M_tagOf_215 y x1 _ _ S Q ⟨fun c => absurd c (nI_ge (b := 17) (by omega) (by omega)), fun _ => ⟨hs.1, y + 30, hs.r 30 (by omega) (by omega), y + 31, hs.r 31 (by omega) (by omega), 35, hs.t 31 (by omega) (by omega), vp_in_nI (by omega) (by omega), 17, hs.t 30 (by omega) (by omega), vp_in_nI (by omega) (by omega), fun S6 e6 z ez => ?_⟩⟩
    have x6 : Ex (fun z => z = y + 30) S S6 := by rw [e6]; exact (Ex.rf S).I rfl
    rw [nI_clamp (by omega), h31 k (by omega)] at e6
    rw [ez, nI_1]
    refine ih (k + 1) S6 (by omega) (hs.sm x6.1) (h31.ex x6 (by omega)) (fun j hj => ?_) (fun S' x' f' => hQ S' (x6.tr x') f')
    rw [e6, tI_sI, up_s]
    by_cases hjk : j = k
    · subst hjk; rw [pk_us]
    · rw [pk_un hjk]; exact h1 j (by omega)
def kR (y : Nat) : Nat → Prop := fun z => z = y + 30 ∨ z = y + 31 ∨ z = y + 35
theorem m_to81b {x1 : Int32} {s r : Nat → Nat} {t : List B8} {p : Nat} {S : TS} (hp : p + 16 ≤ t.length) (hl : t.length ≤ 320) (hsb : ∀ j, j < 17 → s j < 256) (hsv : pv s 17 < 2 ^ 130) (hrb : ∀ j, j < 16 → r j < 256) (hs : MS y S) (hb : BR S (y + 33) 0 t) (h30 : NR S (y + 30) 17 s) (h32 : NR S (y + 32) 16 r)
    (hQ : ∀ S' s', Ex (kR y) S S' → NR S' (y + 30) 17 s' → (∀ j, j < 17 → s' j < 256) → pv s' 17 < 2 ^ 130 → pv s' 17 % P130 = (pv s 17 + blkN t p + 2 ^ 128) * pv r 16 % P130 → T0 G J_M_tagOf 81 [(0, .ref y), (1, .int x1), (2, .int (nI (p + 16)))] [] S' Q) : T0 G J_M_tagOf 88 [(0, .ref y), (1, .int x1), (2, .int (nI p)), (3, .int 0)] [] S Q := by
  refine m_to88 hp hl 16 0 S (by omega) hs hb (h30.cong (fun j hj => by rw [if_neg (by omega)]; rfl)) (fun S1 x1' r1 => ?_)
  have hval : pv (fun j => s j + if j < 16 then (t.getD (p + j) 0).toNat else 1) 17 = pv s 17 + blkN t p + 2 ^ 128 := by
    rw [pv_add, ← pv_blk t p]
    show _ + (pv _ 16 + (if 16 < 16 then _ else 1) * 256 ^ 16) = _
    rw [if_neg (by omega), pv_cong (b := fun j => (t.getD (p + j) 0).toNat) 16 (fun j hj => by show (if j < 16 then _ else _) = _; rw [if_pos hj])]
    have : (256 : Nat) ^ 16 = 2 ^ 128 := by decide
    rw [this, Nat.one_mul, Nat.add_assoc]
  have hrv : pv r 16 < 2 ^ 128 := by
    have h1 := pv_lt 16 hrb
    have : (256 : Nat) ^ 16 = 2 ^ 128 := by decide
    omega
  have hbv := blkN_lt t p
  have hs1 := hs.sm x1'.1
  refine m_to134 35 0 S1 (by omega) hs1 (fun j hj => absurd hj (by omega)) (fun S2 x2' r2 => ?_)
  have hs2 := hs1.sm x2'.1
  refine m_to155 (s := fun j => s j + if j < 16 then (t.getD (p + j) 0).toNat else 1) (r := r) (fun j hj => ?_) hrb ?_ 17 0 (fun _ => 0) S2 (by omega) hs2 (r1.ex x2' (by omega)) ((h32.ex x1' (by omega)).ex x2' (by omega)) r2 ?_ (fun z hz => by omega) (fun S3 b x3' r3 d3 l3 m3 => ?_)
  · have h1 := hsb j hj
    have h2 := (t.getD (p + j) 0).isLt
    show s j + (if j < 16 then _ else _) < _
    split <;> omega
  · rw [hval]
    have h1 : pv s 17 + blkN t p + 2 ^ 128 ≤ 2 ^ 131 := by omega
    have h2 : (pv s 17 + blkN t p + 2 ^ 128) * pv r 16 ≤ 2 ^ 131 * 2 ^ 128 := Nat.mul_le_mul h1 (by omega)
    exact Nat.lt_of_le_of_lt h2 (by decide)
  · rw [pv_zero 35 (fun _ _ => rfl), pv_0, Nat.zero_mul]
  · have hs3 := hs2.sm x3'.1
    have hsm := pv_small l3
    refine m_to215 17 0 S3 (by omega) hs3 r3 (fun j hj => absurd hj (by omega)) (fun S4 x4' r4 => hQ S4 b ?_ r4 (fun j hj => d3 j (by omega)) (by rw [hsm.2.2]; exact l3) (by rw [hsm.2.2, m3, hval]))
    exact (((x1'.mono (fun z h => Or.inl h)).tr (x2'.mono (fun z h => Or.inr (Or.inl h)))).tr (x3'.mono (fun z h => Or.inr h))).tr (x4'.mono (fun z h => Or.inl h))
theorem pac_s (r : Nat) (t : List B8) (n : Nat) : pac r t (n + 1) = (pac r t n + blkN t (16 * n) + 2 ^ 128) * r % P130 := rfl
theorem pac_m (A B R P : Nat) : (A + B + 2 ^ 128) * R % P = (A % P + B + 2 ^ 128) * R % P := by
  rw [Nat.mul_mod, Nat.mul_mod (A % P + B + 2 ^ 128), Nat.add_assoc, Nat.add_assoc, Nat.mod_add_mod]
theorem m_to81 {r : Nat → Nat} {t : List B8} (hl : t.length ≤ 320) (hrb : ∀ j, j < 16 → r j < 256) : ∀ (n k : Nat) (s : Nat → Nat) (S : TS), 16 * (k + n) = t.length → (∀ j, j < 17 → s j < 256) → pv s 17 < 2 ^ 130 → pv s 17 % P130 = pac (pv r 16) t k → MS y S → BR S (y + 33) 0 t → NR S (y + 30) 17 s → NR S (y + 32) 16 r →
    (∀ S' s', Ex (kR y) S S' → NR S' (y + 30) 17 s' → (∀ j, j < 17 → s' j < 256) → pv s' 17 < 2 ^ 130 → pv s' 17 % P130 = pac (pv r 16) t (k + n) → T0 G J_M_tagOf 247 [(0, .ref y), (1, .int (nI t.length)), (2, .int 0)] [] S' Q) → T0 G J_M_tagOf 81 [(0, .ref y), (1, .int (nI t.length)), (2, .int (nI (16 * k)))] [] S Q := by
  intro n
  induction n with
  | zero =>
    intro k s S hk hd hv hm hs hb h30 h32 hQ
    exact v_M_tagOf_81 y _ _ S Q ⟨fun _ => hQ S s (Ex.rf S) h30 hd hv hm, fun c => absurd (nI_le (by omega) (by omega)) c⟩
  | succ n ih =>
    intro k s S hk hd hv hm hs hb h30 h32 hQ
    refine v_M_tagOf_81 y _ _ S Q ⟨fun c => absurd c (nI_ge (by omega) (by omega)), fun _ => ?_⟩
    refine m_to81b (by omega) hl hd hv hrb hs hb h30 h32 (fun S1 s1 x1 r1 d1 l1 m1 => ?_)
    rw [show 16 * k + 16 = 16 * (k + 1) by omega]
    refine ih (k + 1) s1 S1 (by omega) d1 l1 ?_ (hs.sm x1.1) (hb.ex x1 (by simp only [kR]; omega)) r1 (h32.ex x1 (by simp only [kR]; omega)) (fun S' s' x' r' d' l' m' => ?_)
    · rw [m1, pac_s, ← hm]
      exact pac_m _ _ _ _
    · exact hQ S' s' (x1.tr x') r' d' l' (by rw [m', show k + (n + 1) = k + 1 + n by omega])
theorem m_to247 {x1 : Int32} {s : Nat → Nat} (hd : ∀ j, j < 17 → s j < 256) (hv : pv s 17 < 2 ^ 130) : ∀ (n k : Nat) (S : TS), k + n = 35 → MS y S → NR S (y + 30) 17 s → NR S (y + 31) k (fun j => if j < 17 then s j else 0) →
    (∀ S' b, Ex (qR y) S S' → NR S' (y + 31) 35 b → (∀ j, j < 35 → b j < 256) → pv b 35 < 2 ^ 130 → pv b 35 % P130 = pv s 17 % P130 → T0 G J_M_tagOf 287 [(0, .ref y), (1, .int x1), (2, .int 0)] [] S' Q) → T0 G J_M_tagOf 247 [(0, .ref y), (1, .int x1), (2, .int (nI k))] [] S Q := by
  intro n
  induction n with
  | zero =>
    intro k S hk hs h30 h1 hQ
    have : k = 35 := by omega
    subst this
    have hval : pv (fun j => if j < 17 then s j else 0) 35 = pv s 17 := by
      rw [show 35 = 17 + 18 from rfl, pv_split, pv_zero (a := fun j => if 17 + j < 17 then s (17 + j) else 0) 18 (fun j hj => by show (if 17 + j < 17 then _ else _) = 0; rw [if_neg (by omega)]), pv_cong (b := s) 17 (fun j hj => by show (if j < 17 then _ else _) = _; rw [if_pos hj])]
      omega
    refine v_M_tagOf_247 y x1 _ S Q ⟨fun _ => ⟨hs.1, m_settle (fun j hj => ?_) (by rw [hval]; omega) hs h1 (fun S' b x' r' d' l' m' => ⟨rfl, hQ S' b x' r' d' l' (by rw [m', hval])⟩)⟩, fun c => absurd (Int32.le_refl _) c⟩
    show (if j < 17 then _ else _) < _
    split
    · rename_i h17; have := hd j h17; omega
    · omega
  | succ n ih =>
    intro k S hk hs h30 h1 hQ
    have in35 : vp_in (nI k) 35 := vp_in_nI (by omega) (by omega)
    have go : ∀ v : Int32, v = nI (if k < 17 then s k else 0) → ∀ S6 : TS, S6 = sI S (y + 31) (upd (tI S (y + 31)) k v) → ∀ z : Int32, z = nI (k + 1) → T0 G J_M_tagOf 247 [(0, .ref y), (1, .int x1), (2, .int z)] [] S6 Q := by
      intro v ev S6 e6 z ez
      have x6 : Ex (fun z => z = y + 31) S S6 := by rw [e6]; exact (Ex.rf S).I rfl
      rw [ez]
      refine ih (k + 1) S6 (by omega) (hs.sm x6.1) (h30.ex x6 (by omega)) (fun j hj => ?_) (fun S' b x' => hQ S' b ((x6.mono (fun z h => Or.inl h)).tr x'))
      rw [e6, tI_sI, up_s]
      by_cases hjk : j = k
      · subst hjk; rw [pk_us, ev]
      · rw [pk_un hjk]; exact h1 j (by omega)
    refine v_M_tagOf_247 y x1 _ S Q ⟨fun c => absurd c (nI_ge (b := 35) (by omega) (by omega)), fun _ => ⟨hs.1, y + 31, hs.r 31 (by omega) (by omega), ?_⟩⟩
    rw [nI_clamp (show k < 2 ^ 31 by omega), nI_1]
    refine ⟨fun c => ⟨35, hs.t 31 (by omega) (by omega), in35, go _ ?_⟩, fun c => ?_⟩
    · have : 17 ≤ k := (nI_leI (a := 17) (by omega) (by omega)).mp c
      rw [if_neg (by omega)]; rfl
    · have h17 : k < 17 := Nat.not_le.mp (fun h => c (nI_le (a := 17) h (by omega)))
      exact ⟨y + 30, hs.r 30 (by omega) (by omega), 17, hs.t 30 (by omega) (by omega), vp_in_nI (by omega) (by omega), 35, hs.t 31 (by omega) (by omega), in35, go _ (by rw [h30 k h17, if_pos h17])⟩
theorem m_to418 {x1 x2 : Int32} {w : Nat → Int32} {g : Nat → Nat} (hg : ∀ j, j < 17 → g j < 256) : ∀ (n k : Nat) (S : TS), k + n = 16 → MS y S → NR S (y + 30) 17 g → (∀ a, a < 64 → tI S (y + 29) a = sx (wbyte w a)) → (∀ j, j < k → tI S (y + 34) j = sx (BitVec.ofNat 8 ((g j + (wbyte w (16 + j)).toNat + cy (fun j => g j + (wbyte w (16 + j)).toNat) j) % 256))) →
    (∀ S', Ex (fun z => z = y + 34) S S' → BR S' (y + 34) 0 (leB (pv g 17 + WN (fun i => u32 (w (4 + i)))) 16) → Q none S') → T0 G J_M_tagOf 418 [(0, .ref y), (1, .int x1), (2, .int x2), (3, .int (nI (cy (fun j => g j + (wbyte w (16 + j)).toNat) k))), (4, .int (nI k))] [] S Q := by
  have hcy := cy_lt (a := fun j => g j + (wbyte w (16 + j)).toNat) (n := 16) (fun j hj => by have h1 := hg j (by omega); have h2 := (wbyte w (16 + j)).isLt; show g j + _ < _; omega)
  intro n
  induction n with
  | zero =>
    intro k S hk hs h30 hw h1 hQ
    have : k = 16 := by omega
    subst this
    refine v_M_tagOf_418 y x1 x2 _ _ S Q ⟨fun _ => hQ S (Ex.rf S) (fun j hj => ?_), fun c => absurd (Int32.le_refl _) c⟩
    rw [leB_len] at hj
    have hN : pv g 17 + WN (fun i => u32 (w (4 + i))) = pv (fun j => (g j + (wbyte w (16 + j)).toNat + cy (fun j => g j + (wbyte w (16 + j)).toNat) j) % 256) 16 + (cy (fun j => g j + (wbyte w (16 + j)).toNat) 16 + g 16) * 256 ^ 16 := by
      rw [← pv_pad]
      have h2 := pv_cy (fun j => g j + (wbyte w (16 + j)).toNat) 16
      rw [pv_add] at h2
      show pv g 16 + g 16 * 256 ^ 16 + _ = _
      rw [Nat.add_mul]
      generalize pv g 16 = A at *
      generalize pv (fun j => (wbyte w (16 + j)).toNat) 16 = B at *
      omega
    rw [hN, leB_pv 16 _ _ (fun j hj => Nat.mod_lt _ (by decide)) j hj, Nat.zero_add]
    exact h1 j hj
  | succ n ih =>
    intro k S hk hs h30 hw h1 hQ
    have hgk := hg k (by omega)
    have hck := hcy k (by omega)
    have hwk := (wbyte w (16 + k)).isLt
    refine v_M_tagOf_418 y x1 x2 _ _ S Q ⟨fun c => absurd c (nI_ge (b := 16) (by omega) (by omega)), fun _ => ⟨hs.1, y + 30, hs.r 30 (by omega) (by omega), 17, hs.t 30 (by omega) (by omega), vp_in_nI (by omega) (by omega), y + 29, hs.r 29 (by omega) (by omega), 64, hs.t 29 (by omega) (by omega), ?_⟩⟩
    rw [show (16 : Int32) + nI k = nI (16 + k) from nI_add 16 k, nI_clamp (show 16 + k < 2 ^ 31 by omega), nI_clamp (show k < 2 ^ 31 by omega), h30 k (by omega), hw (16 + k) (by omega), sx255, nI_add, nI_add, nI_1]
    refine ⟨vp_in_nI (by omega) (by omega), fun y10 e10 => ⟨y + 34, hs.r 34 (by omega) (by omega), 16, hs.t 34 (by omega) (by omega), vp_in_nI (by omega) (by omega), fun S6 e6 y16 e16 z ez => ?_⟩⟩
    rw [nar2, e10, b8_nI] at e6
    have x6 : Ex (fun z => z = y + 34) S S6 := by rw [e6]; exact (Ex.rf S).I rfl
    rw [e10, sh8 (by omega), show (cy (fun j => g j + (wbyte w (16 + j)).toNat) k + (g k + (wbyte w (16 + k)).toNat)) / 256 = cy (fun j => g j + (wbyte w (16 + j)).toNat) (k + 1) by simp only [cy]; rw [Nat.add_comm]] at e16
    rw [ez, e16]
    refine ih (k + 1) S6 (by omega) (hs.sm x6.1) (h30.ex x6 (by omega)) (fun a ha => by rw [(x6.2 (y + 29) (by omega)).1]; exact hw a ha) (fun j hj => ?_) (fun S' x' f' => hQ S' (x6.tr x') f')
    rw [e6, tI_sI, up_s]
    by_cases hjk : j = k
    · subst hjk
      rw [pk_us]
      congr 1
      apply BitVec.eq_of_toNat_eq
      rw [BitVec.toNat_ofNat, BitVec.toNat_ofNat]
      omega
    · rw [pk_un hjk]; exact h1 j (by omega)
theorem m_to394 {x1 x2 : Int32} {v : Nat} : ∀ (n k : Nat) (S : TS), k + n = 17 → 1 ≤ k → MS y S → NR S (y + 30) k (fun j => if j = 0 then v else 0) →
    (∀ S', Ex (fun z => z = y + 30) S S' → NR S' (y + 30) 17 (fun j => if j = 0 then v else 0) → T0 G J_M_tagOf 418 [(0, .ref y), (1, .int x1), (2, .int x2), (3, .int 0), (4, .int 0)] [] S' Q) → T0 G J_M_tagOf 394 [(0, .ref y), (1, .int x1), (2, .int x2), (3, .int (nI k))] [] S Q := by
  intro n
  induction n with
  | zero =>
    intro k S hk hk1 hs h1 hQ
    have : k = 17 := by omega
    subst this
    exact v_M_tagOf_394 y x1 x2 _ S Q ⟨fun _ => hQ S (Ex.rf S) h1, fun c => absurd (Int32.le_refl _) c⟩
  | succ n ih =>
    intro k S hk hk1 hs h1 hQ
    refine v_M_tagOf_394 y x1 x2 _ S Q ⟨fun c => absurd c (nI_ge (b := 17) (by omega) (by omega)), fun _ => ⟨hs.1, y + 30, hs.r 30 (by omega) (by omega), 17, hs.t 30 (by omega) (by omega), vp_in_nI (by omega) (by omega), fun S6 e6 z ez => ?_⟩⟩
    have x6 : Ex (fun z => z = y + 30) S S6 := by rw [e6]; exact (Ex.rf S).I rfl
    rw [nI_clamp (by omega)] at e6
    rw [ez, nI_1]
    refine ih (k + 1) S6 (by omega) (by omega) (hs.sm x6.1) (fun j hj => ?_) (fun S' x' f' => hQ S' (x6.tr x') f')
    rw [e6, tI_sI, up_s]
    by_cases hjk : j = k
    · subst hjk
      rw [pk_us]
      show _ = nI (if j = 0 then v else 0)
      rw [if_neg (by omega)]; rfl
    · rw [pk_un hjk]; exact h1 j (by omega)
theorem m_to342 {x1 : Int32} {s : Nat → Nat} (hd : ∀ j, j < 17 → s j < 256) (h16 : s 16 < 4) (hv : pv s 17 < 2 ^ 130) {S : TS} (hs : MS y S) (h30 : NR S (y + 30) 17 s)
    (hQ : ∀ S' g x2, Ex (fun z => z = y + 30) S S' → NR S' (y + 30) 17 g → (∀ j, j < 17 → g j < 256) → pv g 17 = pv s 17 % P130 → T0 G J_M_tagOf 418 [(0, .ref y), (1, .int x1), (2, .int x2), (3, .int 0), (4, .int 0)] [] S' Q) : ∀ (n k m : Nat), k + n = 16 → 1 ≤ k → m < 2 → (m = 1 ↔ (s 16 = 3 ∧ 251 ≤ s 0 ∧ ∀ j, 1 ≤ j → j < k → s j = 255)) → T0 G J_M_tagOf 342 [(0, .ref y), (1, .int x1), (2, .int (nI m)), (3, .int (nI k))] [] S Q := by
  intro n
  induction n with
  | zero =>
    intro k m hk hk1 hm hi
    have : k = 16 := by omega
    subst this
    have hmost := pv_most hd h16
    refine v_M_tagOf_342 y x1 _ _ S Q ⟨fun _ => ⟨fun c => ?_, fun c => ?_⟩, fun c => absurd (Int32.le_refl _) c⟩
    · have h0 : m = 0 := (nI_eq (b := 0) (by omega) (by omega)).mp c
      have hlt : pv s 17 < P130 := Nat.not_le.mp (fun h => by have := hi.mpr (hmost.mpr h); omega)
      exact hQ S s _ (Ex.rf S) h30 hd (Nat.mod_eq_of_lt hlt).symm
    · have h1 : m = 1 := by
        rcases (show m = 0 ∨ m = 1 by omega) with h | h
        · exact absurd (by rw [h]; rfl) c
        · exact h
      obtain ⟨a1, a2, a3⟩ := hi.mp h1
      have hval := pv_most3 a1 a3
      refine ⟨hs.1, y + 30, hs.r 30 (by omega) (by omega), 17, hs.t 30 (by omega) (by omega), vp_in_nI (n := 0) (by omega) (by omega), vp_in_nI (n := 0) (by omega) (by omega), ?_⟩
      rw [h30 0 (by omega), show nI (s 0) - (251 : Int32) = nI (s 0 - 251) from pk_sub (b := 251) a2]
      intro S6 e6
      have x6 : Ex (fun z => z = y + 30) S S6 := by rw [e6]; exact (Ex.rf S).I rfl
      have h0 := hd 0 (by omega)
      refine m_to394 (v := s 0 - 251) 16 1 S6 (by omega) (by omega) (hs.sm x6.1) (fun j hj => ?_) (fun S7 x7 r7 => hQ S7 _ _ (x6.tr x7) r7 (fun j hj => ?_) ?_)
      · have : j = 0 := by omega
        subst this
        rw [e6, tI_sI, up_s, pk_us]; rfl
      · show (if j = 0 then _ else _) < _
        split <;> omega
      · rw [show 17 = 16 + 1 from rfl, pv_low, pv_zero (a := fun j => if j + 1 = 0 then s 0 - 251 else 0) 16 (fun j hj => by show (if j + 1 = 0 then _ else _) = 0; rw [if_neg (by omega)])]
        show s 0 - 251 + 256 * 0 = pv s 17 % P130
        rw [hval]
        have pp : P130 = 2 ^ 130 - 5 := rfl
        rw [pp]
        omega
  | succ n ih =>
    intro k m hk hk1 hm hi
    refine v_M_tagOf_342 y x1 _ _ S Q ⟨fun c => absurd c (nI_ge (b := 16) (by omega) (by omega)), fun _ => ⟨fun c z ez => ?_, fun c => ⟨hs.1, y + 30, hs.r 30 (by omega) (by omega), 17, hs.t 30 (by omega) (by omega), vp_in_nI (by omega) (by omega), ?_⟩⟩⟩
    · have h0 : m = 0 := (nI_eq (b := 0) (by omega) (by omega)).mp c
      rw [ez, nI_1]
      refine ih (k + 1) 0 (by omega) (by omega) (by omega) ⟨fun h => absurd h (by omega), fun h => ?_⟩
      have := hi.mpr ⟨h.1, h.2.1, fun j h1 h2 => h.2.2 j h1 (by omega)⟩
      omega
    · have h1 : m = 1 := by
        rcases (show m = 0 ∨ m = 1 by omega) with h | h
        · exact absurd (by rw [h]; rfl) c
        · exact h
      obtain ⟨a1, a2, a3⟩ := hi.mp h1
      have hdk := hd k (by omega)
      rw [nI_clamp (by omega), h30 k (by omega)]
      refine ⟨fun c2 z ez => ?_, fun c2 z ez => ?_⟩
      · rw [ez, nI_1]
        refine ih (k + 1) 0 (by omega) (by omega) (by omega) ⟨fun h => absurd h (by omega), fun h => absurd (h.2.2 k hk1 (by omega)) (fun e => c2 (by rw [e]; rfl))⟩
      · have e255 : s k = 255 := (nI_eq (b := 255) (by omega) (by omega)).mp c2
        rw [ez, nI_1]
        refine ih (k + 1) 1 (by omega) (by omega) (by omega) ⟨fun _ => ⟨a1, a2, fun j h1 h2 => ?_⟩, fun _ => rfl⟩
        by_cases hjk : j = k
        · rw [hjk]; exact e255
        · exact a3 j h1 (by omega)
theorem m_to287 {x1 : Int32} {b : Nat → Nat} (hd : ∀ j, j < 35 → b j < 256) (hv : pv b 35 < 2 ^ 130) : ∀ (n k : Nat) (S : TS), k + n = 17 → MS y S → NR S (y + 31) 35 b → NR S (y + 30) k b →
    (∀ S' g x2, Ex (fun z => z = y + 30) S S' → NR S' (y + 30) 17 g → (∀ j, j < 17 → g j < 256) → pv g 17 = pv b 35 % P130 → T0 G J_M_tagOf 418 [(0, .ref y), (1, .int x1), (2, .int x2), (3, .int 0), (4, .int 0)] [] S' Q) → T0 G J_M_tagOf 287 [(0, .ref y), (1, .int x1), (2, .int (nI k))] [] S Q := by
  intro n
  induction n with
  | zero =>
    intro k S hk hs h31 h1 hQ
    have : k = 17 := by omega
    subst this
    obtain ⟨sm1, sm2, sm3⟩ := pv_small hv
    have hb0 := hd 0 (by omega)
    have fin := fun m => m_to342 (G := G) (Q := Q) (x1 := x1) (s := b) (fun j hj => hd j (by omega)) sm2 (by rw [sm3]; exact hv) hs h1 (fun S' g x2 x' r' d' p' => hQ S' g x2 x' r' d' (by rw [p', sm3])) 15 1 m (by omega) (by omega)
    refine v_M_tagOf_287 y x1 _ S Q ⟨fun _ => ⟨hs.1, y + 30, hs.r 30 (by omega) (by omega), 17, hs.t 30 (by omega) (by omega), vp_in_nI (n := 16) (by omega) (by omega), ?_⟩, fun c => absurd (Int32.le_refl _) c⟩
    rw [h1 16 (by omega), h1 0 (by omega)]
    refine ⟨fun c => fin 0 (by omega) ⟨fun h => absurd h (by omega), fun h => absurd h.1 (fun e => c (by rw [e]; rfl))⟩, fun c => ⟨vp_in_nI (n := 0) (by omega) (by omega), fun c2 => fin 0 (by omega) ⟨fun h => absurd h (by omega), fun h => ?_⟩, fun c2 => fin 1 (by omega) ⟨fun _ => ⟨?_, ?_, fun j h1 h2 => absurd h2 (by omega)⟩, fun _ => rfl⟩⟩⟩
    · have := (nI_ltI (b := 251) (by omega) (by omega)).mp c2
      omega
    · exact (nI_eq (b := 3) (by omega) (by omega)).mp c
    · exact Nat.not_lt.mp (fun h => c2 (nI_lt (b := 251) h (by omega)))
  | succ n ih =>
    intro k S hk hs h31 h1 hQ
    refine v_M_tagOf_287 y x1 _ S Q ⟨fun c => absurd c (nI_ge (b := 17) (by omega) (by omega)), fun _ => ⟨hs.1, y + 30, hs.r 30 (by omega) (by omega), y + 31, hs.r 31 (by omega) (by omega), 35, hs.t 31 (by omega) (by omega), vp_in_nI (by omega) (by omega), 17, hs.t 30 (by omega) (by omega), vp_in_nI (by omega) (by omega), fun S6 e6 z ez => ?_⟩⟩
    have x6 : Ex (fun z => z = y + 30) S S6 := by rw [e6]; exact (Ex.rf S).I rfl
    rw [nI_clamp (by omega), h31 k (by omega)] at e6
    rw [ez, nI_1]
    refine ih (k + 1) S6 (by omega) (hs.sm x6.1) (h31.ex x6 (by omega)) (fun j hj => ?_) (fun S' g x2 x' => hQ S' g x2 (x6.tr x'))
    rw [e6, tI_sI, up_s]
    by_cases hjk : j = k
    · subst hjk; rw [pk_us]
    · rw [pk_un hjk]; exact h1 j (by omega)
def tR2 (y : Nat) : Nat → Prop := fun z => y + 30 ≤ z ∧ z ≤ y + 35 ∧ z ≠ y + 33
theorem m_tagOf {S : TS} {w : Nat → Int32} {t : List B8} (hs : MS y S) (hw : ∀ a, a < 64 → tI S (y + 29) a = sx (wbyte w a)) (hb : BR S (y + 33) 0 t) (h16 : t.length % 16 = 0) (hl : t.length ≤ 320)
    (hQ : ∀ S', Ex (tR2 y) S S' → BR S' (y + 34) 0 (ptag w t) → Q none S') : C0 G J_M_tagOf [.ref y, .int (nI t.length)] S Q := by
  refine v_M_tagOf y _ S Q (m_to2 16 0 S (by omega) hs hw (fun j hj => absurd hj (by omega)) (fun S1 x1 r1 => ?_))
  have hs1 := hs.sm x1.1
  refine m_to60 17 0 S1 (by omega) hs1 (fun j hj => absurd hj (by omega)) (fun S2 x2 r2 => ?_)
  have hs2 := hs1.sm x2.1
  have p130 : (0 : Nat) < P130 := by decide
  refine m_to81 (r := rb w) hl (fun j _ => rb_lt w j) (t.length / 16) 0 (fun _ => 0) S2 (by omega) (fun j hj => by omega) (by rw [pv_zero 17 (fun _ _ => rfl)]; decide) (by rw [pv_zero 17 (fun _ _ => rfl)]; rfl) hs2 ((hb.ex x1 (by omega)).ex x2 (by omega)) r2 (r1.ex x2 (by omega)) (fun S3 s3 x3 r3 d3 v3 m3 => ?_)
  have hs3 := hs2.sm x3.1
  refine m_to247 d3 v3 35 0 S3 (by omega) hs3 r3 (fun j hj => absurd hj (by omega)) (fun S4 b4 x4 r4 d4 v4 m4 => ?_)
  have hs4 := hs3.sm x4.1
  refine m_to287 d4 v4 17 0 S4 (by omega) hs4 r4 (fun j hj => absurd hj (by omega)) (fun S5 g z x5 r5 d5 p5 => ?_)
  have hs5 := hs4.sm x5.1
  have xx : Ex (tR2 y) S S5 := ((((x1.mono (fun z h => by show y + 30 ≤ z ∧ z ≤ y + 35 ∧ z ≠ y + 33; omega)).tr (x2.mono (fun z h => by show y + 30 ≤ z ∧ z ≤ y + 35 ∧ z ≠ y + 33; omega))).tr (x3.mono (fun z h => by simp only [kR] at h; show y + 30 ≤ z ∧ z ≤ y + 35 ∧ z ≠ y + 33; omega))).tr (x4.mono (fun z h => by simp only [qR] at h; show y + 30 ≤ z ∧ z ≤ y + 35 ∧ z ≠ y + 33; omega))).tr (x5.mono (fun z h => by show y + 30 ≤ z ∧ z ≤ y + 35 ∧ z ≠ y + 33; omega))
  refine m_to418 (w := w) d5 16 0 S5 (by omega) hs5 r5 (fun a ha => by rw [(xx.2 (y + 29) (by simp only [tR2]; omega)).1]; exact hw a ha) (fun j hj => absurd hj (by omega)) (fun S6 x6 b6 => hQ S6 (xx.tr (x6.mono (fun z h => by show y + 30 ≤ z ∧ z ≤ y + 35 ∧ z ≠ y + 33; omega))) ?_)
  rw [p5, m4, m3, Nat.zero_add, pv_rb] at b6
  exact b6
end MTG
