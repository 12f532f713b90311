/-! PURE: Poly1305 of the reference, numbers in base 256 -/
def pv (a : Nat → Nat) : Nat → Nat
  | 0 => 0
  | n + 1 => pv a n + a n * 256 ^ n
theorem pv_s (a : Nat → Nat) (n : Nat) : pv a (n + 1) = pv a n + a n * 256 ^ n := rfl
theorem pv_0 (a : Nat → Nat) : pv a 0 = 0 := rfl
theorem pv_cong {a b : Nat → Nat} : ∀ n, (∀ j, j < n → a j = b j) → pv a n = pv b n := by
  intro n
  induction n with
  | zero => intro _; rfl
  | succ n ih =>
    intro h
    simp only [pv]
    rw [ih (fun j hj => h j (by omega)), h n (by omega)]
theorem pv_low (a : Nat → Nat) : ∀ n, pv a (n + 1) = a 0 + 256 * pv (fun j => a (j + 1)) n := by
  intro n
  induction n with
  | zero => simp [pv]
  | succ n ih =>
    rw [pv, ih]
    simp only [pv]
    rw [Nat.pow_succ]
    grind
theorem pv_lt {a : Nat → Nat} : ∀ n, (∀ j, j < n → a j < 256) → pv a n < 256 ^ n := by
  intro n
  induction n with
  | zero => intro _; simp [pv]
  | succ n ih =>
    intro h
    have h1 := ih (fun j hj => h j (by omega))
    have h2 : a n * 256 ^ n ≤ 255 * 256 ^ n := Nat.mul_le_mul_right _ (by have := h n (by omega); omega)
    simp only [pv, Nat.pow_succ]
    omega
theorem pv_mono (a : Nat → Nat) {m n : Nat} (h : m ≤ n) : pv a m ≤ pv a n := by
  induction n with
  | zero => rw [show m = 0 by omega]; exact Nat.le_refl _
  | succ n ih =>
    rcases Nat.lt_or_ge n m with h1 | h1
    · rw [show m = n + 1 by omega]; exact Nat.le_refl _
    · exact Nat.le_trans (ih h1) (Nat.le_add_right _ _)
theorem pv_ge (a : Nat → Nat) {j n : Nat} (h : j < n) : a j * 256 ^ j ≤ pv a n := Nat.le_trans (Nat.le_add_left _ _) (pv_mono a (show j + 1 ≤ n by omega))
theorem pv_split (a : Nat → Nat) (m : Nat) : ∀ n, pv a (m + n) = pv a m + 256 ^ m * pv (fun j => a (m + j)) n := by
  intro n
  induction n with
  | zero => simp [pv]
  | succ n ih =>
    show pv a (m + n) + a (m + n) * 256 ^ (m + n) = _
    rw [ih]
    simp only [pv]
    rw [Nat.pow_add]
    grind
theorem pv_zero {a : Nat → Nat} : ∀ n, (∀ j, j < n → a j = 0) → pv a n = 0 := by
  intro n
  induction n with
  | zero => intro _; rfl
  | succ n ih =>
    intro h
    simp only [pv]
    rw [ih (fun j hj => h j (by omega)), h n (by omega)]
    omega
theorem pv_add (a b : Nat → Nat) : ∀ n, pv (fun j => a j + b j) n = pv a n + pv b n := by
  intro n
  induction n with
  | zero => rfl
  | succ n ih => simp only [pv]; rw [ih]; grind
theorem pv_mulc (c : Nat) (a : Nat → Nat) : ∀ n, pv (fun j => c * a j) n = c * pv a n := by
  intro n
  induction n with
  | zero => rfl
  | succ n ih => simp only [pv]; rw [ih]; grind
theorem pv_ups {a : Nat → Nat} {k d : Nat} : ∀ n, k < n → pv (ups a k (a k + d)) n = pv a n + d * 256 ^ k := by
  intro n
  induction n with
  | zero => intro h; omega
  | succ n ih =>
    intro h
    simp only [pv]
    rcases (show k = n ∨ k < n by omega) with rfl | h1
    · rw [pv_cong (b := a) k (fun j hj => by simp only [ups]; rw [if_neg (by omega)])]
      simp only [ups, if_true]
      grind
    · rw [ih h1]
      simp only [ups]
      rw [if_neg (by omega)]
      omega
def cy (a : Nat → Nat) : Nat → Nat
  | 0 => 0
  | i + 1 => (a i + cy a i) / 256
theorem pv_cy (a : Nat → Nat) : ∀ n, pv a n = pv (fun j => (a j + cy a j) % 256) n + cy a n * 256 ^ n := by
  intro n
  induction n with
  | zero => rfl
  | succ n ih =>
    simp only [pv, cy]
    rw [ih, Nat.pow_succ]
    have h : a n + cy a n = (a n + cy a n) % 256 + 256 * ((a n + cy a n) / 256) := (Nat.mod_add_div _ _).symm
    generalize (a n + cy a n) % 256 = u at *
    generalize (a n + cy a n) / 256 = v at *
    generalize 256 ^ n = Z at *
    have h2 : a n * Z + cy a n * Z = u * Z + 256 * v * Z := by rw [← Nat.add_mul, h, Nat.add_mul]
    grind
theorem cy_lt {a : Nat → Nat} {n : Nat} (h : ∀ j, j < n → a j < 2 ^ 28) : ∀ i, i ≤ n → cy a i < 2 ^ 21 := by
  intro i
  induction i with
  | zero => intro _; simp only [cy]; omega
  | succ i ih =>
    intro hi
    have h1 := ih (by omega)
    have h2 := h i (by omega)
    simp only [cy]
    omega
theorem leB_pv : ∀ (n : Nat) (b : Nat → Nat) (m : Nat), (∀ j, j < n → b j < 256) → ∀ j, j < n → (leB (pv b n + m * 256 ^ n) n).getD j 0 = BitVec.ofNat 8 (b j) := by
  intro n
  induction n with
  | zero => intro b m _ j hj; omega
  | succ n ih =>
    intro b m hb j hj
    have e : pv b (n + 1) + m * 256 ^ (n + 1) = b 0 + 256 * (pv (fun j => b (j + 1)) n + m * 256 ^ n) := by
      rw [pv_low, Nat.pow_succ]; grind
    have h0 := hb 0 (by omega)
    rw [e]
    simp only [leB]
    rw [show (b 0 + 256 * (pv (fun j => b (j + 1)) n + m * 256 ^ n)) / 256 = pv (fun j => b (j + 1)) n + m * 256 ^ n by omega]
    cases j with
    | zero =>
      show BitVec.ofNat 8 _ = _
      apply BitVec.eq_of_toNat_eq
      rw [BitVec.toNat_ofNat, BitVec.toNat_ofNat]
      omega
    | succ j => exact ih (fun j => b (j + 1)) m (fun j hj => hb (j + 1) (by omega)) j (by omega)
theorem st_A (b : Nat → Nat) : ∀ n, 4 * pv (fun k => b (16 + k) / 4 + b (17 + k) % 4 * 64) n + b 16 % 4 = pv (fun k => b (16 + k)) n + b (16 + n) % 4 * 256 ^ n := by
  intro n
  induction n with
  | zero => simp [pv]
  | succ n ih =>
    simp only [pv]
    rw [show 16 + (n + 1) = 17 + n by omega, Nat.pow_succ]
    have h : b (16 + n) = b (16 + n) % 4 + 4 * (b (16 + n) / 4) := (Nat.mod_add_div _ _).symm
    generalize b (16 + n) % 4 = u at *
    generalize b (16 + n) / 4 = v at *
    generalize b (17 + n) % 4 = w at *
    generalize 256 ^ n = Z at *
    rw [h]
    grind
/-- one round of settle, by value -/
def sf (V : Nat) : Nat := V % 2 ^ 130 + 5 * (V / 2 ^ 130)
theorem sf_mod (V : Nat) : sf V % P130 = V % P130 := by
  have e2 : 2 ^ 130 * (V / 2 ^ 130) = P130 * (V / 2 ^ 130) + 5 * (V / 2 ^ 130) := by
    rw [← Nat.add_mul]
    rfl
  have e3 : V = sf V + P130 * (V / 2 ^ 130) := by
    have := Nat.mod_add_div V (2 ^ 130)
    unfold sf
    omega
  generalize sf V = W at *
  rw [e3, Nat.add_mul_mod_self_left]
theorem sf_3 {V : Nat} (h : V < 2 ^ 264) : sf (sf (sf V)) < 2 ^ 130 := by
  have h1 : sf V < 2 ^ 138 := by unfold sf; omega
  have h2 : sf (sf V) < 2 ^ 130 + 2 ^ 12 := by
    generalize sf V = W at *
    unfold sf; omega
  generalize sf (sf V) = W at *
  unfold sf
  omega
theorem st_val {b : Nat → Nat} (hb : ∀ j, j < 35 → b j < 256) (h34 : b 34 = 0) : pv b 16 + b 16 % 4 * 2 ^ 128 + 5 * pv (fun k => b (16 + k) / 4 + b (17 + k) % 4 * 64) 18 = sf (pv b 35) := by
  have h1 := st_A b 18
  have h2 : pv b 35 = pv b 16 + 256 ^ 16 * pv (fun k => b (16 + k)) 18 := by
    show pv b 34 + b 34 * 256 ^ 34 = _
    rw [h34, pv_split b 16 18]
    omega
  have h3 : pv b 16 < 256 ^ 16 := pv_lt 16 (fun j hj => hb j (by omega))
  rw [show 16 + 18 = 34 from rfl, h34] at h1
  generalize pv (fun k => b (16 + k) / 4 + b (17 + k) % 4 * 64) 18 = A at *
  generalize pv (fun k => b (16 + k)) 18 = H at *
  generalize pv b 16 = L at *
  have h5 : b 16 % 4 < 4 := Nat.mod_lt _ (by decide)
  generalize b 16 % 4 = q at *
  rw [h2]
  unfold sf
  have : 256 ^ 16 = 2 ^ 128 := by decide
  rw [this] at *
  omega
/-- the digits of a number below 2^130 -/
theorem pv_small {b : Nat → Nat} (hv : pv b 35 < 2 ^ 130) : (∀ j, 17 ≤ j → j < 35 → b j = 0) ∧ b 16 < 4 ∧ pv b 17 = pv b 35 := by
  have hz : ∀ j, 17 ≤ j → j < 35 → b j = 0 := by
    intro j h1 h2
    have h3 := pv_ge b h2
    rcases Nat.eq_zero_or_pos (b j) with h0 | h0
    · exact h0
    · exfalso
      have h4 : 256 ^ 17 ≤ 256 ^ j := Nat.pow_le_pow_right (by decide) h1
      have h5 : 1 * 256 ^ j ≤ b j * 256 ^ j := Nat.mul_le_mul_right _ h0
      have h6 : (256 : Nat) ^ 17 = 2 ^ 136 := by decide
      omega
  have h16 := pv_ge b (show 16 < 35 by omega)
  have h6 : (256 : Nat) ^ 16 = 2 ^ 128 := by decide
  refine ⟨hz, by rw [h6] at h16; omega, ?_⟩
  rw [show 35 = 17 + 18 from rfl, pv_split, pv_zero (a := fun j => b (17 + j)) 18 (fun j hj => hz (17 + j) (by omega) (by omega))]
  omega
theorem pv_most {b : Nat → Nat} (hb : ∀ j, j < 17 → b j < 256) (h16 : b 16 < 4) : (b 16 = 3 ∧ 251 ≤ b 0 ∧ ∀ j, 1 ≤ j → j < 16 → b j = 255) ↔ P130 ≤ pv b 17 := by
  have e : pv b 17 = b 0 + 256 * pv (fun j => b (j + 1)) 15 + b 16 * 256 ^ 16 := by
    show pv b 16 + _ = _
    rw [pv_low]
  have hm : pv (fun j => 255 - b (j + 1)) 15 + pv (fun j => b (j + 1)) 15 = 256 ^ 15 - 1 := by
    rw [← pv_add, pv_cong (b := fun _ => 255) 15 (fun j hj => by have := hb (j + 1) (by omega); omega)]
    decide
  have h0 := hb 0 (by omega)
  have p15 : (256 : Nat) ^ 15 = 2 ^ 120 := by decide
  have p16 : (256 : Nat) ^ 16 = 2 ^ 128 := by decide
  have pp : P130 = 2 ^ 130 - 5 := rfl
  rw [e, pp]
  rw [p15] at hm
  rw [p16]
  constructor
  · intro ⟨a1, a2, a3⟩
    rw [pv_zero (a := fun j => 255 - b (j + 1)) 15 (fun j hj => by have := a3 (j + 1) (by omega) (by omega); omega)] at hm
    omega
  · intro h
    refine ⟨by omega, by omega, fun j h1 h2 => ?_⟩
    have h3 : pv (fun j => 255 - b (j + 1)) 15 = 0 := by omega
    have h4 := pv_ge (fun j => 255 - b (j + 1)) (show j - 1 < 15 by omega)
    rw [h3] at h4
    have h5 : 255 - b (j - 1 + 1) = 0 := by
      rcases Nat.eq_zero_or_pos (255 - b (j - 1 + 1)) with h0 | h0
      · exact h0
      · have := Nat.mul_pos h0 (Nat.pow_pos (n := j - 1) (show 0 < 256 by decide))
        omega
    have h6 := hb j (by omega)
    rw [show j - 1 + 1 = j by omega] at h5
    omega
theorem pv_most3 {b : Nat → Nat} (h16 : b 16 = 3) (h255 : ∀ j, 1 ≤ j → j < 16 → b j = 255) : pv b 17 = b 0 + 2 ^ 130 - 256 := by
  have e : pv b 17 = b 0 + 256 * pv (fun j => b (j + 1)) 15 + b 16 * 256 ^ 16 := by
    show pv b 16 + _ = _
    rw [pv_low]
  have hm : pv (fun j => b (j + 1)) 15 = 256 ^ 15 - 1 := by
    rw [pv_cong (b := fun _ => 255) 15 (fun j hj => h255 (j + 1) (by omega) (by omega))]
    decide
  have p15 : (256 : Nat) ^ 15 = 2 ^ 120 := by decide
  have p16 : (256 : Nat) ^ 16 = 2 ^ 128 := by decide
  rw [e, hm, h16, p15, p16]
  omega
theorem pv_16 (a : Nat → Nat) : pv a 16 = (a 0 + a 1 * 2 ^ 8 + a 2 * 2 ^ 16 + a 3 * 2 ^ 24) + (a 4 + a 5 * 2 ^ 8 + a 6 * 2 ^ 16 + a 7 * 2 ^ 24) * 2 ^ 32 + (a 8 + a 9 * 2 ^ 8 + a 10 * 2 ^ 16 + a 11 * 2 ^ 24) * 2 ^ 64 + (a 12 + a 13 * 2 ^ 8 + a 14 * 2 ^ 16 + a 15 * 2 ^ 24) * 2 ^ 96 := by
  simp only [pv]
  omega
theorem wby (w : Nat → Int32) (i m : Nat) (hm : m < 4) : (wbyte w (4 * i + m)).toNat = u32 (w i) / 2 ^ (8 * m) % 256 := by
  unfold wbyte
  have hx := u32_lt (w i)
  have e : ushr (w i) (nI (8 * m)) = nI (u32 (w i) / 2 ^ (8 * m)) := by
    have := ushr_nI (n := u32 (w i)) (k := 8 * m) hx (by omega)
    rw [nI_u32] at this
    exact this
  rw [show (4 * i + m) / 4 = i by omega, show (4 * i + m) % 4 = m by omega, e, b8_nI, BitVec.toNat_ofNat]
def rb (w : Nat → Int32) (j : Nat) : Nat := if j % 4 = 3 then (wbyte w j).toNat % 16 else if j = 0 then (wbyte w j).toNat else if j % 4 = 0 then (wbyte w j).toNat / 4 * 4 else (wbyte w j).toNat
theorem rb_lt (w : Nat → Int32) (j : Nat) : rb w j < 256 := by
  have := (wbyte w j).isLt
  unfold rb
  split
  · omega
  · split
    · omega
    · split <;> omega
theorem rb_w (w : Nat → Int32) (i : Nat) (hi : i < 4) : rb w (4 * i) + rb w (4 * i + 1) * 2 ^ 8 + rb w (4 * i + 2) * 2 ^ 16 + rb w (4 * i + 3) * 2 ^ 24 = rcl (fun i => u32 (w i)) i := by
  have hx := u32_lt (w i)
  have h0 := wby w i 0 (by omega)
  have h1 := wby w i 1 (by omega)
  have h2 := wby w i 2 (by omega)
  have h3 := wby w i 3 (by omega)
  have r1 : rb w (4 * i + 1) = u32 (w i) / 2 ^ 8 % 256 := by unfold rb; rw [if_neg (by omega), if_neg (by omega), if_neg (by omega), h1]
  have r2 : rb w (4 * i + 2) = u32 (w i) / 2 ^ 16 % 256 := by unfold rb; rw [if_neg (by omega), if_neg (by omega), if_neg (by omega), h2]
  have r3 : rb w (4 * i + 3) = u32 (w i) / 2 ^ 24 % 256 % 16 := by unfold rb; rw [if_pos (by omega), h3]
  rw [r1, r2, r3]
  rw [Nat.add_zero] at h0
  unfold rcl rb
  rw [if_neg (by omega), h0]
  by_cases hi0 : i = 0
  · rw [if_pos (by omega), if_pos hi0]
    subst hi0
    clear h0 h1 h2 h3 r1 r2 r3
    show u32 (w 0) / 2 ^ (8 * 0) % 256 + _ + _ + _ = u32 (w 0) % 2 ^ 28
    generalize u32 (w 0) = X at *
    omega
  · rw [if_neg (by omega), if_pos (by omega), if_neg hi0]
    clear h0 h1 h2 h3 r1 r2 r3
    show u32 (w i) / 2 ^ (8 * 0) % 256 / 4 * 4 + _ + _ + _ = u32 (w i) / 4 % 2 ^ 26 * 4
    generalize u32 (w i) = X at *
    omega
theorem pv_rb (w : Nat → Int32) : pv (rb w) 16 = WN (rcl (fun i => u32 (w i))) := by
  have h0 := rb_w w 0 (by omega)
  have h1 := rb_w w 1 (by omega)
  have h2 := rb_w w 2 (by omega)
  have h3 := rb_w w 3 (by omega)
  rw [pv_16]
  unfold WN
  rw [← h0, ← h1, ← h2, ← h3]
theorem pv_pad (w : Nat → Int32) : pv (fun j => (wbyte w (16 + j)).toNat) 16 = WN (fun i => u32 (w (4 + i))) := by
  have g : ∀ i, (wbyte w (4 * i)).toNat + (wbyte w (4 * i + 1)).toNat * 2 ^ 8 + (wbyte w (4 * i + 2)).toNat * 2 ^ 16 + (wbyte w (4 * i + 3)).toNat * 2 ^ 24 = u32 (w i) := by
    intro i
    have hx := u32_lt (w i)
    have h0 := wby w i 0 (by omega)
    rw [Nat.add_zero] at h0
    rw [h0, wby w i 1 (by omega), wby w i 2 (by omega), wby w i 3 (by omega)]
    generalize u32 (w i) = X at *
    omega
  rw [pv_16]
  unfold WN
  exact congr (congrArg _ (congr (congrArg _ (congr (congrArg _ (g 4)) (congrArg (· * 2 ^ 32) (g 5)))) (congrArg (· * 2 ^ 64) (g 6)))) (congrArg (· * 2 ^ 96) (g 7))
theorem pv_blk (t : List B8) (p : Nat) : pv (fun j => (t.getD (p + j) 0).toNat) 16 = blkN t p := by
  rw [pv_16]
  rfl
theorem sx15 (b : B8) : sx b &&& (15 : Int32) = nI (b.toNat % 16) := by
  have h : ∀ n, n < 256 → sx (BitVec.ofNat 8 n) &&& (15 : Int32) = nI (n % 16) := by decide +kernel
  have h2 := h b.toNat b.isLt
  rw [BitVec.ofNat_toNat, BitVec.setWidth_eq] at h2
  exact h2
theorem sx252 (b : B8) : sx b &&& (252 : Int32) = nI (b.toNat / 4 * 4) := by
  have h : ∀ n, n < 256 → sx (BitVec.ofNat 8 n) &&& (252 : Int32) = nI (n / 4 * 4) := by decide +kernel
  have h2 := h b.toNat b.isLt
  rw [BitVec.ofNat_toNat, BitVec.setWidth_eq] at h2
  exact h2
theorem sx255 (b : B8) : sx b &&& (255 : Int32) = nI b.toNat := by rw [sx_and, zx_nI]
theorem sh8 {a : Nat} (h : a < 2 ^ 31) : nI a >>> ((8 : Int32) &&& 31) = nI (a / 256) := pk_shrN h _ 8 (by decide)
theorem an255 {a : Nat} (h : a < 2 ^ 32) : nI a &&& (255 : Int32) = nI (a % 256) := pk_andN h 8 (by decide)
theorem ab_or : ∀ x, x < 64 → ∀ z, z < 4 → nI x ||| nI (z * 64) = nI (x + z * 64) := by decide +kernel
theorem ab_bits {a b : Nat} (ha : a < 256) (hb : b < 256) : (nI a >>> ((2 : Int32) &&& 31)) ||| ((nI b <<< ((6 : Int32) &&& 31)) &&& (255 : Int32)) = nI (a / 4 + b % 4 * 64) := by
  rw [pk_shrN (by omega) _ 2 (by decide), pk_shlN _ 6 (by decide) (by omega), an255 (by omega), show b * 2 ^ 6 % 256 = b % 4 * 64 by omega, show a / 2 ^ 2 = a / 4 from rfl, ab_or _ (by omega) _ (by omega)]
/-- numbers in a row of ints -/
def NR (S : TS) (q n : Nat) (a : Nat → Nat) : Prop := ∀ j, j < n → tI S q j = nI (a j)
theorem NR.ex {P : Nat → Prop} {S S' : TS} {q n : Nat} {a : Nat → Nat} (h : NR S q n a) (e : Ex P S S') (hq : ¬ P q) : NR S' q n a := fun j hj => by rw [(e.2 q hq).1]; exact h j hj
theorem NR.cong {S : TS} {q n : Nat} {a b : Nat → Nat} (h : NR S q n a) (e : ∀ j, j < n → a j = b j) : NR S q n b := fun j hj => by rw [h j hj, e j hj]
section MPO
variable {G : pG} {y : Nat} {Q : Option Value → TS → Prop}
theorem m_ca1 {a : Nat → Nat} (ha : ∀ j, j < 35 → a j < 2 ^ 28) : ∀ (n i : Nat) (S : TS), i + n = 34 → MS y S → (∀ j, j < i → tI S (y + 31) j = nI ((a j + cy a j) % 256)) → tI S (y + 31) i = nI (a i + cy a i) → (∀ j, i < j → j < 35 → tI S (y + 31) j = nI (a j)) →
    (∀ S', Ex (fun z => z = y + 31) S S' → (∀ j, j < 34 → tI S' (y + 31) j = nI ((a j + cy a j) % 256)) → tI S' (y + 31) 34 = nI (a 34 + cy a 34) → Q none S') → T0 G J_M_carry 2 [(0, .ref y), (1, .int (nI i))] [] S Q := by
  intro n
  induction n with
  | zero =>
    intro i S hi hs h1 h2 h3 hQ
    have : i = 34 := by omega
    subst this
    exact v_M_carry_2 y _ S Q ⟨fun _ => hQ S (Ex.rf S) h1 h2, fun c => absurd (Int32.le_refl _) c⟩
  | succ n ih =>
    intro i S hi hs h1 h2 h3 hQ
    have hc := cy_lt (n := 35) ha i (by omega)
    have hai := ha i (by omega)
    have in0 : vp_in (nI i) 35 := vp_in_nI (by omega) (by omega)
    have in1 : vp_in (nI (i + 1)) 35 := vp_in_nI (by omega) (by omega)
    refine v_M_carry_2 y _ S Q ⟨fun c => absurd c (nI_ge (b := 34) (by omega) (by omega)), fun _ => ⟨hs.1, y + 31, hs.r 31 (by omega) (by omega), 35, hs.t 31 (by omega) (by omega), ?_⟩⟩
    rw [nI_1, nI_clamp (show i + 1 < 2 ^ 31 by omega), nI_clamp (show i < 2 ^ 31 by omega), h2, h3 (i + 1) (by omega) (by omega), sh8 (by omega), nI_add]
    refine ⟨in1, in0, in1, fun S6 e6 => ⟨in0, in0, fun S7 e7 y8 e8 => ?_⟩⟩
    have r6 : tI S6 (y + 31) = upd (tI S (y + 31)) (i + 1) (nI (a (i + 1) + cy a (i + 1))) := by rw [e6, tI_sI, up_s]; rfl
    have x6 : Ex (fun z => z = y + 31) S S6 := by rw [e6]; exact (Ex.rf S).I rfl
    rw [r6, pk_un (by omega), h2, an255 (by omega)] at e7
    have r7 : tI S7 (y + 31) = upd (upd (tI S (y + 31)) (i + 1) (nI (a (i + 1) + cy a (i + 1)))) i (nI ((a i + cy a i) % 256)) := by rw [e7, tI_sI, up_s]
    have x7 : Ex (fun z => z = y + 31) S S7 := by rw [e7]; exact x6.I rfl
    rw [e8]
    refine ih (i + 1) S7 (by omega) (hs.sm x7.1) (fun j hj => ?_) ?_ (fun j hj hj2 => ?_) (fun S' x' f' g' => hQ S' (x7.tr x') f' g')
    · rw [r7]
      by_cases hji : j = i
      · subst hji; rw [pk_us]
      · rw [pk_un hji, pk_un (by omega)]; exact h1 j (by omega)
    · rw [r7, pk_un (by omega), pk_us]
    · rw [r7, pk_un (by omega), pk_un (by omega)]; exact h3 j (by omega) hj2
theorem m_carry {a : Nat → Nat} {S : TS} (ha : ∀ j, j < 35 → a j < 2 ^ 28) (hv : pv a 35 < 2 ^ 264) (hs : MS y S) (hr : NR S (y + 31) 35 a)
    (hQ : ∀ S' b, Ex (fun z => z = y + 31) S S' → NR S' (y + 31) 35 b → (∀ j, j < 35 → b j < 256) → b 34 = 0 → pv b 35 = pv a 35 → Q none S') : C0 G J_M_carry [.ref y] S Q := by
  refine v_M_carry y S Q (m_ca1 ha 34 0 S (by omega) hs (fun j hj => absurd hj (by omega)) (hr 0 (by omega)) (fun j _ hj => hr j hj) (fun S' x' f' g' => ?_))
  have hp : pv (fun j => if j = 34 then a 34 + cy a 34 else (a j + cy a j) % 256) 35 = pv a 35 := by
    show pv _ 34 + _ = pv a 34 + _
    rw [pv_cong (b := fun j => (a j + cy a j) % 256) 34 (fun j hj => by show (if j = 34 then _ else _) = _; rw [if_neg (by omega)]), pv_cy a 34]
    show _ + (if 34 = 34 then _ else _) * _ = _
    rw [if_pos rfl]
    grind
  have h34 : a 34 + cy a 34 = 0 := by
    have h1 := pv_ge (fun j => if j = 34 then a 34 + cy a 34 else (a j + cy a j) % 256) (show 34 < 35 by omega)
    rw [hp] at h1
    have h2 : (a 34 + cy a 34) * 256 ^ 34 ≤ pv a 35 := by simpa using h1
    have h3 : (256 : Nat) ^ 34 = 2 ^ 272 := by decide
    rw [h3] at h2
    omega
  refine hQ S' _ x' (fun j hj => ?_) (fun j hj => ?_) ?_ hp
  · by_cases hj34 : j = 34
    · rw [if_pos hj34, hj34]; exact g'
    · rw [if_neg hj34]; exact f' j (by omega)
  · show (if j = 34 then _ else _) < 256
    split
    · omega
    · exact Nat.mod_lt _ (by decide)
  · show (if 34 = 34 then _ else _) = 0
    rw [if_pos rfl]; exact h34
theorem m_se13 {x1 : Int32} {b : Nat → Nat} (hb : ∀ j, j < 35 → b j < 256) : ∀ (n k : Nat) (S : TS), k + n = 18 → MS y S → NR S (y + 31) 35 b → NR S (y + 35) k (fun k => b (16 + k) / 4 + b (17 + k) % 4 * 64) →
    (∀ S', Ex (fun z => z = y + 35) S S' → NR S' (y + 35) 18 (fun k => b (16 + k) / 4 + b (17 + k) % 4 * 64) → T0 G J_M_settle 62 [(0, .ref y), (1, .int x1), (2, .int 17)] [] S' Q) → T0 G J_M_settle 13 [(0, .ref y), (1, .int x1), (2, .int (nI k))] [] S Q := by
  intro n
  induction n with
  | zero =>
    intro k S hk hs hr h1 hQ
    have : k = 18 := by omega
    subst this
    exact v_M_settle_13 y x1 _ S Q ⟨fun _ => hQ S (Ex.rf S) h1, fun c => absurd (Int32.le_refl _) c⟩
  | succ n ih =>
    intro k S hk hs hr h1 hQ
    refine v_M_settle_13 y x1 _ S Q ⟨fun c => absurd c (nI_ge (b := 18) (by omega) (by omega)), fun _ => ⟨hs.1, y + 35, hs.r 35 (by omega) (by omega), y + 31, hs.r 31 (by omega) (by omega), 35, hs.t 31 (by omega) (by omega), ?_⟩⟩
    rw [show (16 : Int32) + nI k = nI (16 + k) from nI_add 16 k, show (17 : Int32) + nI k = nI (17 + k) from nI_add 17 k, nI_clamp (show 16 + k < 2 ^ 31 by omega), nI_clamp (show 17 + k < 2 ^ 31 by omega), nI_clamp (show k < 2 ^ 31 by omega), hr (16 + k) (by omega), hr (17 + k) (by omega), ab_bits (hb _ (by omega)) (hb _ (by omega)), nI_1]
    refine ⟨vp_in_nI (by omega) (by omega), vp_in_nI (by omega) (by omega), 19, hs.t 35 (by omega) (by omega), vp_in_nI (by omega) (by omega), fun S6 e6 z ez => ?_⟩
    have x6 : Ex (fun z => z = y + 35) S S6 := by rw [e6]; exact (Ex.rf S).I rfl
    rw [ez]
    refine ih (k + 1) S6 (by omega) (hs.sm x6.1) (hr.ex x6 (by omega)) (fun j hj => ?_) (fun S' x' f' => hQ S' (x6.tr x') f')
    rw [e6, tI_sI, up_s]
    by_cases hjk : j = k
    · subst hjk; rw [pk_us]
    · rw [pk_un hjk]; exact h1 j (by omega)
def sc1 (b : Nat → Nat) (j : Nat) : Nat := if j < 16 then b j else if j = 16 then b 16 % 4 else 0
theorem m_se62 {x1 : Int32} {b : Nat → Nat} (hb : ∀ j, j < 35 → b j < 256) : ∀ (n k : Nat) (S : TS), k + n = 35 → 17 ≤ k → MS y S → (∀ j, j < 17 → tI S (y + 31) j = nI (b j)) → (∀ j, 17 ≤ j → j < k → tI S (y + 31) j = nI 0) →
    (∀ S', Ex (fun z => z = y + 31) S S' → NR S' (y + 31) 35 (sc1 b) → T0 G J_M_settle 94 [(0, .ref y), (1, .int x1), (2, .int 0)] [] S' Q) → T0 G J_M_settle 62 [(0, .ref y), (1, .int x1), (2, .int (nI k))] [] S Q := by
  intro n
  induction n with
  | zero =>
    intro k S hk h17 hs h1 h2 hQ
    have : k = 35 := by omega
    subst this
    refine v_M_settle_62 y x1 _ S Q ⟨fun _ => ⟨hs.1, y + 31, hs.r 31 (by omega) (by omega), 35, hs.t 31 (by omega) (by omega), vp_in_nI (n := 16) (by omega) (by omega), vp_in_nI (n := 16) (by omega) (by omega), fun S6 e6 => ?_⟩, fun c => absurd (Int32.le_refl _) c⟩
    have x6 : Ex (fun z => z = y + 31) S S6 := by rw [e6]; exact (Ex.rf S).I rfl
    refine hQ S6 x6 (fun j hj => ?_)
    have hb16 := hb 16 (by omega)
    rw [h1 16 (by omega), pk_andN (show b 16 < 2 ^ 32 by omega) (m := 3) 2 (by decide)] at e6
    rw [e6, tI_sI, up_s]
    unfold sc1
    by_cases h16 : j = 16
    · subst h16; rw [pk_us]; rfl
    · rw [pk_un h16]
      by_cases hlt : j < 16
      · rw [if_pos hlt]; exact h1 j (by omega)
      · rw [if_neg hlt, if_neg h16]; exact h2 j (by omega) hj
  | succ n ih =>
    intro k S hk h17 hs h1 h2 hQ
    refine v_M_settle_62 y x1 _ S Q ⟨fun c => absurd c (nI_ge (b := 35) (by omega) (by omega)), fun _ => ⟨hs.1, y + 31, hs.r 31 (by omega) (by omega), 35, hs.t 31 (by omega) (by omega), vp_in_nI (by omega) (by omega), fun S6 e6 z ez => ?_⟩⟩
    have x6 : Ex (fun z => z = y + 31) S S6 := by rw [e6]; exact (Ex.rf S).I rfl
    rw [nI_clamp (by omega)] at e6
    rw [ez, nI_1]
    refine ih (k + 1) S6 (by omega) (by omega) (hs.sm x6.1) (fun j hj => ?_) (fun j hj hj2 => ?_) (fun S' x' f' => hQ S' (x6.tr x') f')
    · rw [e6, tI_sI, up_s, pk_un (by omega)]; exact h1 j hj
    · rw [e6, tI_sI, up_s]
      by_cases hjk : j = k
      · subst hjk; rw [pk_us]; rfl
      · rw [pk_un hjk]; exact h2 j hj (by omega)
theorem m_se94 {x1 : Int32} {c A : Nat → Nat} : ∀ (n k : Nat) (S : TS), k + n = 18 → MS y S → NR S (y + 35) 18 A → NR S (y + 31) 35 (fun j => c j + if j < k then 5 * A j else 0) →
    (∀ S', Ex (fun z => z = y + 31) S S' → NR S' (y + 31) 35 (fun j => c j + if j < 18 then 5 * A j else 0) → T0 G J_M_settle 2 [(0, .ref y), (1, .int (x1 + 1))] [] S' Q) → T0 G J_M_settle 94 [(0, .ref y), (1, .int x1), (2, .int (nI k))] [] S Q := by
  intro n
  induction n with
  | zero =>
    intro k S hk hs hA h1 hQ
    have : k = 18 := by omega
    subst this
    exact v_M_settle_94 y x1 _ S Q ⟨fun _ z ez => by rw [ez]; exact hQ S (Ex.rf S) h1, fun c => absurd (Int32.le_refl _) c⟩
  | succ n ih =>
    intro k S hk hs hA h1 hQ
    have in1 : vp_in (nI k) 35 := vp_in_nI (by omega) (by omega)
    refine v_M_settle_94 y x1 _ S Q ⟨fun c => absurd c (nI_ge (b := 18) (by omega) (by omega)), fun _ => ⟨hs.1, y + 31, hs.r 31 (by omega) (by omega), 35, hs.t 31 (by omega) (by omega), in1, y + 35, hs.r 35 (by omega) (by omega), 19, hs.t 35 (by omega) (by omega), vp_in_nI (by omega) (by omega), in1, fun S6 e6 z ez => ?_⟩⟩
    have x6 : Ex (fun z => z = y + 31) S S6 := by rw [e6]; exact (Ex.rf S).I rfl
    rw [nI_clamp (by omega), h1 k (by omega), hA k (by omega), show (5 : Int32) * nI (A k) = nI (5 * A k) from pk_mul 5 _, nI_add] at e6
    rw [ez, nI_1]
    refine ih (k + 1) S6 (by omega) (hs.sm x6.1) (hA.ex x6 (by omega)) (fun j hj => ?_) (fun S' x' f' => hQ S' (x6.tr x') f')
    rw [e6, tI_sI, up_s]
    by_cases hjk : j = k
    · subst hjk
      rw [pk_us]
      show nI (c j + (if j < j then _ else 0) + _) = nI (c j + if j < j + 1 then _ else 0)
      rw [if_neg (by omega), if_pos (by omega), Nat.add_zero]
    · rw [pk_un hjk, h1 j hj]
      show nI (c j + if j < k then _ else 0) = nI (c j + if j < k + 1 then _ else 0)
      by_cases hlt : j < k
      · rw [if_pos hlt, if_pos (by omega)]
      · rw [if_neg hlt, if_neg (by omega)]
def sfN : Nat → Nat → Nat
  | 0, V => V
  | n + 1, V => sfN n (sf V)
theorem sfN_s (n V : Nat) : sfN (n + 1) V = sfN n (sf V) := rfl
theorem sfN_0 (V : Nat) : sfN 0 V = V := rfl
def qR (y : Nat) : Nat → Prop := fun z => z = y + 31 ∨ z = y + 35
theorem sc_val {b : Nat → Nat} (hb : ∀ j, j < 35 → b j < 256) (h34 : b 34 = 0) : pv (fun j => sc1 b j + if j < 18 then 5 * (b (16 + j) / 4 + b (17 + j) % 4 * 64) else 0) 35 = sf (pv b 35) := by
  rw [pv_add, ← st_val hb h34]
  have e1 : pv (sc1 b) 35 = pv b 16 + b 16 % 4 * 2 ^ 128 := by
    rw [show 35 = 17 + 18 from rfl, pv_split, pv_zero (a := fun j => sc1 b (17 + j)) 18 (fun j hj => by show sc1 b (17 + j) = 0; unfold sc1; rw [if_neg (by omega), if_neg (by omega)])]
    show pv (sc1 b) 16 + sc1 b 16 * 256 ^ 16 + _ = _
    rw [pv_cong (b := b) 16 (fun j hj => by unfold sc1; rw [if_pos hj])]
    have : (256 : Nat) ^ 16 = 2 ^ 128 := by decide
    rw [this, show sc1 b 16 = b 16 % 4 from rfl]
    omega
  have e2 : pv (fun j => if j < 18 then 5 * (b (16 + j) / 4 + b (17 + j) % 4 * 64) else 0) 35 = 5 * pv (fun k => b (16 + k) / 4 + b (17 + k) % 4 * 64) 18 := by
    rw [show 35 = 18 + 17 from rfl, pv_split, pv_zero (a := fun j => if 18 + j < 18 then 5 * (b (16 + (18 + j)) / 4 + b (17 + (18 + j)) % 4 * 64) else 0) 17 (fun j hj => by show (if 18 + j < 18 then _ else _) = 0; rw [if_neg (by omega)]), pv_cong (b := fun j => 5 * (b (16 + j) / 4 + b (17 + j) % 4 * 64)) 18 (fun j hj => by show (if j < 18 then _ else _) = _; rw [if_pos hj]), pv_mulc]
    omega
  rw [e1, e2]
theorem sf_lt {V : Nat} (h : V < 2 ^ 264) : sf V < 2 ^ 264 := by unfold sf; omega
theorem m_se2 : ∀ (n i : Nat) (a : Nat → Nat) (S : TS), i + n = 3 → (∀ j, j < 35 → a j < 2 ^ 28) → pv a 35 < 2 ^ 264 → MS y S → NR S (y + 31) 35 a →
    (∀ S' b, Ex (qR y) S S' → NR S' (y + 31) 35 b → (∀ j, j < 35 → b j < 256) → pv b 35 = sfN n (pv a 35) → Q none S') → T0 G J_M_settle 2 [(0, .ref y), (1, .int (nI i))] [] S Q := by
  intro n
  induction n with
  | zero =>
    intro i a S hi ha hv hs hr hQ
    have : i = 3 := by omega
    subst this
    exact v_M_settle_2 y _ S Q ⟨fun _ => ⟨hs.1, m_carry ha hv hs hr (fun S' b x' r' d' _ p' => ⟨rfl, hQ S' b (x'.mono (fun z h => Or.inl h)) r' d' p'⟩)⟩, fun c => absurd (Int32.le_refl _) c⟩
  | succ n ih =>
    intro i a S hi ha hv hs hr hQ
    refine v_M_settle_2 y _ S Q ⟨fun c => absurd c (nI_ge (b := 3) (by omega) (by omega)), fun _ => ⟨hs.1, m_carry ha hv hs hr (fun S1 b x1 r1 d1 z1 p1 => ⟨rfl, ?_⟩)⟩⟩
    have s1 := hs.sm x1.1
    refine m_se13 d1 18 0 S1 (by omega) s1 r1 (fun j hj => absurd hj (by omega)) (fun S2 x2 r2 => ?_)
    have s2 := s1.sm x2.1
    have r12 := r1.ex x2 (by omega)
    refine m_se62 d1 18 17 S2 (by omega) (by omega) s2 (fun j hj => r12 j (by omega)) (fun j h1 h2 => absurd h2 (by omega)) (fun S3 x3 r3 => ?_)
    have s3 := s2.sm x3.1
    refine m_se94 (c := sc1 b) (A := fun k => b (16 + k) / 4 + b (17 + k) % 4 * 64) 18 0 S3 (by omega) s3 (r2.ex x3 (by omega)) (r3.cong (fun j hj => by rw [if_neg (by omega)]; rfl)) (fun S4 x4 r4 => ?_)
    rw [nI_1]
    have xx : Ex (qR y) S S4 := (((x1.mono (fun z h => Or.inl h)).tr (x2.mono (fun z h => Or.inr h))).tr (x3.mono (fun z h => Or.inl h))).tr (x4.mono (fun z h => Or.inl h))
    have hval := sc_val d1 z1
    refine ih (i + 1) _ S4 (by omega) (fun j hj => ?_) (by rw [hval, p1]; exact sf_lt hv) (s3.sm x4.1) r4 (fun S' b' x' r' d' p' => hQ S' b' (xx.tr x') r' d' ?_)
    · have h1 : sc1 b j < 256 := by
        unfold sc1
        split
        · exact d1 j hj
        · split <;> omega
      show sc1 b j + (if j < 18 then _ else 0) < _
      split
      · rename_i hj18
        have h2 := d1 (16 + j) (by omega)
        omega
      · omega
    · rw [p', hval, p1, sfN_s]
theorem m_settle {a : Nat → Nat} {S : TS} (ha : ∀ j, j < 35 → a j < 2 ^ 28) (hv : pv a 35 < 2 ^ 264) (hs : MS y S) (hr : NR S (y + 31) 35 a)
    (hQ : ∀ S' b, Ex (qR y) S S' → NR S' (y + 31) 35 b → (∀ j, j < 35 → b j < 256) → pv b 35 < 2 ^ 130 → pv b 35 % P130 = pv a 35 % P130 → Q none S') : C0 G J_M_settle [.ref y] S Q := by
  refine v_M_settle y S Q (m_se2 3 0 a S (by omega) ha hv hs hr (fun S' b x' r' d' p' => hQ S' b x' r' d' ?_ ?_))
  · rw [p', sfN_s, sfN_s, sfN_s, sfN_0]; exact sf_3 hv
  · rw [p', sfN_s, sfN_s, sfN_s, sfN_0, sf_mod, sf_mod, sf_mod]
end MPO
