/-! ===== lN n to 2^64: shifts, and, or, masks, one bit ===== -/
theorem wb_tb (n : Nat) : (lN n).toBitVec = BitVec.ofNat 64 n := rfl
theorem wb_inj {a b : Int64} (h : a.toBitVec = b.toBitVec) : a = b := Int64.toBitVec_inj.mp h
theorem wb_tn {n : Nat} (h : n < 2 ^ 64) : (lN n).toBitVec.toNat = n := by rw [wb_tb, BitVec.toNat_ofNat, Nat.mod_eq_of_lt h]
theorem wb_of (x : Int64) : ∃ n, n < 2 ^ 64 ∧ x = lN n := ⟨x.toBitVec.toNat, x.toBitVec.isLt, wb_inj (by rw [wb_tb]; simp)⟩
theorem wb_of32 (x : Int32) : ∃ n, n < 2 ^ 32 ∧ x = nI n := ⟨x.toBitVec.toNat, x.toBitVec.isLt, Int32.toBitVec_inj.mp (by show _ = BitVec.ofNat 32 _; simp)⟩
theorem wb_c : ∀ k, k < 64 → ((nI k).toInt64 &&& 63) = lN k := by decide +kernel
theorem wb_cu : ∀ k, k < 64 → ((nI k).toInt64.toUInt64 &&& Int64.toUInt64 63) = UInt64.ofNat k := by decide +kernel
theorem wb_sm : ∀ k, k < 64 → (BitVec.ofNat 64 k).smod 64 = BitVec.ofNat 64 k := by decide +kernel
theorem wb_pw {a b : Nat} (h : a ≤ b) : 2 ^ b = 2 ^ a * 2 ^ (b - a) := by rw [← Nat.pow_add]; congr 1; omega
theorem wb_lt2 {a b : Nat} (h : a < b) : 2 ^ a < 2 ^ b := Nat.pow_lt_pow_right (by decide) h
theorem wb_mod (n : Nat) : lN n = lN (n % 2 ^ 64) := wb_inj (by rw [wb_tb, wb_tb]; apply BitVec.eq_of_toNat_eq; rw [BitVec.toNat_ofNat, BitVec.toNat_ofNat, Nat.mod_mod])
theorem wb_shr {n k : Nat} (hn : n < 2 ^ 64) (hk : k < 64) : ((lN n).toUInt64 >>> ((nI k).toInt64.toUInt64 &&& Int64.toUInt64 63)).toInt64 = lN (n / 2 ^ k) := by
  rw [wb_cu k hk]
  apply wb_inj
  apply BitVec.eq_of_toNat_eq
  show ((lN n).toUInt64 >>> UInt64.ofNat k).toNat = (BitVec.ofNat 64 _).toNat
  have h1 : (UInt64.ofNat k).toNat = k := by
    show (BitVec.ofNat 64 k).toNat = k
    rw [BitVec.toNat_ofNat, Nat.mod_eq_of_lt (by omega)]
  have h2 : (lN n).toUInt64.toNat = n := wb_tn hn
  rw [UInt64.toNat_shiftRight, h1, h2, Nat.mod_eq_of_lt hk, Nat.shiftRight_eq_div_pow, BitVec.toNat_ofNat, Nat.mod_eq_of_lt (Nat.lt_of_le_of_lt (Nat.div_le_self _ _) hn)]
theorem wb_shl (n : Nat) {k : Nat} (hk : k < 64) : lN n <<< ((nI k).toInt64 &&& 63) = lN (n * 2 ^ k) := by
  rw [wb_c k hk]
  apply wb_inj
  rw [Int64.toBitVec_shiftLeft, wb_tb, wb_tb, wb_tb, wb_sm k hk]
  apply BitVec.eq_of_toNat_eq
  rw [BitVec.shiftLeft_eq', BitVec.toNat_shiftLeft, BitVec.toNat_ofNat, BitVec.toNat_ofNat, BitVec.toNat_ofNat, Nat.mod_eq_of_lt (show k < 2 ^ 64 by omega), Nat.shiftLeft_eq, Nat.mul_mod, Nat.mod_mod, ← Nat.mul_mod]
theorem wb_and {a b : Nat} (ha : a < 2 ^ 64) (hb : b < 2 ^ 64) : lN a &&& lN b = lN (a &&& b) := by
  apply wb_inj
  rw [Int64.toBitVec_and, wb_tb, wb_tb, wb_tb]
  apply BitVec.eq_of_toNat_eq
  rw [BitVec.toNat_and, BitVec.toNat_ofNat, BitVec.toNat_ofNat, BitVec.toNat_ofNat, Nat.mod_eq_of_lt ha, Nat.mod_eq_of_lt hb, Nat.mod_eq_of_lt (Nat.and_lt_two_pow _ hb)]
theorem wb_or {a b : Nat} (ha : a < 2 ^ 64) (hb : b < 2 ^ 64) : lN a ||| lN b = lN (a ||| b) := by
  apply wb_inj
  rw [Int64.toBitVec_or, wb_tb, wb_tb, wb_tb]
  apply BitVec.eq_of_toNat_eq
  rw [BitVec.toNat_or, BitVec.toNat_ofNat, BitVec.toNat_ofNat, BitVec.toNat_ofNat, Nat.mod_eq_of_lt ha, Nat.mod_eq_of_lt hb, Nat.mod_eq_of_lt (Nat.or_lt_two_pow ha hb)]
theorem wb_mask {n k : Nat} (hn : n < 2 ^ 64) (hk : k < 64) : lN n &&& lN (2 ^ k - 1) = lN (n % 2 ^ k) := by
  rw [wb_and hn (by have := wb_lt2 hk; omega), Nat.and_two_pow_sub_one_eq_mod]
theorem wb_a1 {n : Nat} (hn : n < 2 ^ 64) : lN n &&& 1 = lN (n % 2) := wb_mask (k := 1) hn (by decide)
theorem wb_bit {n k : Nat} (hn : n < 2 ^ 64) (hk : k < 64) : ((lN n).toUInt64 >>> ((nI k).toInt64.toUInt64 &&& Int64.toUInt64 63)).toInt64 &&& 1 = lN (n / 2 ^ k % 2) := by
  rw [wb_shr hn hk, wb_a1 (Nat.lt_of_le_of_lt (Nat.div_le_self _ _) hn)]
theorem wb_xor {q k : Nat} (hk : k < 63) (h : 2 ^ k ≤ q) (h2 : q < 2 ^ (k + 1)) : lN q ^^^ lN (2 ^ k) = lN (q - 2 ^ k) := by
  obtain ⟨r, rfl⟩ : ∃ r, q = 2 ^ k + r := ⟨q - 2 ^ k, by omega⟩
  have hr : r < 2 ^ k := by rw [Nat.pow_succ] at h2; omega
  have hx : (2 ^ k + r) ^^^ 2 ^ k = r := by
    apply Nat.eq_of_testBit_eq
    intro i
    rw [Nat.testBit_xor, Nat.testBit_two_pow]
    rcases Nat.lt_trichotomy i k with h | h | h
    · rw [Nat.testBit_two_pow_add_gt h]
      simp [show ¬ k = i by omega]
    · subst h
      rw [Nat.testBit_two_pow_add_eq]
      simp
    · have a1 : 2 ^ (k + 1) ≤ 2 ^ i := Nat.pow_le_pow_right (by decide) h
      rw [Nat.testBit_lt_two_pow (show 2 ^ k + r < 2 ^ i by omega), Nat.testBit_lt_two_pow (show r < 2 ^ i by omega)]
      simp [show ¬ k = i by omega]
  have b1 := wb_lt2 (show k + 1 < 64 by omega)
  have b2 := wb_lt2 (show k < 64 by omega)
  apply wb_inj
  rw [Int64.toBitVec_xor, wb_tb, wb_tb, wb_tb]
  apply BitVec.eq_of_toNat_eq
  rw [BitVec.toNat_xor, BitVec.toNat_ofNat, BitVec.toNat_ofNat, BitVec.toNat_ofNat, Nat.mod_eq_of_lt (by omega : 2 ^ k + r < 2 ^ 64), Nat.mod_eq_of_lt b2, hx, Nat.add_sub_cancel_left, Nat.mod_eq_of_lt (by omega)]
/-! ===== lN: masks, 'or' of parts that don't overlap is a sum ===== -/
theorem u_tn {n : Nat} (h : n < 2 ^ 64) : (UInt64.ofNat n).toNat = n := Nat.mod_eq_of_lt h
theorem g_and {a b c : Nat} (ha : a < 2 ^ 64) (hb : b < 2 ^ 64) (hc : a &&& b = c) : lN a &&& lN b = lN c := by
  subst hc
  have h : UInt64.ofNat a &&& UInt64.ofNat b = UInt64.ofNat (a &&& b) := UInt64.toNat_inj.mp (by rw [UInt64.toNat_and, u_tn ha, u_tn hb, u_tn (Nat.and_lt_two_pow a hb)])
  have h2 := congrArg UInt64.toInt64 h
  exact h2
theorem g_and1 {a : Nat} (ha : a < 2 ^ 64) : lN a &&& 1 = lN (a % 2) := g_and (b := 1) ha (by decide) (Nat.and_two_pow_sub_one_eq_mod a 1)
theorem g_mask {a s p : Nat} (hp : 2 ^ s = p) (hs : s < 64) (ha : a < 2 ^ 64) : lN a &&& lN (p - 1) = lN (a % p) := by
  subst hp
  have := Nat.pow_lt_pow_right (show 1 < 2 by decide) hs
  exact g_and ha (by omega) (Nat.and_two_pow_sub_one_eq_mod a s)
theorem g_or {k p a b : Nat} (hp : 2 ^ k = p) (ha : a < p) (h : b * p + a < 2 ^ 64) : lN (b * p) ||| lN a = lN (b * p + a) := by
  subst hp
  have h1 : b * 2 ^ k ||| a = b * 2 ^ k + a := by rw [← Nat.shiftLeft_eq, Nat.shiftLeft_add_eq_or_of_lt ha]
  have h3 : UInt64.ofNat (b * 2 ^ k) ||| UInt64.ofNat a = UInt64.ofNat (b * 2 ^ k + a) := UInt64.toNat_inj.mp (by rw [UInt64.toNat_or, u_tn (by omega), u_tn (by omega), u_tn h, h1])
  have h2 := congrArg UInt64.toInt64 h3
  exact h2
theorem g_or' {k p a b : Nat} (hp : 2 ^ k = p) (ha : a < p) (h : a + b * p < 2 ^ 64) : lN a ||| lN (b * p) = lN (a + b * p) := by
  rw [Int64.or_comm, g_or hp ha (by omega), Nat.add_comm]
theorem g_ushr {a k p : Nat} {y : UInt64} (hy : y = UInt64.ofNat k) (hk : k < 64) (hp : 2 ^ k = p) (ha : a < 2 ^ 64) : ((lN a).toUInt64 >>> y).toInt64 = lN (a / p) := by
  subst hy hp
  have h : UInt64.ofNat a >>> UInt64.ofNat k = UInt64.ofNat (a / 2 ^ k) := UInt64.toNat_inj.mp (by rw [UInt64.toNat_shiftRight, u_tn ha, u_tn (by omega), u_tn (Nat.lt_of_le_of_lt (Nat.div_le_self _ _) ha), Nat.mod_eq_of_lt hk, Nat.shiftRight_eq_div_pow])
  have h2 := congrArg UInt64.toInt64 h
  exact h2
theorem g_shl {a k p : Nat} {y : Int64} (hy : y.toBitVec.smod 64 = BitVec.ofNat 64 k) (hk : k < 64) (hp : 2 ^ k = p) (ha : a < 2 ^ 64) : lN a <<< y = lN (a * p) := by
  subst hp
  apply Int64.toBitVec_inj.mp
  rw [Int64.toBitVec_shiftLeft, hy]
  apply BitVec.eq_of_toNat_eq
  have hb : (lN a).toBitVec.toNat = a := Nat.mod_eq_of_lt ha
  have hk' : (BitVec.ofNat 64 k).toNat = k := Nat.mod_eq_of_lt (by omega)
  have h : ((lN a).toBitVec <<< BitVec.ofNat 64 k).toNat = (a * 2 ^ k) % 2 ^ 64 := by simp only [BitVec.shiftLeft_eq', BitVec.toNat_shiftLeft, hb, hk', Nat.shiftLeft_eq]
  exact h
/-! numbers without a sign -/
theorem s_l2 : ∀ n, n < 32 → ((nI n &&& 31).toBitVec.smod 32).toNat = n := by decide +kernel
theorem s_u2 : ∀ n, n < 32 → (((nI n).toUInt32 &&& Int32.toUInt32 31).toBitVec % 32).toNat = n := by decide +kernel
def u32 (x : Int32) : Nat := x.toBitVec.toNat
theorem u32_lt (x : Int32) : u32 x < 2 ^ 32 := x.toBitVec.isLt
theorem nI_u32 (x : Int32) : nI (u32 x) = x := Int32.toBitVec_inj.mp (by show BitVec.ofNat 32 _ = _; simp [u32])
theorem u32_nI {n : Nat} (h : n < 2 ^ 32) : u32 (nI n) = n := pk_tn h
theorem nx_or (a b : Nat) : nI a ||| nI b = nI (a ||| b) := by
  apply Int32.toBitVec_inj.mp
  apply BitVec.eq_of_toNat_eq
  show (BitVec.ofNat 32 a ||| BitVec.ofNat 32 b).toNat = (BitVec.ofNat 32 (a ||| b)).toNat
  rw [BitVec.toNat_or, BitVec.toNat_ofNat, BitVec.toNat_ofNat, BitVec.toNat_ofNat, Nat.or_mod_two_pow]
theorem or_add {k a b : Nat} (h : b < 2 ^ k) : a * 2 ^ k ||| b = a * 2 ^ k + b := by
  rw [Nat.mul_comm a, Nat.two_pow_add_eq_or_of_lt h]
theorem b8_nI (n : Nat) : b8 (nI n) = BitVec.ofNat 8 n := by
  apply BitVec.eq_of_toNat_eq
  show (BitVec.setWidth 8 (BitVec.ofNat 32 n)).toNat = _
  rw [BitVec.toNat_setWidth, BitVec.toNat_ofNat, BitVec.toNat_ofNat]
  omega
theorem ushr_nI {n k : Nat} (hn : n < 2 ^ 32) (hk : k < 32) : ushr (nI n) (nI k) = nI (n / 2 ^ k) := by
  refine pk_ushrN hn (nI k) k ?_
  have h := s_u2 k hk
  exact h
theorem shl_nI {n k : Nat} (hk : k < 32) (h : n * 2 ^ k < 2 ^ 32) : nI n <<< (nI k &&& 31) = nI (n * 2 ^ k) := pk_shlN (nI k &&& 31) k (s_l2 k hk) h
theorem shl_nI' {n k : Nat} (hk : k < 32) : nI n <<< (nI k &&& 31) = nI (n * 2 ^ k % 2 ^ 32) := by
  apply Int32.toBitVec_inj.mp
  apply BitVec.eq_of_toNat_eq
  rw [pk_shl _ _ k (s_l2 k hk), pk_tn (Nat.mod_lt _ (by decide))]
  show (BitVec.ofNat 32 n).toNat * _ % _ = _
  rw [BitVec.toNat_ofNat, Nat.mod_mul_mod]
/-! the number in four bytes -/
theorem num4_nI (a b c d : B8) : num4 a b c d = nI (a.toNat * 2 ^ 24 + b.toNat * 2 ^ 16 + c.toNat * 2 ^ 8 + d.toNat) := by
  have ha := a.isLt
  have hb := b.isLt
  have hc := c.isLt
  have hd := d.isLt
  unfold num4
  rw [zx_nI a, zx_nI b, zx_nI c, zx_nI d]
  rw [show (24 : Int32) = nI 24 from rfl, show (16 : Int32) = nI 16 from rfl, show (8 : Int32) = nI 8 from rfl]
  rw [shl_nI (by decide) (by omega), shl_nI (by decide) (by omega), shl_nI (by decide) (by omega), nx_or, nx_or, nx_or]
  congr 1
  have e1 : a.toNat * 2 ^ 24 ||| b.toNat * 2 ^ 16 = a.toNat * 2 ^ 24 + b.toNat * 2 ^ 16 := or_add (by omega)
  have e2 : (a.toNat * 2 ^ 24 + b.toNat * 2 ^ 16) ||| c.toNat * 2 ^ 8 = a.toNat * 2 ^ 24 + b.toNat * 2 ^ 16 + c.toNat * 2 ^ 8 := by
    have := or_add (k := 16) (a := a.toNat * 2 ^ 8 + b.toNat) (b := c.toNat * 2 ^ 8) (by omega)
    rw [show (a.toNat * 2 ^ 8 + b.toNat) * 2 ^ 16 = a.toNat * 2 ^ 24 + b.toNat * 2 ^ 16 by omega] at this
    exact this
  have e3 : (a.toNat * 2 ^ 24 + b.toNat * 2 ^ 16 + c.toNat * 2 ^ 8) ||| d.toNat = a.toNat * 2 ^ 24 + b.toNat * 2 ^ 16 + c.toNat * 2 ^ 8 + d.toNat := by
    have := or_add (k := 8) (a := a.toNat * 2 ^ 16 + b.toNat * 2 ^ 8 + c.toNat) (b := d.toNat) (by omega)
    rw [show (a.toNat * 2 ^ 16 + b.toNat * 2 ^ 8 + c.toNat) * 2 ^ 8 = a.toNat * 2 ^ 24 + b.toNat * 2 ^ 16 + c.toNat * 2 ^ 8 by omega] at this
    exact this
  rw [e1, e2, e3]
theorem and_65280 (n : Nat) : n &&& 65280 = (n / 256 % 256) * 256 := by
  have e : (65280 : Nat) = (2 ^ 8 - 1) * 2 ^ 8 := rfl
  have e2 : (n / 256 % 256) * 256 = (n / 2 ^ 8 % 2 ^ 8) * 2 ^ 8 := rfl
  rw [e, e2]
  apply Nat.eq_of_testBit_eq
  intro i
  rw [Nat.testBit_and, Nat.testBit_mul_two_pow, Nat.testBit_mul_two_pow, Nat.testBit_two_pow_sub_one, Nat.testBit_mod_two_pow, Nat.testBit_div_two_pow]
  by_cases h : 8 ≤ i
  · rw [show i - 8 + 8 = i by omega]
    simp [h]
    exact Bool.and_comm _ _
  · simp [h]
theorem nI_and65280 (n : Nat) (h : n < 2 ^ 32) : nI n &&& (65280 : Int32) = nI ((n / 256 % 256) * 256) := by
  apply Int32.toBitVec_inj.mp
  apply BitVec.eq_of_toNat_eq
  rw [Int32.toBitVec_and, BitVec.toNat_and, pk_tn h, pk_tn (by omega)]
  exact and_65280 n
theorem by4 (n : Nat) (h : n < 2 ^ 32) : ∃ a b c d : Nat, a < 256 ∧ b < 256 ∧ c < 256 ∧ d < 256 ∧ n = a + b * 256 + c * 65536 + d * 16777216 := by
  refine ⟨n % 256, n / 256 % 256, n / 256 / 256 % 256, n / 256 / 256 / 256, by omega, by omega, by omega, by omega, ?_⟩
  generalize hx : n / 256 = x
  generalize hy : x / 256 = y
  generalize hz : y / 256 = z
  omega
theorem rvb_by {a b c d : Nat} (ha : a < 256) (hb : b < 256) (hc : c < 256) (hd : d < 256) : rvb (nI (a + b * 256 + c * 65536 + d * 16777216)) = nI (d + c * 256 + b * 65536 + a * 16777216) := by
  have h : a + b * 256 + c * 65536 + d * 16777216 < 2 ^ 32 := by omega
  have g1 : (a + b * 256 + c * 65536 + d * 16777216) / 2 ^ 8 = b + c * 256 + d * 65536 := by omega
  have g2 : (a + b * 256 + c * 65536 + d * 16777216) / 2 ^ 24 = d := by omega
  have g3 : (b + c * 256 + d * 65536) % 256 = b := by omega
  have g4 : (b + c * 256 + d * 65536) / 256 % 256 = c := by omega
  have g5 : (a + b * 256 + c * 65536 + d * 16777216) * 2 ^ 24 % 2 ^ 32 = a * 2 ^ 24 := by omega
  unfold rvb
  rw [show (24 : Int32) = nI 24 from rfl, show (8 : Int32) = nI 8 from rfl, ushr_nI h (by decide), ushr_nI h (by decide), nI_and65280 _ h, g1, g2, g3, nI_and65280 _ (by omega), g4, shl_nI' (by decide), g5, shl_nI (by decide) (by omega), nx_or, nx_or, nx_or]
  congr 1
  have e1 : a * 2 ^ 24 ||| b * 256 * 2 ^ 8 = a * 2 ^ 24 + b * 256 * 2 ^ 8 := or_add (by omega)
  have e2 : (a * 2 ^ 24 + b * 256 * 2 ^ 8) ||| c * 256 = a * 2 ^ 24 + b * 256 * 2 ^ 8 + c * 256 := by
    have := or_add (k := 16) (a := a * 2 ^ 8 + b) (b := c * 256) (by omega)
    rw [show (a * 2 ^ 8 + b) * 2 ^ 16 = a * 2 ^ 24 + b * 256 * 2 ^ 8 by omega] at this
    exact this
  have e3 : (a * 2 ^ 24 + b * 256 * 2 ^ 8 + c * 256) ||| d = a * 2 ^ 24 + b * 256 * 2 ^ 8 + c * 256 + d := by
    have := or_add (k := 8) (a := a * 2 ^ 16 + b * 2 ^ 8 + c) (b := d) (by omega)
    rw [show (a * 2 ^ 16 + b * 2 ^ 8 + c) * 2 ^ 8 = a * 2 ^ 24 + b * 256 * 2 ^ 8 + c * 256 by omega] at this
    exact this
  rw [e1, e2, e3]
  omega
/-- four bytes, the lowest first, as a number -/
def le4n (t : List B8) (j : Nat) : Nat := (t.getD j 0).toNat + (t.getD (j + 1) 0).toNat * 2 ^ 8 + (t.getD (j + 2) 0).toNat * 2 ^ 16 + (t.getD (j + 3) 0).toNat * 2 ^ 24
theorem le4n_lt (t : List B8) (j : Nat) : le4n t j < 2 ^ 32 := by
  have ha := (t.getD j 0).isLt
  have hb := (t.getD (j + 1) 0).isLt
  have hc := (t.getD (j + 2) 0).isLt
  have hd := (t.getD (j + 3) 0).isLt
  unfold le4n
  omega
theorem rvb_num4 (t : List B8) (j : Nat) : rvb (num4 (t.getD j 0) (t.getD (j + 1) 0) (t.getD (j + 2) 0) (t.getD (j + 3) 0)) = nI (le4n t j) := by
  have ha := (t.getD j 0).isLt
  have hb := (t.getD (j + 1) 0).isLt
  have hc := (t.getD (j + 2) 0).isLt
  have hd := (t.getD (j + 3) 0).isLt
  rw [num4_nI, show (t.getD j 0).toNat * 2 ^ 24 + (t.getD (j + 1) 0).toNat * 2 ^ 16 + (t.getD (j + 2) 0).toNat * 2 ^ 8 + (t.getD (j + 3) 0).toNat = (t.getD (j + 3) 0).toNat + (t.getD (j + 2) 0).toNat * 256 + (t.getD (j + 1) 0).toNat * 65536 + (t.getD j 0).toNat * 16777216 by omega, rvb_by (by omega) (by omega) (by omega) (by omega)]
  rfl
/-- k bytes of a number, the lowest first -/
def leB (n : Nat) : Nat → List B8
  | 0 => []
  | k + 1 => BitVec.ofNat 8 n :: leB (n / 256) k
theorem leB_len (n k : Nat) : (leB n k).length = k := by
  induction k generalizing n with
  | zero => rfl
  | succ k ih => simp [leB, ih]
theorem leB_add (n j k : Nat) : leB n (j + k) = leB n j ++ leB (n / 256 ^ j) k := by
  induction j generalizing n with
  | zero => simp [leB]
  | succ j ih =>
    rw [show j + 1 + k = (j + k) + 1 by omega]
    simp only [leB, List.cons_append]
    rw [ih, Nat.div_div_eq_div_mul, Nat.pow_succ, Nat.mul_comm 256]
theorem ofNat8 {a b : Nat} (h : a % 256 = b % 256) : BitVec.ofNat 8 a = BitVec.ofNat 8 b := by
  apply BitVec.eq_of_toNat_eq
  rw [BitVec.toNat_ofNat, BitVec.toNat_ofNat]
  exact h
theorem be4_rvb {n : Nat} (h : n < 2 ^ 32) : be4 (rvb (nI n)) = leB n 4 := by
  obtain ⟨a, b, c, d, ha, hb, hc, hd, rfl⟩ := by4 n h
  rw [rvb_by ha hb hc hd]
  unfold be4
  rw [show (24 : Int32) = nI 24 from rfl, show (16 : Int32) = nI 16 from rfl, show (8 : Int32) = nI 8 from rfl, ushr_nI (by omega) (by decide), ushr_nI (by omega) (by decide), ushr_nI (by omega) (by decide)]
  simp only [b8_nI, leB]
  have g1 : (d + c * 256 + b * 65536 + a * 16777216) / 2 ^ 24 = a := by omega
  have g2 : (d + c * 256 + b * 65536 + a * 16777216) / 2 ^ 16 = b + a * 256 := by omega
  have g3 : (d + c * 256 + b * 65536 + a * 16777216) / 2 ^ 8 = c + b * 256 + a * 65536 := by omega
  have g4 : (a + b * 256 + c * 65536 + d * 16777216) / 256 = b + c * 256 + d * 65536 := by omega
  have g5 : (b + c * 256 + d * 65536) / 256 = c + d * 256 := by omega
  have g6 : (c + d * 256) / 256 = d := by omega
  rw [g1, g2, g3, g4, g5, g6]
  rw [ofNat8 (a := a) (b := a + b * 256 + c * 65536 + d * 16777216) (by omega), ofNat8 (a := b + a * 256) (b := b + c * 256 + d * 65536) (by omega), ofNat8 (a := c + b * 256 + a * 65536) (b := c + d * 256) (by omega), ofNat8 (a := d + c * 256 + b * 65536 + a * 16777216) (b := d) (by omega)]
/-! longs -/
theorem i2l_mask (x : Int32) : x.toInt64 &&& (4294967295 : Int64) = lN (u32 x) := by
  apply Int64.toBitVec_inj.mp
  apply BitVec.eq_of_toNat_eq
  have hx := x.toBitVec.isLt
  rw [Int64.toBitVec_and, BitVec.toNat_and, show ((4294967295 : Int64).toBitVec).toNat = 2 ^ 32 - 1 from rfl, Nat.and_two_pow_sub_one_eq_mod]
  show (BitVec.signExtend 64 x.toBitVec).toNat % 2 ^ 32 = (BitVec.ofNat 64 (u32 x)).toNat
  rw [BitVec.toNat_signExtend, BitVec.toNat_ofNat, BitVec.toNat_setWidth]
  unfold u32
  split <;> omega
theorem lushr_lN {n k : Nat} (hn : n < 2 ^ 64) (hk : k < 64) : lushr (lN n) (nI k) = lN (n / 2 ^ k) := wb_shr hn hk
theorem land_lN {n : Nat} (hn : n < 2 ^ 64) : lN n &&& (67108863 : Int64) = lN (n % 2 ^ 26) := wb_mask (k := 26) hn (by decide)
theorem lword_lN {n : Nat} (hn : n < 2 ^ 64) : lN n &&& (4294967295 : Int64) = lN (n % 2 ^ 32) := wb_mask (k := 32) hn (by decide)
theorem l2i_lN (n : Nat) : (lN n).toInt32 = nI n := lN_i n
theorem lor_lN {k a b : Nat} (h : b < 2 ^ k) (h2 : a * 2 ^ k + b < 2 ^ 64) : lN (a * 2 ^ k) ||| lN b = lN (a * 2 ^ k + b) := by
  rw [wb_or (by omega) (by omega), or_add h]
