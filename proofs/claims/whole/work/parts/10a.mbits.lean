/-! Int32 by its bits (pasted family) -/
def bt (x : Int32) (i : Nat) : Bool := x.toBitVec.getLsbD i
theorem b_ext {x y : Int32} (h : ∀ i, i < 32 → bt x i = bt y i) : x = y := Int32.toBitVec_inj.mp (BitVec.eq_of_getLsbD_eq (fun i hi => h i hi))
theorem b_or (x y : Int32) (i : Nat) : bt (x ||| y) i = (bt x i || bt y i) := by unfold bt; rw [Int32.toBitVec_or, BitVec.getLsbD_or]
theorem b_and (x y : Int32) (i : Nat) : bt (x &&& y) i = (bt x i && bt y i) := by unfold bt; rw [Int32.toBitVec_and, BitVec.getLsbD_and]
theorem b_xor (x y : Int32) (i : Nat) : bt (x ^^^ y) i = (bt x i ^^ bt y i) := by unfold bt; rw [Int32.toBitVec_xor, BitVec.getLsbD_xor]
theorem b_big {x : Int32} {i : Nat} (h : 32 ≤ i) : bt x i = false := BitVec.getLsbD_of_ge _ _ h
theorem b_255 (i : Nat) : bt 255 i = decide (i < 8) := by
  rcases Nat.lt_or_ge i 32 with h | h
  · exact (by decide +kernel : ∀ i, i < 32 → bt 255 i = decide (i < 8)) i h
  · rw [b_big h, decide_eq_false (by omega)]
theorem b_65535 (i : Nat) : bt 65535 i = decide (i < 16) := by
  rcases Nat.lt_or_ge i 32 with h | h
  · exact (by decide +kernel : ∀ i, i < 32 → bt 65535 i = decide (i < 16)) i h
  · rw [b_big h, decide_eq_false (by omega)]
theorem b_m1 : ∀ i, i < 32 → bt (-1) i = true := by decide +kernel
theorem b_0 (i : Nat) : bt 0 i = false := BitVec.getLsbD_zero
theorem s_l : ∀ n, n < 32 → ((nI n &&& 31).toBitVec.smod 32).toNat = n := by decide +kernel
theorem s_u : ∀ n, n < 32 → (((nI n).toUInt32 &&& Int32.toUInt32 31).toBitVec % 32).toNat = n := by decide +kernel
theorem b_shl (n : Nat) (hn : n < 32) (x : Int32) {i : Nat} (hi : i < 32) : bt (x <<< (nI n &&& 31)) i = (decide (n ≤ i) && bt x (i - n)) := by
  unfold bt
  rw [Int32.toBitVec_shiftLeft]
  show (x.toBitVec <<< ((nI n &&& 31).toBitVec.smod 32).toNat).getLsbD i = _
  rw [s_l n hn, BitVec.getLsbD_shiftLeft]
  rcases Nat.lt_or_ge i n with h | h
  · simp [h, Nat.not_le.mpr h]
  · simp [hi, h, Nat.not_lt.mpr h]
theorem b_ushr (n : Nat) (hn : n < 32) (x : Int32) (i : Nat) : bt ((x.toUInt32 >>> ((nI n).toUInt32 &&& Int32.toUInt32 31)).toInt32) i = bt x (n + i) := by
  show (x.toUInt32 >>> ((nI n).toUInt32 &&& Int32.toUInt32 31)).toBitVec.getLsbD i = x.toUInt32.toBitVec.getLsbD (n + i)
  rw [UInt32.toBitVec_shiftRight]
  show (x.toUInt32.toBitVec >>> (((nI n).toUInt32 &&& Int32.toUInt32 31).toBitVec % 32).toNat).getLsbD i = _
  rw [s_u n hn, BitVec.getLsbD_ushiftRight]
theorem b_sshr (n : Nat) (hn : n < 32) (x : Int32) {i : Nat} (hi : i < 32) : bt (x >>> (nI n &&& 31)) i = if n + i < 32 then bt x (n + i) else bt x 31 := by
  unfold bt
  rw [Int32.toBitVec_shiftRight]
  show (x.toBitVec.sshiftRight ((nI n &&& 31).toBitVec.smod 32).toNat).getLsbD i = _
  rw [s_l n hn, BitVec.getLsbD_sshiftRight, BitVec.msb_eq_getLsbD_last]
  simp [hi]
theorem pf_lI {a : Nat} (h : a < 2 ^ 63) : (lN a).toInt = (a : Int) := lg_ofNat_toInt h
theorem pf_shr {a d : Nat} {D : Int64} (hD : (D.toBitVec.smod 64).toNat = d) (h : a < 2 ^ 62) : lN a >>> D = lN (a / 2 ^ d) := by
  have hd : a / 2 ^ d ≤ a := Nat.div_le_self _ _
  apply Int64.toInt_inj.mp
  have e : (lN a >>> D).toInt = (lN a).toInt >>> d := by
    rw [← hD]
    exact BitVec.toInt_sshiftRight ..
  rw [e, Int.shiftRight_eq_div_pow, pf_lI (by omega), pf_lI (by omega)]
  rfl
/-! PURE: the reference's object and its rows -/
def mFl : List Nat := [0, 0, 2, 5, 7, 8, 9, 10, 11, 13, 14, 15, 16, 17, 18, 19, 20, 21, 22, 23, 24, 25, 27, 28, 29, 30, 32, 36, 37, 38, 39, 40, 41, 42, 43, 44, 45, 47, 48, 49, 50, 51, 52, 53, 54]
def mTl : List (FieldType × Nat) := [(.int, 0), (.byte, 200), (.byte, 128), (.byte, 1024), (.long, 8), (.long, 64), (.byte, 32), (.byte, 32), (.byte, 256), (.boolean, 16), (.byte, 512), (.int, 2), (.int, 2), (.byte, 33), (.byte, 32), (.byte, 128), (.int, 4), (.int, 4), (.byte, 4800), (.int, 24), (.int, 2), (.byte, 16), (.byte, 320), (.int, 20), (.byte, 1280), (.int, 20), (.byte, 65), (.int, 16), (.int, 16), (.byte, 64), (.int, 17), (.int, 35), (.int, 16), (.byte, 320), (.byte, 16), (.int, 19), (.byte, 128), (.byte, 32), (.byte, 32), (.byte, 33), (.byte, 32), (.byte, 32), (.byte, 33), (.byte, 32), (.byte, 200)]
def mF (i : Nat) : Nat := mFl.getD i 0
def mT (i : Nat) : FieldType × Nat := mTl.getD i (.int, 0)
def MS (y : Nat) (S : TS) : Prop := te S y = some (.inr 11) ∧ ∀ i, 1 ≤ i → i < 45 → tR S y (mF i) = some (y + i) ∧ te S (y + i) = some (.inl (mT i))
theorem MS.sm {S S' : TS} {y : Nat} (k : MS y S) (e : Sm0 S S') : MS y S' := ⟨by rw [e.1]; exact k.1, fun i h1 h2 => by rw [e.R, e.1]; exact k.2 i h1 h2⟩
theorem MS.r {S : TS} {y : Nat} (k : MS y S) (i : Nat) (h1 : 1 ≤ i) (h2 : i < 45) : tR S y (mF i) = some (y + i) := (k.2 i h1 h2).1
theorem MS.t {S : TS} {y : Nat} (k : MS y S) (i : Nat) (h1 : 1 ≤ i) (h2 : i < 45) : te S (y + i) = some (.inl (mT i)) := (k.2 i h1 h2).2
/-- a list in a row of bytes, from place o on -/
def BR (S : TS) (a o : Nat) (l : List B8) : Prop := ∀ j, j < l.length → tI S a (o + j) = sx (l.getD j 0)
theorem BR.ex {P : Nat → Prop} {S S' : TS} {a o : Nat} {l : List B8} (h : BR S a o l) (e : Ex P S S') (hp : ¬ P a) : BR S' a o l := fun j hj => by rw [(e.2 a hp).1]; exact h j hj
theorem BR.eq {S S' : TS} {a o : Nat} {l : List B8} (h : BR S a o l) (e : tI S' a = tI S a) : BR S' a o l := fun j hj => by rw [e]; exact h j hj
theorem nar2 (x : Int32) : ((x : Int32).toInt8.toInt32 : Int32).toInt8.toInt32 = sx (b8 x) := by rw [i8_sx, i8_sx, b8_sx]
theorem nar1s (b : B8) : (sx b).toInt8.toInt32 = sx b := by rw [i8_sx, b8_sx]
theorem upd_upd (f : Nat → Int32) (k : Nat) (a b : Int32) : upd (upd f k a) k b = upd f k b := by
  funext j
  unfold upd
  split <;> rfl
theorem b8_neg8 (x : Int32) (j : Nat) (hj : j < 4) : b8 (x >>> (nI (8 * j) &&& 31)) = b8 (ushr x (nI (8 * j))) := by
  apply BitVec.eq_of_getLsbD_eq
  intro i hi
  show (BitVec.setWidth 8 (x >>> (nI (8 * j) &&& 31)).toBitVec).getLsbD i = (BitVec.setWidth 8 (ushr x (nI (8 * j))).toBitVec).getLsbD i
  rw [BitVec.getLsbD_setWidth, BitVec.getLsbD_setWidth]
  have h1 : bt (x >>> (nI (8 * j) &&& 31)) i = if 8 * j + i < 32 then bt x (8 * j + i) else bt x 31 := b_sshr (8 * j) (by omega) x (by omega)
  have h2 : bt (ushr x (nI (8 * j))) i = bt x (8 * j + i) := b_ushr (8 * j) (by omega) x i
  unfold bt at h1 h2
  rw [h1, h2, if_pos (by omega)]
/-! 32 bits in a long -/
def lu (x : Int32) : Int64 := lN (u32 x)
theorem lb_lu (x : Int32) (i : Nat) : (lu x).toBitVec.getLsbD i = bt x i := by
  have hx := u32_lt x
  show (BitVec.ofNat 64 (u32 x)).getLsbD i = x.toBitVec.getLsbD i
  rw [BitVec.getLsbD_ofNat]
  unfold u32
  by_cases h : i < 64
  · simp [h, BitVec.getLsbD]
  · simp [h]
    rw [BitVec.getLsbD_of_ge _ _ (by omega)]
theorem lu_ext {y : Int64} {x : Int32} (h : ∀ i, i < 64 → y.toBitVec.getLsbD i = bt x i) : y = lu x := by
  apply Int64.toBitVec_inj.mp
  apply BitVec.eq_of_getLsbD_eq
  intro i hi
  rw [h i hi, lb_lu]
theorem lu_xor (x y : Int32) : lu x ^^^ lu y = lu (x ^^^ y) := lu_ext (fun i hi => by rw [Int64.toBitVec_xor, BitVec.getLsbD_xor, lb_lu, lb_lu, b_xor])
theorem lu_and (x y : Int32) : lu x &&& lu y = lu (x &&& y) := lu_ext (fun i hi => by rw [Int64.toBitVec_and, BitVec.getLsbD_and, lb_lu, lb_lu, b_and])
theorem lu_or (x y : Int32) : lu x ||| lu y = lu (x ||| y) := lu_ext (fun i hi => by rw [Int64.toBitVec_or, BitVec.getLsbD_or, lb_lu, lb_lu, b_or])
theorem lu_not (x : Int32) : (4294967295 : Int64) - lu x = lu (x ^^^ (-1)) := by
  have hx := u32_lt x
  have e : (4294967295 : Int64) - lu x = lN (4294967295 - u32 x) := lN_sub (a := 4294967295) (by omega)
  rw [e]
  unfold lu
  congr 1
  show _ = (x ^^^ (-1)).toBitVec.toNat
  rw [Int32.toBitVec_xor, show ((-1 : Int32).toBitVec) = BitVec.allOnes 32 from rfl, BitVec.xor_allOnes, BitVec.toNat_not]
  show _ = 2 ^ 32 - 1 - u32 x
  omega
theorem lmask (n : Nat) : lN n &&& (4294967295 : Int64) = lu (nI n) := by
  rw [wb_mod n, lword_lN (Nat.mod_lt _ (by decide))]
  unfold lu
  congr 1
  show _ = (BitVec.ofNat 32 n).toNat
  rw [BitVec.toNat_ofNat]
  omega
theorem lu_mask (x : Int32) : x.toInt64 &&& (4294967295 : Int64) = lu x := i2l_mask x
theorem ch_lu (e f g : Int32) : (lu e &&& lu f) ||| (((4294967295 : Int64) - lu e) &&& lu g) = lu (chv e f g) := by
  rw [lu_not, lu_and, lu_and, lu_or]
  congr 1
  unfold chv
  apply b_ext
  intro i hi
  rw [b_or, b_xor, b_and, b_and, b_xor, b_m1 i hi]
  cases bt e i <;> cases bt f i <;> cases bt g i <;> rfl
theorem mj_lu (a b c : Int32) : ((lu a &&& lu b) ||| (lu a &&& lu c)) ||| (lu b &&& lu c) = lu (mjv a b c) := by
  rw [lu_and, lu_and, lu_and, lu_or, lu_or]
  congr 1
  unfold mjv
  apply b_ext
  intro i hi
  rw [b_or, b_or, b_xor, b_xor, b_and, b_and, b_and]
  cases bt a i <;> cases bt b i <;> cases bt c i <;> rfl
theorem shD : ∀ k, k < 64 → (((nI k).toInt64 &&& 63).toBitVec.smod 64).toNat = k := by decide +kernel
theorem lshr_lN {a k : Nat} (h : a < 2 ^ 62) (hk : k < 64) : lN a >>> ((nI k).toInt64 &&& 63) = lN (a / 2 ^ k) := pf_shr (shD k hk) h
theorem ng31 : ∀ n, n < 32 → 0 < n → (-(nI n)) &&& 31 = nI (32 - n) &&& 31 := by decide +kernel
theorem turn_lu (x : Int32) {n : Nat} (h0 : 0 < n) (hn : n < 32) : ((lu x >>> ((nI n).toInt64 &&& 63)) ||| (lu x <<< (((32 : Int32) - nI n).toInt64 &&& 63))) &&& (4294967295 : Int64) = lu (rr x (nI n)) := by
  have hx := u32_lt x
  have e32 : (32 : Int32) - nI n = nI (32 - n) := pk_sub (a := 32) (by omega)
  unfold lu
  rw [lshr_lN (by omega) (by omega), e32, wb_shl _ (by omega)]
  refine lu_ext (fun i hi => ?_)
  have hm : (4294967295 : Int64).toBitVec.getLsbD i = decide (i < 32) := by
    have : ∀ i, i < 64 → (4294967295 : Int64).toBitVec.getLsbD i = decide (i < 32) := by decide +kernel
    exact this i hi
  have t1 : (lN (u32 x / 2 ^ n)).toBitVec.getLsbD i = bt x (n + i) := by
    show (BitVec.ofNat 64 (u32 x / 2 ^ n)).getLsbD i = x.toBitVec.getLsbD (n + i)
    rw [BitVec.getLsbD_ofNat, Nat.testBit_div_two_pow]
    simp [hi, BitVec.getLsbD, u32, Nat.add_comm]
  have t2 : (lN (u32 x * 2 ^ (32 - n))).toBitVec.getLsbD i = (decide (32 - n ≤ i) && bt x (i - (32 - n))) := by
    show (BitVec.ofNat 64 (u32 x * 2 ^ (32 - n))).getLsbD i = (decide (32 - n ≤ i) && x.toBitVec.getLsbD (i - (32 - n)))
    rw [BitVec.getLsbD_ofNat, Nat.testBit_mul_two_pow]
    simp [hi, BitVec.getLsbD, u32]
  rw [Int64.toBitVec_and, BitVec.getLsbD_and, Int64.toBitVec_or, BitVec.getLsbD_or, hm, t1, t2]
  by_cases hi32 : i < 32
  · have e1 : bt (ushr x (nI n)) i = bt x (n + i) := b_ushr n hn x i
    have e2 : bt (x <<< (nI (32 - n) &&& 31)) i = (decide (32 - n ≤ i) && bt x (i - (32 - n))) := b_shl (32 - n) (by omega) x hi32
    unfold rr
    rw [ng31 n hn h0, b_or, e1, e2]
    simp [hi32]
  · have hb : bt (rr x (nI n)) i = false := b_big (by omega)
    rw [hb]
    simp [hi32]
theorem lu_shr (x : Int32) {n : Nat} (hn : n < 32) : lu x >>> ((nI n).toInt64 &&& 63) = lu (ushr x (nI n)) := by
  have hx := u32_lt x
  unfold lu
  rw [lshr_lN (by omega) (by omega)]
  congr 1
  have := ushr_nI (n := u32 x) (k := n) hx hn
  rw [nI_u32] at this
  rw [this, u32_nI (Nat.lt_of_le_of_lt (Nat.div_le_self _ _) hx)]
theorem nI_u (a b : Nat) : nI (a + b) = nI a + nI b := (nI_add a b).symm
