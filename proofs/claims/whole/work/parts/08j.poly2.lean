/-! PURE: Poly1305 of the class: key, end, text, tag -/
theorem vl_rdm (a : Nat → Nat) : vl (rd a) % P130 = vl a % P130 := by
  rw [vl_rd2]
  generalize vl a = V
  have e : V = V % 2 ^ 130 + 2 ^ 130 * (V / 2 ^ 130) := (Nat.mod_add_div V (2 ^ 130)).symm
  have e2 : 2 ^ 130 * (V / 2 ^ 130) = P130 * (V / 2 ^ 130) + 5 * (V / 2 ^ 130) := by
    rw [← Nat.add_mul]
    rfl
  have e3 : V = (V % 2 ^ 130 + 5 * (V / 2 ^ 130)) + P130 * (V / 2 ^ 130) := by omega
  generalize V / 2 ^ 130 = x at *
  generalize V % 2 ^ 130 = y at *
  rw [e3, Nat.add_mul_mod_self_left]
theorem rd2_b {a : Nat → Nat} (h0 : a 0 < 2 ^ 26) (h1 : a 1 < 2 ^ 26 + 2 ^ 14) (h2 : a 2 < 2 ^ 26) (h3 : a 3 < 2 ^ 26) (h4 : a 4 < 2 ^ 26) : ∀ i, i < 5 → rd a i < 2 ^ 26 := by
  have c1 : cc a 1 = 0 := by simp only [cc]; omega
  have c2 : cc a 2 = (a 1 + cc a 1) / 2 ^ 26 := rfl
  have c3 : cc a 3 = (a 2 + cc a 2) / 2 ^ 26 := rfl
  have c4 : cc a 4 = (a 3 + cc a 3) / 2 ^ 26 := rfl
  have c5 : cc a 5 = (a 4 + cc a 4) / 2 ^ 26 := rfl
  have b0 := bb_lt a 0
  have b1 : bb a 1 = (a 1 + cc a 1) % 2 ^ 26 := rfl
  rw [c1] at c2 b1
  have k2 : cc a 2 ≤ 1 := by omega
  have k3 : cc a 3 ≤ 1 := by omega
  have k4 : cc a 4 ≤ 1 := by omega
  have k5 : cc a 5 ≤ 1 := by omega
  intro i hi
  rcases (show i = 0 ∨ i = 1 ∨ i = 2 ∨ i = 3 ∨ i = 4 by omega) with rfl | rfl | rfl | rfl | rfl
  · simp only [rd]; simp; omega
  · have e : rd a 1 = bb a 1 + (bb a 0 + 5 * cc a 5) / 2 ^ 26 := rfl
    rw [e]
    have q5 : cc a 5 = 0 ∨ cc a 5 = 1 := by omega
    rcases q5 with q | q
    · omega
    · have : cc a 4 = 1 := by omega
      have : cc a 3 = 1 := by omega
      have : cc a 2 = 1 := by omega
      omega
  · exact bb_lt a 2
  · exact bb_lt a 3
  · exact bb_lt a 4
def fw (f : Nat → Nat) (i : Nat) : Nat := (f i / 2 ^ (6 * i) + f (i + 1) * 2 ^ (26 - 6 * i)) % 2 ^ 32
theorem fw_lt (f : Nat → Nat) (i : Nat) : fw f i < 2 ^ 32 := Nat.mod_lt _ (by decide)
def ftt (f s : Nat → Nat) : Nat → Nat
  | 0 => 0
  | i + 1 => (ftt f s i + (fw f i + s i)) / 2 ^ 32
def fo (f s : Nat → Nat) : Nat → List B8
  | 0 => []
  | i + 1 => fo f s i ++ leB (ftt f s i + (fw f i + s i)) 4
theorem ftt_lt {f s : Nat → Nat} (hs : ∀ i, i < 4 → s i < 2 ^ 32) : ∀ i, i ≤ 4 → ftt f s i < 2 ^ 32 := by
  intro i
  induction i with
  | zero => intro _; simp [ftt]
  | succ i ih =>
    intro hi
    have h1 := ih (by omega)
    have h2 := fw_lt f i
    have h3 := hs i (by omega)
    simp only [ftt]
    omega
theorem fo_len (f s : Nat → Nat) (n : Nat) : (fo f s n).length = 4 * n := by
  induction n with
  | zero => rfl
  | succ n ih => simp only [fo, List.length_append, ih, leB_len]; omega
theorem fo_4 {f s : Nat → Nat} (h : ∀ i, i < 5 → f i < 2 ^ 26) : fo f s 4 = leB (vl f + WN s) 16 := by
  obtain ⟨g0, g1, g2, g3, g4, -, -, -, -, hv, e0, e1, e2, e3⟩ := limb_words h
  have f0 : fw f 0 = g0 := by
    rw [← e0]
    simp [fw]
  have f1 : fw f 1 = g1 := e1
  have f2 : fw f 2 = g2 := e2
  have f3 : fw f 3 = g3 := e3
  rw [hv]
  have k := fin_bytes (f0 := g0) (f1 := g1) (f2 := g2) (f3 := g3) (f4 := g4) (s0 := s 0) (s1 := s 1) (s2 := s 2) (s3 := s 3)
  simp only [fo, ftt, f0, f1, f2, f3, List.nil_append, Nat.zero_add]
  exact k
theorem fw_val {f : Nat → Nat} (h : ∀ i, i < 5 → f i < 2 ^ 26) {i : Nat} (hi : i < 4) : ((lushr (lN (f i)) ((6 : Int32) * nI i)) ||| (lN (f (i + 1)) <<< ((((26 : Int32) - ((6 : Int32) * nI i) : Int32).toInt64) &&& 63))) &&& (4294967295 : Int64) = lN (fw f i) := by
  have e6 : (6 : Int32) * nI i = nI (6 * i) := pk_mul 6 i
  have e26 : (26 : Int32) - nI (6 * i) = nI (26 - 6 * i) := pk_sub (a := 26) (by omega)
  have a0 := h i (by omega)
  have a1 := h (i + 1) (by omega)
  rw [e6, e26, lushr_lN (by omega) (by omega), wb_shl _ (by omega)]
  have hd : f i / 2 ^ (6 * i) < 2 ^ (26 - 6 * i) := by
    rw [Nat.div_lt_iff_lt_mul (Nat.pos_of_ne_zero (by simp)), ← Nat.pow_add, show 26 - 6 * i + 6 * i = 26 by omega]
    exact a0
  have hm : f (i + 1) * 2 ^ (26 - 6 * i) < 2 ^ 26 * 2 ^ 26 := by
    refine Nat.lt_of_lt_of_le (Nat.mul_lt_mul_of_pos_right a1 (Nat.pos_of_ne_zero (by simp))) (Nat.mul_le_mul_left _ (Nat.pow_le_pow_right (by decide) (by omega)))
  have hd2 : f i / 2 ^ (6 * i) < 2 ^ 26 := Nat.lt_of_le_of_lt (Nat.div_le_self _ _) a0
  rw [Int64.or_comm, lor_lN hd (by omega), lword_lN (by omega), Nat.add_comm]
  rfl
def pac (r : Nat) (t : List B8) : Nat → Nat
  | 0 => 0
  | n + 1 => (pac r t n + blkN t (16 * n) + 2 ^ 128) * r % P130
theorem pac_lt (r : Nat) (t : List B8) (n : Nat) : pac r t n < P130 := by
  cases n with
  | zero => simp only [pac]; unfold P130; omega
  | succ n => exact Nat.mod_lt _ (by unfold P130; omega)
def ptag (w : Nat → Int32) (t : List B8) : List B8 := leB (pac (WN (rcl (fun i => u32 (w i)))) t (t.length / 16) + WN (fun i => u32 (w (4 + i)))) 16
def pz (l : List B8) : List B8 := l ++ List.replicate ((65536 - l.length) % 16) 0
def ptext (h c : List B8) : List B8 := pz (pz h ++ c) ++ leB 3 4 ++ leB 0 4 ++ leB c.length 4 ++ leB 0 4
theorem pz_len (l : List B8) (h : l.length < 65536) : (pz l).length = (l.length + 15) / 16 * 16 := by
  simp only [pz, List.length_append, List.length_replicate]
  omega
theorem zeros16 {n : Nat} (hn : n ≤ 60000) : (-(nI n)) &&& (15 : Int32) = nI ((65536 - n) % 16) := by
  rw [pk_and (-(nI n)) (m := 15) 4 rfl]
  congr 1
  rw [Int32.toBitVec_neg, BitVec.toNat_neg, pk_tn (by omega)]
  omega
section PPO
variable {G : pG} {p s d : Nat} {Q : Option Value → TS → Prop}
theorem p_pb1 {w : Nat → Int32} (hsp : s + 3 ≤ p ∨ p + 7 ≤ s) : ∀ (n k : Nat) (S : TS), k + n = 4 → 1 ≤ k → PS S p → SS S s → (∀ j, j < 16 → tI S (s + 2) j = w j) → (∀ j, j < k → tI S (p + 4) j = nI (rcl (fun i => u32 (w i)) j)) →
    (∀ S', Ex (fun z => z = p + 4) S S' → (∀ j, j < 4 → tI S' (p + 4) j = nI (rcl (fun i => u32 (w i)) j)) → T0 G J_Poly_begin 43 [(0, .ref p), (1, .ref s), (2, .int 0)] [] S' Q) → T0 G J_Poly_begin 16 [(0, .ref p), (1, .ref s), (2, .int (nI k))] [] S Q := by
  intro n
  induction n with
  | zero =>
    intro k S hk hk1 hs hss hw h1 hQ
    have : k = 4 := by omega
    subst this
    exact v_Poly_begin_16 p s (nI 4) S Q ⟨fun _ => hQ S (Ex.rf S) h1, fun c => absurd (Int32.le_refl _) c⟩
  | succ n ih =>
    intro k S hk hk1 hs hss hw h1 hQ
    refine v_Poly_begin_16 p s (nI k) S Q ⟨fun c => absurd c (nI_ge (b := 4) (by omega) (by omega)), fun _ => ⟨hs.1, p + 4, hs.2.2.2.2.2.2.2.1, hss.1, ?_⟩⟩
    refine p_word hss (by omega) ⟨_, rfl, 4, hs.2.2.2.2.2.2.2.2.1, vp_in_nI (by omega) (by omega), ?_⟩
    rw [nI_clamp (by omega), hw k (by omega), cl1]
    intro S1 e1 y ey
    have x1 : Ex (fun z => z = p + 4) S S1 := by rw [e1]; exact (Ex.rf S).I rfl
    rw [ey, nI_1]
    refine ih (k + 1) S1 (by omega) (by omega) (hs.sm x1.1) (hss.sm x1.1) (fun j hj => ?_) (fun j hj => ?_) (fun S' x' h' => hQ S' (x1.tr x') h')
    · rw [(x1.2 (s + 2) (by omega)).1]; exact hw j hj
    · rw [e1, tI_sI, up_s]
      by_cases hjk : j = k
      · subst hjk
        rw [pk_us]
        unfold rcl
        rw [if_neg (by omega)]
      · rw [pk_un hjk]; exact h1 j (by omega)
theorem p_pb2 {w : Nat → Nat} (hwl : ∀ j, j < 4 → w j < 2 ^ 32) : ∀ (n k : Nat) (S : TS), k + n = 5 → PS S p → (∀ j, j < 4 → tI S (p + 4) j = nI (w j)) → (∀ j, j < k → tL S (p + 1) j = lN (dg (WN w) j)) → (∀ j, j < k → tL S (p + 2) j = lN 0) →
    (∀ S', Ex (fun z => z = p + 1 ∨ z = p + 2) S S' → LL S' (p + 1) (dg (WN w)) → LL S' (p + 2) (fun _ => 0) → Q none S') → T0 G J_Poly_begin 43 [(0, .ref p), (1, .ref s), (2, .int (nI k))] [] S Q := by
  intro n
  induction n with
  | zero =>
    intro k S hk hs hw h1 h2 hQ
    have : k = 5 := by omega
    subst this
    exact v_Poly_begin_43 p s (nI 5) S Q ⟨fun _ => hQ S (Ex.rf S) h1 h2, fun c => absurd (Int32.le_refl _) c⟩
  | succ n ih =>
    intro k S hk hs hw h1 h2 hQ
    have hin : vp_in (nI k) 5 := vp_in_nI (by omega) (by omega)
    refine v_Poly_begin_43 p s (nI k) S Q ⟨fun c => absurd c (nI_ge (b := 5) (by omega) (by omega)), fun _ => ⟨hs.1, p + 1, hs.2.1, ?_⟩⟩
    refine p_limb hs hw hwl (by omega) ⟨_, rfl, 5, hs.2.2.1, hin, ?_⟩
    rw [nI_clamp (by omega)]
    intro S1 e1
    have x1 : Ex (fun z => z = p + 1 ∨ z = p + 2) S S1 := by rw [e1]; exact (Ex.rf S).L (Or.inl rfl)
    have hs1 := hs.sm x1.1
    refine ⟨p + 2, hs1.2.2.2.1, 5, hs1.2.2.2.2.1, hin, fun S2 e2 y ey => ?_⟩
    have x2 : Ex (fun z => z = p + 1 ∨ z = p + 2) S S2 := by rw [e2]; exact x1.L (Or.inr rfl)
    have r1 : tL S2 (p + 1) = vp_updL (tL S (p + 1)) k (lN (dg (WN w) k)) := by rw [e2, tL_sL, up_n _ _ (by omega), e1, tL_sL, up_s]
    have r2 : tL S2 (p + 2) = vp_updL (tL S (p + 2)) k 0 := by rw [e2, tL_sL, up_s, e1, tL_sL, up_n _ _ (by omega)]
    rw [ey, nI_1]
    refine ih (k + 1) S2 (by omega) (hs.sm x2.1) (fun j hj => ?_) (fun j hj => ?_) (fun j hj => ?_) (fun S' x' h' => hQ S' (x2.tr x') h')
    · rw [(x2.2 (p + 4) (by omega)).1]; exact hw j hj
    · rw [r1]
      by_cases hjk : j = k
      · subst hjk; rw [pk_uLs]
      · rw [pk_uLn hjk]; exact h1 j (by omega)
    · rw [r2]
      by_cases hjk : j = k
      · subst hjk; rw [pk_uLs]; rfl
      · rw [pk_uLn hjk]; exact h2 j (by omega)
theorem p_pbegin {S : TS} {w : Nat → Int32} (hs : PS S p) (hss : SS S s) (hsp : s + 3 ≤ p ∨ p + 7 ≤ s) (hw : ∀ j, j < 16 → tI S (s + 2) j = w j)
    (hQ : ∀ S', Ex (fun z => z = p + 1 ∨ z = p + 2 ∨ z = p + 4) S S' → LL S' (p + 1) (dg (WN (rcl (fun i => u32 (w i))))) → LL S' (p + 2) (fun _ => 0) → Q none S') : C0 G J_Poly_begin [.ref p, .ref s] S Q := by
  refine v_Poly_begin p s S Q ⟨hs.1, p + 4, hs.2.2.2.2.2.2.2.1, hss.1, ?_⟩
  refine p_word (i := 0) hss (by omega) ⟨_, rfl, 4, hs.2.2.2.2.2.2.2.2.1, vp_in_nI (n := 0) (by omega) (by omega), ?_⟩
  rw [hw 0 (by omega), cl0]
  intro S1 e1
  have x1 : Ex (fun z => z = p + 4) S S1 := by rw [e1]; exact (Ex.rf S).I rfl
  refine p_pb1 (w := w) hsp 3 1 S1 (by omega) (by omega) (hs.sm x1.1) (hss.sm x1.1) (fun j hj => ?_) (fun j hj => ?_) (fun S2 x2 h2 => ?_)
  · rw [(x1.2 (s + 2) (by omega)).1]; exact hw j hj
  · have : j = 0 := by omega
    subst this
    rw [e1, tI_sI, up_s, pk_us]
    unfold rcl
    rw [if_pos rfl]
  · have x12 := x1.tr x2
    refine p_pb2 (fun j _ => rcl_lt _ j) 5 0 S2 (by omega) (hs.sm x12.1) h2 (fun j hj => absurd hj (by omega)) (fun j hj => absurd hj (by omega)) (fun S3 x3 l1 l2 => hQ S3 ((x12.mono (fun z hz => Or.inr (Or.inr hz))).tr (x3.mono (fun z hz => hz.elim Or.inl (fun y => Or.inr (Or.inl y))))) l1 l2)
theorem p_fi1 {w : Nat → Int32} {f : Nat → Nat} (hf : ∀ i, i < 5 → f i < 2 ^ 26) (hdp : d + 1 < p ∨ p + 7 ≤ d) (hds : d + 1 < s ∨ s + 3 ≤ d) : ∀ (n k : Nat) (S : TS), k + n = 4 → PS S p → SS S s → BT S d 16 (fo f (fun i => u32 (w (4 + i))) k) → LL S (p + 2) f → (∀ j, j < 16 → tI S (s + 2) j = w j) →
    (∀ S', Ex (bP d) S S' → BT S' d 16 (fo f (fun i => u32 (w (4 + i))) 4) → Q none S') → T0 G J_Poly_finish 65 [(0, .ref p), (1, .ref s), (2, .ref d), (3, .long (lN (ftt f (fun i => u32 (w (4 + i))) k))), (5, .int (nI k))] [] S Q := by
  intro n
  induction n with
  | zero =>
    intro k S hk hs hss hb hl hw hQ
    have : k = 4 := by omega
    subst this
    exact v_Poly_finish_65 p s d _ (nI 4) S Q ⟨fun _ => hQ S (Ex.rf S) hb, fun c => absurd (Int32.le_refl _) c⟩
  | succ n ih =>
    intro k S hk hs hss hb hl hw hQ
    have t1 := ftt_lt (f := f) (s := fun i => u32 (w (4 + i))) (fun i _ => u32_lt _) k (by omega)
    have t2 := fw_lt f k
    have t3 := u32_lt (w (4 + k))
    refine v_Poly_finish_65 p s d _ (nI k) S Q ⟨fun c => absurd c (nI_ge (b := 4) (by omega) (by omega)), fun _ => ⟨hs.1, p + 2, hs.2.2.2.1, 5, hs.2.2.2.2.1, vp_in_nI (by omega) (by omega), ?_⟩⟩
    rw [nI_1, nI_clamp (by omega), nI_clamp (by omega), hl k (by omega), hl (k + 1) (by omega), fw_val hf (by omega)]
    refine ⟨vp_in_nI (by omega) (by omega), fun y6 e6 => ⟨hss.1, ?_⟩⟩
    have e4 : (4 : Int32) + nI k = nI (4 + k) := nI_add 4 k
    rw [e4]
    refine p_word hss (by omega) ⟨_, rfl, ?_⟩
    rw [hw (4 + k) (by omega), e6, i2l_mask, lN_add, lN_add]
    intro y9 e9
    rw [e9, l2i_lN]
    refine p_rvb ⟨_, rfl, hb.1.1, p_putNumber hb (by rw [fo_len]; omega) (fun S1 x1 b1 => ⟨rfl, ?_⟩)⟩
    rw [show (32 : Int32) = nI 32 from rfl, lushr_lN (by omega) (by omega)]
    intro y13 e13 y14 e14
    rw [e13, e14]
    refine ih (k + 1) S1 (by omega) (hs.sm x1.1) (hss.sm x1.1) ?_ (hl.ex x1 (by simp only [bP]; omega)) (fun j hj => ?_) (fun S' x' h' => hQ S' (x1.tr x') h')
    · rw [nI_mod, be4_rvb (Nat.mod_lt _ (by decide)), leB_mod (Nat.mod_mod _ _)] at b1
      exact b1
    · rw [(x1.2 (s + 2) (by simp only [bP]; omega)).1]; exact hw j hj
theorem p_pfinish {S : TS} {w : Nat → Int32} {a : Nat → Nat} (hs : PS S p) (hss : SS S s) (hsp : s + 3 ≤ p ∨ p + 7 ≤ s) (hdp : d + 1 < p ∨ p + 7 ≤ d) (hds : d + 1 < s ∨ s + 3 ≤ d) (hd : BS S d 16) (hw : ∀ j, j < 16 → tI S (s + 2) j = w j) (hl : LL S (p + 2) a) (ha : sB a)
    (hQ : ∀ S', Ex (fun z => z = p + 2 ∨ z = p + 3 ∨ bP d z) S S' → BT S' d 16 (leB (vl a % P130 + WN (fun i => u32 (w (4 + i)))) 16) → Q none S') : C0 G J_Poly_finish [.ref p, .ref s, .ref d] S Q := by
  have ha60 : ∀ i, i < 5 → a i < 2 ^ 60 := fun i hi => by have := ha.b i hi; omega
  have hr2 := rd2_b ha.1 ha.2.1 ha.2.2.1 ha.2.2.2.1 ha.2.2.2.2
  have hv : vl (rd a) % P130 = vl a % P130 := vl_rdm a
  refine v_Poly_finish p s d S Q ⟨hs.1, ?_⟩
  refine p_reduce hs ha60 hl (fun S3 x23 l3 => ⟨rfl, ?_⟩)
  generalize rd a = c at *
  have hs3 := hs.sm x23.1
  refine ⟨p + 2, hs3.2.2.2.1, p + 3, hs3.2.2.2.2.2.1, 5, hs3.2.2.2.2.1, 5, hs3.2.2.2.2.2.2.1, by decide, by decide, by decide, by decide, by decide, fun S12 e12 => ?_⟩
  have hin0 : vp_in 0 5 := vp_in_nI (n := 0) (by omega) (by omega)
  have l12 : ∀ j, j < 5 → tL S12 (p + 3) j = lN (c j) := by
    intro j hj
    rw [e12, tL_sL, up_s, sb_cl0, show (5 : Int32).toNatClampNeg = 5 from rfl, pk_cpy_in (Nat.zero_le _) (by omega), Nat.zero_add, Nat.sub_zero]
    exact l3 j hj
  refine ⟨hin0, hin0, ?_⟩
  rw [l12 0 (by omega), show (5 : Int64) = lN 5 from rfl, lN_add]
  intro S13 e13
  have x12 : Ex (fun z => z = p + 2 ∨ z = p + 3) S S12 := by rw [e12]; exact (x23.mono (fun z hz => Or.inl hz)).L (Or.inr rfl)
  have x13 : Ex (fun z => z = p + 2 ∨ z = p + 3) S S13 := by rw [e13]; exact x12.L (Or.inr rfl)
  have hs13 := hs.sm x13.1
  have lo : LL S13 (p + 3) (ups c 0 (c 0 + 5)) := by
    intro i hi
    rw [e13, tL_sL, up_s]
    unfold ups
    by_cases i0 : i = 0
    · subst i0; rw [pk_uLs, if_pos rfl]
    · rw [pk_uLn i0, if_neg i0]; exact l12 i hi
  have lc13 : LL S13 (p + 2) c := by
    intro i hi
    rw [e13, tL_sL, up_n _ _ (by omega), e12, tL_sL, up_n _ _ (by omega)]
    exact l3 i hi
  have vo : vl (ups c 0 (c 0 + 5)) = vl c + 5 := by
    simp only [vl, ups]
    simp
    omega
  have vb := vl_bb (ups c 0 (c 0 + 5))
  have vbl : vl (bb (ups c 0 (c 0 + 5))) < 2 ^ 130 := vl_lt (fun i _ => bb_lt _ i)
  have vcl := vl_lt hr2
  have ho60 : ∀ i, i < 5 → ups c 0 (c 0 + 5) i < 2 ^ 60 := by
    intro i hi
    have h0 := hr2 0 (by omega)
    have hi' := hr2 i hi
    unfold ups
    split <;> omega
  have hcc := cc_lt ho60 5 (by omega)
  have fin : ∀ (f : Nat → Nat) (S14 : TS), (∀ i, i < 5 → f i < 2 ^ 26) → vl f = vl a % P130 → Ex (fun z => z = p + 2 ∨ z = p + 3) S S14 → LL S14 (p + 2) f → te S14 d = some (.inr 0) ∧ C0 G J_Bytes_clear [.ref d] S14 (fun r S17 => r = none ∧ T0 G J_Poly_finish 65 [(0, .ref p), (1, .ref s), (2, .ref d), (3, .long 0), (5, .int 0)] [] S17 Q) := by
    intro f S14 hf hvf x14 l14
    have hd14 := hd.sm x14.1
    refine ⟨hd14.1, p_clear hd14 (fun S17 x17 b17 => ⟨rfl, ?_⟩)⟩
    have x1417 : Ex (fun z => z = p + 2 ∨ z = p + 3 ∨ bP d z) S S17 := (x14.mono (fun z hz => hz.elim Or.inl (fun y => Or.inr (Or.inl y)))).tr (x17.mono (fun z hz => Or.inr (Or.inr hz)))
    refine p_fi1 (w := w) hf hdp hds 4 0 S17 (by omega) (hs.sm x1417.1) (hss.sm x1417.1) b17 (l14.ex x17 (by simp only [bP]; omega)) (fun j hj => ?_) (fun S' x' h' => hQ S' (x1417.tr (x'.mono (fun z hz => Or.inr (Or.inr hz)))) ?_)
    · rw [(x1417.2 (s + 2) (by simp only [bP]; omega)).1]; exact hw j hj
    · rw [fo_4 hf, hvf] at h'
      exact h'
  have hP : P130 = 2 ^ 130 - 5 := rfl
  refine p_carry ho60 hs13.2.2.2.2.2.2.1 lo (fun S14 x14 l14 => ⟨_, rfl, fun c0 => ?_, fun c0 => ?_⟩)
  · have k0 : cc (ups c 0 (c 0 + 5)) 5 = 0 := (cmp0 (by omega)).mp c0
    have x14' : Ex (fun z => z = p + 2 ∨ z = p + 3) S S14 := x13.tr (x14.mono (fun z hz => Or.inr hz))
    refine fin c S14 hr2 ?_ x14' (lc13.ex x14 (by omega))
    rw [← hv, Nat.mod_eq_of_lt]
    rw [k0] at vb
    omega
  · have k0 : ¬ cc (ups c 0 (c 0 + 5)) 5 = 0 := fun z => c0 ((cmp0 (by omega)).mpr z)
    refine ⟨by decide, by decide, by decide, by decide, by decide, fun S18 e18 => ?_⟩
    have x14' : Ex (fun z => z = p + 2 ∨ z = p + 3) S S14 := x13.tr (x14.mono (fun z hz => Or.inr hz))
    have x18 : Ex (fun z => z = p + 2 ∨ z = p + 3) S S18 := by rw [e18]; exact x14'.L (Or.inl rfl)
    refine fin (bb (ups c 0 (c 0 + 5))) S18 (fun i _ => bb_lt _ i) ?_ x18 (fun j hj => ?_)
    · generalize cc (ups c 0 (c 0 + 5)) 5 = k5 at *
      have k1 : k5 = 1 := by omega
      subst k1
      rw [← hv]
      have e : vl c = vl (bb (ups c 0 (c 0 + 5))) + P130 := by omega
      rw [e, Nat.add_mod_right, Nat.mod_eq_of_lt (by omega)]
    · rw [e18, tL_sL, up_s, sb_cl0, show (5 : Int32).toNatClampNeg = 5 from rfl, pk_cpy_in (Nat.zero_le _) (by omega), Nat.zero_add, Nat.sub_zero]
      exact l14 j hj
theorem p_fill1 {l : List B8} (hl : l.length ≤ 232) : ∀ (n k : Nat) (S : TS), k + n = (65536 - l.length) % 16 → PS S p → BT S (p + 5) 248 (l ++ List.replicate k 0) →
    (∀ S', Ex (bP (p + 5)) S S' → BT S' (p + 5) 248 (pz l) → Q none S') → T0 G J_Poly_fillBlock 14 [(0, .ref p), (1, .int (nI ((65536 - l.length) % 16))), (2, .int (nI k))] [] S Q := by
  intro n
  induction n with
  | zero =>
    intro k S hk hs hb hQ
    have : k = (65536 - l.length) % 16 := by omega
    subst this
    exact v_Poly_fillBlock_14 p _ _ S Q ⟨fun _ => hQ S (Ex.rf S) hb, fun c => absurd (Int32.le_refl _) c⟩
  | succ n ih =>
    intro k S hk hs hb hQ
    refine v_Poly_fillBlock_14 p _ _ S Q ⟨fun c => absurd c (nI_ge (by omega) (by omega)), fun _ => ⟨hs.1, p + 5, hs.2.2.2.2.2.2.2.2.2.1, hb.1.1, ?_⟩⟩
    refine p_put hb (by simp; omega) (fun S1 x1 b1 => ⟨rfl, fun y ey => ?_⟩)
    rw [ey, nI_1]
    refine ih (k + 1) S1 (by omega) (hs.sm x1.1) ?_ (fun S' x' b' => hQ S' (x1.tr x') b')
    rw [List.replicate_succ', ← List.append_assoc]
    exact b1
theorem p_fill {S : TS} {l : List B8} (hl : l.length ≤ 232) (hs : PS S p) (hb : BT S (p + 5) 248 l) (hQ : ∀ S', Ex (bP (p + 5)) S S' → BT S' (p + 5) 248 (pz l) → Q none S') : C0 G J_Poly_fillBlock [.ref p] S Q := by
  refine v_Poly_fillBlock p S Q ⟨hs.1, p + 5, hs.2.2.2.2.2.2.2.2.2.1, hb.1.1, p_size hb ⟨_, rfl, ?_⟩⟩
  rw [zeros16 (by omega)]
  intro y ey
  rw [ey]
  exact p_fill1 hl ((65536 - l.length) % 16) 0 S (by omega) hs (by simpa using hb) hQ
theorem be4_0 : be4 0 = leB 0 4 := by decide
theorem p_layText {S : TS} {q N e : Nat} {l : List B8} (hs : PS S p) (hq : BT S q N l) (hqp : q + 1 < p ∨ p + 7 ≤ q) (he : e ≤ l.length) (h3 : 3 ≤ e) (hl : e ≤ 200) (hQ : ∀ S', Ex (bP (p + 5)) S S' → BT S' (p + 5) 248 (ptext (l.take 3) ((l.drop 3).take (e - 3))) → Q none S') : C0 G J_Poly_layText [.ref p, .ref q, .int (nI e)] S Q := by
  have hb0 := hs.2.2.2.2.2.2.2.2.2.2
  have nq : ∀ {S S' : TS}, Ex (bP (p + 5)) S S' → BT S q N l → BT S' q N l := fun x b => b.ex x (by simp only [bP]; omega) (by simp only [bP]; omega)
  refine v_Poly_layText p q (nI e) S Q ⟨hs.1, p + 5, hs.2.2.2.2.2.2.2.2.2.1, hb0.1, ?_⟩
  have e3 : nI e - (3 : Int32) = nI (e - 3) := pk_sub (b := 3) h3
  rw [e3]
  refine p_clear hb0 (fun S1 x1 b1 => ⟨rfl, ?_⟩)
  refine p_putPart (st := 0) (n := 3) b1 (nq x1 hq) (by omega) (by simp) (fun S2 x2 b2 => ⟨rfl, ?_⟩)
  have x12 := x1.tr x2
  have c2 : BT S2 (p + 5) 248 (l.take 3) := by simpa using b2
  refine p_fill (by simp; omega) (hs.sm x12.1) c2 (fun S3 x3 b3 => ⟨rfl, ?_⟩)
  have x13 := x12.tr x3
  have n3 : (pz (l.take 3)).length = 16 := by rw [pz_len _ (by simp; omega)]; simp; omega
  refine p_putPart (st := 3) (n := e - 3) b3 (nq x13 hq) (by omega) (by omega) (fun S4 x4 b4 => ⟨rfl, ?_⟩)
  have x14 := x13.tr x4
  have nc : ((l.drop 3).take (e - 3)).length = e - 3 := by simp; omega
  have n4 : (pz (l.take 3) ++ (l.drop 3).take (e - 3)).length = 16 + (e - 3) := by rw [List.length_append, n3, nc]
  refine p_fill (by omega) (hs.sm x14.1) b4 (fun S5 x5 b5 => ⟨rfl, ?_⟩)
  have x15 := x14.tr x5
  have n5 := pz_len (pz (l.take 3) ++ (l.drop 3).take (e - 3)) (by omega)
  rw [n4] at n5
  refine p_rvb ⟨_, rfl, p_putNumber b5 (by omega) (fun S6 x6 b6 => ⟨rfl, ?_⟩)⟩
  refine p_putNumber b6 (by simp only [List.length_append, be4_len]; omega) (fun S7 x7 b7 => ⟨rfl, ?_⟩)
  refine p_rvb ⟨_, rfl, p_putNumber b7 (by simp only [List.length_append, be4_len]; omega) (fun S8 x8 b8 => ⟨rfl, ?_⟩)⟩
  refine p_putNumber b8 (by simp only [List.length_append, be4_len]; omega) (fun S9 x9 b9 => ⟨rfl, ?_⟩)
  refine hQ S9 ((((x15.tr x6).tr x7).tr x8).tr x9) ?_
  rw [show rvb 3 = rvb (nI 3) from rfl, be4_rvb (by omega), be4_rvb (by omega), be4_0] at b9
  unfold ptext
  rw [nc]
  exact b9
theorem p_mt1 {w : Nat → Int32} {t : List B8} {q : Nat} {x3 : Int32} (h16 : t.length % 16 = 0) (hsp : s + 3 ≤ p ∨ p + 7 ≤ s) (hdp : d + 1 < p ∨ p + 7 ≤ d) (hds : d + 1 < s ∨ s + 3 ≤ d) : ∀ (n k : Nat) (a : Nat → Nat) (S : TS), 16 * (k + n) = t.length → PS S p → SS S s → BS S d 16 → (∀ j, j < 16 → tI S (s + 2) j = w j) → BT S (p + 5) 248 t → LL S (p + 1) (dg (WN (rcl (fun i => u32 (w i))))) → LL S (p + 2) a → sB a → vl a % P130 = pac (WN (rcl (fun i => u32 (w i)))) t k →
    (∀ S', Ex (fun z => z = p + 2 ∨ z = p + 3 ∨ z = p + 4 ∨ bP d z) S S' → BT S' d 16 (ptag w t) → Q none S') → T0 G J_Poly_makeTag 14 [(0, .ref p), (1, .ref s), (2, .ref q), (3, .int x3), (4, .ref d), (5, .int (nI (16 * k)))] [] S Q := by
  intro n
  induction n with
  | zero =>
    intro k a S hk hs hss hd hw ht hr hl ha hv hQ
    have hk : 16 * k = t.length := by omega
    refine v_Poly_makeTag_14 p s q x3 d _ S Q ⟨hs.1, p + 5, hs.2.2.2.2.2.2.2.2.2.1, ht.1.1, p_size ht ⟨_, rfl, fun _ => ?_, fun c => absurd (nI_le (by omega) (by have := ht.2.2; omega)) c⟩⟩
    refine p_pfinish hs hss hsp hdp hds hd hw hl ha (fun S' x' b' => ⟨rfl, hQ S' (x'.mono (fun z hz => hz.elim Or.inl (fun y => y.elim (fun y => Or.inr (Or.inl y)) (fun y => Or.inr (Or.inr (Or.inr y)))))) ?_⟩)
    unfold ptag
    rw [show t.length / 16 = k by omega, ← hv]
    exact b'
  | succ n ih =>
    intro k a S hk hs hss hd hw ht hr hl ha hv hQ
    have hN := ht.2.2
    refine v_Poly_makeTag_14 p s q x3 d _ S Q ⟨hs.1, p + 5, hs.2.2.2.2.2.2.2.2.2.1, ht.1.1, p_size ht ⟨_, rfl, fun c => absurd c (nI_ge (by omega) (by omega)), fun _ => ?_⟩⟩
    refine p_takeBlock hs ht (by omega) hr (fun i _ => dg_lt _ i) hl ha (fun S1 b x1 l1 hb1 hv1 => ⟨rfl, fun y ey => ?_⟩)
    have e16 : nI (16 * k) + (16 : Int32) = nI (16 * (k + 1)) := nI_add (16 * k) 16
    rw [ey, e16]
    refine ih (k + 1) b S1 (by omega) (hs.sm x1.1) (hss.sm x1.1) (hd.sm x1.1) (fun j hj => ?_) (ht.ex x1 (by omega) (by omega)) (hr.ex x1 (by omega)) l1 hb1 ?_ (fun S' x' b' => hQ S' ((x1.mono (fun z hz => hz.elim Or.inl (fun y => y.elim (fun y => Or.inr (Or.inl y)) (fun y => Or.inr (Or.inr (Or.inl y)))))).tr x') b')
    · rw [(x1.2 (s + 2) (by omega)).1]; exact hw j hj
    · have hW : WN (rcl (fun i => u32 (w i))) < 2 ^ 128 := WN_lt (fun i _ => rcl_lt _ i)
      rw [hv1, vl_dg (by omega)]
      simp only [pac]
      rw [← hv, Nat.mul_mod, Nat.add_assoc, Nat.add_mod, ← Nat.mul_mod]
      conv => rhs; rw [Nat.mul_mod, Nat.add_assoc, Nat.add_mod, Nat.mod_mod, ← Nat.mul_mod]
theorem ptext_len (h c : List B8) (hh : h.length = 3) (hc : c.length < 60000) : (ptext h c).length = 16 + (c.length + 15) / 16 * 16 + 16 := by
  have n3 : (pz h).length = 16 := by rw [pz_len _ (by omega)]; omega
  have n4 : (pz (pz h ++ c)).length = (16 + c.length + 15) / 16 * 16 := by rw [pz_len _ (by rw [List.length_append, n3]; omega), List.length_append, n3]
  unfold ptext
  simp only [List.length_append, leB_len, n4]
  omega
theorem p_makeTag {S : TS} {w : Nat → Int32} {q N e : Nat} {l : List B8} (hs : PS S p) (hss : SS S s) (hsp : s + 3 ≤ p ∨ p + 7 ≤ s) (hdp : d + 1 < p ∨ p + 7 ≤ d) (hds : d + 1 < s ∨ s + 3 ≤ d) (hd : BS S d 16) (hw : ∀ j, j < 16 → tI S (s + 2) j = w j)
    (hq : BT S q N l) (hqp : q + 1 < p ∨ p + 7 ≤ q) (he : e ≤ l.length) (h3 : 3 ≤ e) (hl : e ≤ 200)
    (hQ : ∀ S', Ex (fun z => (p < z ∧ z < p + 7) ∨ bP d z) S S' → BT S' d 16 (ptag w (ptext (l.take 3) ((l.drop 3).take (e - 3)))) → Q none S') : C0 G J_Poly_makeTag [.ref p, .ref s, .ref q, .int (nI e), .ref d] S Q := by
  refine v_Poly_makeTag p s q (nI e) d S Q ⟨hs.1, ?_⟩
  refine p_layText hs hq hqp he h3 hl (fun S1 x1 b1 => ⟨rfl, ?_⟩)
  have hl3 : (l.take 3).length = 3 := by simp; omega
  have hlc : ((l.drop 3).take (e - 3)).length = e - 3 := by simp; omega
  have ht := ptext_len (l.take 3) ((l.drop 3).take (e - 3)) hl3 (by omega)
  generalize ptext (l.take 3) ((l.drop 3).take (e - 3)) = t at *
  have w1 : ∀ j, j < 16 → tI S1 (s + 2) j = w j := fun j hj => by rw [(x1.2 (s + 2) (by simp only [bP]; omega)).1]; exact hw j hj
  refine p_pbegin (hs.sm x1.1) (hss.sm x1.1) hsp w1 (fun S2 x2 l2 s2 => ⟨rfl, ?_⟩)
  have x12 : Ex (fun z => (p < z ∧ z < p + 7) ∨ bP d z) S S2 := (x1.mono (fun z hz => Or.inl (by simp only [bP] at hz; omega))).tr (x2.mono (fun z hz => Or.inl (by omega)))
  refine p_mt1 (t := t) (by omega) hsp hdp hds (t.length / 16) 0 (fun _ => 0) S2 (by omega) (hs.sm x12.1) (hss.sm x12.1) (hd.sm x12.1) (fun j hj => ?_) (b1.ex x2 (by omega) (by omega)) l2 s2 ⟨by decide, by decide, by decide, by decide, by decide⟩ rfl (fun S' x' b' => hQ S' (x12.tr (x'.mono (fun z hz => ?_))) b')
  · rw [(x2.2 (s + 2) (by omega)).1]; exact w1 j hj
  · rcases hz with h | h | h | h
    · exact Or.inl (by omega)
    · exact Or.inl (by omega)
    · exact Or.inl (by omega)
    · exact Or.inr h
end PPO
