/-! PURE: the class Hash, its digests -/
theorem zeros56 {n : Nat} (hn : n ≤ 60000) : ((56 : Int32) - nI n) &&& (63 : Int32) = nI ((64056 - n) % 64) := by
  rw [pk_and ((56 : Int32) - nI n) (m := 63) 6 rfl]
  congr 1
  rw [Int32.toBitVec_sub, BitVec.toNat_sub, pk_tn (by omega)]
  have e : (56 : Int32).toBitVec.toNat = 56 := rfl
  rw [e]
  omega
theorem shl3 {n : Nat} (hn : n ≤ 60000) : nI n <<< ((3 : Int32) &&& 31) = nI (8 * n) := by
  rw [pk_shlN ((3 : Int32) &&& 31) 3 (by decide) (by omega)]
  congr 1
  omega
def ol (F : Nat → Int32) : Nat → List B8
  | 0 => []
  | n + 1 => ol F n ++ be4 (F n)
theorem ol_len (F : Nat → Int32) (n : Nat) : (ol F n).length = 4 * n := by
  induction n with
  | zero => rfl
  | succ n ih => simp only [ol, List.length_append, ih, be4_len]; omega
theorem ol_8 (F : Nat → Int32) : ol F 8 = out8 (s8 F) := by simp [ol, out8, s8]
section PF
variable {G : pG} {h d : Nat} {Q : Option Value → TS → Prop}
theorem p_fin3 {x2 x3 : Int32} (hdd : d = h + 5 ∨ d + 1 < h ∨ h + 7 ≤ d) {F : Nat → Int32} : ∀ (n k : Nat) (S : TS), k + n = 8 → HS S h → BT S d 32 (ol F k) → tI S (h + 1) = F →
    (∀ S', Ex (bP d) S S' → BT S' d 32 (ol F 8) → Q none S') → T0 G J_Hash_finish 128 [(0, .ref h), (1, .ref d), (2, .int x2), (3, .int x3), (4, .int (nI k))] [] S Q := by
  intro n
  induction n with
  | zero =>
    intro k S hk hs hb hF hQ
    have : k = 8 := by omega
    subst this
    exact v_Hash_finish_128 h d x2 x3 (nI 8) S Q ⟨hs.1, h + 1, hs.2.1, 8, hs.2.2.1, fun _ => hQ S (Ex.rf S) hb, fun c => absurd (Int32.le_refl _) c⟩
  | succ n ih =>
    intro k S hk hs hb hF hQ
    refine v_Hash_finish_128 h d x2 x3 (nI k) S Q ⟨hs.1, h + 1, hs.2.1, 8, hs.2.2.1, fun c => absurd c (nI_ge (by omega) (by omega)), fun _ => ⟨vp_in_nI (by omega) (by omega), hb.1.1, ?_⟩⟩
    rw [nI_clamp (by omega), hF]
    refine p_putNumber hb (by rw [ol_len]; omega) (fun S1 x1 b1 => ⟨rfl, fun y ey => ?_⟩)
    rw [ey, nI_1]
    refine ih (k + 1) S1 (by omega) (hs.sm x1.1) b1 ?_ (fun S' x' b' => hQ S' (x1.tr x') b')
    rw [(x1.2 (h + 1) (by simp only [bP]; omega)).1]
    exact hF
theorem p_fin2 {t : Nat → Nat} (hG : GS G t) {x2 x3 : Int32} (hdd : d = h + 5 ∨ d + 1 < h ∨ h + 7 ≤ d) {M : List B8} : ∀ (n k : Nat) (S : TS), 64 * (k + n) = M.length → HS S h → BS S d 32 → BT S (h + 3) 264 M → s8 (tI S (h + 1)) = shB M k →
    (∀ S', Ex (fun a => hP h a ∨ bP d a) S S' → BT S' d 32 (out8 (shB M (k + n))) → Q none S') → T0 G J_Hash_finish 93 [(0, .ref h), (1, .ref d), (2, .int x2), (3, .int x3), (4, .int (nI (64 * k)))] [] S Q := by
  intro n
  induction n with
  | zero =>
    intro k S hk hs hd hm hv hQ
    have hN := hm.1.2.2.2
    have hl := hm.2.2
    refine v_Hash_finish_93 h d x2 x3 (nI (64 * k)) S Q ⟨hs.1, h + 3, hs.2.2.2.2.2.1, hm.1.1, p_size hm ⟨_, rfl, fun _ => ⟨hd.1, ?_⟩, fun c => absurd (nI_le (by omega) (by omega)) c⟩⟩
    refine p_clear hd (fun S1 x1 b1 => ⟨rfl, ?_⟩)
    have e1 : tI S1 (h + 1) = tI S (h + 1) := (x1.2 (h + 1) (by simp only [bP]; omega)).1
    refine p_fin3 hdd 8 0 S1 (by omega) (hs.sm x1.1) b1 rfl (fun S2 x2 b2 => hQ S2 ((x1.tr x2).mono (fun a z => Or.inr z)) ?_)
    rw [ol_8, e1, hv] at b2
    exact b2
  | succ n ih =>
    intro k S hk hs hd hm hv hQ
    have hN := hm.1.2.2.2
    have hl := hm.2.2
    refine v_Hash_finish_93 h d x2 x3 (nI (64 * k)) S Q ⟨hs.1, h + 3, hs.2.2.2.2.2.1, hm.1.1, p_size hm ⟨_, rfl, fun c => absurd c (nI_ge (by omega) (by omega)), fun _ => ?_⟩⟩
    refine p_spread hs hm (by omega) (fun S1 x1 hi1 => ⟨rfl, ?_⟩)
    have hm1 : BT S1 (h + 3) 264 M := hm.ex x1 (by show ¬ _ = _; omega) (by show ¬ _ = _; omega)
    have v1 : tI S1 (h + 1) = tI S (h + 1) := (x1.2 (h + 1) (by omega)).1
    refine p_mix hG (hs.sm x1.1) hi1 (fun S2 x2 hv2 => ⟨rfl, fun y ey => ?_⟩)
    have hm2 : BT S2 (h + 3) 264 M := hm1.ex x2 (by show ¬ _ = _; omega) (by show ¬ _ = _; omega)
    have x12 : Ex (fun a => hP h a ∨ bP d a) S S2 := (x1.mono (fun a z => Or.inl (by simp only [hP]; omega))).tr (x2.mono (fun a z => Or.inl (by simp only [hP]; omega)))
    have e64 : nI (64 * k) + 64 = nI (64 * (k + 1)) := by
      rw [show (64 : Int32) = nI 64 from rfl, nI_add]
      rfl
    rw [ey, e64]
    refine ih (k + 1) S2 (by omega) (hs.sm x12.1) (hd.sm x12.1) hm2 ?_ (fun S' x' b' => hQ S' (x12.tr x') ?_)
    · rw [hv2, v1, hv]
      rfl
    · rw [show k + (n + 1) = k + 1 + n by omega]
      exact b'
theorem p_fin1 {t : Nat → Nat} (hG : GS G t) (hdd : d = h + 5 ∨ d + 1 < h ∨ h + 7 ≤ d) {l : List B8} (hl : l.length ≤ 247) : ∀ (n k : Nat) (S : TS), k + n = (64055 - l.length) % 64 → HS S h → BS S d 32 → BT S (h + 3) 264 (l ++ [128] ++ List.replicate k 0) →
    (∀ S', Ex (fun a => hP h a ∨ bP d a) S S' → BT S' d 32 (sha l) → Q none S') → T0 G J_Hash_finish 37 [(0, .ref h), (1, .ref d), (2, .int (nI (8 * l.length))), (3, .int (nI ((64055 - l.length) % 64))), (4, .int (nI k))] [] S Q := by
  intro n
  induction n with
  | zero =>
    intro k S hk hs hd hm hQ
    have hk : k = (64055 - l.length) % 64 := by omega
    subst hk
    refine v_Hash_finish_37 hG h d _ _ _ S Q ⟨fun _ => ⟨hs.1, h + 3, hs.2.2.2.2.2.1, hm.1.1, ?_⟩, fun c => absurd (Int32.le_refl _) c⟩
    refine p_putNumber hm (by simp; omega) (fun S1 x1 b1 => ⟨rfl, ?_⟩)
    refine p_putNumber b1 (by simp [be4_len]; omega) (fun S2 x2 b2 => ⟨rfl, ?_⟩)
    have x12 := x1.tr x2
    have hs2 := hs.sm x12.1
    refine ⟨h + 1, hs2.2.1, 8, hs2.2.2.1, by decide, by decide, by decide, fun S3 e3 => ?_⟩
    have x3 : Ex (fun a => a = h + 1) S2 S3 := by rw [e3]; exact (Ex.rf S2).I rfl
    have hp : (pad l).length % 64 = 0 := by rw [pad_len]; omega
    have x13 : Ex (fun a => hP h a ∨ bP d a) S S3 := (x12.mono (fun a z => Or.inl (by simp only [bP] at z; simp only [hP]; omega))).tr (x3.mono (fun a z => Or.inl (by simp only [hP]; omega)))
    have b3 : BT S3 (h + 3) 264 (pad l) := b2.ex x3 (by show ¬ _ = _; omega) (by show ¬ _ = _; omega)
    refine p_fin2 hG hdd ((pad l).length / 64) 0 S3 (by omega) (hs.sm x13.1) (hd.sm x13.1) b3 ?_ (fun S' x' b' => hQ S' (x13.tr x') ?_)
    · rw [e3, tI_sI, up_s]
      rfl
    · rw [Nat.zero_add] at b'
      exact b'
  | succ n ih =>
    intro k S hk hs hd hm hQ
    refine v_Hash_finish_37 hG h d _ _ _ S Q ⟨fun c => absurd c (nI_ge (by omega) (by omega)), fun _ => ⟨hs.1, h + 3, hs.2.2.2.2.2.1, hm.1.1, ?_⟩⟩
    refine p_put hm (by simp; omega) (fun S1 x1 b1 => ⟨rfl, fun y ey => ?_⟩)
    rw [ey, nI_1]
    have x1' : Ex (fun a => hP h a ∨ bP d a) S S1 := x1.mono (fun a z => Or.inl (by simp only [bP] at z; simp only [hP]; omega))
    refine ih (k + 1) S1 (by omega) (hs.sm x1.1) (hd.sm x1.1) ?_ (fun S' x' b' => hQ S' (x1'.tr x') b')
    rw [List.replicate_succ', ← List.append_assoc]
    exact b1
theorem p_finish {t : Nat → Nat} (hG : GS G t) {S : TS} {l : List B8} (hs : HS S h) (hm : BT S (h + 3) 264 l) (hl : l.length ≤ 247) (hd : BS S d 32) (hdd : d = h + 5 ∨ d + 1 < h ∨ h + 7 ≤ d) (hQ : ∀ S', Ex (fun a => hP h a ∨ bP d a) S S' → BT S' d 32 (sha l) → Q none S') : C0 G J_Hash_finish [.ref h, .ref d] S Q := by
  refine v_Hash_finish h d S Q ⟨hs.1, h + 3, hs.2.2.2.2.2.1, hm.1.1, p_size hm ⟨_, rfl, fun y6 e6 => p_put hm (by omega) (fun S1 x1 b1 => ⟨rfl, p_size b1 ⟨_, rfl, fun y9 e9 => ?_⟩⟩)⟩⟩
  have x1' : Ex (fun a => hP h a ∨ bP d a) S S1 := x1.mono (fun a z => Or.inl (by simp only [bP] at z; simp only [hP]; omega))
  rw [shl3 (by omega)] at e6
  have e0 : (l ++ [b8 128]).length = l.length + 1 := by simp
  rw [e0, zeros56 (by omega), show 64056 - (l.length + 1) = 64055 - l.length by omega] at e9
  rw [e6, e9]
  refine p_fin1 hG hdd hl ((64055 - l.length) % 64) 0 S1 (by omega) (hs.sm x1.1) (hd.sm x1.1) ?_ (fun S' x' b' => hQ S' (x1'.tr x') b')
  rw [show b8 128 = (128 : B8) from rfl] at b1
  simpa using b1
theorem p_digest {t : Nat → Nat} (hG : GS G t) {S : TS} {q N : Nat} {l : List B8} (hs : HS S h) (hq : BT S q N l) (hqq : q + 1 < h ∨ h + 7 ≤ q) (hl : l.length ≤ 247) (hd : BS S d 32) (hdd : d + 1 < h ∨ h + 7 ≤ d) (hQ : ∀ S', Ex (fun a => hP h a ∨ bP d a) S S' → BT S' d 32 (sha l) → Q none S') : C0 G J_Hash_digest [.ref h, .ref q, .ref d] S Q := by
  refine v_Hash_digest h q d S Q ⟨hs.1, h + 3, hs.2.2.2.2.2.1, hs.2.2.2.2.2.2.1.1, ?_⟩
  refine p_become hs.2.2.2.2.2.2.1 hq ⟨by omega, by omega⟩ (by omega) (fun S1 x1 b1 => ⟨rfl, ?_⟩)
  have x1' : Ex (fun a => hP h a ∨ bP d a) S S1 := x1.mono (fun a z => Or.inl (by simp only [bP] at z; simp only [hP]; omega))
  exact p_finish hG (hs.sm x1.1) b1 hl (hd.sm x1.1) (Or.inr hdd) (fun S' x' b' => ⟨rfl, hQ S' (x1'.tr x') b'⟩)
/-- a key of 32 bytes and 32 zeros, each with c -/
def kx (k : List B8) (c : B8) : Nat → List B8
  | 0 => []
  | n + 1 => kx k c n ++ [k.getD n 0 ^^^ c]
theorem kx_len (k : List B8) (c : B8) (n : Nat) : (kx k c n).length = n := by
  induction n with
  | zero => rfl
  | succ n ih => simp [kx, ih]
def mac (k x : List B8) : List B8 := sha (kx k 92 64 ++ sha (kx k 54 64 ++ x))
theorem p_lay1 {q N : Nat} {k : List B8} {c : Int32} : ∀ (n j : Nat) (S : TS), j + n = 64 → HS S h → BT S q N k → (q + 1 < h ∨ h + 7 ≤ q) → BT S (h + 3) 264 (kx k (b8 c) j) →
    (∀ S', Ex (bP (h + 3)) S S' → BT S' (h + 3) 264 (kx k (b8 c) 64) → Q none S') → T0 G J_Hash_layKey 9 [(0, .ref h), (1, .ref q), (2, .int c), (3, .int (nI j))] [] S Q := by
  intro n
  induction n with
  | zero =>
    intro j S hj hs hq hqq hb hQ
    have : j = 64 := by omega
    subst this
    exact v_Hash_layKey_9 h q c (nI 64) S Q ⟨fun _ => hQ S (Ex.rf S) hb, fun c => absurd (Int32.le_refl _) c⟩
  | succ n ih =>
    intro j S hj hs hq hqq hb hQ
    refine v_Hash_layKey_9 h q c (nI j) S Q ⟨fun c => absurd c (nI_ge (b := 64) (by omega) (by omega)), fun _ => ⟨hs.1, h + 3, hs.2.2.2.2.2.1, hq.1.1, ?_⟩⟩
    have go : ∀ r : Int32, r = zx (k.getD j 0) → (∃ r5 : Int32, some (Value.int r) = some (.int r5) ∧ te S (h + 3) = some (.inr 0) ∧ C0 G J_Bytes_put [.ref (h + 3), .int (r5 ^^^ c)] S (fun r S7 => r = none ∧ ∀ y8 : Int32, y8 = nI j + 1 → T0 G J_Hash_layKey 9 [(0, .ref h), (1, .ref q), (2, .int c), (3, .int y8)] [] S7 Q)) := by
      intro r er
      refine ⟨r, rfl, hb.1.1, p_put hb (by rw [kx_len]; omega) (fun S1 x1 b1 => ⟨rfl, fun y ey => ?_⟩)⟩
      rw [ey, nI_1]
      refine ih (j + 1) S1 (by omega) (hs.sm x1.1) (hq.ex x1 (by simp only [bP]; omega) (by simp only [bP]; omega)) hqq ?_ (fun S' x' b' => hQ S' (x1.tr x') b')
      rw [b8_xor, er, b8_zx] at b1
      exact b1
    by_cases hjk : j < k.length
    · exact p_at hq hjk (go _ rfl)
    · refine p_at0 hq (by omega) (by omega) (go 0 ?_)
      rw [List.getD_eq_getElem?_getD, List.getElem?_eq_none (by omega)]
      rfl
theorem p_layKey {S : TS} {q N : Nat} {k : List B8} {c : Int32} (hs : HS S h) (hq : BT S q N k) (hqq : q + 1 < h ∨ h + 7 ≤ q) (hQ : ∀ S', Ex (bP (h + 3)) S S' → BT S' (h + 3) 264 (kx k (b8 c) 64) → Q none S') : C0 G J_Hash_layKey [.ref h, .ref q, .int c] S Q := by
  refine v_Hash_layKey h q c S Q ⟨hs.1, h + 3, hs.2.2.2.2.2.1, hs.2.2.2.2.2.2.1.1, ?_⟩
  refine p_clear hs.2.2.2.2.2.2.1 (fun S1 x1 b1 => ⟨rfl, ?_⟩)
  exact p_lay1 64 0 S1 (by omega) (hs.sm x1.1) (hq.ex x1 (by simp only [bP]; omega) (by simp only [bP]; omega)) hqq b1 (fun S' x' b' => hQ S' (x1.tr x') b')
theorem p_mac {t : Nat → Nat} (hG : GS G t) {S : TS} {q N q2 N2 : Nat} {k l : List B8} (hs : HS S h) (hq : BT S q N k) (hqq : q + 1 < h ∨ h + 7 ≤ q) (hq2 : BT S q2 N2 l) (hqq2 : q2 + 1 < h ∨ h + 7 ≤ q2) (hl : l.length ≤ 183) (hd : BS S d 32) (hdd : d + 1 < h ∨ h + 7 ≤ d) (hQ : ∀ S', Ex (fun a => hP h a ∨ bP d a) S S' → BT S' d 32 (mac k l) → Q none S') : C0 G J_Hash_mac [.ref h, .ref q, .ref q2, .ref d] S Q := by
  have mm : ∀ a, bP (h + 3) a → hP h a ∨ bP d a := fun a z => Or.inl (by simp only [bP] at z; simp only [hP]; omega)
  refine v_Hash_mac h q q2 d S Q ⟨hs.1, ?_⟩
  refine p_layKey hs hq hqq (fun S1 x1 b1 => ⟨rfl, h + 3, (hs.sm x1.1).2.2.2.2.2.1, b1.1.1, ?_⟩)
  have q21 : BT S1 q2 N2 l := hq2.ex x1 (by simp only [bP]; omega) (by simp only [bP]; omega)
  refine p_putAll b1 q21 (by rw [kx_len]; omega) (fun S2 x2 b2 => ⟨rfl, h + 5, ?_, ?_⟩)
  · exact (hs.sm (x1.tr x2).1).2.2.2.2.2.2.2.1
  have hs2 := hs.sm (x1.tr x2).1
  refine p_finish hG hs2 b2 (by simp [kx_len]; omega) hs2.2.2.2.2.2.2.2.2 (Or.inl rfl) (fun S3 x3 b3 => ⟨rfl, ?_⟩)
  have x13 : Ex (fun a => hP h a ∨ bP d a) S S3 := ((x1.tr x2).mono mm).tr (x3.mono (fun a z => z.elim Or.inl (fun z => Or.inl (by simp only [bP] at z; simp only [hP]; omega))))
  have x23 : Ex (hP h) S S3 := ((x1.tr x2).mono (fun a z => by simp only [bP] at z; simp only [hP]; omega)).tr (x3.mono (fun a z => z.elim id (fun z => by simp only [bP] at z; simp only [hP]; omega)))
  have hs3 := hs.sm x13.1
  have q3 : BT S3 q N k := hq.ex x23 (by simp only [hP]; omega) (by simp only [hP]; omega)
  refine p_layKey hs3 q3 hqq (fun S4 x4 b4 => ⟨rfl, ?_⟩)
  have b34 : BT S4 (h + 5) 32 (sha (kx k (b8 54) 64 ++ l)) := b3.ex x4 (by simp only [bP]; omega) (by simp only [bP]; omega)
  refine p_putAll b4 b34 (by rw [kx_len, sha_len]; omega) (fun S5 x5 b5 => ⟨rfl, ?_⟩)
  have x15 : Ex (fun a => hP h a ∨ bP d a) S S5 := x13.tr ((x4.tr x5).mono mm)
  refine p_finish hG (hs.sm x15.1) b5 (by simp [kx_len, sha_len]) (hd.sm x15.1) (Or.inr hdd) (fun S6 x6 b6 => ⟨rfl, hQ S6 (x15.tr x6) b6⟩)
end PF
