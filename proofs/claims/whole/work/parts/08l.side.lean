/-! PURE: the classes Direction, Sealer, Side -/
def DS (S : TS) (g : Nat) : Prop := te S g = some (.inr 1) ∧ tR S g 1 = some (g + 1) ∧ BS S (g + 1) 32 ∧ tR S g 2 = some (g + 3) ∧ BS S (g + 3) 3
theorem DS.sm {S S' : TS} {g : Nat} (k : DS S g) (e : Sm0 S S') : DS S' g := by
  obtain ⟨h1, h2, h3, h4, h5⟩ := k
  exact ⟨by rw [e.1]; exact h1, by rw [e.R]; exact h2, h3.sm e, by rw [e.R]; exact h4, h5.sm e⟩
def gP (g : Nat) : Nat → Prop := fun a => g ≤ a ∧ a < g + 5
/-- the text of which a sealing key is made -/
def ktx (i e : Int32) : List B8 := [107, b8 i, b8 e]
section PDI
variable {G : pG} {g h : Nat} {Q : Option Value → TS → Prop}
theorem p_step {S : TS} (hs : DS S g) (hQ : ∀ S', Ex (fun a => a = g) S S' → tI S' g = upd (tI S g) 3 (tI S g 3 + 1) → Q none S') : C0 G J_Direction_step [.ref g] S Q := by
  refine v_Direction_step g S Q ⟨hs.1, fun S2 e2 => hQ S2 (by rw [e2]; exact (Ex.rf S).I rfl) (by rw [e2, tI_sI, up_s])⟩
theorem p_makeKey {t : Nat → Nat} (hG : GS G t) {S : TS} {q N : Nat} {k : List B8} {e : Int32} (hs : DS S g) (hh : HS S h) (hq : BT S q N k) (hqh : q + 1 < h ∨ h + 7 ≤ q) (hqg : q = g + 1 ∨ q + 1 < g ∨ g + 5 ≤ q) (hgh : g + 5 ≤ h ∨ h + 7 ≤ g)
    (hQ : ∀ S', Ex (fun a => gP g a ∨ hP h a) S S' → BT S' (g + 1) 32 (mac k (ktx (tI S g 0) e)) → tI S' g 0 = tI S g 0 → tI S' g 3 = 0 → tI S' g 4 = e → Q none S') : C0 G J_Direction_makeKey [.ref g, .ref h, .ref q, .int e] S Q := by
  refine v_Direction_makeKey g h q e S Q ⟨hs.1, fun S2 e2 S3 e3 => ?_⟩
  have x2 : Ex (fun a => a = g) S S2 := by rw [e2]; exact (Ex.rf S).I rfl
  have x3 : Ex (fun a => a = g) S S3 := by rw [e3]; exact x2.I rfl
  have r3 : tI S3 g = upd (upd (tI S g) 4 e) 3 0 := by rw [e3, tI_sI, up_s, e2, tI_sI, up_s]
  have hs3 := hs.sm x3.1
  refine ⟨g + 3, hs3.2.2.2.1, hs3.2.2.2.2.1, p_clear hs3.2.2.2.2 (fun S7 x7 b7 => ⟨rfl, p_put b7 (by simp) (fun S8 x8 b8' => ⟨rfl, ?_⟩)⟩)⟩
  have r8 : tI S8 g = tI S3 g := ((x7.tr x8).2 g (by simp only [bP]; omega)).1
  refine p_put b8' (by simp) (fun S9 x9 b9 => ⟨rfl, ?_⟩)
  have r9 : tI S9 g = tI S3 g := (x9.2 g (by simp only [bP]; omega)).1.trans r8
  refine p_put b9 (by simp) (fun S10 x10 b10 => ⟨rfl, ?_⟩)
  have r10 : tI S10 g = tI S3 g := (x10.2 g (by simp only [bP]; omega)).1.trans r9
  have xt : Ex (bP (g + 3)) S3 S10 := ((x7.tr x8).tr x9).tr x10
  have xs : Ex (fun a => a = g ∨ bP (g + 3) a) S S10 := (x3.mono (fun a z => Or.inl z)).tr (xt.mono (fun a z => Or.inr z))
  have hs10 := hs.sm xs.1
  have bt : BT S10 (g + 3) 3 (ktx (tI S g 0) e) := by
    have e0 : tI S8 g 0 = tI S g 0 := by rw [r8, r3]; rfl
    have e4 : tI S9 g 4 = e := by rw [r9, r3]; rfl
    rw [e0, e4] at b10
    exact b10
  refine ⟨g + 1, hs10.2.1, (hh.sm xs.1).1, ?_⟩
  have hq10 : BT S10 q N k := hq.ex xs (by simp only [bP]; omega) (by simp only [bP]; omega)
  refine p_mac hG (hh.sm xs.1) hq10 hqh bt (by omega) (by simp [ktx]) hs10.2.2.1 (by omega) (fun S14 x14 b14 => ⟨rfl, ?_⟩)
  have r14 : tI S14 g = tI S3 g := (x14.2 g (by simp only [bP, hP]; omega)).1.trans r10
  refine hQ S14 ((xs.mono (fun a z => Or.inl (by simp only [bP] at z; simp only [gP]; omega))).tr (x14.mono (fun a z => z.elim Or.inr (fun z => Or.inl (by simp only [bP] at z; simp only [gP]; omega))))) b14 ?_ ?_ ?_
  · rw [r14, r3]; rfl
  · rw [r14, r3]; rfl
  · rw [r14, r3]; rfl
end PDI
/-! the Sealer -/
def ZS (S : TS) (z : Nat) : Prop := te S z = some (.inr 5) ∧ tR S z 0 = some (z + 1) ∧ SS S (z + 1) ∧ tR S z 1 = some (z + 4) ∧ PS S (z + 4) ∧ tR S z 2 = some (z + 11) ∧ BS S (z + 11) 16
theorem ZS.sm {S S' : TS} {z : Nat} (k : ZS S z) (e : Sm0 S S') : ZS S' z := by
  obtain ⟨h1, h2, h3, h4, h5, h6, h7⟩ := k
  exact ⟨by rw [e.1]; exact h1, by rw [e.R]; exact h2, h3.sm e, by rw [e.R]; exact h4, h5.sm e, by rw [e.R]; exact h6, h7.sm e⟩
def zP (z : Nat) : Nat → Prop := fun a => z < a ∧ a < z + 13
theorem wbyte_cong {f g : Nat → Int32} (h : ∀ a, a < 16 → f a = g a) {i : Nat} (hi : i < 64) : wbyte f i = wbyte g i := by
  unfold wbyte
  rw [h (i / 4) (by omega)]
def cvb (k : List B8) (n : Int32) (i : Nat) : B8 := wbyte (strm k n (nI (1 + i / 64))) (i % 64)
def covN (k : List B8) (n : Int32) (l : List B8) : Nat → List B8
  | 0 => []
  | i + 1 => covN k n l i ++ [l.getD i 0 ^^^ cvb k n i]
def cov (k : List B8) (n : Int32) (l : List B8) : List B8 := covN k n l l.length
theorem covN_len (k : List B8) (n : Int32) (l : List B8) (m : Nat) : (covN k n l m).length = m := by
  induction m with
  | zero => rfl
  | succ m ih => simp [covN, ih]
theorem cov_len (k : List B8) (n : Int32) (l : List B8) : (cov k n l).length = l.length := covN_len k n l _
theorem covN_cong {k : List B8} {n : Int32} {l l2 : List B8} {m : Nat} (h : ∀ j, j < m → l.getD j 0 = l2.getD j 0) : covN k n l m = covN k n l2 m := by
  induction m with
  | zero => rfl
  | succ m ih => simp only [covN]; rw [ih (fun j hj => h j (by omega)), h m (by omega)]
section PCO
variable {G : pG} {z q d : Nat} {Q : Option Value → TS → Prop}
theorem p_cov1 {k l l2 : List B8} {n : Int32} {N M st e : Nat} (hqz : q + 1 < z ∨ z + 13 ≤ q) (hdz : d + 1 < z ∨ z + 13 ≤ d) (hdq : d + 1 < q ∨ q + 1 < d) (hse : st ≤ e) (he : e ≤ l.length) (hr : l2.length + (e - st) ≤ M) : ∀ (m i : Nat) (S : TS), st + i + m = e → ZS S z → BT S q N l → BT S d M (l2 ++ covN k n (l.drop st) i) → (∀ a, a < 16 → a ≠ 12 → tI S (z + 2) a = chs k n 0 a) → (i % 64 ≠ 0 → ∀ a, a < 16 → tI S (z + 3) a = strm k n (nI (1 + i / 64)) a) →
    (∀ S', Ex (fun a => a = z + 2 ∨ a = z + 3 ∨ bP d a) S S' → (∀ a, a < 16 → a ≠ 12 → tI S' (z + 2) a = chs k n 0 a) → BT S' d M (l2 ++ covN k n (l.drop st) (e - st)) → Q none S') →
    T0 G J_Sealer_cover 3 [(0, .ref z), (1, .ref q), (2, .int (nI st)), (3, .int (nI e)), (4, .ref d), (5, .int (nI (st + i)))] [] S Q := by
  intro m
  induction m with
  | zero =>
    intro i S hi hz hq hd hst hw hQ
    have hi2 : i = e - st := by omega
    have hle : st + i = e := by omega
    rw [hle]
    refine v_Sealer_cover_3 z q (nI st) (nI e) d (nI e) S Q ⟨fun _ => hQ S (Ex.rf S) hst (hi2 ▸ hd), fun c => absurd (Int32.le_refl _) c⟩
  | succ m ih =>
    intro i S hi hz hq hd hst hw hQ
    have hN := hq.1.2.2.2
    have hlN := hq.2.2
    refine v_Sealer_cover_3 z q (nI st) (nI e) d (nI (st + i)) S Q ⟨fun c => absurd c (nI_ge (by omega) (by omega)), fun _ y1 e1 => ?_⟩
    have ey : y1 = nI i := by rw [e1, pk_sub (by omega)]; congr 1; omega
    have er : y1 - y1 / (64 : Int32) * (64 : Int32) = nI (i % 64) := by rw [ey]; exact pk_rem (d := 64) (by omega) (by omega) (by omega)
    have ed : y1 / (64 : Int32) = nI (i / 64) := by rw [ey]; exact pk_div (d := 64) (by omega) (by omega) (by omega)
    rw [er, ed]
    have hlen : (l2 ++ covN k n (l.drop st) i).length < M := by rw [List.length_append, covN_len]; omega
    have go : ∀ (S1 : TS), Ex (fun a => a = z + 2 ∨ a = z + 3 ∨ bP d a) S S1 → (∀ a, a < 16 → a ≠ 12 → tI S1 (z + 2) a = chs k n 0 a) → (∀ a, a < 16 → tI S1 (z + 3) a = strm k n (nI (1 + i / 64)) a) → BT S1 d M (l2 ++ covN k n (l.drop st) i) →
        te S1 q = some (.inr 0) ∧ CP G J_Bytes_at [.ref q, .int (nI (st + i))] S1 (fun r => ∃ r3 : Int32, r = some (.int r3) ∧ CP G J_Stream_byteAt [.ref (z + 1), .int (nI (i % 64))] S1 (fun r => ∃ r8 : Int32, r = some (.int r8) ∧ te S1 d = some (.inr 0) ∧ C0 G J_Bytes_put [.ref d, .int (r3 ^^^ r8)] S1 (fun r S10 => r = none ∧ ∀ y11 : Int32, y11 = nI (st + i) + 1 → T0 G J_Sealer_cover 3 [(0, .ref z), (1, .ref q), (2, .int (nI st)), (3, .int (nI e)), (4, .ref d), (5, .int y11)] [] S10 Q))) := by
      intro S1 x1 hst1 hw1 hd1
      have hq1 : BT S1 q N l := hq.ex x1 (by simp only [bP]; omega) (by simp only [bP]; omega)
      have hz1 := hz.sm x1.1
      refine ⟨hq1.1.1, p_at hq1 (by omega) ⟨_, rfl, p_byteAt hz1.2.2.1 (by omega) ⟨_, rfl, hd1.1.1, p_put hd1 hlen (fun S2 x2 b2 => ⟨rfl, fun y ey => ?_⟩)⟩⟩⟩
      have x2' : Ex (fun a => a = z + 2 ∨ a = z + 3 ∨ bP d a) S1 S2 := x2.mono (fun a h => Or.inr (Or.inr h))
      have x12 := x1.tr x2'
      rw [ey, nI_1, Nat.add_assoc]
      rw [b8_xor, b8_zx, b8_zx, wbyte_cong hw1 (by omega)] at b2
      refine ih (i + 1) S2 (by omega) (hz.sm x12.1) (hq.ex x12 (by simp only [bP]; omega) (by simp only [bP]; omega)) ?_ (fun a ha h12 => ?_) (fun hm a ha => ?_) (fun S' x' s' b' => hQ S' (x12.tr x') s' b')
      · rw [List.append_assoc] at b2
        have eg : (l.drop st).getD i 0 = l.getD (st + i) 0 := by simp [List.getD_eq_getElem?_getD]
        simp only [covN, cvb]
        rw [eg]
        exact b2
      · rw [(x2.2 (z + 2) (by simp only [bP]; omega)).1]; exact hst1 a ha h12
      · rw [(x2.2 (z + 3) (by simp only [bP]; omega)).1, show (i + 1) / 64 = i / 64 by omega]; exact hw1 a ha
    refine ⟨fun c => ?_, fun c => ?_⟩
    · have hc : i % 64 ≠ 0 := fun h0 => c (by rw [h0]; rfl)
      obtain ⟨g1, g2⟩ := go S (Ex.rf S) hst (hw hc) hd
      refine ⟨g1, cp_mono g2 (fun r hr => ?_)⟩
      obtain ⟨r3, e3, g3⟩ := hr
      exact ⟨r3, e3, hz.1, z + 1, hz.2.1, hz.2.2.1.1, g3⟩
    · have hc : i % 64 = 0 := (nI_eq (a := i % 64) (b := 0) (by omega) (by omega)).mp c
      refine ⟨hz.1, z + 1, hz.2.1, hz.2.2.1.1, ?_⟩
      have e1d : (1 : Int32) + nI (i / 64) = nI (1 + i / 64) := nI_add 1 _
      rw [e1d]
      refine p_make hz.2.2.1 hst (fun S1 x1 hst1 hw1 => ⟨rfl, ?_⟩)
      have x1' : Ex (fun a => a = z + 2 ∨ a = z + 3 ∨ bP d a) S S1 := x1.mono (fun a h => by omega)
      exact go S1 x1' hst1 hw1 (hd.ex x1 (by omega) (by omega))
theorem p_cover {S : TS} {k l l2 : List B8} {n : Int32} {N M st e : Nat} (hqz : q + 1 < z ∨ z + 13 ≤ q) (hdz : d + 1 < z ∨ z + 13 ≤ d) (hdq : d + 1 < q ∨ q + 1 < d) (hse : st ≤ e) (he : e ≤ l.length) (hr : l2.length + (e - st) ≤ M) (hz : ZS S z) (hq : BT S q N l) (hd : BT S d M l2) (hst : ∀ a, a < 16 → a ≠ 12 → tI S (z + 2) a = chs k n 0 a)
    (hQ : ∀ S', Ex (fun a => a = z + 2 ∨ a = z + 3 ∨ bP d a) S S' → (∀ a, a < 16 → a ≠ 12 → tI S' (z + 2) a = chs k n 0 a) → BT S' d M (l2 ++ covN k n (l.drop st) (e - st)) → Q none S') : C0 G J_Sealer_cover [.ref z, .ref q, .int (nI st), .int (nI e), .ref d] S Q := by
  refine v_Sealer_cover z q (nI st) (nI e) d S Q ?_
  exact p_cov1 hqz hdz hdq hse he hr (e - st) 0 S (by omega) hz hq (by simpa [covN] using hd) hst (fun h => absurd rfl h) hQ
end PCO
/-- the tag of a head and what is covered -/
def stag (k : List B8) (n : Int32) (h c : List B8) : List B8 := ptag (strm k n 0) (ptext h c)
theorem stag_len (k : List B8) (n : Int32) (h c : List B8) : (stag k n h c).length = 16 := leB_len _ _
def shead (n : Nat) : List B8 := [4, b8 (ushr (nI (n + 16)) 8), b8 (nI (n + 16))]
/-- SEAL: the whole record -/
def sealR (k : List B8) (n : Int32) (p : List B8) : List B8 := shead p.length ++ cov k n p ++ stag k n (shead p.length) (cov k n p)
theorem sealR_len (k : List B8) (n : Int32) (p : List B8) : (sealR k n p).length = p.length + 19 := by
  simp only [sealR, List.length_append, cov_len, stag_len, shead, List.length_cons, List.length_nil]
  omega
theorem ptag_cong {f g : Nat → Int32} (h : ∀ a, a < 16 → f a = g a) (t : List B8) : ptag f t = ptag g t := by
  unfold ptag WN rcl
  simp only [h 0 (by omega), h 1 (by omega), h 2 (by omega), h 3 (by omega), h 4 (by omega), h 5 (by omega), h 6 (by omega), h 7 (by omega), Nat.add_zero, Nat.reduceAdd]
section PSE
variable {G : pG} {z g q v : Nat} {Q : Option Value → TS → Prop}
theorem p_dkey {S : TS} {Q : Option Value → Prop} (hs : DS S g) (hQ : Q (some (.ref (g + 1)))) : CP G J_Direction_sealingKey [.ref g] S Q := v_Direction_sealingKey g S Q ⟨hs.1, g + 1, hs.2.1, hQ⟩
theorem p_dnum {S : TS} {Q : Option Value → Prop} (hs : DS S g) (hQ : Q (some (.int (tI S g 3)))) : CP G J_Direction_number [.ref g] S Q := v_Direction_number g S Q ⟨hs.1, hQ⟩
theorem p_dgen {S : TS} {Q : Option Value → Prop} (hs : DS S g) (hQ : Q (some (.int (tI S g 4)))) : CP G J_Direction_generation [.ref g] S Q := v_Direction_generation g S Q ⟨hs.1, hQ⟩
theorem p_seal {t : Nat → Nat} (hG : GS G t) {S : TS} {N : Nat} {k p : List B8} {ws : List (List B8)} {f : Nat → Nat} (hz : ZS S z) (hg : DS S g) (hk : BT S (g + 1) 32 k) (hk32 : k.length = 32) (hq : BT S q N p) (hp : p.length ≤ 181) (hv : WR S v ws f) (hw : ws.length < 12)
    (hzg : z + 13 ≤ g ∨ g + 5 ≤ z) (hzq : z + 13 ≤ q ∨ q + 1 < z) (hzv : z + 13 ≤ v ∨ v + 28 ≤ z) (hgv : g + 5 ≤ v ∨ v + 28 ≤ g) (hqv : q + 1 < v ∨ v + 28 ≤ q)
    (hQ : ∀ S', Ex (fun a => zP z a ∨ a = g ∨ a = v ∨ bP (f ws.length) a) S S' → WR S' v (ws ++ [sealR k (tI S g 3) p]) f → tI S' g = upd (tI S g) 3 (tI S g 3 + 1) → Q none S') : C0 G J_Sealer_seal [.ref z, .ref g, .ref q, .ref v] S Q := by
  have hf := hv.2.2.1 ws.length (by omega)
  generalize hb : f ws.length = b at *
  have hN := hq.1.2.2.2
  have hl := hq.2.2
  refine v_Sealer_seal z g q v S Q ⟨hv.1.1, p_draft hv (fun S2 x2 b2 => ?_)⟩
  rw [hb] at x2 b2 ⊢
  have q2 : BT S2 q N p := hq.ex x2 (by simp only [bP]; omega) (by simp only [bP]; omega)
  refine ⟨b, rfl, q2.1.1, p_size q2 ⟨_, rfl, b2.1.1, ?_⟩⟩
  rw [show nI p.length + (16 : Int32) = nI (p.length + 16) from nI_add _ 16]
  refine p_putHead b2 (by simp) (fun S7 x7 b7 => ⟨rfl, ?_⟩)
  have x27 := x2.tr x7
  have z7 := hz.sm x27.1
  have g7 := hg.sm x27.1
  have k7 : BT S7 (g + 1) 32 k := hk.ex x27 (by simp only [bP]; omega) (by simp only [bP]; omega)
  have q7 : BT S7 q N p := hq.ex x27 (by simp only [bP]; omega) (by simp only [bP]; omega)
  have n7 : tI S7 g = tI S g := (x27.2 g (by simp only [bP]; omega)).1
  have c7 : BT S7 b 200 (shead p.length) := b7
  refine ⟨z7.1, z + 1, z7.2.1, g7.1, p_dkey g7 ⟨_, rfl, p_dnum g7 ⟨_, rfl, z7.2.2.1.1, ?_⟩⟩⟩
  rw [n7]
  generalize hn : tI S g 3 = n at *
  refine p_begin hG z7.2.2.1 k7 hk32 (by omega) (fun S15 x15 s15 => ⟨rfl, ?_⟩)
  have x215 : Ex (fun a => zP z a ∨ a = g ∨ a = v ∨ bP b a) S S15 := (x27.mono (fun a h => Or.inr (Or.inr (Or.inr h)))).tr (x15.mono (fun a h => Or.inl (by simp only [zP]; omega)))
  have q15 : BT S15 q N p := q7.ex x15 (by omega) (by omega)
  have c15 : BT S15 b 200 (shead p.length) := c7.ex x15 (by omega) (by omega)
  refine p_size q15 ⟨_, rfl, ?_⟩
  have hsh : (shead p.length).length = 3 := rfl
  refine p_cover (st := 0) (e := p.length) (by omega) (by omega) (by omega) (by omega) (by omega) (by rw [hsh]; omega) (hz.sm x215.1) q15 c15 s15 (fun S17 x17 s17 b17 => ⟨rfl, ?_⟩)
  have x217 : Ex (fun a => zP z a ∨ a = g ∨ a = v ∨ bP b a) S S17 := x215.tr (x17.mono (fun a h => by simp only [zP]; simp only [bP] at *; omega))
  have c17 : BT S17 b 200 (shead p.length ++ cov k n p) := by simpa [cov] using b17
  have z17 := hz.sm x217.1
  refine p_make z17.2.2.1 s17 (fun S18 x18 s18 w18 => ⟨rfl, ?_⟩)
  have x218 : Ex (fun a => zP z a ∨ a = g ∨ a = v ∨ bP b a) S S18 := x217.tr (x18.mono (fun a h => by simp only [zP]; omega))
  have z18 := hz.sm x218.1
  have c18 : BT S18 b 200 (shead p.length ++ cov k n p) := c17.ex x18 (by omega) (by omega)
  have hlen : (shead p.length ++ cov k n p).length = 3 + p.length := by rw [List.length_append, cov_len, hsh]
  refine ⟨z + 4, z18.2.2.2.1, p_size c18 ⟨_, rfl, z + 11, z18.2.2.2.2.2.1, z18.2.2.2.2.1.1, ?_⟩⟩
  refine p_makeTag z18.2.2.2.2.1 z18.2.2.1 (by omega) (by omega) (by omega) z18.2.2.2.2.2.2 w18 c18 (by omega) (Nat.le_refl _) (by omega) (by omega) (fun S25 x25 b25 => ⟨rfl, ?_⟩)
  have x225 : Ex (fun a => zP z a ∨ a = g ∨ a = v ∨ bP b a) S S25 := x218.tr (x25.mono (fun a h => by simp only [zP]; simp only [bP] at *; omega))
  have c25 : BT S25 b 200 (shead p.length ++ cov k n p) := c18.ex x25 (by simp only [bP]; omega) (by simp only [bP]; omega)
  have t25 : BT S25 (z + 11) 16 (stag k n (shead p.length) (cov k n p)) := by
    have e1 : (shead p.length ++ cov k n p).take 3 = shead p.length := by
      rw [List.take_append_of_le_length (by rw [hsh]; omega), List.take_of_length_le (by rw [hsh]; omega)]
    have e2 : ((shead p.length ++ cov k n p).drop 3).take ((shead p.length ++ cov k n p).length - 3) = cov k n p := by
      rw [List.drop_append_of_le_length (by rw [hsh]; omega), List.drop_of_length_le (by rw [hsh]; omega), List.nil_append, List.take_of_length_le (by rw [cov_len, hlen]; omega)]
    rw [e1, e2] at b25
    exact b25
  refine p_putAll c25 t25 (by rw [hlen, stag_len]; omega) (fun S26 x26 b26 => ⟨rfl, ?_⟩)
  have x226 : Ex (fun a => zP z a ∨ a = g ∨ a = v ∨ bP b a) S S26 := x225.tr (x26.mono (fun a h => Or.inr (Or.inr (Or.inr h))))
  have n26 : tI S26 g = tI S g := by
    have y1 := (x26.2 g (by simp only [bP]; omega)).1
    have y2 := (x25.2 g (by simp only [bP]; omega)).1
    have y3 := (x18.2 g (by omega)).1
    have y4 := (x17.2 g (by simp only [bP]; omega)).1
    have y5 := (x15.2 g (by omega)).1
    rw [y1, y2, y3, y4, y5, n7]
  have v26 : WR S26 v ws f := by
    have w2 := hv.ex x2 (fun a _ _ h => by rw [hb]; exact h)
    have w7 := w2.ex x7 (fun a _ _ h => by rw [hb]; exact h)
    have w15 := w7.ex x15 (fun a _ _ h => by omega)
    have w17 := w15.ex x17 (fun a _ _ h => by rw [hb]; simp only [bP] at *; omega)
    have w18 := w17.ex x18 (fun a _ _ h => by omega)
    have w25 := w18.ex x25 (fun a _ _ h => by simp only [bP] at *; omega)
    exact w25.ex x26 (fun a _ _ h => by rw [hb]; exact h)
  refine p_send v26 hw (by rw [hb]; exact b26) (fun S27 x27' w27 => ⟨rfl, ?_⟩)
  have x227 : Ex (fun a => zP z a ∨ a = g ∨ a = v ∨ bP b a) S S27 := x226.tr (x27'.mono (fun a h => Or.inr (Or.inr (Or.inl h))))
  have n27 : tI S27 g = tI S g := (x27'.2 g (by omega)).1.trans n26
  refine p_step (hg.sm x227.1) (fun S28 x28 n28 => ⟨rfl, hQ S28 (x227.tr (x28.mono (fun a h => Or.inr (Or.inl h)))) (w27.ex x28 (fun a _ _ h => by omega)) ?_⟩)
  rw [n28, n27, hn]
/-- what a record says when it is opened: nothing where the tag is not its own -/
def opn (k : List B8) (n : Int32) (l : List B8) : Option (List B8) :=
  if 19 ≤ l.length ∧ l.drop (l.length - 16) = stag k n (l.take 3) ((l.drop 3).take (l.length - 19)) then some (cov k n ((l.drop 3).take (l.length - 19))) else none
theorem p_unseal {t : Nat → Nat} (hG : GS G t) {S : TS} {d : Nat} {k l : List B8} (hz : ZS S z) (hg : DS S g) (hk : BT S (g + 1) 32 k) (hk32 : k.length = 32) (hq : BT S q 200 l) (hd : BS S d 200)
    (hzg : z + 13 ≤ g ∨ g + 5 ≤ z) (hzq : z + 13 ≤ q ∨ q + 1 < z) (hzd : z + 13 ≤ d ∨ d + 1 < z) (hdq : d + 1 < q ∨ q + 1 < d)
    (h0 : ∀ S', Ex (fun a => zP z a ∨ bP d a) S S' → opn k (tI S g 3) l = none → Q (some (.int 0)) S')
    (h1 : ∀ S' p, Ex (fun a => zP z a ∨ bP d a) S S' → opn k (tI S g 3) l = some p → BT S' d 200 p → Q (some (.int 1)) S') : C0 G J_Sealer_unseal [.ref z, .ref g, .ref q, .ref d] S Q := by
  have hl := hq.2.2
  refine v_Sealer_unseal z g q d S Q ⟨hq.1.1, p_size hq ⟨_, rfl, fun y3 e3 => ?_⟩⟩
  by_cases h19 : l.length < 19
  · have hno : ¬ ((3 : Int32) ≤ y3) := by
      rw [e3]
      have : ∀ n : Nat, n < 19 → ¬ ((3 : Int32) ≤ nI n - 16) := by decide
      exact this _ h19
    refine ⟨fun c => absurd c hno, fun _ => h0 S (Ex.rf S) ?_⟩
    unfold opn
    rw [if_neg (fun z => by omega)]
  · have e3' : y3 = nI (l.length - 16) := by rw [e3]; exact pk_sub (b := 16) (by omega)
    rw [e3']
    refine ⟨fun _ => ⟨hz.1, z + 1, hz.2.1, hg.1, p_dkey hg ⟨_, rfl, p_dnum hg ⟨_, rfl, hz.2.2.1.1, ?_⟩⟩⟩, fun c => absurd (nI_le (a := 3) (by omega) (by omega)) c⟩
    generalize hn : tI S g 3 = n at *
    refine p_begin hG hz.2.2.1 hk hk32 (by omega) (fun S11 x11 s11 => ⟨rfl, ?_⟩)
    refine p_make (hz.sm x11.1).2.2.1 s11 (fun S12 x12 s12 w12 => ⟨rfl, ?_⟩)
    have x112 : Ex (zP z) S S12 := (x11.mono (fun a h => by simp only [zP]; omega)).tr (x12.mono (fun a h => by simp only [zP]; omega))
    have z12 := hz.sm x112.1
    have q12 : BT S12 q 200 l := hq.ex x112 (by simp only [zP]; omega) (by simp only [zP]; omega)
    refine ⟨z + 4, z12.2.2.2.1, z + 11, z12.2.2.2.2.2.1, z12.2.2.2.2.1.1, ?_⟩
    refine p_makeTag z12.2.2.2.2.1 z12.2.2.1 (by omega) (by omega) (by omega) z12.2.2.2.2.2.2 w12 q12 (by omega) (by omega) (by omega) (by omega) (fun S18 x18 b18 => ⟨rfl, ?_⟩)
    have x118 : Ex (fun a => zP z a ∨ bP d a) S S18 := (x112.tr (x18.mono (fun a h => by simp only [zP]; simp only [bP] at h; omega))).mono (fun a h => Or.inl h)
    have q18 : BT S18 q 200 l := q12.ex x18 (by simp only [bP]; omega) (by simp only [bP]; omega)
    rw [show l.length - 16 - 3 = l.length - 19 by omega] at b18
    have b18' : BT S18 (z + 11) 16 (stag k n (l.take 3) ((l.drop 3).take (l.length - 19))) := b18
    refine p_holdsAt q18 b18' (by rw [stag_len]; omega) (fun ff hff => ⟨ff, rfl, ?_⟩)
    rw [stag_len, List.take_of_length_le (by simp; omega)] at hff
    by_cases hc : l.drop (l.length - 16) = stag k n (l.take 3) ((l.drop 3).take (l.length - 19))
    · rw [if_pos hc] at hff
      subst hff
      have d18 := hd.sm x118.1
      refine ⟨fun _ => ⟨d18.1, p_clear d18 (fun S21 x21 b21 => ⟨rfl, ?_⟩)⟩, fun c => absurd c (by decide)⟩
      have z21 := hz.sm (x118.tr (x21.mono (fun a h => Or.inr h))).1
      have q21 : BT S21 q 200 l := q18.ex x21 (by simp only [bP]; omega) (by simp only [bP]; omega)
      have s21 : ∀ a, a < 16 → a ≠ 12 → tI S21 (z + 2) a = chs k n 0 a := by
        intro a ha h12
        rw [(x21.2 (z + 2) (by simp only [bP]; omega)).1, (x18.2 (z + 2) (by simp only [bP]; omega)).1]
        exact s12 a ha h12
      refine p_cover (st := 3) (by omega) (by omega) (by omega) (by omega) (by omega) (by simp; omega) z21 q21 b21 s21 (fun S22 x22 s22 b22 => ⟨rfl, ?_⟩)
      refine h1 S22 (cov k n ((l.drop 3).take (l.length - 19))) ((x118.tr (x21.mono (fun a h => Or.inr h))).tr (x22.mono (fun a h => by simp only [zP]; simp only [bP] at *; omega))) ?_ ?_
      · unfold opn
        rw [if_pos ⟨by omega, hc⟩]
      · have el : ((l.drop 3).take (l.length - 19)).length = l.length - 19 := by simp; omega
        have ec : covN k n (l.drop 3) (l.length - 16 - 3) = cov k n ((l.drop 3).take (l.length - 19)) := by
          unfold cov
          rw [el, show l.length - 16 - 3 = l.length - 19 by omega]
          refine covN_cong (fun j hj => ?_)
          simp [List.getD_eq_getElem?_getD, List.getElem?_take, hj]
        rw [ec] at b22
        simpa using b22
    · rw [if_neg hc] at hff
      subst hff
      refine ⟨fun c => absurd rfl c, fun _ => h0 S18 x118 ?_⟩
      unfold opn
      rw [if_neg (fun z => hc z.2)]
end PSE
