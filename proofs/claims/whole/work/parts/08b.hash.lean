/-! PURE: SHA-256, and the class Hash -/
def rr (x n : Int32) : Int32 := (ushr x n) ||| (x <<< ((-n) &&& 31))
def sg0 (x : Int32) : Int32 := (rr x 7 ^^^ rr x 18) ^^^ ushr x 3
def sg1 (x : Int32) : Int32 := (rr x 17 ^^^ rr x 19) ^^^ ushr x 10
def Sg1 (e : Int32) : Int32 := (rr e 6 ^^^ rr e 11) ^^^ rr e 25
def Sg0 (a : Int32) : Int32 := (rr a 2 ^^^ rr a 13) ^^^ rr a 22
def chv (e f g : Int32) : Int32 := (e &&& f) ^^^ ((e ^^^ ((-1) : Int32)) &&& g)
def mjv (a b c : Int32) : Int32 := ((a &&& b) ^^^ (a &&& c)) ^^^ (b &&& c)
def shW (w : Nat → Int32) : Nat → List Int32
  | 0 => []
  | n + 1 => shW w n ++ [if n < 16 then w n else (((shW w n).getD (n - 16) 0 + sg0 ((shW w n).getD (n - 15) 0)) + (shW w n).getD (n - 7) 0) + sg1 ((shW w n).getD (n - 2) 0)]
theorem shW_len (w : Nat → Int32) (n : Nat) : (shW w n).length = n := by
  induction n with
  | zero => rfl
  | succ n ih => simp [shW, ih]
theorem shW_old (w : Nat → Int32) {j n : Nat} (h : j < n) : (shW w (n + 1)).getD j 0 = (shW w n).getD j 0 := by
  simp only [shW, List.getD_eq_getElem?_getD]
  rw [List.getElem?_append_left (by rw [shW_len]; exact h)]
theorem shW_new (w : Nat → Int32) (n : Nat) : (shW w (n + 1)).getD n 0 = if n < 16 then w n else (((shW w n).getD (n - 16) 0 + sg0 ((shW w n).getD (n - 15) 0)) + (shW w n).getD (n - 7) 0) + sg1 ((shW w n).getD (n - 2) 0) := by
  simp only [shW, List.getD_eq_getElem?_getD]
  rw [List.getElem?_append_right (by rw [shW_len]; exact Nat.le_refl n), shW_len, Nat.sub_self]
  rfl
abbrev St8 : Type := Int32 × Int32 × Int32 × Int32 × Int32 × Int32 × Int32 × Int32
def shR (k w : Int32) (v : St8) : St8 := match v with
  | (a, b, c, d, e, f, g, h) => ((((((h + Sg1 e) + chv e f g) + k) + w) + (Sg0 a + mjv a b c)), a, b, c, d + ((((h + Sg1 e) + chv e f g) + k) + w), e, f, g)
def shM (W : Nat → Int32) (v : St8) : Nat → St8
  | 0 => v
  | n + 1 => shR (ro 1 n) (W n) (shM W v n)
def shA (v u : St8) : St8 := match v, u with
  | (a, b, c, d, e, f, g, h), (a', b', c', d', e', f', g', h') => (a + a', b + b', c + c', d + d', e + e', f + f', g + g', h + h')
def blkW (m : List B8) (p : Nat) : Nat → Int32 := fun i => num4 (m.getD (p + 4 * i) 0) (m.getD (p + 4 * i + 1) 0) (m.getD (p + 4 * i + 2) 0) (m.getD (p + 4 * i + 3) 0)
def shC (m : List B8) (p : Nat) (v : St8) : St8 := shA v (shM (fun i => (shW (blkW m p) 64).getD i 0) v 64)
def st0 : St8 := (ro 0 0, ro 0 1, ro 0 2, ro 0 3, ro 0 4, ro 0 5, ro 0 6, ro 0 7)
def shB (m : List B8) : Nat → St8
  | 0 => st0
  | n + 1 => shC m (64 * n) (shB m n)
def pad (l : List B8) : List B8 := l ++ [128] ++ List.replicate ((64055 - l.length) % 64) 0 ++ be4 0 ++ be4 (nI (8 * l.length))
def out8 (v : St8) : List B8 := match v with
  | (a, b, c, d, e, f, g, h) => be4 a ++ be4 b ++ be4 c ++ be4 d ++ be4 e ++ be4 f ++ be4 g ++ be4 h
def sha (l : List B8) : List B8 := out8 (shB (pad l) ((pad l).length / 64))
theorem be4_len (x : Int32) : (be4 x).length = 4 := rfl
theorem pad_len (l : List B8) : (pad l).length = l.length + 9 + (64055 - l.length) % 64 := by
  simp only [pad, List.length_append, List.length_replicate, be4_len, List.length_cons, List.length_nil]
  omega
theorem sha_len (l : List B8) : (sha l).length = 32 := by
  simp only [sha, out8, List.length_append, be4_len]
/-! the object -/
def HS (S : TS) (h : Nat) : Prop := te S h = some (.inr 2) ∧ tR S h 0 = some (h + 1) ∧ te S (h + 1) = some (.inl (.int, 8)) ∧ tR S h 1 = some (h + 2) ∧ te S (h + 2) = some (.inl (.int, 64)) ∧ tR S h 2 = some (h + 3) ∧ BS S (h + 3) 264 ∧ tR S h 3 = some (h + 5) ∧ BS S (h + 5) 32
def hP (h : Nat) : Nat → Prop := fun a => h < a ∧ a < h + 7
theorem HS.sm {S S' : TS} {h : Nat} (k : HS S h) (e : Sm0 S S') : HS S' h := by
  obtain ⟨h1, h2, h3, h4, h5, h6, h7, h8, h9⟩ := k
  exact ⟨by rw [e.1]; exact h1, by rw [e.R]; exact h2, by rw [e.1]; exact h3, by rw [e.R]; exact h4, by rw [e.1]; exact h5, by rw [e.R]; exact h6, h7.sm e, by rw [e.R]; exact h8, h9.sm e⟩
def s8 (f : Nat → Int32) : St8 := (f 0, f 1, f 2, f 3, f 4, f 5, f 6, f 7)
section PH
variable {G : pG} {h : Nat} {Q : Option Value → TS → Prop}
theorem p_rr {S : TS} {x n : Int32} {Q : Option Value → Prop} (hQ : Q (some (.int (rr x n)))) : CP G J_Int_rotateRight [.int x, .int n] S Q := v_Int_rotateRight x n S Q hQ
theorem p_spread1 {m : List B8} {p : Nat} (hp : p + 64 ≤ m.length) : ∀ (n k : Nat) (S : TS), k + n = 16 → HS S h → BT S (h + 3) 264 m → (∀ j, j < k → tI S (h + 2) j = (shW (blkW m p) k).getD j 0) →
    (∀ S', Ex (fun a => a = h + 2) S S' → (∀ j, j < 16 → tI S' (h + 2) j = (shW (blkW m p) 16).getD j 0) → T0 G J_Hash_spread 35 [(0, .ref h), (1, .int (nI p)), (2, .int 16)] [] S' Q) →
    T0 G J_Hash_spread 2 [(0, .ref h), (1, .int (nI p)), (2, .int (nI k))] [] S Q := by
  intro n
  induction n with
  | zero =>
    intro k S hk hs hm hi hQ
    have : k = 16 := by omega
    subst this
    exact v_Hash_spread_2 h (nI p) (nI 16) S Q ⟨fun _ => hQ S (Ex.rf S) hi, fun c => absurd (Int32.le_refl _) c⟩
  | succ n ih =>
    intro k S hk hs hm hi hQ
    have hN := hm.1.2.2.2
    have hl := hm.2.2
    refine v_Hash_spread_2 h (nI p) (nI k) S Q ⟨fun c => absurd c (nI_ge (b := 16) (by omega) (by omega)), fun _ => ⟨hs.1, h + 2, hs.2.2.2.1, h + 3, hs.2.2.2.2.2.1, hm.1.1, ?_⟩⟩
    have e4 : (4 : Int32) = nI 4 := rfl
    rw [e4, pk_mul, nI_add]
    refine p_numberAt (j := p + 4 * k) hm (by omega) ⟨_, rfl, 64, hs.2.2.2.2.1, vp_in_nI (by omega) (by omega), ?_⟩
    rw [nI_clamp (by omega)]
    intro S10 e10 y ey
    have hx : Ex (fun a => a = h + 2) S S10 := by rw [e10]; exact (Ex.rf S).I rfl
    rw [ey, nI_1]
    refine ih (k + 1) S10 (by omega) (hs.sm hx.1) (hm.ex hx (by show ¬ _ = _; omega) (by show ¬ _ = _; omega)) (fun j hj => ?_) (fun S' hx' hi' => hQ S' (hx.tr hx') hi')
    rw [e10, tI_sI, up_s]
    by_cases hjk : j = k
    · subst hjk
      rw [pk_us, shW_new, if_pos (by omega)]
      rfl
    · rw [pk_un hjk, shW_old _ (by omega)]
      exact hi j (by omega)
theorem p_spread2 {w : Nat → Int32} {x1 : Int32} : ∀ (n k : Nat) (S : TS), k + n = 64 → 16 ≤ k → HS S h → (∀ j, j < k → tI S (h + 2) j = (shW w k).getD j 0) →
    (∀ S', Ex (fun a => a = h + 2) S S' → (∀ j, j < 64 → tI S' (h + 2) j = (shW w 64).getD j 0) → Q none S') →
    T0 G J_Hash_spread 35 [(0, .ref h), (1, .int x1), (2, .int (nI k))] [] S Q := by
  intro n
  induction n with
  | zero =>
    intro k S hk hk2 hs hi hQ
    have : k = 64 := by omega
    subst this
    exact v_Hash_spread_35 h x1 (nI 64) S Q ⟨fun _ => hQ S (Ex.rf S) hi, fun c => absurd (Int32.le_refl _) c⟩
  | succ n ih =>
    intro k S hk hk2 hs hi hQ
    refine v_Hash_spread_35 h x1 (nI k) S Q ⟨fun c => absurd c (nI_ge (b := 64) (by omega) (by omega)), fun _ => ⟨hs.1, h + 2, hs.2.2.2.1, 64, hs.2.2.2.2.1, ?_⟩⟩
    have e15 : nI k - (15 : Int32) = nI (k - 15) := pk_sub (b := 15) (by omega)
    have e2 : nI k - (2 : Int32) = nI (k - 2) := pk_sub (b := 2) (by omega)
    have e16 : nI k - (16 : Int32) = nI (k - 16) := pk_sub (b := 16) (by omega)
    have e7 : nI k - (7 : Int32) = nI (k - 7) := pk_sub (b := 7) (by omega)
    rw [e15, e2, e16, e7, nI_clamp (by omega), nI_clamp (by omega), nI_clamp (by omega), nI_clamp (by omega), nI_clamp (by omega)]
    refine ⟨vp_in_nI (by omega) (by omega), fun y6 e6 => ⟨vp_in_nI (by omega) (by omega), fun y7 ey7 => p_rr ⟨_, rfl, p_rr ⟨_, rfl, fun y10 e10 => p_rr ⟨_, rfl, p_rr ⟨_, rfl, fun y13 e13 => ⟨vp_in_nI (by omega) (by omega), vp_in_nI (by omega) (by omega), vp_in_nI (by omega) (by omega), fun S14 e14 y15 ey15 => ?_⟩⟩⟩⟩⟩⟩⟩
    have hx : Ex (fun a => a = h + 2) S S14 := by rw [e14]; exact (Ex.rf S).I rfl
    rw [ey15, nI_1]
    refine ih (k + 1) S14 (by omega) (by omega) (hs.sm hx.1) (fun j hj => ?_) (fun S' hx' hi' => hQ S' (hx.tr hx') hi')
    rw [e14, tI_sI, up_s]
    by_cases hjk : j = k
    · subst hjk
      rw [pk_us, shW_new, if_neg (by omega), e10, e13, e6, ey7, hi _ (by omega), hi _ (by omega), hi _ (by omega), hi _ (by omega)]
      rfl
    · rw [pk_un hjk, shW_old _ (by omega)]
      exact hi j (by omega)
theorem p_spread {S : TS} {m : List B8} {p : Nat} (hs : HS S h) (hm : BT S (h + 3) 264 m) (hp : p + 64 ≤ m.length) (hQ : ∀ S', Ex (fun a => a = h + 2) S S' → (∀ j, j < 64 → tI S' (h + 2) j = (shW (blkW m p) 64).getD j 0) → Q none S') : C0 G J_Hash_spread [.ref h, .int (nI p)] S Q :=
  v_Hash_spread h (nI p) S Q (p_spread1 hp 16 0 S (by omega) hs hm (fun j hj => by omega) (fun S1 hx1 hi1 =>
    p_spread2 48 16 S1 (by omega) (by omega) (hs.sm hx1.1) hi1 (fun S2 hx2 hi2 => hQ S2 (hx1.tr hx2) hi2)))
theorem p_mix1 {t : Nat → Nat} (hG : GS G t) {W : Nat → Int32} {v : St8} {S : TS} (hs : HS S h) (hW : ∀ j, j < 64 → tI S (h + 2) j = W j)
    (hQ : ∀ S', Ex (fun a => a = h + 1) S S' → s8 (tI S' (h + 1)) = shA (s8 (tI S (h + 1))) (shM W v 64) → Q none S') : ∀ (n k : Nat) (a b c d e f g i : Int32), k + n = 64 → (a, b, c, d, e, f, g, i) = shM W v k →
    T0 G J_Hash_mix 66 [(0, .ref h), (1, .int a), (2, .int b), (3, .int c), (4, .int d), (5, .int e), (6, .int f), (7, .int g), (8, .int i), (9, .int (nI k))] [] S Q := by
  intro n
  induction n with
  | zero =>
    intro k a b c d e f g i hk hv
    have : k = 64 := by omega
    subst this
    refine v_Hash_mix_66 hG h a b c d e f g i (nI 64) S Q ⟨fun _ => ⟨hs.1, h + 1, hs.2.1, 8, hs.2.2.1, ?_⟩, fun c => absurd (Int32.le_refl _) c⟩
    have hin : ∀ j, j < 8 → vp_in (nI j) 8 := fun j hj => vp_in_nI hj (by omega)
    refine ⟨hin 0 (by omega), hin 0 (by omega), fun S6 e6 => ⟨hin 1 (by omega), hin 1 (by omega), fun S7 e7 => ⟨hin 2 (by omega), hin 2 (by omega), fun S8 e8 => ⟨hin 3 (by omega), hin 3 (by omega), fun S9 e9 => ⟨hin 4 (by omega), hin 4 (by omega), fun S10 e10 => ⟨hin 5 (by omega), hin 5 (by omega), fun S11 e11 => ⟨hin 6 (by omega), hin 6 (by omega), fun S12 e12 => ⟨hin 7 (by omega), hin 7 (by omega), fun S13 e13 => ?_⟩⟩⟩⟩⟩⟩⟩⟩
    have x6 : Ex (fun a => a = h + 1) S S6 := by rw [e6]; exact (Ex.rf S).I rfl
    have x7 : Ex (fun a => a = h + 1) S S7 := by rw [e7]; exact x6.I rfl
    have x8 : Ex (fun a => a = h + 1) S S8 := by rw [e8]; exact x7.I rfl
    have x9 : Ex (fun a => a = h + 1) S S9 := by rw [e9]; exact x8.I rfl
    have x10 : Ex (fun a => a = h + 1) S S10 := by rw [e10]; exact x9.I rfl
    have x11 : Ex (fun a => a = h + 1) S S11 := by rw [e11]; exact x10.I rfl
    have x12 : Ex (fun a => a = h + 1) S S12 := by rw [e12]; exact x11.I rfl
    have x13 : Ex (fun a => a = h + 1) S S13 := by rw [e13]; exact x12.I rfl
    refine hQ S13 x13 ?_
    rw [← hv]
    have r6 : tI S6 (h + 1) = upd (tI S (h + 1)) 0 (tI S (h + 1) 0 + a) := by rw [e6, tI_sI, up_s]
    have r7 : tI S7 (h + 1) = upd (tI S6 (h + 1)) 1 (tI S6 (h + 1) 1 + b) := by rw [e7, tI_sI, up_s]
    have r8 : tI S8 (h + 1) = upd (tI S7 (h + 1)) 2 (tI S7 (h + 1) 2 + c) := by rw [e8, tI_sI, up_s]
    have r9 : tI S9 (h + 1) = upd (tI S8 (h + 1)) 3 (tI S8 (h + 1) 3 + d) := by rw [e9, tI_sI, up_s]
    have r10 : tI S10 (h + 1) = upd (tI S9 (h + 1)) 4 (tI S9 (h + 1) 4 + e) := by rw [e10, tI_sI, up_s]
    have r11 : tI S11 (h + 1) = upd (tI S10 (h + 1)) 5 (tI S10 (h + 1) 5 + f) := by rw [e11, tI_sI, up_s]
    have r12 : tI S12 (h + 1) = upd (tI S11 (h + 1)) 6 (tI S11 (h + 1) 6 + g) := by rw [e12, tI_sI, up_s]
    have r13 : tI S13 (h + 1) = upd (tI S12 (h + 1)) 7 (tI S12 (h + 1) 7 + i) := by rw [e13, tI_sI, up_s]
    rw [r13, r12, r11, r10, r9, r8, r7, r6]
    simp [s8, shA, upd]
  | succ n ih =>
    intro k a b c d e f g i hk hv
    refine v_Hash_mix_66 hG h a b c d e f g i (nI k) S Q ⟨fun c => absurd c (nI_ge (b := 64) (by omega) (by omega)), fun _ => ?_⟩
    refine p_rr ⟨_, rfl, p_rr ⟨_, rfl, p_rr ⟨_, rfl, fun y17 e17 => ⟨vp_in_nI (by omega) (by omega), hs.1, h + 2, hs.2.2.2.1, 64, hs.2.2.2.2.1, vp_in_nI (by omega) (by omega), fun y23 e23 => p_rr ⟨_, rfl, p_rr ⟨_, rfl, p_rr ⟨_, rfl, fun y27 e27 y28 e28 y29 e29 y30 e30 y31 e31 => ?_⟩⟩⟩⟩⟩⟩⟩
    rw [e31, nI_1]
    refine ih (k + 1) _ _ _ _ _ _ _ _ (by omega) ?_
    rw [shM, ← hv]
    rw [nI_clamp (by omega), hW k (by omega)] at e23
    simp only [shR]
    rw [e30, e29, e28, e27, e23, e17]
    rfl
theorem p_mix {t : Nat → Nat} (hG : GS G t) {W : Nat → Int32} {S : TS} (hs : HS S h) (hW : ∀ j, j < 64 → tI S (h + 2) j = W j)
    (hQ : ∀ S', Ex (fun a => a = h + 1) S S' → s8 (tI S' (h + 1)) = shA (s8 (tI S (h + 1))) (shM W (s8 (tI S (h + 1))) 64) → Q none S') : C0 G J_Hash_mix [.ref h] S Q := by
  have hin : ∀ j, j < 8 → vp_in (nI j) 8 := fun j hj => vp_in_nI hj (by omega)
  refine v_Hash_mix h S Q ⟨hs.1, h + 1, hs.2.1, 8, hs.2.2.1, hin 0 (by omega), fun _ e6 => ⟨hin 1 (by omega), fun _ e7 => ⟨hin 2 (by omega), fun _ e8 => ⟨hin 3 (by omega), fun _ e9 => ⟨hin 4 (by omega), fun _ e10 => ⟨hin 5 (by omega), fun _ e11 => ⟨hin 6 (by omega), fun _ e12 => ⟨hin 7 (by omega), fun _ e13 => ?_⟩⟩⟩⟩⟩⟩⟩⟩
  refine p_mix1 hG hs hW hQ 64 0 _ _ _ _ _ _ _ _ (by omega) ?_
  rw [e6, e7, e8, e9, e10, e11, e12, e13]
  rfl
end PH
