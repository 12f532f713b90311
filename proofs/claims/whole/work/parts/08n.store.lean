/-! PURE: the classes Request, Store -/
theorem p_atd {G : pG} {S : TS} {q N : Nat} {l : List B8} {Q : Option Value → Prop} {j : Nat} (h : BT S q N l) (hj : j < 2 ^ 31) (hQ : Q (some (.int (zx (l.getD j 0))))) : CP G J_Bytes_at [.ref q, .int (nI j)] S Q := by
  by_cases hjl : j < l.length
  · exact p_at h hjl hQ
  · refine p_at0 h (by omega) hj ?_
    rw [List.getD_eq_getElem?_getD, List.getElem?_eq_none (by omega)] at hQ
    exact hQ
def RQ (S : TS) (r : Nat) : Prop := te S r = some (.inr 4) ∧ tR S r 0 = some (r + 1) ∧ BS S (r + 1) 16 ∧ tR S r 1 = some (r + 3) ∧ BS S (r + 3) 64
theorem RQ.sm {S S' : TS} {g : Nat} (k : RQ S g) (e : Sm0 S S') : RQ S' g := by
  obtain ⟨h1, h2, h3, h4, h5⟩ := k
  exact ⟨by rw [e.1]; exact h1, by rw [e.R]; exact h2, h3.sm e, by rw [e.R]; exact h4, h5.sm e⟩
/-- most bytes of data -/
def qmx (o : Nat) : Nat := if o = 0 ∨ o = 2 then 0 else 64
/-- a plain text as a request: op, name, data -/
def rdq (p : List B8) : Option (Nat × List B8 × List B8) :=
  if (p.getD 1 0).toNat ≤ 4 ∧ 1 ≤ (p.getD 2 0).toNat ∧ (p.getD 2 0).toNat ≤ 16 ∧ 3 + (p.getD 2 0).toNat ≤ p.length ∧ p.length - 3 - (p.getD 2 0).toNat ≤ qmx (p.getD 1 0).toNat then some ((p.getD 1 0).toNat, (p.drop 3).take (p.getD 2 0).toNat, p.drop (3 + (p.getD 2 0).toNat)) else none
theorem p_isOp {G : pG} {S : TS} {Q : Option Value → Prop} {x : Int32} (h1 : ∀ j, j < 5 → x = nI j → Q (some (.int 1))) (h0 : (∀ j, j < 5 → x ≠ nI j) → Q (some (.int 0))) : CP G J_Request_isOp [.int x] S Q := by
  refine v_Request_isOp x S Q ⟨fun c => h0 (fun j hj e => ?_), fun c => ⟨fun c2 => h0 (fun j hj e => ?_), fun c2 => ?_⟩⟩
  · rw [e] at c; exact nI_pos (by omega) c
  · rw [e] at c2; exact nI_nlt (a := 4) (by omega) (by omega) c2
  · have c3 : ¬ ((5 : Int32) ≤ x) := by
      intro h
      apply c2
      rw [Int32.le_iff_toInt_le] at h
      rw [Int32.lt_iff_toInt_lt]
      have e5 : (5 : Int32).toInt = 5 := rfl
      have e4 : (4 : Int32).toInt = 4 := rfl
      omega
    obtain ⟨j, hj, e1, -⟩ := pk_mu (L := 5) c c3 (by omega)
    exact h1 j hj e1
theorem p_most {G : pG} {S : TS} {Q : Option Value → Prop} {o : Nat} (ho : o < 5) (hQ : Q (some (.int (nI (qmx o))))) : CP G J_Request_mostBytes [.int (nI o)] S Q := by
  refine v_Request_mostBytes (nI o) S Q ⟨fun c => ?_, fun c => ⟨fun c2 => ?_, fun c2 => ?_⟩⟩
  · have : o = 0 := (nI_eq (b := 0) (by omega) (by omega)).mp c
    subst this; exact hQ
  · have h0 : o ≠ 0 := fun e => c (by rw [e]; rfl)
    have h2 : o ≠ 2 := fun e => c2 (by rw [e]; rfl)
    have : qmx o = 64 := by unfold qmx; rw [if_neg (by omega)]
    rw [this] at hQ; exact hQ
  · have : o = 2 := (nI_eq (b := 2) (by omega) (by omega)).mp c2
    subst this; exact hQ
theorem p_readFrom {G : pG} {S : TS} {r q N : Nat} {p : List B8} {Q : Option Value → TS → Prop} (hr : RQ S r) (hq : BT S q N p) (hqr : q + 1 < r ∨ r + 5 ≤ q)
    (h0 : ∀ S', Ex (fun a => r ≤ a ∧ a < r + 5) S S' → rdq p = none → Q (some (.int 0)) S')
    (h1 : ∀ S' o nm dt, Ex (fun a => r ≤ a ∧ a < r + 5) S S' → rdq p = some (o, nm, dt) → o < 5 → nm.length ≤ 16 → dt.length ≤ 64 → tI S' r 2 = nI o → BT S' (r + 1) 16 nm → BT S' (r + 3) 64 dt → Q (some (.int 1)) S') : C0 G J_Request_readFrom [.ref r, .ref q] S Q := by
  have hN := hq.1.2.2.2
  have hpl := hq.2.2
  refine v_Request_readFrom r q S Q ⟨hq.1.1, p_atd (j := 1) hq (by omega) ⟨_, rfl, hr.1, fun S4 e4 => ?_⟩⟩
  have x4 : Ex (fun a => r ≤ a ∧ a < r + 5) S S4 := by rw [e4]; exact (Ex.rf S).I (by omega)
  have x4' : Ex (fun a => a = r) S S4 := by rw [e4]; exact (Ex.rf S).I rfl
  have q4 : BT S4 q N p := hq.ex x4' (by omega) (by omega)
  have o4 : tI S4 r 2 = zx (p.getD 1 0) := by rw [e4, tI_sI, up_s, pk_us]
  have hob := (p.getD 1 0).isLt
  have hnb := (p.getD 2 0).isLt
  unfold rdq at h0 h1
  rw [zx_nI] at o4
  refine p_atd (j := 2) q4 (by omega) ⟨_, rfl, p_size q4 ⟨_, rfl, fun y7 e7 => ?_⟩⟩
  rw [o4]
  rw [zx_nI] at e7 ⊢
  generalize ho : (p.getD 1 0).toNat = o at *
  generalize hn : (p.getD 2 0).toNat = n at *
  refine p_isOp (fun j hj ej => ⟨1, rfl, fun c => absurd c (by decide), fun _ => ?_⟩) (fun hno => ⟨0, rfl, fun _ => h0 S4 x4 ?_, fun c => absurd rfl c⟩)
  · have hoj : o = j := (nI_eq (by omega) (by omega)).mp ej
    subst hoj
    refine ⟨fun c => h0 S4 x4 ?_, fun c => ⟨fun c2 => h0 S4 x4 ?_, fun c2 => ⟨fun c3 => h0 S4 x4 ?_, fun c3 => p_most hj ⟨_, rfl, fun c4 => ?_, fun c4 => h0 S4 x4 ?_⟩⟩⟩⟩
    · have := (nI_ltI (a := n) (b := 1) (by omega) (by omega)).mp c
      rw [if_neg (fun z => by omega)]
    · have := (nI_ltI (a := 16) (b := n) (by omega) (by omega)).mp c2
      rw [if_neg (fun z => by omega)]
    · rw [if_neg (fun z => ?_)]
      have e7' : y7 = nI (p.length - 3 - n) := by rw [e7, show nI p.length - (3 : Int32) = nI (p.length - 3) from pk_sub (b := 3) (by omega), pk_sub (by omega)]
      rw [e7'] at c3
      exact nI_pos (by omega) c3
    · have hge1 : ¬ n < 1 := fun z => c ((nI_ltI (a := n) (b := 1) (by omega) (by omega)).mpr z)
      have hle16 : ¬ 16 < n := fun z => c2 ((nI_ltI (a := 16) (b := n) (by omega) (by omega)).mpr z)
      have h3n : 3 + n ≤ p.length := by
        apply Nat.le_of_not_lt
        intro hlt
        apply c3
        rw [e7]
        have e1 : nI p.length - (3 : Int32) - nI n = -(nI (3 + n - p.length)) := by
          rw [show (3 : Int32) = nI 3 from rfl, show 3 + n - p.length = (3 + n) - p.length from rfl]
          apply Int32.toBitVec_inj.mp
          apply BitVec.eq_of_toNat_eq
          rw [Int32.toBitVec_neg, Int32.toBitVec_sub, Int32.toBitVec_sub, BitVec.toNat_neg, BitVec.toNat_sub, BitVec.toNat_sub, pk_tn (by omega), pk_tn (by omega), pk_tn (by omega), pk_tn (by omega)]
          omega
        rw [e1]
        have hb : 0 < 3 + n - p.length ∧ 3 + n - p.length < 20 := by omega
        generalize 3 + n - p.length = m at hb
        have : ∀ m : Nat, m < 20 → 0 < m → -(nI m) < 0 := by decide
        exact this m hb.2 hb.1
      have e7' : y7 = nI (p.length - 3 - n) := by rw [e7, show nI p.length - (3 : Int32) = nI (p.length - 3) from pk_sub (b := 3) (by omega), pk_sub (by omega)]
      have hq1 : qmx o ≤ 64 := by unfold qmx; split <;> omega
      rw [e7'] at c4
      have c4' : p.length - 3 - n ≤ qmx o := (nI_leI (by omega) (by omega)).mp c4
      have r4 := hr.sm x4.1
      rw [e7']
      refine ⟨r + 1, r4.2.1, r4.2.2.1.1, p_clear r4.2.2.1 (fun S13 x13 b13 => ⟨rfl, ?_⟩)⟩
      have q13 : BT S13 q N p := q4.ex x13 (by simp only [bP]; omega) (by simp only [bP]; omega)
      refine p_putPart (st := 3) (n := n) b13 q13 (by omega) (by simp; omega) (fun S14 x14 b14 => ⟨rfl, ?_⟩)
      have x1314 := x13.tr x14
      have r14 := r4.sm x1314.1
      refine ⟨r + 3, r14.2.2.2.1, r14.2.2.2.2.1, p_clear r14.2.2.2.2 (fun S18 x18 b18 => ⟨rfl, ?_⟩)⟩
      have q18 : BT S18 q N p := (q13.ex x14 (by simp only [bP]; omega) (by simp only [bP]; omega)).ex x18 (by simp only [bP]; omega) (by simp only [bP]; omega)
      rw [show (3 : Int32) + nI n = nI (3 + n) from nI_add 3 n]
      refine p_putPart b18 q18 (by omega) (by simp; omega) (fun S19 x19 b19 => ⟨rfl, ?_⟩)
      have x1819 := x18.tr x19
      refine h1 S19 o ((p.drop 3).take n) (p.drop (3 + n)) ((x4.tr (x1314.mono (fun a h => by simp only [bP] at h; omega))).tr (x1819.mono (fun a h => by simp only [bP] at h; omega))) ?_ hj (by simp; omega) (by simp; omega) ?_ ?_ ?_
      · rw [if_pos ⟨by omega, by omega, by omega, by omega, c4'⟩]
      · rw [(x1819.2 r (by simp only [bP]; omega)).1, (x1314.2 r (by simp only [bP]; omega)).1]; exact o4
      · have b14' : BT S14 (r + 1) 16 ((p.drop 3).take n) := by simpa using b14
        exact b14'.ex x1819 (by simp only [bP]; omega) (by simp only [bP]; omega)
      · have e : ([] : List B8) ++ (p.drop (3 + n)).take (p.length - 3 - n) = p.drop (3 + n) := by
          rw [List.nil_append, List.take_of_length_le (by simp; omega)]
        rw [e] at b19
        exact b19
    · rw [if_neg (fun z => ?_)]
      have e7' : y7 = nI (p.length - 3 - n) := by rw [e7, show nI p.length - (3 : Int32) = nI (p.length - 3) from pk_sub (b := 3) (by omega), pk_sub (by omega)]
      rw [e7'] at c4
      have hq1 : qmx o ≤ 64 := by unfold qmx; split <;> omega
      exact c4 (nI_le z.2.2.2.2 (by omega))
  · rw [if_neg (fun z => hno o (by omega) rfl)]
/-! the Store -/
abbrev Stt : Type := List (List B8 × List B8)
def sN1 (st : Stt) (i : Nat) : List B8 := (st.getD i ([], [])).1
def sV1 (st : Stt) (i : Nat) : List B8 := (st.getD i ([], [])).2
def sfI (st : Stt) (n : List B8) : Nat → Nat → Option Nat
  | 0, _ => none
  | m + 1, i => if sN1 st i = n then some i else sfI st n m (i + 1)
def sfind (st : Stt) (n : List B8) : Option Nat := sfI st n st.length 0
theorem sfI_lt {st : Stt} {n : List B8} : ∀ {m i k : Nat}, sfI st n m i = some k → i ≤ k ∧ k < i + m := by
  intro m
  induction m with
  | zero => intro i k h; simp [sfI] at h
  | succ m ih =>
    intro i k h
    simp only [sfI] at h
    split at h
    · have : i = k := by simpa using h
      omega
    · have := ih h
      omega
def sRm (st : Stt) (i : Nat) : Stt := (st.set i (st.getD (st.length - 1) ([], []))).take (st.length - 1)
def ST (S : TS) (t : Nat) (st : Stt) (fn fv : Nat → Nat) : Prop :=
  (te S t = some (.inr 7) ∧ tR S t 0 = some (t + 1) ∧ te S (t + 1) = some (.inl (.object "SealedWire$Bytes", 20)) ∧ tR S t 1 = some (t + 2) ∧ te S (t + 2) = some (.inl (.object "SealedWire$Bytes", 20)) ∧ tI S t 2 = nI st.length ∧ st.length ≤ 20) ∧
  (∀ k, k < 20 → tR S (t + 1) k = some (fn k) ∧ tR S (t + 2) k = some (fv k)) ∧ (∀ k, k < 20 → t + 3 ≤ fn k ∧ fn k < t + 82 ∧ (fn k - t) % 4 = 3 ∧ t + 5 ≤ fv k ∧ fv k < t + 82 ∧ (fv k - t) % 4 = 1) ∧ (∀ j k, j < 20 → k < 20 → (fn j = fn k ∨ fv j = fv k) → j = k) ∧ (∀ k, k < 20 → BS S (fn k) 16 ∧ BS S (fv k) 64) ∧ (∀ k, k < st.length → BT S (fn k) 16 (sN1 st k) ∧ BT S (fv k) 64 (sV1 st k))
def tP (t : Nat) : Nat → Prop := fun a => t ≤ a ∧ a < t + 83
theorem ST.ex {P : Nat → Prop} {S S' : TS} {t : Nat} {st : Stt} {fn fv : Nat → Nat} (h : ST S t st fn fv) (e : Ex P S S') (hp : ∀ a, tP t a → ¬ P a) : ST S' t st fn fv := by
  obtain ⟨⟨g1, g2, g3, g4, g5, g6, g7⟩, h2, h3, h4, h5, h6⟩ := h
  refine ⟨⟨by rw [e.1.1]; exact g1, by rw [e.1.R]; exact g2, by rw [e.1.1]; exact g3, by rw [e.1.R]; exact g4, by rw [e.1.1]; exact g5, by rw [(e.2 t (hp t (by simp only [tP]; omega))).1]; exact g6, g7⟩, fun k hk => by rw [e.1.R]; exact h2 k hk, h3, h4, fun k hk => ⟨(h5 k hk).1.sm e.1, (h5 k hk).2.sm e.1⟩, fun k hk => ?_⟩
  have := h3 k (by omega)
  exact ⟨(h6 k hk).1.ex e (hp _ (by simp only [tP]; omega)) (hp _ (by simp only [tP]; omega)), (h6 k hk).2.ex e (hp _ (by simp only [tP]; omega)) (hp _ (by simp only [tP]; omega))⟩
theorem ST.ex1 {P R : Nat → Prop} {S S' : TS} {t : Nat} {st : Stt} {fn fv : Nat → Nat} (h : ST S t st fn fv) (e : Ex1 P R S S') (hp : ∀ a, tP t a → ¬ P a ∧ ¬ R a) : ST S' t st fn fv := by
  obtain ⟨⟨g1, g2, g3, g4, g5, g6, g7⟩, h2, h3, h4, h5, h6⟩ := h
  have ht := hp t (by simp only [tP]; omega)
  have ht1 := hp (t + 1) (by simp only [tP]; omega)
  have ht2 := hp (t + 2) (by simp only [tP]; omega)
  refine ⟨⟨by rw [e.1.1]; exact g1, by rw [e.2.2 t ht.2]; exact g2, by rw [e.1.1]; exact g3, by rw [e.2.2 t ht.2]; exact g4, by rw [e.1.1]; exact g5, by rw [(e.2.1 t ht.1).1]; exact g6, g7⟩, fun k hk => by rw [e.2.2 _ ht1.2, e.2.2 _ ht2.2]; exact h2 k hk, h3, h4, fun k hk => ?_, fun k hk => ?_⟩
  · have := h3 k hk
    exact ⟨(h5 k hk).1.ex1 e (hp _ (by simp only [tP]; omega)).2, (h5 k hk).2.ex1 e (hp _ (by simp only [tP]; omega)).2⟩
  · have := h3 k (by omega)
    exact ⟨(h6 k hk).1.ex1 e (hp _ (by simp only [tP]; omega)).1 (hp _ (by simp only [tP]; omega)).1 (hp _ (by simp only [tP]; omega)).2, (h6 k hk).2.ex1 e (hp _ (by simp only [tP]; omega)).1 (hp _ (by simp only [tP]; omega)).1 (hp _ (by simp only [tP]; omega)).2⟩
section PSTO
variable {G : pG} {t q : Nat} {st : Stt} {fn fv : Nat → Nat} {S : TS}
theorem p_find1 {Q : Option Value → Prop} {N : Nat} {n : List B8} (hs : ST S t st fn fv) (hq : BT S q N n) (h0 : sfind st n = none → Q (some (.int (-1)))) (h1 : ∀ k, k < st.length → sfind st n = some k → Q (some (.int (nI k)))) : ∀ (m i : Nat), i + m = st.length → sfI st n m i = sfind st n → TP G J_Store_find 2 [(0, .ref t), (1, .ref q), (2, .int (nI i))] [] S Q := by
  intro m
  have hl := hs.1.2.2.2.2.2.2
  induction m with
  | zero =>
    intro i hi hf
    refine v_Store_find_2 t q (nI i) S Q ⟨hs.1.1, ?_⟩
    rw [hs.1.2.2.2.2.2.1]
    exact ⟨fun _ => h0 hf.symm, fun c => absurd (nI_le (by omega) (by omega)) c⟩
  | succ m ih =>
    intro i hi hf
    refine v_Store_find_2 t q (nI i) S Q ⟨hs.1.1, ?_⟩
    rw [hs.1.2.2.2.2.2.1]
    refine ⟨fun c => absurd c (nI_ge (by omega) (by omega)), fun _ => ⟨t + 1, hs.1.2.1, 20, hs.1.2.2.1, vp_in_nI (by omega) (by omega), fn i, ?_, (hs.2.2.2.2.1 i (by omega)).1.1, ?_⟩⟩
    · rw [nI_clamp (by omega)]; exact (hs.2.1 i (by omega)).1
    · refine p_same (hs.2.2.2.2.2 i (by omega)).1 hq (fun f hf2 => ⟨f, rfl, ?_⟩)
      simp only [sfI] at hf
      by_cases hc : sN1 st i = n
      · rw [if_pos hc] at hf hf2
        subst hf2
        exact ⟨fun c => absurd c (by decide), fun _ => h1 i (by omega) hf.symm⟩
      · rw [if_neg hc] at hf hf2
        subst hf2
        refine ⟨fun _ y ey => ?_, fun c => absurd rfl c⟩
        rw [ey, nI_1]
        exact ih (i + 1) (by omega) hf
theorem p_find {Q : Option Value → Prop} {N : Nat} {n : List B8} (hs : ST S t st fn fv) (hq : BT S q N n) (h0 : sfind st n = none → Q (some (.int (-1)))) (h1 : ∀ k, k < st.length → sfind st n = some k → Q (some (.int (nI k)))) : CP G J_Store_find [.ref t, .ref q] S Q :=
  v_Store_find t q S Q (p_find1 hs hq h0 h1 st.length 0 (by omega) rfl)
theorem p_ssize {Q : Option Value → Prop} (hs : ST S t st fn fv) (hQ : Q (some (.int (nI st.length)))) : CP G J_Store_size [.ref t] S Q :=
  v_Store_size t S Q ⟨hs.1.1, by rw [hs.1.2.2.2.2.2.1]; exact hQ⟩
theorem p_valueAt {Q : Option Value → Prop} {k : Nat} (hs : ST S t st fn fv) (hk : k < st.length) (hQ : Q (some (.ref (fv k)))) : CP G J_Store_valueAt [.ref t, .int (nI k)] S Q := by
  have hl := hs.1.2.2.2.2.2.2
  refine v_Store_valueAt t (nI k) S Q ⟨hs.1.1, t + 2, hs.1.2.2.2.1, fun c => absurd c (nI_pos (by omega)), fun _ => ?_⟩
  rw [hs.1.2.2.2.2.2.1, nI_clamp (by omega)]
  exact ⟨fun c => absurd c (nI_ge (by omega) (by omega)), fun _ => ⟨20, hs.1.2.2.2.2.1, vp_in_nI (by omega) (by omega), fv k, (hs.2.1 k (by omega)).2, hQ⟩⟩
theorem set_N1 (st : Stt) (i j : Nat) (e : List B8 × List B8) (hi : i < st.length) : sN1 (st.set i e) j = if j = i then e.1 else sN1 st j := by
  unfold sN1
  simp only [List.getD_eq_getElem?_getD, List.getElem?_set]
  by_cases h : i = j
  · subst h; simp [hi]
  · rw [if_neg h, if_neg (Ne.symm h)]
theorem set_V1 (st : Stt) (i j : Nat) (e : List B8 × List B8) (hi : i < st.length) : sV1 (st.set i e) j = if j = i then e.2 else sV1 st j := by
  unfold sV1
  simp only [List.getD_eq_getElem?_getD, List.getElem?_set]
  by_cases h : i = j
  · subst h; simp [hi]
  · rw [if_neg h, if_neg (Ne.symm h)]
theorem app_N1 (st : Stt) (j : Nat) (e : List B8 × List B8) : sN1 (st ++ [e]) j = if j = st.length then e.1 else sN1 st j := by
  unfold sN1
  simp only [List.getD_eq_getElem?_getD, List.getElem?_append]
  by_cases h : j = st.length
  · subst h; simp
  · rw [if_neg h]
    split
    · rfl
    · rw [List.getElem?_eq_none (by simp; omega), List.getElem?_eq_none (by omega)]
theorem app_V1 (st : Stt) (j : Nat) (e : List B8 × List B8) : sV1 (st ++ [e]) j = if j = st.length then e.2 else sV1 st j := by
  unfold sV1
  simp only [List.getD_eq_getElem?_getD, List.getElem?_append]
  by_cases h : j = st.length
  · subst h; simp
  · rw [if_neg h]
    split
    · rfl
    · rw [List.getElem?_eq_none (by simp; omega), List.getElem?_eq_none (by omega)]
/-- a change of one value -/
theorem ST.setV {S S' : TS} {t : Nat} {st : Stt} {fn fv : Nat → Nat} (h : ST S t st fn fv) {k : Nat} (hk : k < st.length) {v : List B8} (e : Ex (bP (fv k)) S S') (hb : BT S' (fv k) 64 v) : ST S' t (st.set k (sN1 st k, v)) fn fv := by
  have hk3 := h.2.2.1 k (by have := h.1.2.2.2.2.2.2; omega)
  have hl := h.1.2.2.2.2.2.2
  have hd : ∀ j, j < 20 → j ≠ k → fv j ≠ fv k := fun j hj hne e => hne (h.2.2.2.1 j k hj (by omega) (Or.inr e))
  obtain ⟨⟨g1, g2, g3, g4, g5, g6, g7⟩, h2, h3, h4, h5, h6⟩ := h
  refine ⟨⟨by rw [e.1.1]; exact g1, by rw [e.1.R]; exact g2, by rw [e.1.1]; exact g3, by rw [e.1.R]; exact g4, by rw [e.1.1]; exact g5, by rw [(e.2 t (by simp only [bP]; omega)).1, List.length_set]; exact g6, by rw [List.length_set]; exact g7⟩, fun k hk => by rw [e.1.R]; exact h2 k hk, h3, h4, fun k hk => ⟨(h5 k hk).1.sm e.1, (h5 k hk).2.sm e.1⟩, fun j hj => ?_⟩
  rw [List.length_set] at hj
  have hj3 := h3 j (by omega)
  rw [set_N1 _ _ _ _ hk, set_V1 _ _ _ _ hk]
  by_cases hjk : j = k
  · subst hjk
    rw [if_pos rfl, if_pos rfl]
    exact ⟨(h6 j hj).1.ex e (by simp only [bP]; omega) (by simp only [bP]; omega), hb⟩
  · have := hd j (by omega) hjk
    rw [if_neg hjk, if_neg hjk]
    exact ⟨(h6 j hj).1.ex e (by simp only [bP]; omega) (by simp only [bP]; omega), (h6 j hj).2.ex e (by simp only [bP]; omega) (by simp only [bP]; omega)⟩
end PSTO
