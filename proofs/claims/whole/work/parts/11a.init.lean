/-! PURE: the constructors -/
def SAM (S S' : TS) (a : Nat) : Prop := te S' a = te S a ∧ tI S' a = tI S a ∧ tL S' a = tL S a ∧ tR S' a = tR S a
theorem SAM.rf (S : TS) (a : Nat) : SAM S S a := ⟨rfl, rfl, rfl, rfl⟩
theorem SAM.tr {S S1 S2 : TS} {a : Nat} (h : SAM S S1 a) (k : SAM S1 S2 a) : SAM S S2 a := ⟨k.1.trans h.1, k.2.1.trans h.2.1, k.2.2.1.trans h.2.2.1, k.2.2.2.trans h.2.2.2⟩
def OLD (n : Nat) (S S' : TS) : Prop := ∀ a, a < n → SAM S S' a
def UPX (n q : Nat) (S S' : TS) : Prop := ∀ a, a < n → a ≠ q → SAM S S' a
def AGR (lo hi : Nat) (S S' : TS) : Prop := ∀ a, lo ≤ a → a < hi → SAM S S' a
theorem UPX.tr {n m q : Nat} {S S1 S2 : TS} (h : UPX n q S S1) (k : UPX m q S1 S2) (hm : n ≤ m) : UPX n q S S2 := fun a h1 h2 => (h a h1 h2).tr (k a (by omega) h2)
theorem UPX.ag {n q lo hi : Nat} {S S' : TS} (h : UPX n q S S') (h1 : hi ≤ n) (h2 : q < lo ∨ hi ≤ q) : AGR lo hi S S' := fun a a1 a2 => h a (by omega) (by omega)
theorem UPX.old {n q : Nat} {S S' : TS} (h : UPX n q S S') (h1 : q ≤ n) : OLD q S S' := fun a ha => h a (by omega) (by omega)
theorem AGR.sub {lo hi lo' hi' : Nat} {S S' : TS} (h : AGR lo hi S S') (h1 : lo ≤ lo') (h2 : hi' ≤ hi) : AGR lo' hi' S S' := fun a a1 a2 => h a (by omega) (by omega)
theorem AGR.tr {lo hi : Nat} {S S1 S2 : TS} (h : AGR lo hi S S1) (k : AGR lo hi S1 S2) : AGR lo hi S S2 := fun a a1 a2 => (h a a1 a2).tr (k a a1 a2)
theorem AGR.ex {P : Nat → Prop} {lo hi : Nat} {S S' : TS} (h : Ex P S S') (hp : ∀ a, lo ≤ a → a < hi → ¬ P a) : AGR lo hi S S' := fun a h1 h2 => ⟨by rw [h.1.1], (h.2 a (hp a h1 h2)).1, (h.2 a (hp a h1 h2)).2, by rw [h.1.R]⟩
theorem BS.ag {S S' : TS} {q N : Nat} (h : BS S q N) (e : AGR q (q + 2) S S') : BS S' q N := by
  have e0 := e q (by omega) (by omega)
  have e1 := e (q + 1) (by omega) (by omega)
  exact ⟨by rw [e0.1]; exact h.1, by rw [e0.2.2.2]; exact h.2.1, by rw [e1.1]; exact h.2.2.1, h.2.2.2⟩
theorem BT.ag {S S' : TS} {q N : Nat} {l : List B8} (h : BT S q N l) (e : AGR q (q + 2) S S') : BT S' q N l := by
  have e0 := e q (by omega) (by omega)
  have e1 := e (q + 1) (by omega) (by omega)
  exact ⟨h.1.ag e, ⟨by rw [e0.2.1]; exact h.2.1.1, fun j hj => by rw [e1.2.1]; exact h.2.1.2 j hj⟩, h.2.2⟩
theorem HS.ag {S S' : TS} {h : Nat} (k : HS S h) (e : AGR h (h + 7) S S') : HS S' h := by
  obtain ⟨k1, k2, k3, k4, k5, k6, k7, k8, k9⟩ := k
  have e0 := e h (by omega) (by omega)
  exact ⟨by rw [e0.1]; exact k1, by rw [e0.2.2.2]; exact k2, by rw [(e (h + 1) (by omega) (by omega)).1]; exact k3, by rw [e0.2.2.2]; exact k4, by rw [(e (h + 2) (by omega) (by omega)).1]; exact k5, by rw [e0.2.2.2]; exact k6, k7.ag (e.sub (by omega) (by omega)), by rw [e0.2.2.2]; exact k8, k9.ag (e.sub (by omega) (by omega))⟩
theorem SS.ag {S S' : TS} {s : Nat} (k : SS S s) (e : AGR s (s + 3) S S') : SS S' s := by
  obtain ⟨k1, k2, k3, k4, k5⟩ := k
  have e0 := e s (by omega) (by omega)
  exact ⟨by rw [e0.1]; exact k1, by rw [e0.2.2.2]; exact k2, by rw [(e (s + 1) (by omega) (by omega)).1]; exact k3, by rw [e0.2.2.2]; exact k4, by rw [(e (s + 2) (by omega) (by omega)).1]; exact k5⟩
theorem PS.ag {S S' : TS} {p : Nat} (k : PS S p) (e : AGR p (p + 7) S S') : PS S' p := by
  obtain ⟨k1, k2, k3, k4, k5, k6, k7, k8, k9, k10, k11⟩ := k
  have e0 := e p (by omega) (by omega)
  exact ⟨by rw [e0.1]; exact k1, by rw [e0.2.2.2]; exact k2, by rw [(e (p + 1) (by omega) (by omega)).1]; exact k3, by rw [e0.2.2.2]; exact k4, by rw [(e (p + 2) (by omega) (by omega)).1]; exact k5, by rw [e0.2.2.2]; exact k6, by rw [(e (p + 3) (by omega) (by omega)).1]; exact k7, by rw [e0.2.2.2]; exact k8, by rw [(e (p + 4) (by omega) (by omega)).1]; exact k9, by rw [e0.2.2.2]; exact k10, k11.ag (e.sub (by omega) (by omega))⟩
theorem ZS.ag {S S' : TS} {z : Nat} (k : ZS S z) (e : AGR z (z + 13) S S') : ZS S' z := by
  obtain ⟨k1, k2, k3, k4, k5, k6, k7⟩ := k
  have e0 := e z (by omega) (by omega)
  exact ⟨by rw [e0.1]; exact k1, by rw [e0.2.2.2]; exact k2, k3.ag (e.sub (by omega) (by omega)), by rw [e0.2.2.2]; exact k4, k5.ag (e.sub (by omega) (by omega)), by rw [e0.2.2.2]; exact k6, k7.ag (e.sub (by omega) (by omega))⟩
theorem DS.ag {S S' : TS} {g : Nat} (k : DS S g) (e : AGR g (g + 5) S S') : DS S' g := by
  obtain ⟨k1, k2, k3, k4, k5⟩ := k
  have e0 := e g (by omega) (by omega)
  exact ⟨by rw [e0.1]; exact k1, by rw [e0.2.2.2]; exact k2, k3.ag (e.sub (by omega) (by omega)), by rw [e0.2.2.2]; exact k4, k5.ag (e.sub (by omega) (by omega))⟩
theorem RQ.ag {S S' : TS} {r : Nat} (k : RQ S r) (e : AGR r (r + 5) S S') : RQ S' r := by
  obtain ⟨k1, k2, k3, k4, k5⟩ := k
  have e0 := e r (by omega) (by omega)
  exact ⟨by rw [e0.1]; exact k1, by rw [e0.2.2.2]; exact k2, k3.ag (e.sub (by omega) (by omega)), by rw [e0.2.2.2]; exact k4, k5.ag (e.sub (by omega) (by omega))⟩
theorem SD.agr {S S' : TS} {s : Nat} (k : SD S s) (e : AGR s (s + 45) S S') : SD S' s := by
  obtain ⟨k1, k2, k3, k4, k5, k6, k7, k8, k9, k10, k11, k12, k13, k14, k15, k16, k17, k18, k19, k20⟩ := k
  have e0 := e s (by omega) (by omega)
  have e8 := e (s + 8) (by omega) (by omega)
  refine ⟨by rw [e0.1]; exact k1, by rw [e0.2.2.2]; exact k2, k3.ag (e.sub (by omega) (by omega)), by rw [e0.2.2.2]; exact k4, by rw [e8.1]; exact k5, fun k hk => ⟨by rw [e8.2.2.2]; exact (k6 k hk).1, (k6 k hk).2.ag (e.sub (by omega) (by omega))⟩, by rw [e0.2.2.2]; exact k7, k8.ag (e.sub (by omega) (by omega)), by rw [e0.2.2.2]; exact k9, k10.ag (e.sub (by omega) (by omega)), by rw [e0.2.2.2]; exact k11, k12.ag (e.sub (by omega) (by omega)), by rw [e0.2.2.2]; exact k13, k14.ag (e.sub (by omega) (by omega)), by rw [e0.2.2.2]; exact k15, k16.ag (e.sub (by omega) (by omega)), by rw [e0.2.2.2]; exact k17, k18.ag (e.sub (by omega) (by omega)), by rw [e0.2.2.2]; exact k19, k20.ag (e.sub (by omega) (by omega))⟩
theorem WR.ag {S S' : TS} {v : Nat} {ws : List (List B8)} {f : Nat → Nat} (k : WR S v ws f) (e : AGR v (v + 28) S S') : WR S' v ws f := by
  obtain ⟨⟨a1, a2, a3, a4, a5⟩, b, c, d, g, h⟩ := k
  have e0 := e v (by omega) (by omega)
  have e1 := e (v + 1) (by omega) (by omega)
  refine ⟨⟨by rw [e0.1]; exact a1, by rw [e0.2.2.2]; exact a2, by rw [e1.1]; exact a3, by rw [e0.2.1]; exact a4, a5⟩, fun k hk => by rw [e1.2.2.2]; exact b k hk, c, d, fun k hk => (g k hk).ag (e.sub (by have := c k hk; omega) (by have := c k hk; omega)), fun k hk => (h k hk).ag (e.sub (by have := c k (by omega); omega) (by have := c k (by omega); omega))⟩
theorem ST.ag {S S' : TS} {t : Nat} {st : Stt} {fn fv : Nat → Nat} (k : ST S t st fn fv) (e : AGR t (t + 83) S S') : ST S' t st fn fv := by
  obtain ⟨⟨a1, a2, a3, a4, a5, a6, a7⟩, b, c, d, g, h⟩ := k
  have e0 := e t (by omega) (by omega)
  have e1 := e (t + 1) (by omega) (by omega)
  have e2 := e (t + 2) (by omega) (by omega)
  refine ⟨⟨by rw [e0.1]; exact a1, by rw [e0.2.2.2]; exact a2, by rw [e1.1]; exact a3, by rw [e0.2.2.2]; exact a4, by rw [e2.1]; exact a5, by rw [e0.2.1]; exact a6, a7⟩, fun k hk => ⟨by rw [e1.2.2.2]; exact (b k hk).1, by rw [e2.2.2.2]; exact (b k hk).2⟩, c, d, fun k hk => ⟨(g k hk).1.ag (e.sub (by have := c k hk; omega) (by have := c k hk; omega)), (g k hk).2.ag (e.sub (by have := c k hk; omega) (by have := c k hk; omega))⟩, fun k hk => ⟨(h k hk).1.ag (e.sub (by have := c k (by omega); omega) (by have := c k (by omega); omega)), (h k hk).2.ag (e.sub (by have := c k (by omega); omega) (by have := c k (by omega); omega))⟩⟩
/-- a fresh object -/
def FRE (S : TS) (q ci : Nat) : Prop := te S q = some (.inr ci) ∧ tI S q = (fun _ => 0) ∧ tz S = q + 1
theorem sN_old (S : TS) (t : pT) (n : Nat) : OLD (tz S) S (sN S t n) := fun a ha => ⟨by rw [te_sN, up_n _ _ (by omega)], by rw [tI_sN, up_n _ _ (by omega)], by rw [tL_sN, up_n _ _ (by omega)], by rw [tR_sN, up_n _ _ (by omega)]⟩
theorem sN_fre (S : TS) (ci n : Nat) : FRE (sN S (.inr ci) n) (tz S) ci := ⟨by rw [te_sN, up_s], by rw [tI_sN, up_s], tz_sN _ _ _⟩
theorem sR_sam {S : TS} {q : Nat} {f : Nat → Option Nat} {a : Nat} (h : a ≠ q) : SAM S (sR S q f) a := ⟨by rw [te_sR], by rw [tI_sR], by rw [tL_sR], by rw [tR_sR, up_n _ _ h]⟩
theorem sI_sam {S : TS} {q : Nat} {f : Nat → Int32} {a : Nat} (h : a ≠ q) : SAM S (sI S q f) a := ⟨by rw [te_sI], by rw [tI_sI, up_n _ _ h], by rw [tL_sI], by rw [tR_sI]⟩
/-- one field of object q set to what was made at n -/
def PST (q n f : Nat) (S S' : TS) : Prop := UPX n q S S' ∧ te S' q = te S q ∧ tI S' q = tI S q ∧ tR S' q = va_up (tR S q) f (some n)
theorem stA {S S1 S3 : TS} {q f k : Nat} {t : pT} (hq : q < tz S) (e1 : S1 = sN S t k) (e3 : S3 = sR S1 q (va_up (tR S1 q) f (some (tz S)))) : PST q (tz S) f S S3 ∧ te S3 (tz S) = some t ∧ tI S3 (tz S) = (fun _ => 0) ∧ tz S3 = tz S + 1 ∧ tk S3 = tk S + k := by
  have o1 : OLD (tz S) S S1 := by rw [e1]; exact sN_old S t k
  have q1 := o1 q hq
  have r : tR S3 q = va_up (tR S1 q) f (some (tz S)) := by rw [e3, tR_sR, up_s]
  refine ⟨⟨fun a h1 h2 => (o1 a h1).tr (by rw [e3]; exact sR_sam h2), by rw [e3, te_sR]; exact q1.1, by rw [e3, tI_sR]; exact q1.2.1, by rw [r, q1.2.2.2]⟩, ?_, ?_, ?_, ?_⟩
  · rw [e3, te_sR, e1, te_sN, up_s]
  · rw [e3, tI_sR, e1, tI_sN, up_s]
  · rw [e3, tz_sR, e1, tz_sN]
  · rw [e3, tk_sR, e1, tk_sN]
theorem stC {S S1 S2 S4 : TS} {q f k : Nat} {t : pT} (hq : q < tz S) (e1 : S1 = sN S t k) (o2 : OLD (tz S) S1 S2) (e4 : S4 = sR S2 q (va_up (tR S2 q) f (some (tz S)))) : PST q (tz S) f S S4 ∧ (∀ hi, AGR (tz S) hi S2 S4) ∧ tz S4 = tz S2 ∧ tk S4 = tk S2 := by
  have o1 : OLD (tz S) S S1 := by rw [e1]; exact sN_old S t k
  have q2 := (o1 q hq).tr (o2 q hq)
  have r : tR S4 q = va_up (tR S2 q) f (some (tz S)) := by rw [e4, tR_sR, up_s]
  exact ⟨⟨fun a h1 h2 => ((o1 a h1).tr (o2 a h1)).tr (by rw [e4]; exact sR_sam h2), by rw [e4, te_sR]; exact q2.1, by rw [e4, tI_sR]; exact q2.2.1, by rw [r, q2.2.2.2]⟩, fun hi a h1 h2 => by rw [e4]; exact sR_sam (by omega), by rw [e4, tz_sR], by rw [e4, tk_sR]⟩
theorem PST.tr2 {q n f : Nat} {S S' : TS} (h : PST q n f S S') {ci : Nat} (h1 : te S q = some (.inr ci)) : te S' q = some (.inr ci) := by rw [h.2.1]; exact h1
section INI
variable {G : pG} {S : TS} {Q : Option Value → TS → Prop}
theorem c_Bytes {q N : Nat} (hf : FRE S q 0) (hN : N < 65536) (hQ : ∀ S', OLD q S S' → tz S' = q + 2 → tk S' = tk S + N → BT S' q N [] → Q none S') : CT G J_Bytes_init [.ref q, .int (nI N)] S Q := by
  refine v_Bytes_init q _ S Q ⟨nI_pos (by omega), N, nI_clamp (by omega), by omega, fun S1 e1 => ?_⟩
  have o1 : OLD (tz S) S S1 := by rw [e1]; exact sN_old S _ _
  have t1 : te S1 q = some (.inr 0) := by rw [(o1 q (by rw [hf.2.2]; omega)).1]; exact hf.1
  refine ⟨t1, fun S4 e4 => ?_⟩
  obtain ⟨⟨u, a1, a2, a3⟩, b1, b2, b3, b4⟩ := stA (by rw [hf.2.2]; omega) e1 e4
  have hz := hf.2.2
  refine hQ S4 (fun a ha => u a (by omega) (by omega)) (by rw [b3, hz]) b4 ⟨⟨by rw [a1]; exact hf.1, by rw [a3, up_s, hz], by rw [← hz]; exact b1, hN⟩, ⟨by rw [a2, hf.2.1]; rfl, fun j hj => absurd hj (by simp)⟩, by simp⟩
theorem c_Hash {q : Nat} (hf : FRE S q 2) (hQ : ∀ S', OLD q S S' → tz S' = q + 7 → tk S' = tk S + 372 → HS S' q → Q none S') : CT G J_Hash_init [.ref q] S Q := by
  have hz := hf.2.2
  refine v_Hash_init q S Q (fun S1 e1 => ?_)
  have t1 : te S1 q = some (.inr 2) := by rw [e1, te_sN, up_n _ _ (by omega)]; exact hf.1
  refine ⟨t1, fun S3 e3 => ?_⟩
  obtain ⟨p3, c3, _, z3, k3⟩ := stA (by omega) e1 e3
  rw [hz] at p3 c3 z3
  intro S4 e4
  have t3 := p3.tr2 hf.1
  have t4 : te S4 q = some (.inr 2) := by rw [e4, te_sN, up_n _ _ (by omega)]; exact t3
  refine ⟨t4, fun S6 e6 => ?_⟩
  obtain ⟨p6, c6, _, z6, k6⟩ := stA (by omega) e4 e6
  rw [z3] at p6 c6 z6
  have t6 := p6.tr2 t3
  intro S7 e7
  refine c_Bytes (q := tz S6) (N := 264) (by rw [e7]; exact sN_fre S6 0 2) (by omega) (fun S8 o8 z8 k8 b8' => ⟨rfl, ?_, fun S10 e10 => ?_⟩)
  · rw [(o8 q (by omega)).1, e7, te_sN, up_n _ _ (by omega)]; exact t6
  obtain ⟨p10, ag10, z10, k10⟩ := stC (by omega) e7 o8 e10
  have b10 := b8'.1.ag (ag10 _)
  rw [z6] at p10 b10
  have t10 := p10.tr2 t6
  have k7 : tk S7 = tk S6 + 2 := by rw [e7, tk_sN]
  intro S11 e11
  refine c_Bytes (q := tz S10) (N := 32) (by rw [e11]; exact sN_fre S10 0 2) (by omega) (fun S12 o12 z12 k12 b12 => ⟨rfl, ?_, fun S14 e14 => ?_⟩)
  · rw [(o12 q (by omega)).1, e11, te_sN, up_n _ _ (by omega)]; exact t10
  have z10' : tz S10 = q + 5 := by rw [z10, z8, z6]
  obtain ⟨p14, ag14, z14, k14⟩ := stC (by omega) e11 o12 e14
  have b14 := b12.1.ag (ag14 _)
  rw [z10'] at p14 b14
  have k11 : tk S11 = tk S10 + 2 := by rw [e11, tk_sN]
  have u : UPX (q + 1) q S S14 := ((p3.1.tr p6.1 (by omega)).tr p10.1 (by omega)).tr p14.1 (by omega)
  have r14 : tR S14 q = va_up (va_up (va_up (va_up (tR S q) 0 (some (q + 1))) 1 (some (q + 1 + 1))) 2 (some (q + 1 + 1 + 1))) 3 (some (q + 5)) := by rw [p14.2.2.2, p10.2.2.2, p6.2.2.2, p3.2.2.2]
  have c3' : te S14 (q + 1) = some (.inl (.int, 8)) := by rw [(p14.1 (q + 1) (by omega) (by omega)).1, (p10.1 (q + 1) (by omega) (by omega)).1, (p6.1 (q + 1) (by omega) (by omega)).1]; exact c3
  have c6' : te S14 (q + 2) = some (.inl (.int, 64)) := by rw [(p14.1 (q + 2) (by omega) (by omega)).1, (p10.1 (q + 2) (by omega) (by omega)).1]; exact c6
  refine hQ S14 (u.old (by omega)) (by rw [z14, z12, z10']) (by omega) ⟨p14.tr2 t10, ?_, c3', ?_, c6', ?_, b10.ag (p14.1.ag (by omega) (by omega)), ?_, b14⟩
  · rw [r14, up_n _ _ (by omega), up_n _ _ (by omega), up_n _ _ (by omega), up_s]
  · rw [r14, up_n _ _ (by omega), up_n _ _ (by omega), up_s]
  · rw [r14, up_n _ _ (by omega), up_s]
  · rw [r14, up_s]
theorem c_Stream {q : Nat} (hf : FRE S q 8) (hQ : ∀ S', OLD q S S' → tz S' = q + 3 → tk S' = tk S + 32 → SS S' q → Q none S') : CT G J_Stream_init [.ref q] S Q := by
  have hz := hf.2.2
  refine v_Stream_init q S Q (fun S1 e1 => ?_)
  have t1 : te S1 q = some (.inr 8) := by rw [e1, te_sN, up_n _ _ (by omega)]; exact hf.1
  refine ⟨t1, fun S3 e3 => ?_⟩
  obtain ⟨p3, c3, _, z3, k3⟩ := stA (by omega) e1 e3
  rw [hz] at p3 c3 z3
  intro S4 e4
  have t3 := p3.tr2 hf.1
  have t4 : te S4 q = some (.inr 8) := by rw [e4, te_sN, up_n _ _ (by omega)]; exact t3
  refine ⟨t4, fun S6 e6 => ?_⟩
  obtain ⟨p6, c6, _, z6, k6⟩ := stA (by omega) e4 e6
  rw [z3] at p6 c6 z6
  have u : UPX (q + 1) q S S6 := p3.1.tr p6.1 (by omega)
  have r6 : tR S6 q = va_up (va_up (tR S q) 0 (some (q + 1))) 1 (some (q + 1 + 1)) := by rw [p6.2.2.2, p3.2.2.2]
  have c3' : te S6 (q + 1) = some (.inl (.int, 16)) := by rw [(p6.1 (q + 1) (by omega) (by omega)).1]; exact c3
  refine hQ S6 (u.old (by omega)) (by rw [z6]) (by omega) ⟨p6.tr2 t3, ?_, c3', ?_, c6⟩
  · rw [r6, up_n _ _ (by omega), up_s]
  · rw [r6, up_s]
theorem c_Poly {q : Nat} (hf : FRE S q 3) (hQ : ∀ S', OLD q S S' → tz S' = q + 7 → tk S' = tk S + 269 → PS S' q → Q none S') : CT G J_Poly_init [.ref q] S Q := by
  have hz := hf.2.2
  refine v_Poly_init q S Q (fun S1 e1 => ?_)
  refine ⟨by rw [e1, te_sN, up_n _ _ (by omega)]; exact hf.1, fun S3 e3 => ?_⟩
  obtain ⟨p3, c3, _, z3, k3⟩ := stA (by omega) e1 e3
  rw [hz] at p3 c3 z3
  have t3 := p3.tr2 hf.1
  refine fun S4 e4 => ⟨by rw [e4, te_sN, up_n _ _ (by omega)]; exact t3, fun S6 e6 => ?_⟩
  obtain ⟨p6, c6, _, z6, k6⟩ := stA (by omega) e4 e6
  rw [z3] at p6 c6 z6
  have t6 := p6.tr2 t3
  refine fun S7 e7 => ⟨by rw [e7, te_sN, up_n _ _ (by omega)]; exact t6, fun S9 e9 => ?_⟩
  obtain ⟨p9, c9, _, z9, k9⟩ := stA (by omega) e7 e9
  rw [z6] at p9 c9 z9
  have t9 := p9.tr2 t6
  refine fun S10 e10 => ⟨by rw [e10, te_sN, up_n _ _ (by omega)]; exact t9, fun S12 e12 => ?_⟩
  obtain ⟨p12, c12, _, z12, k12⟩ := stA (by omega) e10 e12
  rw [z9] at p12 c12 z12
  have t12 := p12.tr2 t9
  intro S13 e13
  refine c_Bytes (q := tz S12) (N := 248) (by rw [e13]; exact sN_fre S12 0 2) (by omega) (fun S14 o14 z14 k14 b14 => ⟨rfl, ?_, fun S16 e16 => ?_⟩)
  · rw [(o14 q (by omega)).1, e13, te_sN, up_n _ _ (by omega)]; exact t12
  obtain ⟨p16, ag16, z16, k16⟩ := stC (by omega) e13 o14 e16
  have b16 := b14.1.ag (ag16 _)
  rw [z12] at p16 b16
  have k13 : tk S13 = tk S12 + 2 := by rw [e13, tk_sN]
  have u : UPX (q + 1) q S S16 := (((p3.1.tr p6.1 (by omega)).tr p9.1 (by omega)).tr p12.1 (by omega)).tr p16.1 (by omega)
  have r : tR S16 q = va_up (va_up (va_up (va_up (va_up (tR S q) 0 (some (q + 1))) 1 (some (q + 1 + 1))) 2 (some (q + 1 + 1 + 1))) 3 (some (q + 1 + 1 + 1 + 1))) 4 (some (q + 1 + 1 + 1 + 1 + 1)) := by rw [p16.2.2.2, p12.2.2.2, p9.2.2.2, p6.2.2.2, p3.2.2.2]
  have v12 : ∀ a, a < q + 5 → a ≠ q → te S16 a = te S12 a := fun a h1 h2 => (p16.1 a (by omega) h2).1
  have d1 : te S16 (q + 1) = some (.inl (.long, 5)) := by rw [v12 _ (by omega) (by omega), (p12.1 (q + 1) (by omega) (by omega)).1, (p9.1 (q + 1) (by omega) (by omega)).1, (p6.1 (q + 1) (by omega) (by omega)).1]; exact c3
  have d2 : te S16 (q + 2) = some (.inl (.long, 5)) := by rw [v12 _ (by omega) (by omega), (p12.1 (q + 2) (by omega) (by omega)).1, (p9.1 (q + 2) (by omega) (by omega)).1]; exact c6
  have d3 : te S16 (q + 3) = some (.inl (.long, 5)) := by rw [v12 _ (by omega) (by omega), (p12.1 (q + 3) (by omega) (by omega)).1]; exact c9
  have d4 : te S16 (q + 4) = some (.inl (.int, 4)) := by rw [v12 _ (by omega) (by omega)]; exact c12
  refine hQ S16 (u.old (by omega)) (by rw [z16, z14, z12]) (by omega) ⟨p16.tr2 t12, ?_, d1, ?_, d2, ?_, d3, ?_, d4, ?_, b16⟩
  · rw [r, up_n _ _ (by omega), up_n _ _ (by omega), up_n _ _ (by omega), up_n _ _ (by omega), up_s]
  · rw [r, up_n _ _ (by omega), up_n _ _ (by omega), up_n _ _ (by omega), up_s]
  · rw [r, up_n _ _ (by omega), up_n _ _ (by omega), up_s]
  · rw [r, up_n _ _ (by omega), up_s]
  · rw [r, up_s]
theorem c_Sealer {q : Nat} (hf : FRE S q 5) (hQ : ∀ S', OLD q S S' → tz S' = q + 13 → tk S' = tk S + 326 → ZS S' q → Q none S') : CT G J_Sealer_init [.ref q] S Q := by
  have hz := hf.2.2
  refine v_Sealer_init q S Q (fun S1 e1 => ?_)
  refine c_Stream (q := tz S) (by rw [e1]; exact sN_fre S 8 2) (fun S2 o2 z2 k2 b2 => ⟨rfl, ?_, fun S4 e4 => ?_⟩)
  · rw [(o2 q (by omega)).1, e1, te_sN, up_n _ _ (by omega)]; exact hf.1
  obtain ⟨p4, ag4, z4, k4⟩ := stC (by omega) e1 o2 e4
  have b4 := b2.ag (ag4 _)
  have k1 : tk S1 = tk S + 2 := by rw [e1, tk_sN]
  have z4' : tz S4 = q + 4 := by rw [z4, z2, hz]
  rw [hz] at p4 b4
  have t4 := p4.tr2 hf.1
  intro S5 e5
  refine c_Poly (q := tz S4) (by rw [e5]; exact sN_fre S4 3 5) (fun S6 o6 z6 k6 b6 => ⟨rfl, ?_, fun S8 e8 => ?_⟩)
  · rw [(o6 q (by omega)).1, e5, te_sN, up_n _ _ (by omega)]; exact t4
  obtain ⟨p8, ag8, z8, k8⟩ := stC (by omega) e5 o6 e8
  have b8' := b6.ag (ag8 _)
  have k5 : tk S5 = tk S4 + 5 := by rw [e5, tk_sN]
  have z8' : tz S8 = q + 11 := by rw [z8, z6, z4']
  rw [z4'] at p8 b8'
  have t8 := p8.tr2 t4
  intro S9 e9
  refine c_Bytes (q := tz S8) (N := 16) (by rw [e9]; exact sN_fre S8 0 2) (by omega) (fun S10 o10 z10 k10 b10 => ⟨rfl, ?_, fun S12 e12 => ?_⟩)
  · rw [(o10 q (by omega)).1, e9, te_sN, up_n _ _ (by omega)]; exact t8
  obtain ⟨p12, ag12, z12, k12⟩ := stC (by omega) e9 o10 e12
  have b12 := b10.1.ag (ag12 _)
  have k9 : tk S9 = tk S8 + 2 := by rw [e9, tk_sN]
  rw [z8'] at p12 b12
  have u : UPX (q + 1) q S S12 := (p4.1.tr p8.1 (by omega)).tr p12.1 (by omega)
  have r : tR S12 q = va_up (va_up (va_up (tR S q) 0 (some (q + 1))) 1 (some (q + 4))) 2 (some (q + 11)) := by rw [p12.2.2.2, p8.2.2.2, p4.2.2.2]
  refine hQ S12 (u.old (by omega)) (by rw [z12, z10, z8']) (by omega) ⟨p12.tr2 t8, ?_, (b4.ag (p8.1.ag (by omega) (by omega))).ag (p12.1.ag (by omega) (by omega)), ?_, b8'.ag (p12.1.ag (by omega) (by omega)), ?_, b12⟩
  · rw [r, up_n _ _ (by omega), up_n _ _ (by omega), up_s]
  · rw [r, up_n _ _ (by omega), up_s]
  · rw [r, up_s]
theorem c_Direction {q : Nat} {x1 : Int32} (hf : FRE S q 1) (hQ : ∀ S', OLD q S S' → tz S' = q + 5 → tk S' = tk S + 39 → DS S' q → BT S' (q + 1) 32 [] → tI S' q 0 = x1 → tI S' q 3 = 0 → tI S' q 4 = 0 → Q none S') : CT G J_Direction_init [.ref q, .int x1] S Q := by
  have hz := hf.2.2
  refine v_Direction_init q x1 S Q (fun S1 e1 => ?_)
  refine c_Bytes (q := tz S) (N := 32) (by rw [e1]; exact sN_fre S 0 2) (by omega) (fun S2 o2 z2 k2 b2 => ⟨rfl, ?_, fun S4 e4 => ?_⟩)
  · rw [(o2 q (by omega)).1, e1, te_sN, up_n _ _ (by omega)]; exact hf.1
  obtain ⟨p4, ag4, z4, k4⟩ := stC (by omega) e1 o2 e4
  have b4 := b2.ag (ag4 _)
  have k1 : tk S1 = tk S + 2 := by rw [e1, tk_sN]
  have z4' : tz S4 = q + 3 := by rw [z4, z2, hz]
  rw [hz] at p4 b4
  have t4 := p4.tr2 hf.1
  intro S5 e5
  refine c_Bytes (q := tz S4) (N := 3) (by rw [e5]; exact sN_fre S4 0 2) (by omega) (fun S6 o6 z6 k6 b6 => ⟨rfl, ?_, fun S8 e8 => ?_⟩)
  · rw [(o6 q (by omega)).1, e5, te_sN, up_n _ _ (by omega)]; exact t4
  obtain ⟨p8, ag8, z8, k8⟩ := stC (by omega) e5 o6 e8
  have b8' := b6.1.ag (ag8 _)
  have k5 : tk S5 = tk S4 + 2 := by rw [e5, tk_sN]
  have z8' : tz S8 = q + 5 := by rw [z8, z6, z4']
  rw [z4'] at p8 b8'
  have t8 := p8.tr2 t4
  refine ⟨t8, fun S10 e10 => ?_⟩
  have s10 : ∀ a, a ≠ q → SAM S8 S10 a := fun a ha => by rw [e10]; exact sI_sam ha
  have u : UPX (q + 1) q S S10 := fun a h1 h2 => ((p4.1.tr p8.1 (by omega)) a h1 h2).tr (s10 a h2)
  have r : tR S10 q = va_up (va_up (tR S q) 1 (some (q + 1))) 2 (some (q + 3)) := by rw [e10, tR_sI, p8.2.2.2, p4.2.2.2]
  have i10 : tI S10 q = upd (fun _ => 0) 0 x1 := by rw [e10, tI_sI, up_s, p8.2.2.1, p4.2.2.1, hf.2.1]
  have ag : ∀ lo hi, q < lo → AGR lo hi S8 S10 := fun lo hi h a h1 h2 => s10 a (by omega)
  have b1 : BT S10 (q + 1) 32 [] := (b4.ag (p8.1.ag (by omega) (by omega))).ag (ag _ _ (by omega))
  refine hQ S10 (u.old (by omega)) (by rw [e10, tz_sI, z8']) (by rw [e10, tk_sI]; omega) ⟨by rw [e10, te_sI]; exact t8, ?_, b1.1, ?_, b8'.ag (ag _ _ (by omega))⟩ b1 (by rw [i10, pk_us]) (by rw [i10, pk_un (by omega)]) (by rw [i10, pk_un (by omega)])
  · rw [r, up_n _ _ (by omega), up_s]
  · rw [r, up_s]
theorem c_Request {q : Nat} (hf : FRE S q 4) (hQ : ∀ S', OLD q S S' → tz S' = q + 5 → tk S' = tk S + 84 → RQ S' q → Q none S') : CT G J_Request_init [.ref q] S Q := by
  have hz := hf.2.2
  refine v_Request_init q S Q (fun S1 e1 => ?_)
  refine c_Bytes (q := tz S) (N := 16) (by rw [e1]; exact sN_fre S 0 2) (by omega) (fun S2 o2 z2 k2 b2 => ⟨rfl, ?_, fun S4 e4 => ?_⟩)
  · rw [(o2 q (by omega)).1, e1, te_sN, up_n _ _ (by omega)]; exact hf.1
  obtain ⟨p4, ag4, z4, k4⟩ := stC (by omega) e1 o2 e4
  have b4 := b2.1.ag (ag4 _)
  have k1 : tk S1 = tk S + 2 := by rw [e1, tk_sN]
  have z4' : tz S4 = q + 3 := by rw [z4, z2, hz]
  rw [hz] at p4 b4
  have t4 := p4.tr2 hf.1
  intro S5 e5
  refine c_Bytes (q := tz S4) (N := 64) (by rw [e5]; exact sN_fre S4 0 2) (by omega) (fun S6 o6 z6 k6 b6 => ⟨rfl, ?_, fun S8 e8 => ?_⟩)
  · rw [(o6 q (by omega)).1, e5, te_sN, up_n _ _ (by omega)]; exact t4
  obtain ⟨p8, ag8, z8, k8⟩ := stC (by omega) e5 o6 e8
  have b8' := b6.1.ag (ag8 _)
  have k5 : tk S5 = tk S4 + 2 := by rw [e5, tk_sN]
  rw [z4'] at p8 b8'
  have u : UPX (q + 1) q S S8 := p4.1.tr p8.1 (by omega)
  have r : tR S8 q = va_up (va_up (tR S q) 0 (some (q + 1))) 1 (some (q + 3)) := by rw [p8.2.2.2, p4.2.2.2]
  refine hQ S8 (u.old (by omega)) (by rw [z8, z6, z4']) (by omega) ⟨p8.tr2 t4, ?_, b4.ag (p8.1.ag (by omega) (by omega)), ?_, b8'⟩
  · rw [r, up_n _ _ (by omega), up_s]
  · rw [r, up_s]
end INI
