/-! PURE: the reference takes a sealed record -/
theorem va_comm {α : Type} (f : Nat → α) {i j : Nat} (u v : α) (h : i ≠ j) : va_up (va_up f i u) j v = va_up (va_up f j v) i u := by
  funext z
  by_cases h1 : z = i
  · rw [h1, up_n _ _ h, up_s, up_s]
  · rw [up_n (va_up f j v) u h1]
    by_cases h2 : z = j
    · rw [h2, up_s, up_s]
    · rw [up_n _ _ h2, up_n _ _ h1, up_n _ _ h2]
theorem va_twice {α : Type} (f : Nat → α) (i : Nat) (u v : α) : va_up (va_up f i u) i v = va_up f i v := by
  funext z
  by_cases h1 : z = i
  · rw [h1, up_s, up_s]
  · rw [up_n _ _ h1, up_n _ _ h1, up_n _ _ h1]
theorem wI_comm (X : AS) {i j : Nat} (u v : Int32) (h : i ≠ j) : wI (wI X i u) j v = wI (wI X j v) i u := by
  show (X.1, va_up (va_up X.2.1 i u) j v, X.2.2) = (X.1, va_up (va_up X.2.1 j v) i u, X.2.2)
  rw [va_comm X.2.1 u v h]
theorem wI_twice (X : AS) (i : Nat) (u v : Int32) : wI (wI X i u) i v = wI X i v := by
  show (X.1, va_up (va_up X.2.1 i u) i v, X.2.2) = (X.1, va_up X.2.1 i v, X.2.2)
  rw [va_twice]
theorem wIW (X : AS) (i w : Nat) (u : Int32) (L : List (List B8)) : wI (wW X w L) i u = wW (wI X i u) w L := rfl
theorem aSeal_12 (X : AS) (v : Int32) (p : List B8) : aSeal (wI X 12 v) 1 1 1 p = wI (aSeal X 1 1 1 p) 12 v := by
  unfold aSeal
  rw [aB_wI, aW_wI, aI_wI, up_n _ _ (by omega), wI_comm X _ _ (by omega)]
  generalize sealR (aB X (24 + 2 * 1 + 1)) (aI X (4 + 2 * 1 + 1)) p = q
  rfl
theorem aNew_cnt (X : AS) (s d : Nat) (v : Int32) : aNew (wI X (4 + 2 * s + d) v) s d = aNew X s d := by
  unfold aNew
  rw [aB_wI, wI_twice, aI_wI, up_n _ _ (by omega)]
  by_cases h : 18 + 2 * s + d = 4 + 2 * s + d
  · omega
  · rw [up_n _ _ h]
section MSD
variable {G : pG} {y : Nat} {S : TS} {A : AS}
theorem RMF.ansL {S0 S S' : TS} {l : List B8} (h : RMF y S0 S A) (e : MX y (fun a => a = y + 26) (fun f => f = 33) S S') (c : cBL y 33 26 S' l) : RMF y S0 S' (wB A 3 l) := by
  refine h.gen e (fun a z => by show y ≤ a ∧ a < y + 45; omega) (Or.inr ⟨rfl, by omega, by omega⟩) (Or.inr ⟨rfl, by omega, by omega⟩) (Or.inr ⟨rfl, by omega, by omega⟩) (Or.inl c) (Or.inr ⟨fun j _ => ?_, by omega, by omega⟩) (Or.inr ⟨fun _ _ => rfl, by omega, by omega⟩) (Or.inr ⟨rfl, rfl, by omega⟩) (Or.inr ⟨rfl, rfl, rfl, rfl, by omega, by omega⟩) (fun s hs => Or.inr ⟨⟨rfl, fun d _ => ⟨?_, rfl, rfl⟩⟩, by omega, by omega, by omega⟩) (fun w hw => Or.inr ⟨rfl, by omega, by omega, by omega⟩) (Or.inr ⟨rfl, by omega, by omega, by omega, by omega, by omega⟩) (Or.inr ⟨rfl, rfl, rfl, by omega, by omega, by omega⟩)
  · rw [aB_wB, up_n _ _ (by omega)]
  · rw [aB_wB, up_n _ _ (by omega)]
theorem RMF.gotC {S0 S S' : TS} {v : Int32} (R : RMF y S0 S A) (e : S' = sI S y (upd (tI S y) 35 v)) : RMF y S0 S' (wI A 13 v) := by
  have ry : tI S' y = upd (tI S y) 35 v := by rw [e, tI_sI, up_s]
  have m : MX y (fun _ => False) (fun f => f = 35) S S' := ⟨by rw [e]; exact (Ex.rf S).I (Or.inl rfl), fun f hf => by rw [ry, pk_un hf]⟩
  have ne : ∀ j, j ≠ 13 → aI (wI A 13 v) j = aI A j := fun j hj => by rw [aI_wI, up_n _ _ hj]
  refine R.gen m (fun a z => z.elim) (Or.inr ⟨rfl, fun z => z, by omega⟩) (Or.inr ⟨rfl, fun z => z, by omega⟩) (Or.inr ⟨rfl, fun z => z, by omega⟩) (Or.inr ⟨rfl, fun z => z, by omega⟩) (Or.inr ⟨fun _ _ => rfl, fun z => z, fun z => z⟩) (Or.inr ⟨fun j hj => ne j (by omega), fun z => z, fun z => z⟩) (Or.inr ⟨ne 0 (by omega), rfl, fun z => z⟩) (Or.inr ⟨ne 1 (by omega), rfl, rfl, rfl, fun z => z, fun z => z⟩) (fun s hs => Or.inr ⟨⟨ne s (by omega), fun d hd => ⟨rfl, ne _ (by omega), ne _ (by omega)⟩⟩, fun z => z, fun z => z, fun z => z⟩) (fun w hw => Or.inr ⟨rfl, fun z => z, fun z => z, fun z => z⟩) (Or.inr ⟨rfl, fun z => z, fun z => z, fun z => z, fun z => z, by omega⟩) (Or.inl ⟨?_, ?_, ?_⟩)
  · rw [ry, pk_un (by omega), ne 14 (by omega)]; exact R.cn.1
  · rw [ry, pk_un (by omega), ne 12 (by omega)]; exact R.cn.2.1
  · rw [ry, pk_us, aI_wI, up_s]
/-- a number of a side that isn't open doesn't matter -/
theorem RMF.cntF {S0 S : TS} {s d : Nat} {v u : Int32} (R : RMF y S0 S (wI (wI A (4 + 2 * s + d) v) s u)) (hs : s < 2) (hd : d < 2) (hu : u ≠ 2) : RMF y S0 S (wI A s u) := by
  have ne : ∀ j, j ≠ 4 + 2 * s + d → aI (wI A s u) j = aI (wI (wI A (4 + 2 * s + d) v) s u) j := fun j hj => by
    rw [aI_wI, aI_wI]
    by_cases h : j = s
    · rw [h, up_s, up_s]
    · rw [up_n _ _ h, up_n _ _ h, aI_wI, up_n _ _ hj]
  refine R.gen (P := fun _ => False) (F := fun _ => False) (MX.rf S) (fun a z => z.elim) (Or.inr ⟨rfl, fun z => z, fun z => z⟩) (Or.inr ⟨rfl, fun z => z, fun z => z⟩) (Or.inr ⟨rfl, fun z => z, fun z => z⟩) (Or.inr ⟨rfl, fun z => z, fun z => z⟩) (Or.inr ⟨fun _ _ => rfl, fun z => z, fun z => z⟩) (Or.inr ⟨fun j hj => ne j (by omega), fun z => z, fun z => z⟩) (Or.inr ⟨ne 0 (by omega), rfl, fun z => z⟩) (Or.inr ⟨ne 1 (by omega), rfl, rfl, rfl, fun z => z, fun z => z⟩) (fun j hj => ?_) (fun w hw => Or.inr ⟨rfl, fun z => z, fun z => z, fun z => z⟩) (Or.inr ⟨rfl, fun z => z, fun z => z, fun z => z, fun z => z, fun z => z⟩) (Or.inr ⟨ne 14 (by omega), ne 12 (by omega), ne 13 (by omega), fun z => z, fun z => z, fun z => z⟩)
  by_cases h : j = s
  · refine Or.inl (fun c => ?_)
    rw [h, aI_wI, up_s] at c
    exact absurd c hu
  · exact Or.inr ⟨⟨ne j (by omega), fun d' hd' => ⟨rfl, ne _ (by omega), ne _ (by omega)⟩⟩, fun z => z, fun z => z, fun z => z⟩
theorem n043 : ((0 : Int32) = -3 ↔ (4 : Int32) = -3) := by decide
theorem n044 : ((0 : Int32) = -4 ↔ (4 : Int32) = -4) := by decide
theorem m_sealed {t : Nat → Nat} (hG : GS G t) {Q : Option Value → TS → Prop} {s n : Nat} {L : List B8} {S0 : TS} (R : RMF y S0 S A) (ok : AOK A) (hs : s < 2) (hst : aI A s = 2) (hne : 0 < (aW A (1 - s)).length) (eL : (aW A (1 - s)).getD 0 [] = L) (hn : L.length = n + 3)
    (hQ : ∀ S' r, (r = -3 ↔ (tSealed A s L).1 = -3) → (r = -4 ↔ (tSealed A s L).1 = -4) → RMF y S0 S' (tSealed A s L).2 → Q (some (.int r)) S') : C0 G J_M_sealed [.ref y, .int (nI s), .int (nI (2400 * (1 - s))), .int (nI n)] S Q := by
  have hL : BR S (y + 18) (2400 * (1 - s)) L := by have := ((R.wi (1 - s) (by omega)).2 0 hne).2; rw [eL, show 200 * (12 * (1 - s) + 0) = 2400 * (1 - s) by omega] at this; exact this
  have hL200 : L.length ≤ 200 := by rw [← eL]; exact (ok.wr (w := 1 - s) (by omega) _ (gd_mem hne)).2
  obtain ⟨g1, g2, g3⟩ := R.sk s hs hst (1 - s) (by omega)
  have hkl := ok.zk hs hst (d := 1 - s) (by omega)
  have hT : tSealed A s L = (match opn (aB A (24 + 2 * s + (1 - s))) (aI A (4 + 2 * s + (1 - s))) L with
    | none => (-4, A)
    | some p => if p.length = 0 then (-4, A) else if (p.getD 0 0).toNat = 0 then (if s = 1 then tReq A p else tAns A p) else if p.length = 1 then (if (p.getD 0 0).toNat = 1 then (4, aNew A s (1 - s)) else if (p.getD 0 0).toNat = 2 then (4, wI A s 3) else (-4, A)) else (-4, A)) := by
    unfold tSealed
    rw [if_pos hst]
    cases opn (aB A (24 + 2 * s + (1 - s))) (aI A (4 + 2 * s + (1 - s))) L <;> rfl
  have hplen : ∀ p, opn (aB A (24 + 2 * s + (1 - s))) (aI A (4 + 2 * s + (1 - s))) L = some p → p.length = L.length - 19 := by
    intro p hp
    unfold opn at hp
    split at hp
    · rename_i hc
      have := Option.some.inj hp
      rw [← this, cov_len, List.length_take, List.length_drop]
      omega
    · exact absurd hp (by simp)
  have long : 116 < n → tSealed A s L = (-4, A) := by
    intro h
    rw [hT]
    cases hop : opn (aB A (24 + 2 * s + (1 - s))) (aI A (4 + 2 * s + (1 - s))) L with
    | none => rfl
    | some p =>
      have hl := hplen p hop
      simp only
      rw [if_neg (by omega)]
      split
      · split
        · unfold tReq
          have : rdq p = none := by
            unfold rdq
            rw [if_neg (fun z => by have : qmx (p.getD 1 0).toNat ≤ 64 := by { unfold qmx; split <;> omega }; omega)]
          rw [this]
        · unfold tAns
          rw [if_neg (fun z => by have : (if (p.getD 1 0).toNat = 0 then 64 else 0) ≤ 64 := by { split <;> omega }; omega)]
      · rw [if_neg (by omega)]
  have m4 : ∀ S', RMF y S0 S' A → tSealed A s L = (-4, A) → Q (some (.int (-4))) S' := fun S' R' e => by
    rw [e] at hQ
    exact hQ S' (-4) Iff.rfl Iff.rfl R'
  refine v_M_sealed y _ _ _ S Q (fun y1 e1 y2 e2 => ?_)
  have e1 : y1 = nI (1 - s) := by rw [e1]; exact pk_sub (a := 1) (by omega)
  have e2 : y2 = nI (2 * s + (1 - s)) := by rw [e2, e1, show (2 : Int32) * nI s = nI (2 * s) from pk_mul 2 s, nI_add]
  rw [e1, e2]
  refine ⟨fun c => ?_, fun c => m4 S R (long (Nat.not_le.mp (fun z => c (nI_le (b := 116) z (by omega)))))⟩
  have h116 : n ≤ 116 := (nI_leI (b := 116) (by omega) (by omega)).mp c
  clear long
  generalize hkey : aB A (24 + 2 * s + (1 - s)) = key at *
  generalize hcn : aI A (4 + 2 * s + (1 - s)) = cn at *
  have sc : ∀ {S' : TS}, Ex (uR y) S S' → RMF y S0 S' A := fun x => R.sc (F := fun _ => False) (MX.of x (by simp only [uR]; omega)) (fun a z => by simp only [uR] at z; unfold mscr; omega) (fun f z => z.elim)
  refine v_M_sealed_22 y _ _ _ _ _ S Q ⟨R.ms.1, m_opened R.ms (by omega) hL hn h116 (by omega) hkl g1 g2 (fun S' x' hf => ⟨_, rfl, fun _ => v_M_sealed_71 y _ _ _ _ _ _ S' Q (m4 S' (sc x') ?_), fun c => absurd (by decide) c⟩) (fun S2 p x2 h17 hop hpl bp => ⟨_, rfl, fun c => absurd c (nI_pos (by omega)), fun _ => ?_⟩)⟩
  · rw [hT]
    cases hop : opn key cn L with
    | none => rfl
    | some p =>
      have hl := hplen p hop
      rcases hf with hf | hf
      · simp only
        rw [if_pos (by omega)]
      · rw [hop] at hf
        exact absurd hf (by simp)
  have R2 := sc x2
  rw [hop] at hT
  simp only at hT
  rw [if_neg (show ¬ p.length = 0 by omega)] at hT
  rw [← hpl]
  have hp100 : p.length ≤ 100 := by omega
  have hp1 : 1 ≤ p.length := by omega
  have e0 : tI S2 (y + 36) 0 = sx (p.getD 0 0) := bp.at0 (by omega)
  have i0 : vp_in 0 128 := vp_in_nI (n := 0) (by omega) (by omega)
  refine ⟨y + 36, R2.ms.r 36 (by omega) (by omega), 128, R2.ms.t 36 (by omega) (by omega), i0, ?_⟩
  rw [e0]
  generalize hb0 : p.getD 0 0 = b0 at *
  have l0 := b0.isLt
  have f71 : tSealed A s L = (-4, A) → T0 G J_M_sealed 71 [(0, .ref y), (1, .int (nI s)), (2, .int (nI (2400 * (1 - s)))), (3, .int (nI n)), (4, .int (nI (1 - s))), (5, .int (nI (2 * s + (1 - s)))), (6, .int (nI p.length))] [] S2 Q := fun h => v_M_sealed_71 y _ _ _ _ _ _ S2 Q (m4 S2 R2 h)
  refine ⟨fun c1 => f71 ?_, fun c1 => ⟨i0, ?_⟩⟩
  · have h3 : ¬ b0.toNat < 128 := fun z => by rw [sx_sm z] at c1; exact nI_pos (by omega) c1
    rw [hT, if_neg (by omega)]
    split
    · rw [if_neg (by omega), if_neg (by omega)]
    · rfl
  have k1 : b0.toNat < 128 := Nat.not_le.mp (fun z => c1 (sx_ng z))
  rw [sx_sm k1] at e0 ⊢
  refine ⟨fun c2 => f71 ?_, fun c2 => ⟨i0, ?_⟩⟩
  · have := (nI_ltI (a := 2) (by omega) (by omega)).mp c2
    rw [hT, if_neg (by omega)]
    split
    · rw [if_neg (by omega), if_neg (by omega)]
    · rfl
  have k2 : b0.toNat ≤ 2 := Nat.not_lt.mp (fun z => c2 (nI_lt (a := 2) z (by omega)))
  have cntS : ∀ S6, S6 = sI S2 (y + 16) (upd (tI S2 (y + 16)) (2 * s + (1 - s)) (cn + 1)) → RMF y S0 S6 (wI A (4 + 2 * s + (1 - s)) (cn + 1)) := fun S6 e6 => R2.cnt hs (by omega) e6
  have hc2 : tI S2 (y + 16) (2 * s + (1 - s)) = cn := by have := (R2.sk s hs hst (1 - s) (by omega)).2.1; rw [hcn] at this; exact this
  have in4 : vp_in (nI (2 * s + (1 - s))) 4 := vp_in_nI (by omega) (by omega)
  -- from 137 on
  have f137 : (∀ S6, RMF y S0 S6 (wI A (4 + 2 * s + (1 - s)) (cn + 1)) → BR S6 (y + 36) 0 p → (b0.toNat = 1 → C0 G J_M_next [.ref y, .int (nI (2 * s + (1 - s))), .int (nI (1 - s))] S6 (fun r S11 => r = none ∧ T0 G J_M_sealed 260 [(0, .ref y), (1, .int (nI s)), (2, .int (nI (2400 * (1 - s)))), (3, .int (nI n)), (4, .int (nI (1 - s))), (5, .int (nI (2 * s + (1 - s)))), (6, .int (nI p.length))] [] S11 Q)) ∧ (b0.toNat = 2 → ∀ S10, S10 = sI S6 (y + 11) (upd (tI S6 (y + 11)) s 3) → Q (some (.int 0)) S10) ∧ (b0.toNat = 0 → T0 G J_M_sealed 189 [(0, .ref y), (1, .int (nI s)), (2, .int (nI (2400 * (1 - s)))), (3, .int (nI n)), (4, .int (nI (1 - s))), (5, .int (nI (2 * s + (1 - s)))), (6, .int (nI p.length))] [] S6 Q)) → T0 G J_M_sealed 137 [(0, .ref y), (1, .int (nI s)), (2, .int (nI (2400 * (1 - s)))), (3, .int (nI n)), (4, .int (nI (1 - s))), (5, .int (nI (2 * s + (1 - s)))), (6, .int (nI p.length))] [] S2 Q := by
    intro hk
    refine v_M_sealed_137 y _ _ _ _ _ _ S2 Q ⟨R2.ms.1, y + 16, R2.ms.r 16 (by omega) (by omega), 4, R2.ms.t 16 (by omega) (by omega), in4, in4, fun S6 e6 => ?_⟩
    rw [nI_clamp (by omega), hc2] at e6
    have R6 := cntS S6 e6
    have x6 : Ex (fun a => a = y + 16) S2 S6 := by rw [e6]; exact (Ex.rf S2).I rfl
    have b6 : BR S6 (y + 36) 0 p := bp.ex x6 (by omega)
    have e06 : tI S6 (y + 36) 0 = nI b0.toNat := by rw [(x6.2 (y + 36) (by omega)).1]; exact e0
    obtain ⟨h1, h2, h0⟩ := hk S6 R6 b6
    refine ⟨y + 36, R6.ms.r 36 (by omega) (by omega), 128, R6.ms.t 36 (by omega) (by omega), i0, ?_⟩
    rw [e06]
    refine ⟨fun c3 => v_M_sealed_169 y _ _ _ _ _ _ S6 Q ⟨R6.ms.1, y + 36, R6.ms.r 36 (by omega) (by omega), 128, R6.ms.t 36 (by omega) (by omega), i0, ?_⟩, fun c3 => ?_⟩
    · rw [e06]
      have n1 : ¬ b0.toNat = 1 := fun z => c3 (by rw [z]; rfl)
      refine ⟨fun c4 => h0 ?_, fun c4 => ⟨y + 11, R6.ms.r 11 (by omega) (by omega), 2, R6.ms.t 11 (by omega) (by omega), vp_in_nI (by omega) (by omega), fun S10 e10 => v_M_sealed_260 y _ _ _ _ _ _ S10 Q (h2 ((nI_eq (b := 2) (by omega) (by omega)).mp c4) S10 ?_)⟩⟩
      · have n2 : ¬ b0.toNat = 2 := fun z => c4 (by rw [z]; rfl)
        omega
      · rw [nI_clamp (by omega)] at e10; exact e10
    · exact h1 ((nI_eq (b := 1) (by omega) (by omega)).mp c3)
  rcases (show b0.toNat = 0 ∨ b0.toNat = 1 ∨ b0.toNat = 2 by omega) with hz | hz | hz
  · -- kind 0
    rw [hz]
    rw [hz] at e0
    rw [if_pos hz] at hT
    refine ⟨fun _ => ?_, fun c => absurd (Int32.le_refl _) c⟩
    refine v_M_sealed_74 y _ _ _ _ _ _ S2 Q ⟨R2.ms.1, y + 36, R2.ms.r 36 (by omega) (by omega), 128, R2.ms.t 36 (by omega) (by omega), i0, ?_⟩
    rw [e0]
    refine ⟨fun c => absurd rfl c, fun _ => ⟨fun c => ?_, fun c => ?_⟩⟩
    · -- the client takes an answer
      have s0 : s = 0 := by
        rcases (show s = 0 ∨ s = 1 by omega) with h | h
        · exact h
        · exact absurd (by rw [h]; rfl) c
      subst s0
      rw [if_neg (by omega)] at hT
      unfold tAns at hT
      refine v_M_sealed_100 y _ _ _ _ _ _ S2 Q ⟨R2.ms.1, m_isAnswer R2.ms bp hp100 (fun hy => ⟨1, rfl, fun _ => ?_, fun c => absurd c (by decide)⟩) (fun hn => ⟨0, rfl, fun c => absurd rfl c, fun _ => v_M_sealed_109 y _ _ _ _ _ _ S2 Q (m4 S2 R2 (by rw [hT, if_neg hn]))⟩)⟩
      rw [if_pos hy] at hT
      refine v_M_sealed_112 y _ _ _ _ _ _ S2 Q ⟨R2.ms.1, y + 36, R2.ms.r 36 (by omega) (by omega), 128, R2.ms.t 36 (by omega) (by omega), i0, ?_⟩
      rw [e0]
      refine ⟨fun c => absurd rfl c, fun _ => ⟨fun _ => f137 (fun S6 R6 b6 => ⟨fun h => absurd h (by omega), fun h => absurd h (by omega), fun _ => ?_⟩), fun c2 => absurd c2 c⟩⟩
      refine v_M_sealed_189 y _ _ _ _ _ _ S6 Q ⟨fun _ => v_M_sealed_208 y _ _ _ _ _ _ S6 Q ⟨R6.ms.1, ?_⟩, fun c2 => absurd c2 c⟩
      rw [show nI p.length - (1 : Int32) = nI (p.length - 1) from pk_sub (b := 1) (by omega)]
      intro S7 e7
      have ry : tI S7 y = upd (tI S6 y) 33 (nI (p.length - 1)) := by rw [e7, tI_sI, up_s]
      have x7 : Ex (fun a => a = y) S6 S7 := by rw [e7]; exact (Ex.rf S6).I rfl
      have h33 : tI S7 y 33 = nI (p.length - 1) := by rw [ry, pk_us]
      have hdl : (p.drop 1).length = p.length - 1 := by rw [List.length_drop]
      have hp66 : p.length ≤ 66 := by have := hy.2.1; split at this <;> omega
      have bd : BR S7 (y + 36) 1 (p.drop 1) := by have := (b6.ex x7 (by omega)).drop 1; rw [Nat.zero_add] at this; exact this
      refine cpl (b := y + 26) (o := 0) (l := p.drop 1) (S0 := S7) (H := fun i Si => T0 G J_M_sealed 219 [(0, .ref y), (1, .int (nI 0)), (2, .int (nI (2400 * (1 - 0)))), (3, .int (nI n)), (4, .int (nI (1 - 0))), (5, .int (nI (2 * 0 + (1 - 0)))), (6, .int (nI p.length)), (7, .int (nI i))] [] Si Q) (fun i Si hi xi nx => ?_) (fun S8 x8 b8' f8 => ?_)
      · have si := (R6.ms.sm x7.1).sm xi.1
        rw [hdl] at hi
        refine v_M_sealed_219 y _ _ _ _ _ _ _ Si Q ⟨si.1, ?_⟩
        rw [(xi.2 y (by omega)).1, h33]
        refine ⟨fun c => absurd c (nI_ge hi (by omega)), fun _ => ⟨y + 26, si.r 26 (by omega) (by omega), y + 36, si.r 36 (by omega) (by omega), 128, si.t 36 (by omega) (by omega), ?_⟩⟩
        rw [show (1 : Int32) + nI i = nI (1 + i) from nI_add 1 i, nI_clamp (show 1 + i < 2 ^ 31 by omega), nI_clamp (show i < 2 ^ 31 by omega), (xi.2 (y + 36) (by omega)).1, bd i (by omega), nar1s, nI_1]
        refine ⟨vp_in_nI (by omega) (by omega), 65, si.t 26 (by omega) (by omega), vp_in_nI (by omega) (by omega), fun S9 e9 z ez => ?_⟩
        rw [ez]
        exact nx S9 (by rw [Nat.zero_add]; exact e9)
      · have s8 := (R6.ms.sm x7.1).sm x8.1
        have R8 : RMF y S0 S8 (wB (wI A (4 + 2 * 0 + (1 - 0)) (cn + 1)) 3 (p.drop 1)) := R6.ansL ⟨(x7.mono (fun a z => Or.inl z)).tr (x8.mono (fun a z => Or.inr z)), fun f hf => by rw [(x8.2 y (by omega)).1, ry, pk_un hf]⟩ ⟨by rw [(x8.2 y (by omega)).1, h33, hdl], b8'⟩
        refine v_M_sealed_219 y _ _ _ _ _ _ _ S8 Q ⟨s8.1, ?_⟩
        rw [(x8.2 y (by omega)).1, h33, hdl]
        refine ⟨fun _ => v_M_sealed_250 y _ _ _ _ _ _ _ S8 Q ⟨s8.1, fun S9 e9 => v_M_sealed_260 y _ _ _ _ _ _ S9 Q ?_⟩, fun c => absurd (Int32.le_refl _) c⟩
        rw [R8.cn.2.2] at e9
        rw [hT] at hQ
        refine hQ S9 0 n043 n044 ?_
        have := R8.gotC e9
        rw [← hcn] at this
        exact this
    · -- the server takes a request
      have s1 : s = 1 := (nI_eq (b := 1) (by omega) (by omega)).mp c
      subst s1
      rw [if_pos rfl] at hT
      unfold tReq at hT
      refine m_isRequest R2.ms bp hp100 (fun o nm dt hq => ⟨1, rfl, fun c => absurd c (by decide), fun _ => ?_⟩) (fun hq => ⟨0, rfl, fun _ => v_M_sealed_109 y _ _ _ _ _ _ S2 Q (m4 S2 R2 (by rw [hT, hq])), fun c => absurd rfl c⟩)
      rw [hq] at hT
      simp only at hT
      refine v_M_sealed_112 y _ _ _ _ _ _ S2 Q ⟨R2.ms.1, y + 36, R2.ms.r 36 (by omega) (by omega), 128, R2.ms.t 36 (by omega) (by omega), i0, ?_⟩
      rw [e0]
      refine ⟨fun c => absurd rfl c, fun _ => ⟨fun c2 => absurd c c2, fun _ => m_full (w := 1) R2 (ok.wl (by omega)) (by omega) (fun hlt => ⟨0, rfl, fun _ => ?_, fun c => absurd rfl c⟩) (fun he => ⟨1, rfl, fun c => absurd c (by decide), fun _ => ?_⟩)⟩⟩
      · rw [if_neg (show ¬ (aW A 1).length = 12 by omega)] at hT
        refine f137 (fun S6 R6 b6 => ⟨fun h => absurd h (by omega), fun h => absurd h (by omega), fun _ => ?_⟩)
        refine v_M_sealed_189 y _ _ _ _ _ _ S6 Q ⟨fun c2 => absurd c c2, fun _ => ⟨R6.ms.1, m_work R6 ok.ts b6 hp100 hq (fun S7 R7 b7 => ⟨rfl, ?_⟩)⟩⟩
        have hv := srv_len (aT A) o nm dt (fun k hk => (ok.ts.2 _ (sn_mem hk)).2.2)
        have okA : aT (wI A (4 + 2 * 1 + (1 - 1)) (cn + 1)) = aT A := rfl
        rw [okA] at R7 b7
        generalize hsv : srv (aT A) o nm dt = sv at *
        have hB : aB (wI (wT (wI A (4 + 2 * 1 + (1 - 1)) (cn + 1)) sv.2) 12 (aI (wI A (4 + 2 * 1 + (1 - 1)) (cn + 1)) 12 + 1)) = aB A := rfl
        have hI1 : aI (wI (wT (wI A (4 + 2 * 1 + (1 - 1)) (cn + 1)) sv.2) 12 (aI (wI A (4 + 2 * 1 + (1 - 1)) (cn + 1)) 12 + 1)) 1 = 2 := by rw [aI_wI, up_n _ _ (by omega), aI_wT, aI_wI, up_n _ _ (by omega)]; exact hst
        have hW1 : aW (wI (wT (wI A (4 + 2 * 1 + (1 - 1)) (cn + 1)) sv.2) 12 (aI (wI A (4 + 2 * 1 + (1 - 1)) (cn + 1)) 12 + 1)) = aW A := rfl
        refine m_sendSealed (s := 1) R7 (by rw [hW1]; exact ok.w2) (by omega) hI1 (by rw [hB]; exact ok.zk (by omega) hst (by omega)) (by rw [hW1]; exact hlt) b7 (by rw [List.length_cons]; omega) (fun S8 R8 => ⟨rfl, v_M_sealed_260 y _ _ _ _ _ _ S8 Q ?_⟩)
        rw [hT] at hQ
        refine hQ S8 0 n043 n044 ?_
        rw [aSeal_12] at R8
        have e12 : aI (wI A (4 + 2 * 1 + (1 - 1)) (cn + 1)) 12 = aI A 12 := by rw [aI_wI, up_n _ _ (by omega)]
        rw [e12, ← hcn] at R8
        exact R8
      · rw [if_pos he] at hT
        rw [hT] at hQ
        exact hQ S2 (-3) Iff.rfl Iff.rfl R2
  · -- kind 1
    rw [hz]
    rw [hz] at e0
    rw [if_neg (by omega)] at hT
    refine ⟨fun c => absurd c (by decide), fun _ => ⟨fun c => ?_, fun c => f71 ?_⟩⟩
    · have hp1' : p.length = 1 := by have := (nI_leI (b := 1) (by omega) (by omega)).mp c; omega
      rw [if_pos hp1', if_pos hz] at hT
      refine v_M_sealed_74 y _ _ _ _ _ _ S2 Q ⟨R2.ms.1, y + 36, R2.ms.r 36 (by omega) (by omega), 128, R2.ms.t 36 (by omega) (by omega), i0, ?_⟩
      rw [e0]
      refine ⟨fun _ => v_M_sealed_112 y _ _ _ _ _ _ S2 Q ⟨R2.ms.1, y + 36, R2.ms.r 36 (by omega) (by omega), 128, R2.ms.t 36 (by omega) (by omega), i0, ?_⟩, fun c => absurd c (by decide)⟩
      rw [e0]
      refine ⟨fun _ => f137 (fun S6 R6 b6 => ⟨fun _ => ?_, fun h => absurd h (by omega), fun h => absurd h (by omega)⟩), fun c => absurd c (by decide)⟩
      have hIx : ∀ j, j < 4 ∨ 8 ≤ j → aI (wI A (4 + 2 * s + (1 - s)) (cn + 1)) j = aI A j := fun j hj => by rw [aI_wI, up_n _ _ (by omega)]
      refine m_next hG R6 (fun s' hs' h2' d' hd' => by rw [hIx s' (by omega)] at h2'; exact ok.zk hs' h2' hd') hs (by omega) (by rw [hIx s (by omega)]; exact hst) (by rw [hIx _ (by omega)]; exact ok.ixd hs (by omega)) (fun S11 R11 => ⟨rfl, v_M_sealed_260 y _ _ _ _ _ _ S11 Q ?_⟩)
      rw [aNew_cnt] at R11
      rw [hT] at hQ
      exact hQ S11 0 n043 n044 R11
    · rw [hT, if_neg (fun z => c (by rw [z]; exact Int32.le_refl _))]
  · -- kind 2
    rw [hz]
    rw [hz] at e0
    rw [if_neg (by omega)] at hT
    refine ⟨fun c => absurd c (by decide), fun _ => ⟨fun c => ?_, fun c => f71 ?_⟩⟩
    · have hp1' : p.length = 1 := by have := (nI_leI (b := 1) (by omega) (by omega)).mp c; omega
      rw [if_pos hp1', if_neg (by omega), if_pos hz] at hT
      refine v_M_sealed_74 y _ _ _ _ _ _ S2 Q ⟨R2.ms.1, y + 36, R2.ms.r 36 (by omega) (by omega), 128, R2.ms.t 36 (by omega) (by omega), i0, ?_⟩
      rw [e0]
      refine ⟨fun _ => v_M_sealed_112 y _ _ _ _ _ _ S2 Q ⟨R2.ms.1, y + 36, R2.ms.r 36 (by omega) (by omega), 128, R2.ms.t 36 (by omega) (by omega), i0, ?_⟩, fun c => absurd c (by decide)⟩
      rw [e0]
      refine ⟨fun _ => f137 (fun S6 R6 b6 => ⟨fun h => absurd h (by omega), fun _ S10 e10 => ?_, fun h => absurd h (by omega)⟩), fun c => absurd c (by decide)⟩
      have R10 := R6.side hs e10 (fun _ c => absurd c (by decide)) (fun _ c => absurd c (by decide)) (fun c => absurd c (by decide))
      rw [hT] at hQ
      exact hQ S10 0 n043 n044 (R10.cntF hs (by omega) (by decide))
    · rw [hT, if_neg (fun z => c (by rw [z]; exact Int32.le_refl _))]
end MSD
