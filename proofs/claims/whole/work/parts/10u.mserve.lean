/-! PURE: the reference serves a request -/
section MSV
variable {G : pG} {y : Nat} {S : TS} {A : AS}
theorem RMF.ansC {S0 S S' : TS} {v : Int32} (R : RMF y S0 S A) (e : S' = sI S y (upd (tI S y) 34 v)) : RMF y S0 S' (wI A 12 v) := by
  have ry : tI S' y = upd (tI S y) 34 v := by rw [e, tI_sI, up_s]
  have m : MX y (fun _ => False) (fun f => f = 34) S S' := ⟨by rw [e]; exact (Ex.rf S).I (Or.inl rfl), fun f hf => by rw [ry, pk_un hf]⟩
  have ne : ∀ j, j ≠ 12 → aI (wI A 12 v) j = aI A j := fun j hj => by rw [aI_wI, up_n _ _ hj]
  refine R.gen m (fun a z => z.elim) (Or.inr ⟨rfl, fun z => z, by omega⟩) (Or.inr ⟨rfl, fun z => z, by omega⟩) (Or.inr ⟨rfl, fun z => z, by omega⟩) (Or.inr ⟨rfl, fun z => z, by omega⟩) (Or.inr ⟨fun _ _ => rfl, fun z => z, fun z => z⟩) (Or.inr ⟨fun j hj => ne j (by omega), fun z => z, fun z => z⟩) (Or.inr ⟨ne 0 (by omega), rfl, fun z => z⟩) (Or.inr ⟨ne 1 (by omega), rfl, rfl, rfl, fun z => z, fun z => z⟩) (fun s hs => Or.inr ⟨⟨ne s (by omega), fun d hd => ⟨rfl, ne _ (by omega), ne _ (by omega)⟩⟩, fun z => z, fun z => z, fun z => z⟩) (fun w hw => Or.inr ⟨rfl, fun z => z, fun z => z, fun z => z⟩) (Or.inr ⟨rfl, fun z => z, fun z => z, fun z => z, fun z => z, by omega⟩) (Or.inl ⟨?_, ?_, ?_⟩)
  · rw [ry, pk_un (by omega), ne 14 (by omega)]; exact R.cn.1
  · rw [ry, pk_us, aI_wI, up_s]
  · rw [ry, pk_un (by omega), ne 13 (by omega)]; exact R.cn.2.2
theorem m_w365 {Q : Option Value → TS → Prop} {x1 x2 x3 x4 x5 x6 x7 : Int32} {l : List B8} {S0 : TS} (R : RMF y S0 S A) (hp : cBL y 46 36 S l) (hQ : ∀ S', RMF y S0 S' (wI A 12 (aI A 12 + 1)) → cBL y 46 36 S' l → Q none S') : T0 G J_M_work 365 [(0, .ref y), (1, .int x1), (2, .int x2), (3, .int x3), (4, .int x4), (5, .int x5), (6, .int x6), (7, .int x7)] [] S Q := by
  refine v_M_work_365 y _ _ _ _ _ _ _ S Q ⟨R.ms.1, fun S2 e2 => ?_⟩
  rw [R.cn.2.1] at e2
  have ry : tI S2 y = upd (tI S y) 34 (aI A 12 + 1) := by rw [e2, tI_sI, up_s]
  exact hQ S2 (R.ansC e2) ⟨by rw [ry, pk_un (by omega)]; exact hp.1, hp.2.eq (by rw [e2, tI_sI, up_n _ _ (by omega)])⟩
theorem m_w349n {Q : Option Value → TS → Prop} {x1 x2 x3 x4 x5 x6 x7 : Int32} {l : List B8} {S0 : TS} (R : RMF y S0 S A) (hp : cBL y 46 36 S l) (h2 : ¬ (x2 = 2 ∧ x6 = 0)) (hQ : ∀ S', RMF y S0 S' (wI A 12 (aI A 12 + 1)) → cBL y 46 36 S' l → Q none S') : T0 G J_M_work 349 [(0, .ref y), (1, .int x1), (2, .int x2), (3, .int x3), (4, .int x4), (5, .int x5), (6, .int x6), (7, .int x7)] [] S Q :=
  v_M_work_349 y _ _ _ _ _ _ _ S Q ⟨fun _ => m_w365 R hp hQ, fun c => ⟨fun _ => m_w365 R hp hQ, fun c2 => absurd ⟨c, c2⟩ h2⟩⟩
theorem m_w286n {Q : Option Value → TS → Prop} {x1 x2 x3 x4 x5 x6 x7 : Int32} {S0 : TS} (R : RMF y S0 S A) (h0 : ¬ (x2 = 0 ∧ x6 = 0)) (h2 : ¬ (x2 = 2 ∧ x6 = 0)) (hQ : ∀ S', RMF y S0 S' (wI A 12 (aI A 12 + 1)) → cBL y 46 36 S' [0, b8 x6] → Q none S') : T0 G J_M_work 286 [(0, .ref y), (1, .int x1), (2, .int x2), (3, .int x3), (4, .int x4), (5, .int x5), (6, .int x6), (7, .int x7)] [] S Q := by
  refine v_M_work_286 y _ _ _ _ _ _ _ S Q ⟨R.ms.1, fun S2 e2 => ?_⟩
  obtain ⟨m2, b2⟩ := say_0 e2
  have R2 := R.say m2
  refine m_say R2.ms b2 (by simp) (fun S3 x3 b3 => ⟨rfl, m_say (R2.say x3).ms b3 (by simp) (fun S4 x4 b4 => ⟨rfl, ?_⟩)⟩)
  have R4 := (R2.say x3).say x4
  exact ⟨fun _ => m_w349n R4 b4 h2 hQ, fun c => ⟨fun _ => m_w349n R4 b4 h2 hQ, fun c2 => absurd ⟨c, c2⟩ h0⟩⟩
theorem m_w286d {Q : Option Value → TS → Prop} {x1 x3 x4 x7 : Int32} {k : Nat} {S0 : TS} (R : RMF y S0 S A) (ok : (aT A).length ≤ 20 ∧ ∀ e ∈ aT A, 1 ≤ e.1.length ∧ e.1.length ≤ 16 ∧ e.2.length ≤ 64) (hk : k < (aT A).length) (hQ : ∀ S', RMF y S0 S' (wI (wT A (sRm (aT A) k)) 12 (aI A 12 + 1)) → cBL y 46 36 S' [0, 0] → Q none S') : T0 G J_M_work 286 [(0, .ref y), (1, .int x1), (2, .int 2), (3, .int x3), (4, .int x4), (5, .int (nI k)), (6, .int 0), (7, .int x7)] [] S Q := by
  refine v_M_work_286 y _ _ _ _ _ _ _ S Q ⟨R.ms.1, fun S2 e2 => ?_⟩
  obtain ⟨m2, b2⟩ := say_0 e2
  have R2 := R.say m2
  refine m_say R2.ms b2 (by simp) (fun S3 x3 b3 => ⟨rfl, m_say (R2.say x3).ms b3 (by simp) (fun S4 x4 b4 => ⟨rfl, fun _ => ?_, fun c => absurd c (by decide)⟩)⟩)
  have R4 := (R2.say x3).say x4
  refine v_M_work_349 y _ _ _ _ _ _ _ S4 Q ⟨fun c => absurd rfl c, fun _ => ⟨fun c => absurd rfl c, fun _ => ⟨R4.ms.1, m_remove R4 ok hk (fun S5 R5 m5 => ⟨rfl, m_w365 R5 ⟨by rw [m5.2 46 (by omega)]; exact b4.1, b4.2.mx m5 (by omega) (by omega)⟩ hQ⟩)⟩⟩⟩
theorem m_w286g {Q : Option Value → TS → Prop} {x1 x3 x4 x7 : Int32} {k : Nat} {S0 : TS} (R : RMF y S0 S A) (ok : (aT A).length ≤ 20 ∧ ∀ e ∈ aT A, 1 ≤ e.1.length ∧ e.1.length ≤ 16 ∧ e.2.length ≤ 64) (hk : k < (aT A).length) (hQ : ∀ S', RMF y S0 S' (wI A 12 (aI A 12 + 1)) → cBL y 46 36 S' (0 :: 0 :: sV1 (aT A) k) → Q none S') : T0 G J_M_work 286 [(0, .ref y), (1, .int x1), (2, .int 0), (3, .int x3), (4, .int x4), (5, .int (nI k)), (6, .int 0), (7, .int x7)] [] S Q := by
  have hv64 : (sV1 (aT A) k).length ≤ 64 := (ok.2 _ (sn_mem hk)).2.2
  have hl20 := ok.1
  refine v_M_work_286 y _ _ _ _ _ _ _ S Q ⟨R.ms.1, fun S2 e2 => ?_⟩
  obtain ⟨m2, b2⟩ := say_0 e2
  have R2 := R.say m2
  refine m_say R2.ms b2 (by simp) (fun S3 m3 b3 => ⟨rfl, m_say (R2.say m3).ms b3 (by simp) (fun S4 m4 b4 => ⟨rfl, fun c => absurd rfl c, fun _ => ⟨fun c => absurd rfl c, fun _ => ?_⟩⟩)⟩)
  have R4 := (R2.say m3).say m4
  have b4 : cBL y 46 36 S4 [0, 0] := b4
  have go : ∀ (n i : Nat) (Si : TS), i + n = (sV1 (aT A) k).length → RMF y S0 Si A → cBL y 46 36 Si ([0, 0] ++ (sV1 (aT A) k).take i) → T0 G J_M_work 314 [(0, .ref y), (1, .int x1), (2, .int 0), (3, .int x3), (4, .int x4), (5, .int (nI k)), (6, .int 0), (7, .int x7), (8, .int (nI i))] [] Si Q := by
    intro n
    induction n with
    | zero =>
      intro i Si hi Ri bi
      refine v_M_work_314 y _ _ _ _ _ _ _ _ Si Q ⟨Ri.ms.1, y + 25, Ri.ms.r 25 (by omega) (by omega), 20, Ri.ms.t 25 (by omega) (by omega), vp_in_nI (by omega) (by omega), ?_⟩
      rw [nI_clamp (by omega), (Ri.so.2 k hk).2.2.1]
      rw [List.take_of_length_le (by omega)] at bi
      exact ⟨fun _ => m_w349n Ri bi (by decide) hQ, fun c => absurd (nI_le (by omega) (by omega)) c⟩
    | succ n ih =>
      intro i Si hi Ri bi
      refine v_M_work_314 y _ _ _ _ _ _ _ _ Si Q ⟨Ri.ms.1, y + 25, Ri.ms.r 25 (by omega) (by omega), 20, Ri.ms.t 25 (by omega) (by omega), vp_in_nI (by omega) (by omega), ?_⟩
      rw [nI_clamp (by omega), (Ri.so.2 k hk).2.2.1]
      refine ⟨fun c => absurd c (nI_ge (by omega) (by omega)), fun _ => ⟨y + 24, Ri.ms.r 24 (by omega) (by omega), 1280, Ri.ms.t 24 (by omega) (by omega), ?_⟩⟩
      rw [show (64 : Int32) * nI k = nI (64 * k) from pk_mul 64 k, nI_add, nI_clamp (show 64 * k + i < 2 ^ 31 by omega), (Ri.so.2 k hk).2.2.2 i (by omega)]
      refine ⟨vp_in_nI (by omega) (by omega), m_say Ri.ms bi (by rw [List.length_append, List.length_take]; show 2 + _ < 128; omega) (fun S5 x5 b5 => ⟨rfl, fun z ez => ?_⟩)⟩
      rw [ez, nI_1]
      refine ih (i + 1) S5 (by omega) (Ri.say x5) ?_
      rw [b8_sx, List.append_assoc, ← take_snoc (by omega)] at b5
      exact b5
  exact go (sV1 (aT A) k).length 0 S4 (by omega) R4 (by simpa using b4)
theorem m_w235 {Q : Option Value → TS → Prop} {x1 x2 x3 x6 : Int32} {k fr old : Nat} {dt : List B8} (hs : MS y S) (hk : k < 20) (hb : BR S (y + 36) fr dt) (hfr : fr + dt.length ≤ 128) (ho : old + dt.length ≤ 64)
    (hQ : ∀ S', Ex (fun a => a = y + 24 ∨ a = y + 25) S S' → tI S' (y + 25) = upd (tI S (y + 25)) k (nI (old + dt.length)) → BR S' (y + 24) (64 * k + old) dt → (∀ i, (i < 64 * k + old ∨ 64 * k + old + dt.length ≤ i) → tI S' (y + 24) i = tI S (y + 24) i) → T0 G J_M_work 286 [(0, .ref y), (1, .int x1), (2, .int x2), (3, .int x3), (4, .int (nI fr)), (5, .int (nI k)), (6, .int x6), (7, .int (nI dt.length))] [] S' Q) : T0 G J_M_work 235 [(0, .ref y), (1, .int x1), (2, .int x2), (3, .int x3), (4, .int (nI fr)), (5, .int (nI k)), (6, .int x6), (7, .int (nI dt.length)), (8, .int (nI old)), (9, .int 0)] [] S Q := by
  refine cpl (b := y + 24) (o := 64 * k + old) (l := dt) (S0 := S) (H := fun i Si => T0 G J_M_work 235 [(0, .ref y), (1, .int x1), (2, .int x2), (3, .int x3), (4, .int (nI fr)), (5, .int (nI k)), (6, .int x6), (7, .int (nI dt.length)), (8, .int (nI old)), (9, .int (nI i))] [] Si Q) (fun i Si hi xi nx => ?_) (fun S1 x1' b1 f1 => ?_)
  · have si := hs.sm xi.1
    refine v_M_work_235 y _ _ _ _ _ _ _ _ _ Si Q ⟨fun c => absurd c (nI_ge hi (by omega)), fun _ => ⟨si.1, y + 24, si.r 24 (by omega) (by omega), y + 36, si.r 36 (by omega) (by omega), 128, si.t 36 (by omega) (by omega), ?_⟩⟩
    rw [show (64 : Int32) * nI k = nI (64 * k) from pk_mul 64 k, nI_add, nI_add, nI_add, nI_clamp (show 64 * k + old + i < 2 ^ 31 by omega), nI_clamp (show fr + i < 2 ^ 31 by omega), (xi.2 (y + 36) (by omega)).1, hb i hi, nar1s, nI_1]
    refine ⟨vp_in_nI (by omega) (by omega), 1280, si.t 24 (by omega) (by omega), vp_in_nI (by omega) (by omega), fun S9 e9 z ez => ?_⟩
    rw [ez]
    exact nx S9 e9
  · have s1 := hs.sm x1'.1
    refine v_M_work_235 y _ _ _ _ _ _ _ _ _ S1 Q ⟨fun _ => v_M_work_274 y _ _ _ _ _ _ _ _ _ S1 Q ⟨s1.1, y + 25, s1.r 25 (by omega) (by omega), 20, s1.t 25 (by omega) (by omega), vp_in_nI (by omega) (by omega), fun S6 e6 => ?_⟩, fun c => absurd (Int32.le_refl _) c⟩
    rw [nI_clamp (by omega), nI_add, (x1'.2 (y + 25) (by omega)).1] at e6
    have x6 : Ex (fun a => a = y + 25) S1 S6 := by rw [e6]; exact (Ex.rf S1).I rfl
    exact hQ S6 ((x1'.mono (fun a z => Or.inl z)).tr (x6.mono (fun a z => Or.inr z))) (by rw [e6, tI_sI, up_s]) (b1.ex x6 (by omega)) (fun i hi => by rw [(x6.2 (y + 24) (by omega)).1]; exact f1 i hi)
theorem rdq_some {p nm dt : List B8} {o : Nat} (h : rdq p = some (o, nm, dt)) : o ≤ 4 ∧ o = (p.getD 1 0).toNat ∧ nm.length = (p.getD 2 0).toNat ∧ 1 ≤ nm.length ∧ nm.length ≤ 16 ∧ 3 + nm.length ≤ p.length ∧ nm = (p.drop 3).take nm.length ∧ dt = p.drop (3 + nm.length) ∧ dt.length ≤ 64 ∧ dt.length = p.length - (3 + nm.length) := by
  unfold rdq at h
  split at h
  · rename_i c
    have h2 := Option.some.inj h
    have e1 := (Prod.mk.inj h2).1
    have e2 := (Prod.mk.inj (Prod.mk.inj h2).2).1
    have e3 := (Prod.mk.inj (Prod.mk.inj h2).2).2
    obtain ⟨c1, c2, c3, c4, c5⟩ := c
    have hm : nm.length = (p.getD 2 0).toNat := by rw [← e2, List.length_take, List.length_drop]; omega
    have hq : qmx (p.getD 1 0).toNat ≤ 64 := by unfold qmx; split <;> omega
    have hd : dt.length = p.length - (3 + nm.length) := by rw [← e3, List.length_drop, hm]
    refine ⟨by omega, e1.symm, hm, by omega, by omega, by omega, by rw [hm]; exact e2.symm, by rw [hm]; exact e3.symm, by omega, hd⟩
  · exact absurd h (by simp)
theorem m_work {Q : Option Value → TS → Prop} {p nm dt : List B8} {o : Nat} {S0 : TS} (R : RMF y S0 S A) (ok : (aT A).length ≤ 20 ∧ ∀ e ∈ aT A, 1 ≤ e.1.length ∧ e.1.length ≤ 16 ∧ e.2.length ≤ 64) (hp : BR S (y + 36) 0 p) (hpl : p.length ≤ 100) (hq : rdq p = some (o, nm, dt))
    (hQ : ∀ S', RMF y S0 S' (wI (wT A (srv (aT A) o nm dt).2) 12 (aI A 12 + 1)) → cBL y 46 36 S' (0 :: (srv (aT A) o nm dt).1) → Q none S') : C0 G J_M_work [.ref y, .int (nI p.length)] S Q := by
  obtain ⟨ho4, eo, em, m1, m16, m3, enm, edt, hdt, edl⟩ := rdq_some hq
  have hl20 := ok.1
  have ok2 : ∀ e ∈ aT A, e.1.length ≤ 16 ∧ e.2.length ≤ 64 := fun e he => (ok.2 e he).2
  have e1 : tI S (y + 36) 1 = nI o := by rw [hp.at0 (by omega), sx_sm (by omega), ← eo]
  have e2 : tI S (y + 36) 2 = nI nm.length := by rw [hp.at0 (by omega), sx_sm (by omega), ← em]
  have bn : BR S (y + 36) 3 nm := by have := (hp.drop 3).take nm.length; rw [← enm, Nat.zero_add] at this; exact this
  have bd : BR S (y + 36) (3 + nm.length) dt := by have := hp.drop (3 + nm.length); rw [← edt, Nat.zero_add] at this; exact this
  have hself : wT A (aT A) = A := rfl
  refine v_M_work y _ S Q ⟨R.ms.1, y + 36, R.ms.r 36 (by omega) (by omega), 128, R.ms.t 36 (by omega) (by omega), vp_in_nI (n := 1) (by omega) (by omega), fun y6 e6 => ⟨vp_in_nI (n := 2) (by omega) (by omega), fun y7 e7 y8 e8 => ?_⟩⟩
  rw [e1] at e6
  rw [e2] at e7
  rw [e7, show (3 : Int32) + nI nm.length = nI (3 + nm.length) from nI_add 3 _] at e8
  rw [e7, e8, e6]
  have ex : nI p.length - nI (3 + nm.length) = nI dt.length := by rw [pk_sub (by omega), edl]
  rw [ex]
  refine m_place (o := 3) R ok (R.ms.t 36 (by omega) (by omega)) (by omega) (by omega) bn (fun k hk hf => ⟨_, rfl, fun y10 e10 => ?_⟩) (fun hf => ⟨_, rfl, fun y10 e10 => ?_⟩)
  · -- the name is there
    rw [e10]
    obtain ⟨g1, g2, g3, g4⟩ := R.so.2 k hk
    have hv64 : (sV1 (aT A) k).length ≤ 64 := (ok.2 _ (sn_mem hk)).2.2
    have pos : (0 : Int32) ≤ nI k := nI_pos' (by omega)
    have npos : ¬ nI k < 0 := nI_pos (by omega)
    have hsrv := hQ
    unfold srv at hsrv
    rw [hf] at hsrv
    simp only at hsrv
    rcases (show o = 0 ∨ o = 1 ∨ o = 2 ∨ o = 3 ∨ o = 4 by omega) with rfl | rfl | rfl | rfl | rfl
    · rw [if_pos rfl] at hsrv
      refine ⟨fun _ => ?_, fun c => absurd rfl c⟩
      refine v_M_work_54 y _ _ _ _ _ _ _ S Q ⟨fun _ => v_M_work_63 y _ _ _ _ _ _ _ S Q (v_M_work_66 y _ _ _ _ _ _ _ S Q ⟨fun _ => v_M_work_79 y _ _ _ _ _ _ _ S Q ⟨fun c => absurd c (by decide), fun _ => ⟨fun _ => v_M_work_106 y _ _ _ _ _ _ _ S Q ⟨fun _ => v_M_work_134 y _ _ _ _ _ _ _ S Q ⟨fun c => absurd rfl c, fun _ => ⟨fun _ => ?_, fun c => absurd rfl c⟩⟩, fun c => absurd c (by decide)⟩, fun c => absurd c (by decide)⟩⟩, fun c => absurd c (by decide)⟩), fun c => absurd pos c⟩
      exact m_w286g R ok hk (fun S' R' b' => hsrv S' (by rw [hself]; exact R') b')
    · rw [if_neg (by omega), if_pos rfl] at hsrv
      refine ⟨fun c => absurd c (by decide), fun _ => ⟨fun c => absurd c (by decide), fun _ => ⟨fun _ => ?_, fun c => absurd c (by decide)⟩⟩⟩
      refine v_M_work_66 y _ _ _ _ _ _ _ S Q ⟨fun _ => v_M_work_79 y _ _ _ _ _ _ _ S Q ⟨fun _ => v_M_work_89 y _ _ _ _ _ _ _ S Q ⟨fun _ => v_M_work_106 y _ _ _ _ _ _ _ S Q ⟨fun _ => v_M_work_134 y _ _ _ _ _ _ _ S Q ⟨fun c => absurd rfl c, fun _ => ⟨fun c => absurd c (by decide), fun _ => ⟨fun c => absurd c (by decide), fun _ => ⟨fun _ => ?_, fun c => absurd pos c⟩⟩⟩⟩, fun c => absurd c (by decide)⟩, fun c => absurd pos c⟩, fun c => absurd rfl c⟩, fun c => absurd c (by decide)⟩
      refine v_M_work_214 y _ _ _ _ _ _ _ S Q ⟨fun _ => v_M_work_229 y _ _ _ _ _ _ _ S Q (m_w235 (old := 0) R.ms (by omega) bd (by omega) (by omega) (fun S1 x1 q25 b1 f1 => ?_)), fun c => absurd c (by decide)⟩
      rw [Nat.zero_add] at q25
      rw [Nat.add_zero] at b1 f1
      have R1 := R.store (st := (aT A).set k (sN1 (aT A) k, dt)) (F := fun _ => False) (MX.of x1 (by omega)) (fun a z => Or.inr (by omega)) (fun f z => z.elim) (R.so.setV ok2 hk (by rw [(x1.2 y (by omega)).1]) (x1.2 (y + 22) (by omega)).1 (x1.2 (y + 23) (by omega)).1 q25 b1 (fun i hi => f1 i (by omega)))
      exact m_w286n R1 (by decide) (by decide) (fun S' R' b' => hsrv S' R' b')
    · rw [if_neg (by omega), if_neg (by omega), if_pos rfl] at hsrv
      refine ⟨fun c => absurd c (by decide), fun _ => ⟨fun _ => ?_, fun c => absurd rfl c⟩⟩
      refine v_M_work_54 y _ _ _ _ _ _ _ S Q ⟨fun _ => v_M_work_63 y _ _ _ _ _ _ _ S Q (v_M_work_66 y _ _ _ _ _ _ _ S Q ⟨fun _ => v_M_work_79 y _ _ _ _ _ _ _ S Q ⟨fun c => absurd c (by decide), fun _ => ⟨fun _ => v_M_work_106 y _ _ _ _ _ _ _ S Q ⟨fun _ => v_M_work_134 y _ _ _ _ _ _ _ S Q ⟨fun c => absurd rfl c, fun _ => ⟨fun c => absurd c (by decide), fun _ => ⟨fun _ => ?_, fun c => absurd rfl c⟩⟩⟩, fun c => absurd c (by decide)⟩, fun c => absurd c (by decide)⟩⟩, fun c => absurd c (by decide)⟩), fun c => absurd pos c⟩
      exact m_w286d R ok hk (fun S' R' b' => hsrv S' R' b')
    · rw [if_neg (by omega), if_neg (by omega), if_neg (by omega), if_pos rfl] at hsrv
      refine ⟨fun c => absurd c (by decide), fun _ => ⟨fun c => absurd c (by decide), fun _ => ⟨fun _ => ?_, fun c => absurd c (by decide)⟩⟩⟩
      refine v_M_work_66 y _ _ _ _ _ _ _ S Q ⟨fun c => absurd rfl c, fun _ => ⟨fun c => absurd c npos, fun _ => v_M_work_79 y _ _ _ _ _ _ _ S Q ⟨fun c => absurd c (by decide), fun _ => ⟨fun c => absurd rfl c, fun _ => v_M_work_89 y _ _ _ _ _ _ _ S Q ⟨fun _ => v_M_work_106 y _ _ _ _ _ _ _ S Q ⟨fun _ => v_M_work_134 y _ _ _ _ _ _ _ S Q ⟨fun _ => ?_, fun c => absurd c (by decide)⟩, fun c => absurd c (by decide)⟩, fun c => absurd pos c⟩⟩⟩⟩⟩
      exact m_w286n R (by decide) (by decide) (fun S' R' b' => hsrv S' (by rw [hself]; exact R') b')
    · rw [if_neg (by omega), if_neg (by omega), if_neg (by omega), if_neg (by omega)] at hsrv
      refine ⟨fun c => absurd c (by decide), fun _ => ⟨fun c => absurd c (by decide), fun _ => ⟨fun c => absurd rfl c, fun _ => ?_⟩⟩⟩
      refine v_M_work_54 y _ _ _ _ _ _ _ S Q ⟨fun _ => v_M_work_63 y _ _ _ _ _ _ _ S Q (v_M_work_66 y _ _ _ _ _ _ _ S Q ⟨fun _ => v_M_work_79 y _ _ _ _ _ _ _ S Q ⟨fun c => absurd c (by decide), fun _ => ⟨fun _ => v_M_work_106 y _ _ _ _ _ _ _ S Q ⟨fun c => absurd rfl c, fun _ => ⟨fun c => absurd c npos, fun _ => ⟨R.ms.1, y + 25, R.ms.r 25 (by omega) (by omega), 20, R.ms.t 25 (by omega) (by omega), vp_in_nI (by omega) (by omega), ?_⟩⟩⟩, fun c => absurd c (by decide)⟩⟩, fun c => absurd c (by decide)⟩), fun c => absurd pos c⟩
      rw [nI_clamp (by omega), g3, nI_add]
      refine ⟨fun c => ?_, fun c => ?_⟩
      · have h64 : (sV1 (aT A) k).length + dt.length ≤ 64 := (nI_leI (b := 64) (by omega) (by omega)).mp c
        rw [if_pos h64] at hsrv
        refine v_M_work_134 y _ _ _ _ _ _ _ S Q ⟨fun c => absurd rfl c, fun _ => ⟨fun c => absurd c (by decide), fun _ => ⟨fun c => absurd c (by decide), fun _ => ⟨fun _ => ?_, fun c => absurd pos c⟩⟩⟩⟩
        refine v_M_work_214 y _ _ _ _ _ _ _ S Q ⟨fun c => absurd rfl c, fun _ => ⟨R.ms.1, y + 25, R.ms.r 25 (by omega) (by omega), 20, R.ms.t 25 (by omega) (by omega), vp_in_nI (by omega) (by omega), fun z ez => ?_⟩⟩
        rw [nI_clamp (by omega), g3] at ez
        rw [ez]
        refine m_w235 R.ms (by omega) bd (by omega) h64 (fun S1 x1 q25 b1 f1 => ?_)
        have R1 := R.store (st := (aT A).set k (sN1 (aT A) k, sV1 (aT A) k ++ dt)) (F := fun _ => False) (MX.of x1 (by omega)) (fun a z => Or.inr (by omega)) (fun f z => z.elim) (R.so.setV ok2 hk (by rw [(x1.2 y (by omega)).1]) (x1.2 (y + 22) (by omega)).1 (x1.2 (y + 23) (by omega)).1 (by rw [List.length_append]; exact q25) ((g4.row (fun i h1 h2 => f1 i (by omega))).append b1) (fun i hi => f1 i (by omega)))
        exact m_w286n R1 (by decide) (by decide) (fun S' R' b' => hsrv S' R' b')
      · have h64 : ¬ (sV1 (aT A) k).length + dt.length ≤ 64 := fun z => c (nI_le (b := 64) z (by omega))
        rw [if_neg h64] at hsrv
        exact v_M_work_134 y _ _ _ _ _ _ _ S Q ⟨fun _ => m_w286n R (by decide) (by decide) (fun S' R' b' => hsrv S' (by rw [hself]; exact R') b'), fun c => absurd c (by decide)⟩
  · -- the name is not there
    rw [e10]
    have hsrv := hQ
    unfold srv at hsrv
    rw [hf] at hsrv
    simp only at hsrv
    have addN : ∀ x2 : Int32, ¬ x2 = 0 → ¬ x2 = 2 → ¬ x2 = 4 → (aT A).length < 20 → (∀ S', RMF y S0 S' (wI (wT A (aT A ++ [(nm, dt)])) 12 (aI A 12 + 1)) → cBL y 46 36 S' [0, 0] → Q none S') → T0 G J_M_work 134 [(0, .ref y), (1, .int (nI p.length)), (2, .int x2), (3, .int (nI nm.length)), (4, .int (nI (3 + nm.length))), (5, .int (-1)), (6, .int 0), (7, .int (nI dt.length))] [] S Q := by
      intro x2 n0 n2 n4 hlt hfin
      refine v_M_work_134 y _ _ _ _ _ _ _ S Q ⟨fun c => absurd rfl c, fun _ => ⟨fun c => absurd c n0, fun _ => ⟨fun c => absurd c n2, fun _ => ⟨fun c => absurd c (by decide), fun _ => ⟨R.ms.1, fun z ez S3 e3 => ?_⟩⟩⟩⟩⟩
      rw [R.so.1] at ez
      rw [R.so.1, nI_1] at e3
      rw [ez]
      have ry : tI S3 y = upd (tI S y) 31 (nI ((aT A).length + 1)) := by rw [e3, tI_sI, up_s]
      have x3 : Ex (fun a => a = y) S S3 := by rw [e3]; exact (Ex.rf S).I rfl
      have s3 := R.ms.sm x3.1
      refine ⟨y + 23, s3.r 23 (by omega) (by omega), 20, s3.t 23 (by omega) (by omega), vp_in_nI (by omega) (by omega), fun S8 e8 => ?_⟩
      rw [nI_clamp (by omega), (x3.2 (y + 23) (by omega)).1] at e8
      have x8 : Ex (fun a => a = y + 23) S3 S8 := by rw [e8]; exact (Ex.rf S3).I rfl
      have s8 := s3.sm x8.1
      have bn8 : BR S8 (y + 36) 3 nm := (bn.ex x3 (by omega)).ex x8 (by omega)
      refine cpl (b := y + 22) (o := 16 * (aT A).length) (l := nm) (S0 := S8) (H := fun i Si => T0 G J_M_work 180 [(0, .ref y), (1, .int (nI p.length)), (2, .int x2), (3, .int (nI nm.length)), (4, .int (nI (3 + nm.length))), (5, .int (nI (aT A).length)), (6, .int 0), (7, .int (nI dt.length)), (8, .int (nI i))] [] Si Q) (fun i Si hi xi nx => ?_) (fun S9 x9 b9 f9 => ?_)
      · have si := s8.sm xi.1
        refine v_M_work_180 y _ _ _ _ _ _ _ _ Si Q ⟨fun c => absurd c (nI_ge hi (by omega)), fun _ => ⟨si.1, y + 22, si.r 22 (by omega) (by omega), y + 36, si.r 36 (by omega) (by omega), 128, si.t 36 (by omega) (by omega), ?_⟩⟩
        rw [show (16 : Int32) * nI (aT A).length = nI (16 * (aT A).length) from pk_mul 16 _, nI_add, show (3 : Int32) + nI i = nI (3 + i) from nI_add 3 i, nI_clamp (show 16 * (aT A).length + i < 2 ^ 31 by omega), nI_clamp (show 3 + i < 2 ^ 31 by omega), (xi.2 (y + 36) (by omega)).1, bn8 i hi, nar1s, nI_1]
        refine ⟨vp_in_nI (by omega) (by omega), 320, si.t 22 (by omega) (by omega), vp_in_nI (by omega) (by omega), fun S9 e9 z ez => ?_⟩
        rw [ez]
        exact nx S9 e9
      have s9 := s8.sm x9.1
      refine v_M_work_180 y _ _ _ _ _ _ _ _ S9 Q ⟨fun _ => v_M_work_214 y _ _ _ _ _ _ _ S9 Q ⟨fun _ => v_M_work_229 y _ _ _ _ _ _ _ S9 Q ?_, fun c => absurd c n4⟩, fun c => absurd (Int32.le_refl _) c⟩
      refine m_w235 (old := 0) s9 (by omega) (((bd.ex x3 (by omega)).ex x8 (by omega)).ex x9 (by omega)) (by omega) (by omega) (fun S1 x1 q25 b1 f1 => ?_)
      rw [Nat.zero_add] at q25
      rw [Nat.add_zero] at b1 f1
      have mm : MX y (fun a => y + 22 ≤ a ∧ a ≤ y + 25) (fun f => f = 31) S S1 := by
        have c0 : MX y (fun a => y + 22 ≤ a ∧ a ≤ y + 25) (fun f => f = 31) S S3 := ⟨x3.mono (fun a z => Or.inl z), fun f hf => by rw [ry, pk_un hf]⟩
        exact ((c0.tr ((MX.of x8 (by omega)).mono (fun a z => by omega) (fun f z => z))).tr ((MX.of x9 (by omega)).mono (fun a z => by omega) (fun f z => z))).tr ((MX.of x1 (by omega)).mono (fun a z => by omega) (fun f z => z))
      have q23 : tI S1 (y + 23) = upd (tI S (y + 23)) (aT A).length (nI nm.length) := by rw [(x1.2 (y + 23) (by omega)).1, (x9.2 (y + 23) (by omega)).1, e8, tI_sI, up_s]
      have q22 : tI S1 (y + 22) = tI S9 (y + 22) := (x1.2 (y + 22) (by omega)).1
      have r22 : tI S8 (y + 22) = tI S (y + 22) := by rw [(x8.2 (y + 22) (by omega)).1, (x3.2 (y + 22) (by omega)).1]
      have r24 : tI S9 (y + 24) = tI S (y + 24) := by rw [(x9.2 (y + 24) (by omega)).1, (x8.2 (y + 24) (by omega)).1, (x3.2 (y + 24) (by omega)).1]
      have r25 : tI S9 (y + 25) = tI S (y + 25) := by rw [(x9.2 (y + 25) (by omega)).1, (x8.2 (y + 25) (by omega)).1, (x3.2 (y + 25) (by omega)).1]
      rw [r25] at q25
      have R1 := R.store (st := aT A ++ [(nm, dt)]) mm (fun a z => Or.inr z) (fun f z => Or.inr z) (R.so.app ok2 (by rw [(x1.2 y (by omega)).1, (x9.2 y (by omega)).1, (x8.2 y (by omega)).1, ry, pk_us]) q23 (b9.eq q22) (fun i hi => by rw [q22, f9 i (by omega), r22]) q25 b1 (fun i hi => by rw [f1 i (by omega), r24]))
      exact m_w286n R1 (fun z => n0 z.1) (fun z => n2 z.1) (fun S' R' b' => hfin S' R' b')
    have h31 : tI S y 31 = nI (aT A).length := R.so.1
    rcases (show o = 0 ∨ o = 1 ∨ o = 2 ∨ o = 3 ∨ o = 4 by omega) with rfl | rfl | rfl | rfl | rfl
    · rw [if_neg (by omega)] at hsrv
      refine ⟨fun _ => ?_, fun c => absurd rfl c⟩
      refine v_M_work_54 y _ _ _ _ _ _ _ S Q ⟨fun c => absurd c (by decide), fun _ => v_M_work_66 y _ _ _ _ _ _ _ S Q ⟨fun _ => v_M_work_79 y _ _ _ _ _ _ _ S Q ⟨fun c => absurd c (by decide), fun _ => ⟨fun _ => v_M_work_106 y _ _ _ _ _ _ _ S Q ⟨fun _ => v_M_work_134 y _ _ _ _ _ _ _ S Q ⟨fun _ => ?_, fun c => absurd c (by decide)⟩, fun c => absurd c (by decide)⟩, fun c => absurd c (by decide)⟩⟩, fun c => absurd c (by decide)⟩⟩
      exact m_w286n R (by decide) (by decide) (fun S' R' b' => hsrv S' (by rw [hself]; exact R') b')
    · rw [if_pos (by omega)] at hsrv
      refine ⟨fun c => absurd c (by decide), fun _ => ⟨fun c => absurd c (by decide), fun _ => ⟨fun _ => ?_, fun c => absurd c (by decide)⟩⟩⟩
      refine v_M_work_66 y _ _ _ _ _ _ _ S Q ⟨fun _ => v_M_work_79 y _ _ _ _ _ _ _ S Q ⟨fun _ => v_M_work_89 y _ _ _ _ _ _ _ S Q ⟨fun c => absurd c (by decide), fun _ => ⟨R.ms.1, ?_⟩⟩, fun c => absurd rfl c⟩, fun c => absurd c (by decide)⟩
      rw [h31]
      refine ⟨fun c => v_M_work_106 y _ _ _ _ _ _ _ S Q ⟨fun _ => ?_, fun c => absurd c (by decide)⟩, fun c => v_M_work_106 y _ _ _ _ _ _ _ S Q ⟨fun _ => v_M_work_134 y _ _ _ _ _ _ _ S Q ⟨fun _ => ?_, fun c => absurd c (by decide)⟩, fun c => absurd c (by decide)⟩⟩
      · have hlt : (aT A).length < 20 := by
          rcases Nat.lt_or_ge (aT A).length 20 with h | h
          · exact h
          · exact absurd (congrArg nI (show (aT A).length = 20 by omega)) c
        rw [if_pos hlt] at hsrv
        exact addN _ (by decide) (by decide) (by decide) hlt hsrv
      · have he : (aT A).length = 20 := (nI_eq (b := 20) (by omega) (by omega)).mp c
        rw [if_neg (by omega)] at hsrv
        exact m_w286n R (by decide) (by decide) (fun S' R' b' => hsrv S' (by rw [hself]; exact R') b')
    · rw [if_neg (by omega)] at hsrv
      refine ⟨fun c => absurd c (by decide), fun _ => ⟨fun _ => ?_, fun c => absurd rfl c⟩⟩
      refine v_M_work_54 y _ _ _ _ _ _ _ S Q ⟨fun c => absurd c (by decide), fun _ => v_M_work_66 y _ _ _ _ _ _ _ S Q ⟨fun _ => v_M_work_79 y _ _ _ _ _ _ _ S Q ⟨fun c => absurd c (by decide), fun _ => ⟨fun _ => v_M_work_106 y _ _ _ _ _ _ _ S Q ⟨fun _ => v_M_work_134 y _ _ _ _ _ _ _ S Q ⟨fun _ => ?_, fun c => absurd c (by decide)⟩, fun c => absurd c (by decide)⟩, fun c => absurd c (by decide)⟩⟩, fun c => absurd c (by decide)⟩⟩
      exact m_w286n R (by decide) (by decide) (fun S' R' b' => hsrv S' (by rw [hself]; exact R') b')
    · rw [if_pos (by omega)] at hsrv
      refine ⟨fun c => absurd c (by decide), fun _ => ⟨fun c => absurd c (by decide), fun _ => ⟨fun _ => ?_, fun c => absurd c (by decide)⟩⟩⟩
      refine v_M_work_66 y _ _ _ _ _ _ _ S Q ⟨fun c => absurd rfl c, fun _ => ⟨fun _ => v_M_work_79 y _ _ _ _ _ _ _ S Q ⟨fun c => absurd c (by decide), fun _ => ⟨fun c => absurd rfl c, fun _ => v_M_work_89 y _ _ _ _ _ _ _ S Q ⟨fun c => absurd c (by decide), fun _ => ⟨R.ms.1, ?_⟩⟩⟩⟩, fun c => absurd (by decide) c⟩⟩
      rw [h31]
      refine ⟨fun c => v_M_work_106 y _ _ _ _ _ _ _ S Q ⟨fun _ => ?_, fun c => absurd c (by decide)⟩, fun c => v_M_work_106 y _ _ _ _ _ _ _ S Q ⟨fun _ => v_M_work_134 y _ _ _ _ _ _ _ S Q ⟨fun _ => ?_, fun c => absurd c (by decide)⟩, fun c => absurd c (by decide)⟩⟩
      · have hlt : (aT A).length < 20 := by
          rcases Nat.lt_or_ge (aT A).length 20 with h | h
          · exact h
          · exact absurd (congrArg nI (show (aT A).length = 20 by omega)) c
        rw [if_pos hlt] at hsrv
        exact addN _ (by decide) (by decide) (by decide) hlt hsrv
      · have he : (aT A).length = 20 := (nI_eq (b := 20) (by omega) (by omega)).mp c
        rw [if_neg (by omega)] at hsrv
        exact m_w286n R (by decide) (by decide) (fun S' R' b' => hsrv S' (by rw [hself]; exact R') b')
    · rw [if_neg (by omega)] at hsrv
      refine ⟨fun c => absurd c (by decide), fun _ => ⟨fun c => absurd c (by decide), fun _ => ⟨fun c => absurd rfl c, fun _ => ?_⟩⟩⟩
      refine v_M_work_54 y _ _ _ _ _ _ _ S Q ⟨fun c => absurd c (by decide), fun _ => v_M_work_66 y _ _ _ _ _ _ _ S Q ⟨fun _ => v_M_work_79 y _ _ _ _ _ _ _ S Q ⟨fun c => absurd c (by decide), fun _ => ⟨fun _ => v_M_work_106 y _ _ _ _ _ _ _ S Q ⟨fun c => absurd rfl c, fun _ => ⟨fun _ => v_M_work_134 y _ _ _ _ _ _ _ S Q ⟨fun _ => ?_, fun c => absurd c (by decide)⟩, fun c => absurd (by decide) c⟩⟩, fun c => absurd c (by decide)⟩⟩, fun c => absurd c (by decide)⟩⟩
      exact m_w286n R (by decide) (by decide) (fun S' R' b' => hsrv S' (by rw [hself]; exact R') b')
end MSV
