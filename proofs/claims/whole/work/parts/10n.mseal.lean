/-! PURE: the reference seals records -/
section MSE
variable {G : pG} {y : Nat} {S : TS} {A : AS}
def pY (y : Nat) : Nat → Prop := fun a => a = y + 36
def fY : Nat → Prop := fun f => f = 46
theorem m_say {Q : Option Value → TS → Prop} {x : Int32} {l : List B8} (hs : MS y S) (hb : cBL y 46 36 S l) (hl : l.length < 128) (hQ : ∀ S', MX y (pY y) fY S S' → cBL y 46 36 S' (l ++ [b8 x]) → Q none S') : C0 G J_M_say [.ref y, .int x] S Q := by
  refine v_M_say y x S Q ⟨hs.1, y + 36, hs.r 36 (by omega) (by omega), 128, hs.t 36 (by omega) (by omega), ?_⟩
  rw [hb.1, nI_clamp (by omega), nar2]
  refine ⟨vp_in_nI (by omega) (by omega), fun S6 e6 S7 e7 => ?_⟩
  have r6 : tI S6 y = tI S y := by rw [e6, tI_sI, up_n _ _ (by omega)]
  have ry : tI S7 y = upd (tI S y) 46 (nI (l.length + 1)) := by rw [e7, tI_sI, up_s, r6, hb.1, nI_1]
  have r1 : tI S7 (y + 36) = upd (tI S (y + 36)) l.length (sx (b8 x)) := by rw [e7, tI_sI, up_n _ _ (by omega), e6, tI_sI, up_s]
  exact hQ S7 ⟨by rw [e7, e6]; exact ((Ex.rf S).I (Or.inr rfl)).I (Or.inl rfl), fun k hk => by rw [ry, pk_un hk]⟩ (hb.app (by rw [ry, pk_us]) r1)
theorem say_0 {S S' : TS} (e : S' = sI S y (upd (tI S y) 46 0)) : MX y (pY y) fY S S' ∧ cBL y 46 36 S' [] := by
  have ry : tI S' y = upd (tI S y) 46 0 := by rw [e, tI_sI, up_s]
  exact ⟨⟨by rw [e]; exact (Ex.rf S).I (Or.inl rfl), fun k hk => by rw [ry, pk_un hk]⟩, ⟨by rw [ry, pk_us]; rfl, BR.nil _ _ _⟩⟩
theorem RMF.say {S0 S S' : TS} (R : RMF y S0 S A) (e : MX y (pY y) fY S S') : RMF y S0 S' A := R.sc e (fun a z => by simp only [pY] at z; unfold mscr; omega) (fun f z => Or.inr (Or.inr z))
/-- the number of side s in direction d -/
theorem RMF.cnt {S0 S S' : TS} {s d : Nat} {v : Int32} (R : RMF y S0 S A) (hs : s < 2) (hd : d < 2) (e : S' = sI S (y + 16) (upd (tI S (y + 16)) (2 * s + d) v)) : RMF y S0 S' (wI A (4 + 2 * s + d) v) := by
  have x : Ex (fun a => a = y + 16) S S' := by rw [e]; exact (Ex.rf S).I rfl
  have m : MX y (fun a => a = y + 16) (fun _ => False) S S' := MX.of x (by omega)
  have r : tI S' (y + 16) = upd (tI S (y + 16)) (2 * s + d) v := by rw [e, tI_sI, up_s]
  have ne : ∀ j, j ≠ 4 + 2 * s + d → aI (wI A (4 + 2 * s + d) v) j = aI A j := fun j hj => by rw [aI_wI, up_n _ _ hj]
  refine R.gen m (fun a z => by show y ≤ a ∧ a < y + 45; omega) (Or.inr ⟨rfl, by omega, fun z => z⟩) (Or.inr ⟨rfl, by omega, fun z => z⟩) (Or.inr ⟨rfl, by omega, fun z => z⟩) (Or.inr ⟨rfl, by omega, fun z => z⟩) (Or.inr ⟨fun _ _ => rfl, by omega, by omega⟩) (Or.inr ⟨fun j hj => ne j (by omega), by omega, by omega⟩) (Or.inr ⟨ne 0 (by omega), rfl, by omega⟩) (Or.inr ⟨ne 1 (by omega), rfl, rfl, rfl, by omega, by omega⟩) (fun j hj => Or.inl (fun c d' hd' => ?_)) (fun w hw => Or.inr ⟨rfl, by omega, by omega, by omega⟩) (Or.inr ⟨rfl, by omega, by omega, by omega, by omega, fun z => z⟩) (Or.inr ⟨ne 14 (by omega), ne 12 (by omega), ne 13 (by omega), fun z => z, fun z => z, fun z => z⟩)
  rw [ne j (by omega)] at c
  obtain ⟨g1, g2, g3⟩ := R.sk j hj c d' hd'
  rw [r, (x.2 (y + 17) (by omega)).1, ne (8 + 2 * j + d') (by omega)]
  refine ⟨g1.ex x (by omega), ?_, g3⟩
  by_cases h : 2 * j + d' = 2 * s + d
  · rw [h, pk_us, show 4 + 2 * j + d' = 4 + 2 * s + d by omega, aI_wI, up_s]
  · rw [pk_un h, ne _ (by omega)]; exact g2
theorem m_sendSealed {Q : Option Value → TS → Prop} {s : Nat} {p : List B8} {S0 : TS} (R : RMF y S0 S A) (ok : ∀ v, v < 2 → (aW A v).length ≤ 12 ∧ ∀ l ∈ aW A v, l.length ≤ 200) (hs : s < 2) (h2 : aI A s = 2) (hk32 : (aB A (24 + 2 * s + s)).length = 32) (hlt : (aW A s).length < 12) (hp : cBL y 46 36 S p) (hpl : p.length ≤ 100)
    (hQ : ∀ S', RMF y S0 S' (aSeal A s s s p) → Q none S') : C0 G J_M_sendSealed [.ref y, .int (nI s)] S Q := by
  refine v_M_sendSealed y _ S Q (fun y1 e1 => ⟨R.ms.1, ?_⟩)
  have e1 : y1 = nI (2 * s + s) := by rw [e1, show (2 : Int32) * nI s = nI (2 * s) from pk_mul 2 s, nI_add]
  rw [e1, hp.1, show nI p.length + (16 : Int32) = nI (p.length + 16) from nI_add _ 16]
  generalize hkey : aB A (24 + 2 * s + s) = key at *
  generalize hcn : aI A (4 + 2 * s + s) = cn
  obtain ⟨g1, g2, g3⟩ := R.sk s hs h2 s hs
  rw [hkey] at g1
  rw [hcn] at g2
  refine m_send (w := s) (k := (aW A s).length) (n := p.length + 16) (x2 := 4) R.ms hs hlt (by omega) (R.wi s hs).1 (fun S17 x17 pf17 e20 e19 b17 => ⟨_, rfl, ?_⟩)
  have s17 := R.ms.sm x17.1
  have ehd : hd3 4 (nI (p.length + 16)) = shead p.length := rfl
  rw [ehd] at b17
  have hp17 : cBL y 46 36 S17 p := ⟨by rw [(x17.2 y (by simp only [pWi]; omega)).1]; exact hp.1, hp.2.ex x17 (by simp only [pWi]; omega)⟩
  generalize ho : 200 * (12 * s + (aW A s).length) = o at *
  refine cpl (b := y + 18) (o := o + 3) (l := p) (S0 := S17) (H := fun i Si => T0 G J_M_sendSealed 23 [(0, .ref y), (1, .int (nI s)), (2, .int (nI (2 * s + s))), (3, .int (nI (o + 3))), (4, .int (nI i))] [] Si Q) (fun i Si hi xi nx => ?_) (fun S1 x1 b1 f1 => ?_)
  · have si := s17.sm xi.1
    refine v_M_sendSealed_23 y _ _ _ _ Si Q ⟨si.1, ?_⟩
    rw [(xi.2 y (by omega)).1, hp17.1]
    refine ⟨fun c => absurd c (nI_ge hi (by omega)), fun _ => ⟨y + 18, si.r 18 (by omega) (by omega), y + 36, si.r 36 (by omega) (by omega), 128, si.t 36 (by omega) (by omega), vp_in_nI (by omega) (by omega), 4800, si.t 18 (by omega) (by omega), ?_⟩⟩
    rw [nI_add, nI_clamp (show o + 3 + i < 2 ^ 31 by omega), nI_clamp (show i < 2 ^ 31 by omega), nI_1, (xi.2 (y + 36) (by omega)).1, hp17.2.at0 hi, nar1s]
    refine ⟨vp_in_nI (by omega) (by omega), fun S9 e9 z ez => ?_⟩
    rw [ez]
    exact nx S9 e9
  · have s1 := s17.sm x1.1
    have h46 : tI S1 y 46 = nI p.length := by rw [(x1.2 y (by omega)).1]; exact hp17.1
    refine v_M_sendSealed_23 y _ _ _ _ S1 Q ⟨s1.1, ?_⟩
    rw [h46, show nI (o + 3) - (3 : Int32) = nI o from pk_sub (b := 3) (by omega)]
    refine ⟨fun _ => ⟨y + 18, s1.r 18 (by omega) (by omega), ?_⟩, fun c => absurd (Int32.le_refl _) c⟩
    have k1 : BR S1 (y + 15) (32 * (2 * s + s)) key := (g1.ex x17 (by simp only [pWi]; omega)).ex x1 (by omega)
    have n1 : tI S1 (y + 16) (2 * s + s) = cn := by rw [(x1.2 (y + 16) (by omega)).1, (x17.2 (y + 16) (by simp only [pWi]; omega)).1]; exact g2
    refine m_cover s1 (by omega) hk32 (by omega) (by omega) (by omega) (s1.t 18 (by omega) (by omega)) k1 n1 b1 (fun S2 x2 f2 b2 => ⟨rfl, ?_⟩)
    have s2 := s1.sm x2.1
    have h46b : tI S2 y 46 = nI (cov key cn p).length := by rw [(x2.2 y (by simp only [sQ]; omega)).1, cov_len]; exact h46
    rw [h46b]
    have hh2 : BR S2 (y + 18) o (shead p.length) := (b17.row (fun i h1 h2 => f1 i (by have : i < o + 3 := h2; omega))).row (fun i h1 h2 => f2 i (by have : i < o + 3 := h2; omega))
    have hcl := cov_len key cn p
    refine m_tagRecord (n := cn) s2 (by omega) hk32 (by omega) (by omega) (by omega) (s2.t 18 (by omega) (by omega)) (k1.ex x2 (by simp only [sQ]; omega)) (by rw [(x2.2 (y + 16) (by simp only [sQ]; omega)).1]; exact n1) (show (shead p.length).length = 3 from rfl) (by omega) hh2 b2 (fun S3 x3 b3 => ⟨rfl, ?_⟩)
    have s3 := s2.sm x3.1
    have htl : (stag key cn (shead p.length) (cov key cn p)).length = 16 := stag_len _ _ _ _
    generalize htg : stag key cn (shead p.length) (cov key cn p) = tg at *
    have h46c : tI S3 y 46 = nI p.length := by rw [(x3.2 y (by simp only [wR]; omega)).1, h46b, hcl]
    have q18 : tI S3 (y + 18) = tI S2 (y + 18) := (x3.2 (y + 18) (by simp only [wR]; omega)).1
    refine cpl (b := y + 18) (o := o + 3 + p.length) (l := tg) (S0 := S3) (H := fun i Si => T0 G J_M_sendSealed 87 [(0, .ref y), (1, .int (nI s)), (2, .int (nI (2 * s + s))), (3, .int (nI (o + 3))), (4, .int (nI i))] [] Si Q) (fun i Si hi xi nx => ?_) (fun S4 x4 b4 f4 => ?_)
    · rw [htl] at hi
      have si := s3.sm xi.1
      refine v_M_sendSealed_87 y _ _ _ _ Si Q ⟨fun c => absurd c (nI_ge (b := 16) hi (by omega)), fun _ => ⟨si.1, y + 18, si.r 18 (by omega) (by omega), y + 34, si.r 34 (by omega) (by omega), 16, si.t 34 (by omega) (by omega), vp_in_nI (by omega) (by omega), 4800, si.t 18 (by omega) (by omega), ?_⟩⟩
      rw [(xi.2 y (by omega)).1, h46c, nI_add, nI_add, nI_clamp (show o + 3 + p.length + i < 2 ^ 31 by omega), nI_clamp (show i < 2 ^ 31 by omega), nI_1, (xi.2 (y + 34) (by omega)).1, b3.at0 (by omega), nar1s]
      refine ⟨vp_in_nI (by omega) (by omega), fun S9 e9 z ez => ?_⟩
      rw [ez]
      exact nx S9 e9
    · rw [htl] at f4 ⊢
      have s4 := s3.sm x4.1
      have q4 : ∀ i, (i < o + 3 + p.length ∨ o + 3 + p.length + 16 ≤ i) → tI S4 (y + 18) i = tI S2 (y + 18) i := fun i hi => by rw [f4 i hi, q18]
      have xx : Ex (fun a => a = y + 18 ∨ wR y a) S17 S4 := (((x1.mono (fun a z => Or.inl z)).tr (x2.mono (fun a z => z.elim (fun z => Or.inr (by simp only [sQ] at z; show y + 27 ≤ a ∧ a ≤ y + 35; omega)) Or.inl))).tr (x3.mono (fun a z => Or.inr z))).tr (x4.mono (fun a z => Or.inl z))
      have xs : Ex (fun a => pWi y a ∨ wR y a) S S4 := (x17.mono (fun a z => Or.inl z)).tr (xx.mono (fun a z => z.elim (fun z => Or.inl (Or.inl z)) Or.inr))
      have pf : PF y s (aW A s).length S17 S4 := by
        refine ⟨fun j _ => by rw [(xx.2 (y + 20) (by simp only [wR]; omega)).1], fun j _ => by rw [(xx.2 (y + 19) (by simp only [wR]; omega)).1], fun j hj => ?_⟩
        rw [ho] at hj
        rw [q4 j (by omega), f2 j (by omega), f1 j (by omega)]
      have hb2 : BR S4 (y + 18) (o + 3) (cov key cn p) := b2.row (fun i h1 h2 => q4 i (by omega))
      have hb1 : BR S4 (y + 18) o (shead p.length) := hh2.row (fun i h1 h2 => q4 i (by have : i < o + 3 := h2; omega))
      have hrec : BR S4 (y + 18) o (sealR key cn p) := by
        unfold sealR
        rw [htg]
        have h12 : BR S4 (y + 18) o (shead p.length ++ cov key cn p) := hb1.append hb2
        refine h12.append ?_
        rw [List.length_append, hcl, show (shead p.length).length = 3 from rfl, ← Nat.add_assoc]
        exact b4
      have hrl : (sealR key cn p).length = p.length + 16 + 3 := by
        unfold sealR
        rw [List.length_append, List.length_append, hcl, stag_len, show (shead p.length).length = 3 from rfl]
        omega
      have R4 : RMF y S0 S4 (wW A s (aW A s ++ [sealR key cn p])) := by
        refine R.wires (F := fun _ => False) ok (MX.of xs (by simp only [pWi, wR]; omega)) (fun a z => z.elim (fun z => Or.inr z) (fun z => Or.inl (by simp only [wR] at z; unfold mscr; omega))) (fun f z => z.elim) ((pf17.tr pf).wf hlt) ((R.wi s hs).push hlt (ok s hs).2 (pf17.tr pf) (by rw [(xx.2 (y + 20) (by simp only [wR]; omega)).1]; exact e20) (by rw [(xx.2 (y + 19) (by simp only [wR]; omega)).1, hrl]; exact e19) (by rw [ho]; exact hrec))
      refine v_M_sendSealed_87 y _ _ _ _ S4 Q ⟨fun _ => ⟨s4.1, y + 16, s4.r 16 (by omega) (by omega), 4, s4.t 16 (by omega) (by omega), vp_in_nI (by omega) (by omega), vp_in_nI (by omega) (by omega), fun S6 e6 => hQ S6 ?_⟩, fun c => absurd (Int32.le_refl _) c⟩
      have n4 : tI S4 (y + 16) (2 * s + s) = cn := by rw [(xs.2 (y + 16) (by simp only [pWi, wR]; omega)).1]; exact g2
      rw [nI_clamp (by omega), n4] at e6
      have := R4.cnt hs hs e6
      unfold aSeal
      rw [hkey, hcn]
      exact this
theorem m_kind {Q : Option Value → TS → Prop} {s kd : Int32} (R : RMF y S S A) (ok : AOK A) (h0 : ∀ S' r A', fBare A s kd = (r, A') → (r = 0 → ∃ i, i < 2 ∧ s = nI i ∧ aI A i = 2 ∧ A' = aSeal A i i i [b8 kd]) → RMF y S S' A' → Q (some (.int r)) S') : C0 G J_M_kind [.ref y, .int s, .int kd] S Q := by
  refine v_M_kind y s kd S Q (m_side (fun i hi ei => ⟨1, rfl, fun _ => ?_, fun c => absurd c (by decide)⟩) (fun hno => ⟨0, rfl, fun c => absurd rfl c, fun _ => ?_⟩))
  · subst ei
    have hV : fBare A (nI i) kd = if aI A i ≠ 2 then (-5, A) else if (aW A i).length = 12 then (-3, A) else (0, aSeal A i i i [b8 kd]) := by
      unfold fBare
      rw [nof_some hi (by omega)]
    rw [hV] at h0
    refine ⟨R.ms.1, y + 11, R.ms.r 11 (by omega) (by omega), 2, R.ms.t 11 (by omega) (by omega), vp_in_nI (by omega) (by omega), ?_⟩
    rw [nI_clamp (by omega), (R.st i hi).1]
    refine ⟨fun c => ?_, fun c => ?_⟩
    · rw [if_neg (fun z => z c)] at h0
      refine m_full R (ok.wl hi) hi (fun hlt => ⟨0, rfl, fun _ S8 e8 => ?_, fun c => absurd rfl c⟩) (fun he => ⟨1, rfl, fun c => absurd c (by decide), fun _ => ?_⟩)
      · rw [if_neg (by omega)] at h0
        obtain ⟨m8, b8'⟩ := say_0 e8
        have R8 := R.say m8
        refine m_say R8.ms b8' (by simp) (fun S9 x9 b9 => ⟨rfl, ?_⟩)
        have R9 := R8.say x9
        rw [List.nil_append] at b9
        exact m_sendSealed R9 ok.w2 hi c (ok.zk hi c hi) hlt b9 (by simp) (fun S' R' => ⟨rfl, h0 S' 0 _ rfl (fun _ => ⟨i, hi, rfl, c, rfl⟩) R'⟩)
      · rw [if_pos he] at h0
        exact h0 S (-3) A rfl (fun z => absurd z (by decide)) R
    · rw [if_pos c] at h0
      exact h0 S (-5) A rfl (fun z => absurd z (by decide)) R
  · have hV : fBare A s kd = (-1, A) := by unfold fBare; rw [nof_none hno]
    exact h0 S (-1) A hV (fun z => absurd z (by decide)) R
theorem r_close (h : RM y S A) (ok : AOK A) (s : Int32) : C0 G J_M_close [.ref y, .int s] S (fun r S' => r = some (.int (fClose A s).1) ∧ RMF y S S' (fClose A s).2) := by
  have R := h.f
  have hcl : ∀ r A', fBare A s 2 = (r, A') → r ≠ 0 → fClose A s = (r, A') := by
    intro r A' e hr
    unfold fBare at e
    unfold fClose
    cases hn : nof 2 s with
    | none => rw [hn] at e; exact e
    | some i =>
      rw [hn] at e
      simp only at e ⊢
      split
      · rename_i h1; rw [if_pos h1] at e; exact e
      · rename_i h1
        rw [if_neg h1] at e
        split
        · rename_i h2; rw [if_pos h2] at e; exact e
        · rename_i h2; rw [if_neg h2] at e; exact absurd (Prod.mk.inj e).1.symm hr
  refine v_M_close y s S _ ⟨R.ms.1, m_kind R ok (fun S' r A' e hz R' => ⟨r, rfl, fun c => ?_, fun c => ?_⟩)⟩
  · rw [hcl r A' e c]
    exact ⟨rfl, R'⟩
  · obtain ⟨i, hi, es, h2, eA⟩ := hz c
    subst c
    refine ⟨y + 11, R'.ms.r 11 (by omega) (by omega), 2, R'.ms.t 11 (by omega) (by omega), by rw [es]; exact vp_in_nI (by omega) (by omega), fun S8 e8 => ?_⟩
    have hV : fClose A s = (0, wI A' i 3) := by
      unfold fBare at e
      unfold fClose
      rw [es, nof_some hi (by omega)] at e ⊢
      simp only at e ⊢
      rw [if_neg (fun z => z h2)] at e ⊢
      split
      · rename_i h3; rw [if_pos h3] at e; exact absurd (Prod.mk.inj e).1 (by decide)
      · rw [eA]; rfl
    rw [hV]
    rw [es, nI_clamp (by omega)] at e8
    exact ⟨rfl, R'.side hi e8 (fun _ c => absurd c (by decide)) (fun _ c => absurd c (by decide)) (fun c => absurd c (by decide))⟩
end MSE
