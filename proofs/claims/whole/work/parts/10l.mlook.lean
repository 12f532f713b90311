/-! PURE: the reference's questions -/
section MLK
variable {G : pG} {y : Nat} {S : TS} {A : AS}
theorem RMF.out {S0 S S' : TS} {l : List B8} (h : RMF y S0 S A) (e : MX y (fun a => a = y + 2) (fun f => f = 3) S S') (c : cBL y 3 2 S' l) : RMF y S0 S' (wB A 1 l) := by
  refine h.gen e (fun a z => by show y ≤ a ∧ a < y + 45; omega) (Or.inr ⟨rfl, by omega, by omega⟩) (Or.inl c) (Or.inr ⟨rfl, by omega, by omega⟩) (Or.inr ⟨rfl, by omega, by omega⟩) (Or.inr ⟨fun j _ => ?_, by omega, by omega⟩) (Or.inr ⟨fun _ _ => rfl, by omega, by omega⟩) (Or.inr ⟨rfl, rfl, by omega⟩) (Or.inr ⟨rfl, rfl, rfl, rfl, by omega, by omega⟩) (fun s hs => Or.inr ⟨⟨rfl, fun d _ => ⟨?_, rfl, rfl⟩⟩, by omega, by omega, by omega⟩) (fun w hw => Or.inr ⟨rfl, by omega, by omega, by omega⟩) (Or.inr ⟨rfl, by omega, by omega, by omega, by omega, by omega⟩) (Or.inr ⟨rfl, rfl, rfl, by omega, by omega, by omega⟩)
  · rw [aB_wB, up_n _ _ (by omega)]
  · rw [aB_wB, up_n _ _ (by omega)]
theorem r_answer (h : RM y S A) (ok : AOK A) : C0 G J_M_answer [.ref y] S (fun r S' => r = some (.int (fAnswer A).1) ∧ RMF y S S' (fAnswer A).2) := by
  have R := h.f
  have hl := ok.an
  unfold fAnswer
  refine v_M_answer y S _ ⟨R.ms.1, ?_⟩
  rw [R.an.1]
  refine ⟨fun c S2 e2 => ?_, fun c => ?_⟩
  · have hne : ¬ aB A 3 = [] := fun z => c (by rw [z]; rfl)
    rw [if_neg hne]
    have ry : tI S2 y = upd (tI S y) 3 (nI (aB A 3).length) := by rw [e2, tI_sI, up_s]
    have r26 : tI S2 (y + 26) = tI S (y + 26) := by rw [e2, tI_sI, up_n _ _ (by omega)]
    have x2 : Ex (fun a => a = y) S S2 := by rw [e2]; exact (Ex.rf S).I rfl
    have h3 : tI S2 y 3 = nI (aB A 3).length := by rw [ry, pk_us]
    refine cpl (b := y + 2) (o := 0) (l := aB A 3) (S0 := S2) (H := fun k Sk => T0 G J_M_answer 20 [(0, .ref y), (1, .int (nI k))] [] Sk _) (fun k Sk hk xk nx => ?_) (fun S' x' b' f' => ?_)
    · have sk := (R.ms.sm x2.1).sm xk.1
      refine v_M_answer_20 y _ Sk _ ⟨sk.1, ?_⟩
      rw [(xk.2 y (by omega)).1, h3]
      refine ⟨fun c => absurd c (nI_ge hk (by omega)), fun _ => ⟨y + 2, sk.r 2 (by omega) (by omega), y + 26, sk.r 26 (by omega) (by omega), 65, sk.t 26 (by omega) (by omega), vp_in_nI (by omega) (by omega), 128, sk.t 2 (by omega) (by omega), vp_in_nI (by omega) (by omega), fun S12 e12 z ez => ?_⟩⟩
      rw [nI_clamp (by omega), (xk.2 (y + 26) (by omega)).1, r26, R.an.2.at0 hk, nar1s] at e12
      rw [ez, nI_1]
      exact nx S12 (by rw [Nat.zero_add]; exact e12)
    · have s' := (R.ms.sm x2.1).sm x'.1
      refine v_M_answer_20 y _ S' _ ⟨s'.1, ?_⟩
      rw [(x'.2 y (by omega)).1, h3]
      refine ⟨fun _ => ⟨rfl, R.out ⟨(x2.mono (fun a z => Or.inl z)).tr (x'.mono (fun a z => Or.inr z)), fun f hf => by rw [(x'.2 y (by omega)).1, ry, pk_un hf]⟩ ⟨by rw [(x'.2 y (by omega)).1, h3], b'⟩⟩, fun c => absurd (Int32.le_refl _) c⟩
  · have he : aB A 3 = [] := List.length_eq_zero_iff.mp ((nI_eq (b := 0) (by omega) (by omega)).mp c)
    rw [if_pos he]
    exact ⟨rfl, R⟩
theorem sn_mem {st : Stt} {k : Nat} (hk : k < st.length) : st.getD k ([], []) ∈ st := by
  rw [List.getD_eq_getElem?_getD, List.getElem?_eq_getElem hk]
  exact List.getElem_mem hk
theorem m_pl33 {S0 S : TS} {Q : Option Value → Prop} {a1 N o k : Nat} {nm : List B8} (R : RMF y S0 S A) (ok : (aT A).length ≤ 20 ∧ ∀ e ∈ aT A, 1 ≤ e.1.length ∧ e.1.length ≤ 16 ∧ e.2.length ≤ 64) (hk : k < (aT A).length) (ht : te S a1 = some (.inl (.byte, N))) (hN : N < 65536) (ho : o + nm.length ≤ N) (hb : BR S a1 o nm) (hyes : sN1 (aT A) k = nm → Q (some (.int (nI k)))) (hno : sN1 (aT A) k ≠ nm → TP G J_M_place 3 [(0, .ref y), (1, .ref a1), (2, .int (nI o)), (3, .int (nI nm.length)), (4, .int (nI (k + 1)))] [] S Q) :
    ∀ (m i f : Nat), i + m = nm.length → f < 2 → (f = 1 ↔ ((sN1 (aT A) k).length = nm.length ∧ ∀ j, j < i → (sN1 (aT A) k).getD j 0 = nm.getD j 0)) → TP G J_M_place 33 [(0, .ref y), (1, .ref a1), (2, .int (nI o)), (3, .int (nI nm.length)), (4, .int (nI k)), (5, .int (nI f)), (6, .int (nI i))] [] S Q := by
  have hk16 : (sN1 (aT A) k).length ≤ 16 := (ok.2 _ (sn_mem hk)).2.1
  have f0 : ∀ f i, f < 2 → nI f = 0 → (f = 1 ↔ ((sN1 (aT A) k).length = nm.length ∧ ∀ j, j < i → (sN1 (aT A) k).getD j 0 = nm.getD j 0)) → sN1 (aT A) k ≠ nm := by
    intro f i hf c hi e
    have h0 : f = 0 := (nI_eq (b := 0) (by omega) (by omega)).mp c
    have := hi.mpr ⟨by rw [e], fun j _ => by rw [e]⟩
    omega
  intro m
  induction m with
  | zero =>
    intro i f hi hf hiff
    refine v_M_place_33 y a1 _ _ _ _ _ S Q ⟨fun _ => ⟨fun c z ez => ?_, fun c => ?_⟩, fun c => absurd (nI_le (by omega) (by omega)) c⟩
    · rw [ez, nI_1]
      exact hno (f0 f i hf c hiff)
    · have h1 : f = 1 := by
        rcases (show f = 0 ∨ f = 1 by omega) with h | h
        · exact absurd (by rw [h]; rfl) c
        · exact h
      obtain ⟨e1, e2⟩ := hiff.mp h1
      refine hyes (List.ext_getElem e1 (fun j h1 h2 => ?_))
      have := e2 j (by omega)
      rw [List.getD_eq_getElem?_getD, List.getD_eq_getElem?_getD, List.getElem?_eq_getElem h1, List.getElem?_eq_getElem h2] at this
      exact this
  | succ m ih =>
    intro i f hi hf hiff
    refine v_M_place_33 y a1 _ _ _ _ _ S Q ⟨fun c => absurd c (nI_ge (by omega) (by omega)), fun _ => ⟨fun c => ⟨fun _ z ez => ?_, fun c2 => absurd c c2⟩, fun c => ⟨R.ms.1, y + 22, R.ms.r 22 (by omega) (by omega), 320, R.ms.t 22 (by omega) (by omega), ?_⟩⟩⟩
    · rw [ez, nI_1]
      exact hno (f0 f i hf c hiff)
    · have h1 : f = 1 := by
        rcases (show f = 0 ∨ f = 1 by omega) with h | h
        · exact absurd (by rw [h]; rfl) c
        · exact h
      obtain ⟨e1, e2⟩ := hiff.mp h1
      have hl20 := ok.1
      obtain ⟨-, bn, -, -⟩ := R.so.2 k hk
      rw [show (16 : Int32) * nI k = nI (16 * k) from pk_mul 16 k, nI_add, nI_add, nI_clamp (show 16 * k + i < 2 ^ 31 by omega), nI_clamp (show o + i < 2 ^ 31 by omega), bn i (by omega), hb i (by omega), nI_1]
      refine ⟨vp_in_nI (by omega) (by omega), N, ht, vp_in_nI (by omega) (by omega), fun c2 z ez => ?_, fun c2 z ez => ?_⟩
      · rw [ez]
        exact ih (i + 1) 0 (by omega) (by omega) ⟨fun h => absurd h (by omega), fun h => absurd (by rw [h.2 i (by omega)]) c2⟩
      · rw [ez]
        refine ih (i + 1) 1 (by omega) (by omega) ⟨fun _ => ⟨e1, fun j hj => ?_⟩, fun _ => rfl⟩
        by_cases hji : j = i
        · rw [hji]; exact sx_inj c2
        · exact e2 j (by omega)
theorem m_pl3 {S0 S : TS} {Q : Option Value → Prop} {a1 N o : Nat} {nm : List B8} (R : RMF y S0 S A) (ok : (aT A).length ≤ 20 ∧ ∀ e ∈ aT A, 1 ≤ e.1.length ∧ e.1.length ≤ 16 ∧ e.2.length ≤ 64) (ht : te S a1 = some (.inl (.byte, N))) (hN : N < 65536) (ho : o + nm.length ≤ N) (hb : BR S a1 o nm) : ∀ (m k : Nat), k + m = (aT A).length → (∀ j, j < (aT A).length → sfI (aT A) nm m k = some j → Q (some (.int (nI j)))) → (sfI (aT A) nm m k = none → Q (some (.int (-1)))) → TP G J_M_place 3 [(0, .ref y), (1, .ref a1), (2, .int (nI o)), (3, .int (nI nm.length)), (4, .int (nI k))] [] S Q := by
  intro m
  have hl20 := ok.1
  induction m with
  | zero =>
    intro k hk h1 h0
    refine v_M_place_3 y a1 _ _ _ S Q ⟨R.ms.1, ?_⟩
    rw [R.so.1]
    exact ⟨fun _ => h0 rfl, fun c => absurd (nI_le (by omega) (by omega)) c⟩
  | succ m ih =>
    intro k hk h1 h0
    simp only [sfI] at h1 h0
    have hk2 : k < (aT A).length := by omega
    have hk16 : (sN1 (aT A) k).length ≤ 16 := (ok.2 _ (sn_mem hk2)).2.1
    have go := fun f => m_pl33 (G := G) (Q := Q) R ok hk2 ht hN ho hb (fun e => h1 k hk2 (by rw [if_pos e])) (fun e => ih (k + 1) (by omega) (fun j hj ej => h1 j hj (by rw [if_neg e]; exact ej)) (fun ej => h0 (by rw [if_neg e]; exact ej))) nm.length 0 f (by omega)
    refine v_M_place_3 y a1 _ _ _ S Q ⟨R.ms.1, ?_⟩
    rw [R.so.1]
    refine ⟨fun c => absurd c (nI_ge hk2 (by omega)), fun _ => ⟨y + 23, R.ms.r 23 (by omega) (by omega), 20, R.ms.t 23 (by omega) (by omega), vp_in_nI (by omega) (by omega), ?_⟩⟩
    rw [nI_clamp (by omega), (R.so.2 k hk2).1]
    refine ⟨fun c => go 0 (by omega) ⟨fun h => absurd h (by omega), fun h => absurd (congrArg nI h.1) c⟩, fun c => go 1 (by omega) ⟨fun _ => ⟨(nI_eq (by omega) (by omega)).mp c, fun j hj => absurd hj (by omega)⟩, fun _ => rfl⟩⟩
theorem m_place {S0 S : TS} {Q : Option Value → Prop} {a1 N o : Nat} {nm : List B8} (R : RMF y S0 S A) (ok : (aT A).length ≤ 20 ∧ ∀ e ∈ aT A, 1 ≤ e.1.length ∧ e.1.length ≤ 16 ∧ e.2.length ≤ 64) (ht : te S a1 = some (.inl (.byte, N))) (hN : N < 65536) (ho : o + nm.length ≤ N) (hb : BR S a1 o nm) (h1 : ∀ j, j < (aT A).length → sfind (aT A) nm = some j → Q (some (.int (nI j)))) (h0 : sfind (aT A) nm = none → Q (some (.int (-1)))) : CP G J_M_place [.ref y, .ref a1, .int (nI o), .int (nI nm.length)] S Q :=
  v_M_place y a1 _ _ S Q (m_pl3 R ok ht hN ho hb (aT A).length 0 (by omega) h1 h0)
theorem r_stored (h : RM y S A) (ok : AOK A) : C0 G J_M_stored [.ref y] S (fun r S' => r = some (.int (fStored A).1) ∧ RMF y S S' (fStored A).2) := by
  have R := h.f
  have hn := ok.nm
  have ht := ok.ts
  have hl20 := ht.1
  refine v_M_stored y S _ ⟨R.ms.1, y + 21, R.ms.r 21 (by omega) (by omega), ?_⟩
  rw [R.nm.1]
  refine m_place (o := 0) R ht (R.ms.t 21 (by omega) (by omega)) (by omega) (by omega) R.nm.2 (fun k hk ek => ⟨_, rfl, fun _ => ?_, fun c => absurd (nI_pos' (by omega)) c⟩) (fun ek => ⟨_, rfl, fun c => absurd c (by decide), fun _ => ?_⟩)
  · have hV : fStored A = (nI (sV1 (aT A) k).length, wB A 1 (sV1 (aT A) k)) := by unfold fStored; rw [ek]
    rw [hV]
    obtain ⟨-, -, v1, v2⟩ := R.so.2 k hk
    have hv64 : (sV1 (aT A) k).length ≤ 64 := (ht.2 _ (sn_mem hk)).2.2
    refine ⟨y + 25, R.ms.r 25 (by omega) (by omega), 20, R.ms.t 25 (by omega) (by omega), vp_in_nI (by omega) (by omega), ?_⟩
    rw [nI_clamp (by omega), v1]
    intro S2 e2
    have ry : tI S2 y = upd (tI S y) 3 (nI (sV1 (aT A) k).length) := by rw [e2, tI_sI, up_s]
    have x2 : Ex (fun a => a = y) S S2 := by rw [e2]; exact (Ex.rf S).I rfl
    have h3 : tI S2 y 3 = nI (sV1 (aT A) k).length := by rw [ry, pk_us]
    refine cpl (b := y + 2) (o := 0) (l := sV1 (aT A) k) (S0 := S2) (H := fun i Si => T0 G J_M_stored 33 [(0, .ref y), (1, .int (nI k)), (2, .int (nI i))] [] Si _) (fun i Si hi xi nx => ?_) (fun S' x' b' f' => ?_)
    · have si := (R.ms.sm x2.1).sm xi.1
      refine v_M_stored_33 y _ _ Si _ ⟨si.1, ?_⟩
      rw [(xi.2 y (by omega)).1, h3]
      refine ⟨fun c => absurd c (nI_ge hi (by omega)), fun _ => ⟨y + 2, si.r 2 (by omega) (by omega), y + 24, si.r 24 (by omega) (by omega), 1280, si.t 24 (by omega) (by omega), ?_⟩⟩
      rw [show (64 : Int32) * nI k = nI (64 * k) from pk_mul 64 k, nI_add, nI_clamp (show 64 * k + i < 2 ^ 31 by omega), nI_clamp (show i < 2 ^ 31 by omega), (xi.2 (y + 24) (by omega)).1, (x2.2 (y + 24) (by omega)).1, v2 i hi, nar1s, nI_1]
      refine ⟨vp_in_nI (by omega) (by omega), 128, si.t 2 (by omega) (by omega), vp_in_nI (by omega) (by omega), fun S12 e12 z ez => ?_⟩
      rw [ez]
      exact nx S12 (by rw [Nat.zero_add]; exact e12)
    · have s' := (R.ms.sm x2.1).sm x'.1
      refine v_M_stored_33 y _ _ S' _ ⟨s'.1, ?_⟩
      rw [(x'.2 y (by omega)).1, h3]
      refine ⟨fun _ => ⟨rfl, R.out ⟨(x2.mono (fun a z => Or.inl z)).tr (x'.mono (fun a z => Or.inr z)), fun f hf => by rw [(x'.2 y (by omega)).1, ry, pk_un hf]⟩ ⟨by rw [(x'.2 y (by omega)).1, h3], b'⟩⟩, fun c => absurd (Int32.le_refl _) c⟩
  · have hV : fStored A = (-2, A) := by unfold fStored; rw [ek]
    rw [hV]
    exact ⟨rfl, R⟩
theorem m_lk53 {Q : Option Value → Prop} {s : Nat} {x2 : Int32} {S0 : TS} (R : RMF y S0 S A) (hs : s < 2) (hQ : Q (some (.int (nI (khN (fun k => aB A (4 + 8 * s + k)) 8))))) : ∀ (m k : Nat), k + m = 8 → TP G J_M_look 53 [(0, .ref y), (1, .int (nI s)), (2, .int x2), (3, .int (nI (khN (fun k => aB A (4 + 8 * s + k)) k))), (4, .int (nI k))] [] S Q := by
  intro m
  induction m with
  | zero =>
    intro k hk
    have : k = 8 := by omega
    subst this
    exact v_M_look_53 y _ x2 _ _ S Q ⟨fun _ => hQ, fun c => absurd (Int32.le_refl _) c⟩
  | succ m ih =>
    intro k hk
    refine v_M_look_53 y _ x2 _ _ S Q ⟨fun c => absurd c (nI_ge (b := 8) (by omega) (by omega)), fun _ => ⟨R.ms.1, y + 9, R.ms.r 9 (by omega) (by omega), 16, R.ms.t 9 (by omega) (by omega), ?_⟩⟩
    have hk9 : tI S (y + 9) (8 * s + k) = if aB A (4 + (8 * s + k)) = [] then 0 else 1 := (R.ky (8 * s + k) (by omega)).1
    rw [show 4 + (8 * s + k) = 4 + 8 * s + k by omega] at hk9
    rw [show (8 : Int32) * nI s = nI (8 * s) from pk_mul 8 s, nI_add, nI_clamp (by omega), hk9, nI_1]
    have k1 := ih (k + 1) (by omega)
    simp only [khN] at k1
    refine ⟨vp_in_nI (by omega) (by omega), fun c z6 e6 z ez => ?_, fun c z6 e6 z ez => ?_⟩
    · have he : aB A (4 + 8 * s + k) = [] := by
        by_cases h : aB A (4 + 8 * s + k) = []
        · exact h
        · rw [if_neg h] at c; exact absurd c (by decide)
      rw [if_pos he] at k1
      rw [e6, ez, Int32.add_zero]
      exact k1
    · have he : ¬ aB A (4 + 8 * s + k) = [] := fun h => c (by rw [if_pos h])
      rw [if_neg he] at k1
      rw [e6, ez, nI_1]
      exact k1
theorem r_look (h : RM y S A) (s w : Int32) : CP G J_M_look [.ref y, .int s, .int w] S (fun r => r = some (.int (fLook A s w))) := by
  have R := h.f
  refine v_M_look y s w S _ (m_side (fun i hi ei => ⟨1, rfl, fun c => absurd c (by decide), fun _ => ?_⟩) (fun hno => ⟨0, rfl, fun _ => ?_, fun c => absurd rfl c⟩))
  · subst ei
    have hF : ∀ v, (match some i with | none => -1 | some s => if w = 0 then aI A s else if w = 1 then (if aI A s = 2 then aI A (4 + 2 * s) else 0) else if w = 2 then (if aI A s = 2 then aI A (4 + 2 * s + 1) else 0) else if w = 3 then (if aI A s = 2 then aI A (8 + 2 * s) else 0) else if w = 4 then (if aI A s = 2 then aI A (8 + 2 * s + 1) else 0) else if w = 5 then nI (khN (fun k => aB A (4 + 8 * s + k)) 8) else if w = 6 then aI A (2 + s) else -1) = v → fLook A (nI i) w = v := fun v e => by
      unfold fLook
      rw [nof_some hi (by omega)]
      exact e
    have e11 := (R.st i hi).1
    have e12 := (R.st i hi).2
    have in2 : vp_in (nI i) 2 := vp_in_nI (by omega) (by omega)
    refine ⟨fun c => ?_, fun c => ⟨fun c2 => ?_, fun c2 => ?_⟩⟩
    · have hj : ∀ j, j < 7 → w ≠ nI j := fun j hj e => by rw [e] at c; exact nI_pos (by omega) c
      rw [hF (-1) (by simp only [if_neg (show ¬ w = 0 from hj 0 (by omega)), if_neg (show ¬ w = 1 from hj 1 (by omega)), if_neg (show ¬ w = 2 from hj 2 (by omega)), if_neg (show ¬ w = 3 from hj 3 (by omega)), if_neg (show ¬ w = 4 from hj 4 (by omega)), if_neg (show ¬ w = 5 from hj 5 (by omega)), if_neg (show ¬ w = 6 from hj 6 (by omega))])]
    · obtain ⟨j, hj, rfl⟩ := rngJ (N := 6) (by omega) c c2
      have e2i : (2 : Int32) * nI i = nI (2 * i) := pk_mul 2 i
      rcases (show j = 0 ∨ j = 1 ∨ j = 2 ∨ j = 3 ∨ j = 4 ∨ j = 5 ∨ j = 6 by omega) with rfl | rfl | rfl | rfl | rfl | rfl | rfl
      · refine ⟨fun c3 => absurd rfl c3, fun _ => ⟨R.ms.1, y + 11, R.ms.r 11 (by omega) (by omega), 2, R.ms.t 11 (by omega) (by omega), in2, ?_⟩⟩
        rw [nI_clamp (by omega), e11, hF _ rfl]
        rfl
      · refine ⟨fun _ => ⟨fun _ => ⟨fun _ => ⟨R.ms.1, y + 11, R.ms.r 11 (by omega) (by omega), 2, R.ms.t 11 (by omega) (by omega), in2, ?_⟩, fun c3 => absurd c3 (by decide)⟩, fun c3 => absurd c3 (by decide)⟩, fun c3 => absurd c3 (by decide)⟩
        rw [nI_clamp (by omega), e11]
        refine ⟨fun c3 => ⟨fun c4 => absurd c4 (by decide), fun _ => ⟨y + 16, R.ms.r 16 (by omega) (by omega), 4, R.ms.t 16 (by omega) (by omega), ?_⟩⟩, fun c3 => ?_⟩
        · rw [e2i, nI_add, show nI (2 * i + 1) - (1 : Int32) = nI (2 * i) from pk_sub (b := 1) (by omega), nI_clamp (by omega)]
          refine ⟨vp_in_nI (by omega) (by omega), ?_⟩
          rw [show tI S (y + 16) (2 * i) = aI A (4 + 2 * i) from (R.sk i hi c3 0 (by omega)).2.1, hF _ rfl]
          show _ = some (Value.int (if aI A i = 2 then _ else _))
          rw [if_pos c3]
        · rw [hF _ rfl]
          show _ = some (Value.int (if aI A i = 2 then _ else _))
          rw [if_neg c3]
      · refine ⟨fun _ => ⟨fun _ => ⟨fun _ => ⟨R.ms.1, y + 11, R.ms.r 11 (by omega) (by omega), 2, R.ms.t 11 (by omega) (by omega), in2, ?_⟩, fun c3 => absurd c3 (by decide)⟩, fun c3 => absurd c3 (by decide)⟩, fun c3 => absurd c3 (by decide)⟩
        rw [nI_clamp (by omega), e11]
        refine ⟨fun c3 => ⟨fun c4 => absurd c4 (by decide), fun _ => ⟨y + 16, R.ms.r 16 (by omega) (by omega), 4, R.ms.t 16 (by omega) (by omega), ?_⟩⟩, fun c3 => ?_⟩
        · rw [e2i, nI_add, show nI (2 * i + 2) - (1 : Int32) = nI (2 * i + 1) from pk_sub (b := 1) (by omega), nI_clamp (by omega)]
          refine ⟨vp_in_nI (by omega) (by omega), ?_⟩
          rw [(R.sk i hi c3 1 (by omega)).2.1, hF _ rfl]
          show _ = some (Value.int (if aI A i = 2 then _ else _))
          rw [if_pos c3]
        · rw [hF _ rfl]
          show _ = some (Value.int (if aI A i = 2 then _ else _))
          rw [if_neg c3]
      · refine ⟨fun _ => ⟨fun _ => ⟨fun _ => ⟨R.ms.1, y + 11, R.ms.r 11 (by omega) (by omega), 2, R.ms.t 11 (by omega) (by omega), in2, ?_⟩, fun c3 => absurd c3 (by decide)⟩, fun c3 => absurd c3 (by decide)⟩, fun c3 => absurd c3 (by decide)⟩
        rw [nI_clamp (by omega), e11]
        refine ⟨fun c3 => ⟨fun _ => ⟨y + 17, R.ms.r 17 (by omega) (by omega), 4, R.ms.t 17 (by omega) (by omega), ?_⟩, fun c4 => absurd (by decide) c4⟩, fun c3 => ?_⟩
        · rw [e2i, nI_add, show nI (2 * i + 3) - (3 : Int32) = nI (2 * i) from pk_sub (b := 3) (by omega), nI_clamp (by omega)]
          refine ⟨vp_in_nI (by omega) (by omega), ?_⟩
          rw [show tI S (y + 17) (2 * i) = aI A (8 + 2 * i) from (R.sk i hi c3 0 (by omega)).2.2, hF _ rfl]
          show _ = some (Value.int (if aI A i = 2 then _ else _))
          rw [if_pos c3]
        · rw [hF _ rfl]
          show _ = some (Value.int (if aI A i = 2 then _ else _))
          rw [if_neg c3]
      · refine ⟨fun _ => ⟨fun _ => ⟨fun _ => ⟨R.ms.1, y + 11, R.ms.r 11 (by omega) (by omega), 2, R.ms.t 11 (by omega) (by omega), in2, ?_⟩, fun c3 => absurd c3 (by decide)⟩, fun c3 => absurd c3 (by decide)⟩, fun c3 => absurd c3 (by decide)⟩
        rw [nI_clamp (by omega), e11]
        refine ⟨fun c3 => ⟨fun _ => ⟨y + 17, R.ms.r 17 (by omega) (by omega), 4, R.ms.t 17 (by omega) (by omega), ?_⟩, fun c4 => absurd (by decide) c4⟩, fun c3 => ?_⟩
        · rw [e2i, nI_add, show nI (2 * i + 4) - (3 : Int32) = nI (2 * i + 1) from pk_sub (b := 3) (by omega), nI_clamp (by omega)]
          refine ⟨vp_in_nI (by omega) (by omega), ?_⟩
          rw [(R.sk i hi c3 1 (by omega)).2.2, hF _ rfl]
          show _ = some (Value.int (if aI A i = 2 then _ else _))
          rw [if_pos c3]
        · rw [hF _ rfl]
          show _ = some (Value.int (if aI A i = 2 then _ else _))
          rw [if_neg c3]
      · refine ⟨fun _ => ⟨fun _ => ⟨fun c3 => absurd rfl c3, fun _ => m_lk53 R hi ?_ 8 0 (by omega)⟩, fun c3 => absurd c3 (by decide)⟩, fun c3 => absurd c3 (by decide)⟩
        rw [hF _ rfl]
        rfl
      · refine ⟨fun _ => ⟨fun c3 => absurd rfl c3, fun _ => ⟨R.ms.1, y + 12, R.ms.r 12 (by omega) (by omega), 2, R.ms.t 12 (by omega) (by omega), in2, ?_⟩⟩, fun c3 => absurd c3 (by decide)⟩
        rw [nI_clamp (by omega), e12, hF _ rfl]
        rfl
    · have hj : ∀ j, j < 7 → w ≠ nI j := fun j hj e => c2 (by rw [e]; exact nI_le (b := 6) (by omega) (by omega))
      rw [hF (-1) (by simp only [if_neg (show ¬ w = 0 from hj 0 (by omega)), if_neg (show ¬ w = 1 from hj 1 (by omega)), if_neg (show ¬ w = 2 from hj 2 (by omega)), if_neg (show ¬ w = 3 from hj 3 (by omega)), if_neg (show ¬ w = 4 from hj 4 (by omega)), if_neg (show ¬ w = 5 from hj 5 (by omega)), if_neg (show ¬ w = 6 from hj 6 (by omega))])]
  · have hV : fLook A s w = -1 := by unfold fLook; rw [nof_none hno]
    rw [hV]
theorem r_count (h : RM y S A) (w : Int32) : CP G J_M_count [.ref y, .int w] S (fun r => r = some (.int (fCount A w))) := by
  have R := h.f
  obtain ⟨c1, c2, c3⟩ := R.cn
  unfold fCount
  refine v_M_count y w S _ ⟨fun c => ⟨R.ms.1, ?_⟩, fun c => ⟨R.ms.1, ?_⟩, fun c => ⟨R.ms.1, ?_⟩, fun c => ⟨R.ms.1, y + 20, R.ms.r 20 (by omega) (by omega), 2, R.ms.t 20 (by omega) (by omega), ?_⟩, fun c => ⟨R.ms.1, y + 20, R.ms.r 20 (by omega) (by omega), 2, R.ms.t 20 (by omega) (by omega), ?_⟩, fun n0 n1 n2 n3 n4 => ?_⟩
  · rw [if_pos c, R.so.1]
  · subst c; rw [c2]; rfl
  · subst c; rw [c3]; rfl
  · subst c
    refine ⟨vp_in_nI (n := 0) (by omega) (by omega), ?_⟩
    rw [show ((3 : Int32) - 3).toNatClampNeg = 0 from rfl, (R.wi 0 (by omega)).1]
    rfl
  · subst c
    refine ⟨vp_in_nI (n := 1) (by omega) (by omega), ?_⟩
    rw [show ((4 : Int32) - 3).toNatClampNeg = 1 from rfl, (R.wi 1 (by omega)).1]
    rfl
  · rw [if_neg n0, if_neg n1, if_neg n2, if_neg n3, if_neg n4]
end MLK
