/-! THE TYPED LAYER: what the cells hold, as numbers -/
abbrev pT : Type := (FieldType × Nat) ⊕ Nat
abbrev TS : Type := (Nat → Option pT) × (Nat → Nat → Int32) × (Nat → Nat → Int64) × (Nat → Nat → Option Nat) × Nat × Nat
def te (S : TS) : Nat → Option pT := S.1
def tI (S : TS) : Nat → Nat → Int32 := S.2.1
def tL (S : TS) : Nat → Nat → Int64 := S.2.2.1
def tR (S : TS) : Nat → Nat → Option Nat := S.2.2.2.1
def tz (S : TS) : Nat := S.2.2.2.2.1
def tk (S : TS) : Nat := S.2.2.2.2.2
def sI (S : TS) (a : Nat) (f : Nat → Int32) : TS := (te S, va_up (tI S) a f, tL S, tR S, tz S, tk S)
def sL (S : TS) (a : Nat) (f : Nat → Int64) : TS := (te S, tI S, va_up (tL S) a f, tR S, tz S, tk S)
def sR (S : TS) (a : Nat) (f : Nat → Option Nat) : TS := (te S, tI S, tL S, va_up (tR S) a f, tz S, tk S)
def sN (S : TS) (t : pT) (n : Nat) : TS := (va_up (te S) (tz S) (some t), va_up (tI S) (tz S) (fun _ => 0), va_up (tL S) (tz S) (fun _ => 0), va_up (tR S) (tz S) (fun _ => none), tz S + 1, tk S + n)
theorem te_sI (S : TS) (a : Nat) (f : Nat → Int32) : te (sI S a f) = te S := rfl
theorem tI_sI (S : TS) (a : Nat) (f : Nat → Int32) : tI (sI S a f) = va_up (tI S) a f := rfl
theorem tL_sI (S : TS) (a : Nat) (f : Nat → Int32) : tL (sI S a f) = tL S := rfl
theorem tR_sI (S : TS) (a : Nat) (f : Nat → Int32) : tR (sI S a f) = tR S := rfl
theorem tz_sI (S : TS) (a : Nat) (f : Nat → Int32) : tz (sI S a f) = tz S := rfl
theorem tk_sI (S : TS) (a : Nat) (f : Nat → Int32) : tk (sI S a f) = tk S := rfl
theorem te_sL (S : TS) (a : Nat) (f : Nat → Int64) : te (sL S a f) = te S := rfl
theorem tI_sL (S : TS) (a : Nat) (f : Nat → Int64) : tI (sL S a f) = tI S := rfl
theorem tL_sL (S : TS) (a : Nat) (f : Nat → Int64) : tL (sL S a f) = va_up (tL S) a f := rfl
theorem tR_sL (S : TS) (a : Nat) (f : Nat → Int64) : tR (sL S a f) = tR S := rfl
theorem tz_sL (S : TS) (a : Nat) (f : Nat → Int64) : tz (sL S a f) = tz S := rfl
theorem tk_sL (S : TS) (a : Nat) (f : Nat → Int64) : tk (sL S a f) = tk S := rfl
theorem te_sR (S : TS) (a : Nat) (f : Nat → Option Nat) : te (sR S a f) = te S := rfl
theorem tI_sR (S : TS) (a : Nat) (f : Nat → Option Nat) : tI (sR S a f) = tI S := rfl
theorem tL_sR (S : TS) (a : Nat) (f : Nat → Option Nat) : tL (sR S a f) = tL S := rfl
theorem tR_sR (S : TS) (a : Nat) (f : Nat → Option Nat) : tR (sR S a f) = va_up (tR S) a f := rfl
theorem tz_sR (S : TS) (a : Nat) (f : Nat → Option Nat) : tz (sR S a f) = tz S := rfl
theorem tk_sR (S : TS) (a : Nat) (f : Nat → Option Nat) : tk (sR S a f) = tk S := rfl
theorem te_sN (S : TS) (t : pT) (n : Nat) : te (sN S t n) = va_up (te S) (tz S) (some t) := rfl
theorem tI_sN (S : TS) (t : pT) (n : Nat) : tI (sN S t n) = va_up (tI S) (tz S) (fun _ => 0) := rfl
theorem tL_sN (S : TS) (t : pT) (n : Nat) : tL (sN S t n) = va_up (tL S) (tz S) (fun _ => 0) := rfl
theorem tR_sN (S : TS) (t : pT) (n : Nat) : tR (sN S t n) = va_up (tR S) (tz S) (fun _ => none) := rfl
theorem tz_sN (S : TS) (t : pT) (n : Nat) : tz (sN S t n) = tz S + 1 := rfl
theorem tk_sN (S : TS) (t : pT) (n : Nat) : tk (sN S t n) = tk S + n := rfl
def vv (ty : FieldType) (S : TS) (a k : Nat) : Value := match ty with
  | .long => .long (tL S a k)
  | .object _ => va_rf (tR S a k)
  | .array _ => va_rf (tR S a k)
  | _ => .int (tI S a k)
def pcl (S : TS) (a : Nat) (t : pT) : pE := match t with
  | .inl (ty, n) => .inl (ty, n, fun j => vv ty S a j)
  | .inr ci => .inr (ci, fun k => vv (cty ci k) S a k)
def Rp (G : pG) (M : pS) (S : TS) : Prop := M.2 = (tz S, tk S) ∧ gb G ≤ tz S ∧ (∀ (a : Nat) (t : pT), te S a = some t → gb G ≤ a ∧ a < tz S ∧ M.1 a = some (pcl S a t)) ∧ ∀ z ∈ gr G, z.1 < gb G ∧ M.1 z.1 = some (.inl (.int, z.2.1, fun j => .int (z.2.2 j)))
def Fr (S : TS) (M : pS) (S' : TS) (M' : pS) : Prop := ∀ a : Nat, te S' a = none → te S a = none ∧ M'.1 a = M.1 a
def T (G : pG) (J : pJ) (pc : Nat) (lv : List (Nat × Value)) (st : List Value) (S : TS) (Q : Option Value → TS → Prop) : Prop := ∀ M : pS, Rp G M S → E G J pc lv st M (fun r M' => ∃ S' : TS, Rp G M' S' ∧ Fr S M S' M' ∧ Q r S')
def CT (G : pG) (J : pJ) (av : List Value) (S : TS) (Q : Option Value → TS → Prop) : Prop := ∀ M : pS, Rp G M S → C G J av M (fun r M' => ∃ S' : TS, Rp G M' S' ∧ Fr S M S' M' ∧ Q r S')
theorem Fr.rf {S : TS} {M : pS} : Fr S M S M := fun _ h => ⟨h, rfl⟩
theorem Fr.tr {S S1 S2 : TS} {M M1 M2 : pS} (h1 : Fr S M S1 M1) (h2 : Fr S1 M1 S2 M2) : Fr S M S2 M2 := fun a h => ⟨(h1 a (h2 a h).1).1, (h2 a h).2.trans (h1 a (h2 a h).1).2⟩
theorem tt_w {G : pG} {J : pJ} {pc : Nat} {lv : List (Nat × Value)} {st : List Value} {S S1 : TS} {M M1 : pS} {Q : Option Value → TS → Prop} (hR : Rp G M1 S1) (hF : Fr S M S1 M1) (k : T G J pc lv st S1 Q) : E G J pc lv st M1 (fun r M' => ∃ S' : TS, Rp G M' S' ∧ Fr S M S' M' ∧ Q r S') :=
  e_mono (k M1 hR) (fun _ _ h => by obtain ⟨S', h1, h2, h3⟩ := h; exact ⟨S', h1, hF.tr h2, h3⟩)
theorem up_s {α : Type} (f : Nat → α) (a : Nat) (v : α) : va_up f a v a = v := by simp [va_up]
theorem up_n {α : Type} (f : Nat → α) {a b : Nat} (v : α) (h : b ≠ a) : va_up f a v b = f b := by simp [va_up, h]
theorem vv_I {S : TS} {a : Nat} {f : Nat → Int32} {b k : Nat} (ty : FieldType) (h : b ≠ a) : vv ty (sI S a f) b k = vv ty S b k := by cases ty <;> simp [vv, te_sI, tI_sI, tL_sI, tR_sI, tz_sI, tk_sI, va_up, h]
theorem vv_L {S : TS} {a : Nat} {f : Nat → Int64} {b k : Nat} (ty : FieldType) (h : b ≠ a) : vv ty (sL S a f) b k = vv ty S b k := by cases ty <;> simp [vv, te_sL, tI_sL, tL_sL, tR_sL, tz_sL, tk_sL, va_up, h]
theorem vv_R {S : TS} {a : Nat} {f : Nat → Option Nat} {b k : Nat} (ty : FieldType) (h : b ≠ a) : vv ty (sR S a f) b k = vv ty S b k := by cases ty <;> simp [vv, te_sR, tI_sR, tL_sR, tR_sR, tz_sR, tk_sR, va_up, h]
theorem pcl_eq {S S' : TS} {b : Nat} (h : ∀ (ty : FieldType) (k : Nat), vv ty S' b k = vv ty S b k) (t : pT) : pcl S' b t = pcl S b t := by
  rcases t with ⟨ty, n⟩ | ci <;> simp [pcl, h]
/-- a cell written: the new picture -/
theorem Rp.up {G : pG} {M : pS} {S S' : TS} {a : Nat} {t : pT} {x : pE} (h : Rp G M S) (hte : te S a = some t) (h1 : te S' = te S) (h2 : tz S' = tz S) (h3 : tk S' = tk S) (hne : ∀ (b : Nat) (ty : FieldType) (k : Nat), b ≠ a → vv ty S' b k = vv ty S b k) (hx : pcl S' a t = x) : Rp G (mset M a x) S' := by
  obtain ⟨r1, r0, r2, r3⟩ := h
  refine ⟨by rw [h2, h3]; exact r1, by rw [h2]; exact r0, fun b u hu => ?_, fun z hz => ?_⟩
  · rw [h1] at hu
    rw [h2]
    by_cases hb : b = a
    · subst hb
      rw [hte] at hu
      cases hu
      exact ⟨(r2 b t hte).1, (r2 b t hte).2.1, by simp [mset, hx]⟩
    · refine ⟨(r2 b u hu).1, (r2 b u hu).2.1, ?_⟩
      rw [pcl_eq (fun ty k => hne b ty k hb)]
      simp [mset, hb, (r2 b u hu).2.2]
  · refine ⟨(r3 z hz).1, ?_⟩
    have hb : z.1 ≠ a := fun e => by
      have q1 := (r2 a t hte).1
      have q2 := (r3 z hz).1
      omega
    simp [mset, hb, (r3 z hz).2]
theorem Fr.up {M : pS} {S S' : TS} {a : Nat} {t : pT} {x : pE} (hte : te S a = some t) (h1 : te S' = te S) : Fr S M S' (mset M a x) := by
  intro b hb
  rw [h1] at hb
  have : b ≠ a := fun e => by rw [e, hte] at hb; cases hb
  exact ⟨hb, by simp [mset, this]⟩
def okty : FieldType → Bool
  | .int => true
  | .boolean => true
  | .byte => true
  | .long => true
  | .object _ => true
  | .array _ => true
  | _ => false
theorem vv0 {S : TS} {t : pT} {n k : Nat} {ty : FieldType} (h : okty ty = true) : vv ty (sN S t n) (tz S) k = defaultValue ty := by
  cases ty <;> first | (simp [okty] at h; done) | (simp [vv, te_sN, tI_sN, tL_sN, tR_sN, tz_sN, tk_sN, va_up, va_rf, defaultValue])
theorem Rp.nw {G : pG} {M : pS} {S : TS} {t : pT} {x : pE} {n : Nat} (h : Rp G M S) (hx : pcl (sN S t n) (tz S) t = x) : Rp G (mnew M x n) (sN S t n) ∧ Fr S M (sN S t n) (mnew M x n) := by
  obtain ⟨r1, r0, r2, r3⟩ := h
  have q1 : M.2.1 = tz S := by rw [r1]
  have q2 : M.2.2 = tk S := by rw [r1]
  have hno : te S (tz S) = none := by
    cases hc : te S (tz S) with
    | none => rfl
    | some u => exact absurd (r2 _ u hc).2.1 (Nat.lt_irrefl _)
  have hv : ∀ (b : Nat) (ty : FieldType) (k : Nat), b ≠ tz S → vv ty (sN S t n) b k = vv ty S b k := by
    intro b ty k hb
    cases ty <;> simp [vv, te_sN, tI_sN, tL_sN, tR_sN, tz_sN, tk_sN, va_up, hb]
  refine ⟨⟨by simp [mnew, te_sN, tI_sN, tL_sN, tR_sN, tz_sN, tk_sN, q1, q2], Nat.le_succ_of_le r0, fun b u hu => ?_, fun z hz => ?_⟩, fun b hb => ?_⟩
  · by_cases hb : b = tz S
    · subst hb
      have : some t = some u := by simpa [te_sN, tI_sN, tL_sN, tR_sN, tz_sN, tk_sN, va_up] using hu
      cases this
      exact ⟨r0, Nat.lt_succ_self _, by simp [mnew, q1, hx]⟩
    · have hu' : te S b = some u := by simpa [te_sN, tI_sN, tL_sN, tR_sN, tz_sN, tk_sN, va_up, hb] using hu
      refine ⟨(r2 b u hu').1, Nat.lt_succ_of_lt (r2 b u hu').2.1, ?_⟩
      rw [pcl_eq (fun ty k => hv b ty k hb)]
      simp [mnew, q1, hb, (r2 b u hu').2.2]
  · refine ⟨(r3 z hz).1, ?_⟩
    have hb : z.1 ≠ tz S := fun e => by
      have q3 := (r3 z hz).1
      omega
    simp [mnew, q1, hb, (r3 z hz).2]
  · by_cases hz : b = tz S
    · subst hz
      simp [te_sN, tI_sN, tL_sN, tR_sN, tz_sN, tk_sN, va_up] at hb
    · have hb' : te S b = none := by simpa [te_sN, tI_sN, tL_sN, tR_sN, tz_sN, tk_sN, va_up, hz] using hb
      exact ⟨hb', by simp [mnew, q1, hz]⟩
section TYPED
variable {G : pG} {J K : pJ} {pc n idx : Nat} {lv lv' : List (Nat × Value)} {st rest As : List Value} {S : TS} {Q : Option Value → TS → Prop}
theorem tt_of {pc' : Nat} {st' : List Value} (f : ∀ (M : pS) (Q' : Option Value → pS → Prop), E G J pc' lv' st' M Q' → E G J pc lv st M Q') (k : T G J pc' lv' st' S Q) : T G J pc lv st S Q := fun M hR => f M _ (k M hR)
theorem tt_lv (lv' : List (Nat × Value)) (h : ∀ q ∈ lv', q ∈ lv) (k : T G J pc lv' st S Q) : T G J pc lv st S Q := tt_of (fun _ _ => e_lv lv' h) k
theorem tt_mono {Q' : Option Value → TS → Prop} (k : T G J pc lv st S Q) (h : ∀ r S', Q r S' → Q' r S') : T G J pc lv st S Q' := fun M hR => e_mono (k M hR) (fun _ _ q => by obtain ⟨S', h1, h2, h3⟩ := q; exact ⟨S', h1, h2, h _ _ h3⟩)
theorem ct_mono {av : List Value} {Q' : Option Value → TS → Prop} (k : CT G J av S Q) (h : ∀ r S', Q r S' → Q' r S') : CT G J av S Q' := fun M hR => c_mono (k M hR) (fun _ _ q => by obtain ⟨S', h1, h2, h3⟩ := q; exact ⟨S', h1, h2, h _ _ h3⟩)
theorem ct_of {av : List Value} (hy : plainName (jy J).cls = true) (hl : (lg_sl av).length ≤ jl J) (hv : lv_args 0 av = lv) (h : T G J 0 lv [] S Q) : CT G J av S Q := fun M hR => c_of hy hl hv (h M hR)
theorem tt_iret {x : Int32} (hd : decode (jc J) pc = .ok (.ireturn, 1)) (hr : jr J = some .int) (hQ : Q (some (.int x)) S) : T G J pc lv [.int x] S Q := fun _ hR => e_iret hd hr ⟨S, hR, Fr.rf, hQ⟩
theorem tt_zret {x : Int32} (hd : decode (jc J) pc = .ok (.ireturn, 1)) (hr : jr J = some .boolean) (hn : narrow .boolean (.int x) = .int x) (hQ : Q (some (.int x)) S) : T G J pc lv [.int x] S Q := fun _ hR => e_zret hd hr hn ⟨S, hR, Fr.rf, hQ⟩
theorem tt_lret {x : Int64} (hd : decode (jc J) pc = .ok (.lreturn, 1)) (hr : jr J = some .long) (hQ : Q (some (.long x)) S) : T G J pc lv [.long x] S Q := fun _ hR => e_lret hd hr ⟨S, hR, Fr.rf, hQ⟩
theorem tt_aret {a : Nat} {nm : String} (hd : decode (jc J) pc = .ok (.areturn, 1)) (hr : jr J = some (.object nm)) (hQ : Q (some (.ref a)) S) : T G J pc lv [.ref a] S Q := fun _ hR => e_aret hd hr (Or.inl ⟨nm, rfl⟩) ⟨S, hR, Fr.rf, hQ⟩
theorem tt_vret (hd : decode (jc J) pc = .ok (.return_, 1)) (hr : jr J = none) (hQ : Q none S) : T G J pc lv [] S Q := fun _ hR => e_vret hd hr ⟨S, hR, Fr.rf, hQ⟩
theorem tt_topi {x : Int32} (k : ∀ y : Int32, y = x → T G J pc lv (.int y :: st) S Q) : T G J pc lv (.int x :: st) S Q := k x rfl
theorem tt_topl {x : Int64} (k : ∀ y : Int64, y = x → T G J pc lv (.long y :: st) S Q) : T G J pc lv (.long x :: st) S Q := k x rfl
/-! fields -/
theorem tt_getI {ci k a N : Nat} {C : String} {F : u_T} (hd : decode (jc J) pc = .ok (.getfield idx, 3)) (hc : KC ci C F N (cty ci)) (hk : k < N) (hlk : Cond.fieldLink (jy J).cls idx (F k).1 (F k).2.1 (F k).2.2.1 ∈ wG) (hty : ∀ S : TS, vv (cty ci k) S a k = .int (tI S a k)) (hte : te S a = some (.inr ci)) (kk : T G J (pc + 3) lv (.int (tI S a k) :: st) S Q) : T G J pc lv (.ref a :: st) S Q :=
  fun M hR => e_getf hd hc hk hlk (hR.2.2.1 a _ hte).2.2 (by show E G J (pc + 3) lv (vv (cty ci k) S a k :: st) M _; rw [hty]; exact kk M hR)
theorem tt_getR {ci k a b N : Nat} {C : String} {F : u_T} (hd : decode (jc J) pc = .ok (.getfield idx, 3)) (hc : KC ci C F N (cty ci)) (hk : k < N) (hlk : Cond.fieldLink (jy J).cls idx (F k).1 (F k).2.1 (F k).2.2.1 ∈ wG) (hty : ∀ S : TS, vv (cty ci k) S a k = va_rf (tR S a k)) (hte : te S a = some (.inr ci)) (hr : tR S a k = some b) (kk : T G J (pc + 3) lv (.ref b :: st) S Q) : T G J pc lv (.ref a :: st) S Q :=
  fun M hR => e_getf hd hc hk hlk (hR.2.2.1 a _ hte).2.2 (by show E G J (pc + 3) lv (vv (cty ci k) S a k :: st) M _; rw [hty, hr]; exact kk M hR)
theorem tt_putI {ci k a N : Nat} {v : Int32} {C : String} {F : u_T} (hd : decode (jc J) pc = .ok (.putfield idx, 3)) (hc : KC ci C F N (cty ci)) (hk : k < N) (hlk : Cond.fieldLink (jy J).cls idx (F k).1 (F k).2.1 (F k).2.2.1 ∈ wG) (hfin : (F k).2.2.2 = false) (hty : cty ci k = .int) (hte : te S a = some (.inr ci)) (kk : T G J (pc + 3) lv st (sI S a (upd (tI S a) k v)) Q) : T G J pc lv (.int v :: .ref a :: st) S Q := by
  intro M hR
  refine e_putf hd hc hk hlk hfin (by rw [hty]; rfl) (by rw [hty]; rfl) (hR.2.2.1 a _ hte).2.2 ?_
  refine tt_w (hR.up (S' := sI S a (upd (tI S a) k v)) hte rfl rfl rfl (fun b ty j hb => vv_I ty hb) ?_) (Fr.up (S' := sI S a (upd (tI S a) k v)) hte rfl) kk
  simp only [pcl]
  congr 2
  funext j
  by_cases hj : j = k
  · subst hj
    simp [hty, vv, te_sI, tI_sI, tL_sI, tR_sI, tz_sI, tk_sI, va_up, upd, updV]
  · simp only [updV, if_neg hj]
    cases hcy : cty ci j <;> simp [vv, te_sI, tI_sI, tL_sI, tR_sI, tz_sI, tk_sI, va_up, upd, hj]
theorem tt_putFI {ci k a N : Nat} {v : Int32} {C : String} {F : u_T} (hd : decode (jc J) pc = .ok (.putfield idx, 3)) (hc : KC ci C F N (cty ci)) (hk : k < N) (hlk : Cond.fieldLink (jy J).cls idx (F k).1 (F k).2.1 (F k).2.2.1 ∈ wG) (hfin : (F k).2.2.2 = true) (hin : (jy J).name = "<init>") (hdecl : (F k).1 = (jy J).cls) (hty : cty ci k = .int) (hte : te S a = some (.inr ci)) (kk : T G J (pc + 3) lv st (sI S a (upd (tI S a) k v)) Q) : T G J pc lv (.int v :: .ref a :: st) S Q := by
  intro M hR
  refine e_putF hd hc hk hlk hfin hin hdecl (by rw [hty]; rfl) (by rw [hty]; rfl) (hR.2.2.1 a _ hte).2.2 ?_
  refine tt_w (hR.up (S' := sI S a (upd (tI S a) k v)) hte rfl rfl rfl (fun b ty j hb => vv_I ty hb) ?_) (Fr.up (S' := sI S a (upd (tI S a) k v)) hte rfl) kk
  simp only [pcl]
  congr 2
  funext j
  by_cases hj : j = k
  · subst hj
    simp [hty, vv, te_sI, tI_sI, tL_sI, tR_sI, tz_sI, tk_sI, va_up, upd, updV]
  · simp only [updV, if_neg hj]
    cases hcy : cty ci j <;> simp [vv, te_sI, tI_sI, tL_sI, tR_sI, tz_sI, tk_sI, va_up, upd, hj]
theorem tt_putFR {ci k a b N : Nat} {C : String} {F : u_T} (hd : decode (jc J) pc = .ok (.putfield idx, 3)) (hc : KC ci C F N (cty ci)) (hk : k < N) (hlk : Cond.fieldLink (jy J).cls idx (F k).1 (F k).2.1 (F k).2.2.1 ∈ wG) (hfin : (F k).2.2.2 = true) (hin : (jy J).name = "<init>") (hdecl : (F k).1 = (jy J).cls) (hty : (∃ nm, cty ci k = .object nm) ∨ ∃ t, cty ci k = .array t) (hte : te S a = some (.inr ci)) (kk : T G J (pc + 3) lv st (sR S a (va_up (tR S a) k (some b))) Q) : T G J pc lv (.ref b :: .ref a :: st) S Q := by
  intro M hR
  refine e_putF hd hc hk hlk hfin hin hdecl (by rcases hty with ⟨_, h⟩ | ⟨_, h⟩ <;> rw [h] <;> rfl) (by rcases hty with ⟨_, h⟩ | ⟨_, h⟩ <;> rw [h] <;> rfl) (hR.2.2.1 a _ hte).2.2 ?_
  refine tt_w (hR.up (S' := sR S a (va_up (tR S a) k (some b))) hte rfl rfl rfl (fun b ty j hb => vv_R ty hb) ?_) (Fr.up (S' := sR S a (va_up (tR S a) k (some b))) hte rfl) kk
  simp only [pcl]
  congr 2
  funext j
  by_cases hj : j = k
  · subst hj
    rcases hty with ⟨_, h⟩ | ⟨_, h⟩ <;> simp [h, vv, te_sR, tI_sR, tL_sR, tR_sR, tz_sR, tk_sR, va_up, updV, va_rf]
  · simp only [updV, if_neg hj]
    cases hcy : cty ci j <;> simp [vv, te_sR, tI_sR, tL_sR, tR_sR, tz_sR, tk_sR, va_up, hj]
theorem tt_gets {z : String × String × String × Value} (hd : decode (jc J) pc = .ok (.getstatic idx, 3)) (hz : z ∈ gs G) (hlk : Cond.fieldLink (jy J).cls idx z.1 z.2.1 z.2.2.1 ∈ wG) (kk : T G J (pc + 3) lv (z.2.2.2 :: st) S Q) : T G J pc lv st S Q := tt_of (fun _ _ => e_gets hd hz hlk) kk
/-! rows -/
theorem tt_iro {a n : Nat} {f : Nat → Int32} {i : Int32} (hd : decode (jc J) pc = .ok (.iaload, 1)) (hz : (a, n, f) ∈ gr G) (hin : vp_in i n) (kk : T G J (pc + 1) lv (.int (f i.toNatClampNeg) :: st) S Q) : T G J pc lv (.int i :: .ref a :: st) S Q :=
  fun M hR => e_iald hd (hR.2.2.2 _ hz).2 hin (kk M hR)
theorem tt_alen {a : Nat} {ty : FieldType} (hd : decode (jc J) pc = .ok (.arraylength, 1)) (hte : te S a = some (.inl (ty, n))) (kk : T G J (pc + 1) lv (.int (nI n) :: st) S Q) : T G J pc lv (.ref a :: st) S Q :=
  fun M hR => e_alen hd (hR.2.2.1 a _ hte).2.2 (kk M hR)
theorem tt_aald {a b : Nat} {nm : String} {i : Int32} (hd : decode (jc J) pc = .ok (.aaload, 1)) (hte : te S a = some (.inl (.object nm, n))) (hin : vp_in i n) (hr : tR S a i.toNatClampNeg = some b) (kk : T G J (pc + 1) lv (.ref b :: st) S Q) : T G J pc lv (.int i :: .ref a :: st) S Q :=
  fun M hR => e_aald hd rfl (hR.2.2.1 a _ hte).2.2 hin (by show E G J (pc + 1) lv (va_rf (tR S a i.toNatClampNeg) :: st) M _; rw [hr]; exact kk M hR)
theorem tt_iald {a : Nat} {i : Int32} (hd : decode (jc J) pc = .ok (.iaload, 1)) (hte : te S a = some (.inl (.int, n))) (hin : vp_in i n) (kk : T G J (pc + 1) lv (.int (tI S a i.toNatClampNeg) :: st) S Q) : T G J pc lv (.int i :: .ref a :: st) S Q :=
  fun M hR => e_iald hd (hR.2.2.1 a _ hte).2.2 hin (kk M hR)
theorem tt_bald {a : Nat} {i : Int32} (hd : decode (jc J) pc = .ok (.baload, 1)) (hte : te S a = some (.inl (.byte, n))) (hin : vp_in i n) (kk : T G J (pc + 1) lv (.int (tI S a i.toNatClampNeg) :: st) S Q) : T G J pc lv (.int i :: .ref a :: st) S Q :=
  fun M hR => e_bald hd (hR.2.2.1 a _ hte).2.2 hin (kk M hR)
theorem tt_zald {a : Nat} {i : Int32} (hd : decode (jc J) pc = .ok (.baload, 1)) (hte : te S a = some (.inl (.boolean, n))) (hin : vp_in i n) (kk : T G J (pc + 1) lv (.int (tI S a i.toNatClampNeg) :: st) S Q) : T G J pc lv (.int i :: .ref a :: st) S Q :=
  fun M hR => e_zald hd (hR.2.2.1 a _ hte).2.2 hin (kk M hR)
theorem tt_lald {a : Nat} {i : Int32} (hd : decode (jc J) pc = .ok (.laload, 1)) (hte : te S a = some (.inl (.long, n))) (hin : vp_in i n) (kk : T G J (pc + 1) lv (.long (tL S a i.toNatClampNeg) :: st) S Q) : T G J pc lv (.int i :: .ref a :: st) S Q :=
  fun M hR => e_lald hd (hR.2.2.1 a _ hte).2.2 hin (kk M hR)
theorem tt_iast {a : Nat} {i x : Int32} (hd : decode (jc J) pc = .ok (.iastore, 1)) (hte : te S a = some (.inl (.int, n))) (hin : vp_in i n) (kk : T G J (pc + 1) lv st (sI S a (upd (tI S a) i.toNatClampNeg (x))) Q) : T G J pc lv (.int x :: .int i :: .ref a :: st) S Q := by
  intro M hR
  refine e_iast hd (hR.2.2.1 a _ hte).1 (hR.2.2.1 a _ hte).2.2 hin ?_
  refine tt_w (hR.up (S' := sI S a (upd (tI S a) i.toNatClampNeg (x))) hte rfl rfl rfl (fun b ty j hb => vv_I ty hb) ?_) (Fr.up (S' := sI S a (upd (tI S a) i.toNatClampNeg (x))) hte rfl) kk
  simp only [pcl]
  congr 3
  funext j
  by_cases hj : j = i.toNatClampNeg
  · subst hj
    simp [vv, te_sI, tI_sI, tL_sI, tR_sI, tz_sI, tk_sI, va_up, upd, updV, narrow, vp_nar]
  · simp [vv, te_sI, tI_sI, tL_sI, tR_sI, tz_sI, tk_sI, va_up, upd, updV, hj]
theorem tt_bast {a : Nat} {i x : Int32} (hd : decode (jc J) pc = .ok (.bastore, 1)) (hte : te S a = some (.inl (.byte, n))) (hin : vp_in i n) (kk : T G J (pc + 1) lv st (sI S a (upd (tI S a) i.toNatClampNeg (x.toInt8.toInt32))) Q) : T G J pc lv (.int x :: .int i :: .ref a :: st) S Q := by
  intro M hR
  refine e_bast hd (hR.2.2.1 a _ hte).1 (hR.2.2.1 a _ hte).2.2 hin ?_
  refine tt_w (hR.up (S' := sI S a (upd (tI S a) i.toNatClampNeg (x.toInt8.toInt32))) hte rfl rfl rfl (fun b ty j hb => vv_I ty hb) ?_) (Fr.up (S' := sI S a (upd (tI S a) i.toNatClampNeg (x.toInt8.toInt32))) hte rfl) kk
  simp only [pcl]
  congr 3
  funext j
  by_cases hj : j = i.toNatClampNeg
  · subst hj
    simp [vv, te_sI, tI_sI, tL_sI, tR_sI, tz_sI, tk_sI, va_up, upd, updV, narrow, vp_nar]
  · simp [vv, te_sI, tI_sI, tL_sI, tR_sI, tz_sI, tk_sI, va_up, upd, updV, hj]
theorem tt_zast {a : Nat} {i x : Int32} (hd : decode (jc J) pc = .ok (.bastore, 1)) (hte : te S a = some (.inl (.boolean, n))) (hin : vp_in i n) (kk : T G J (pc + 1) lv st (sI S a (upd (tI S a) i.toNatClampNeg (vp_nar .boolean x))) Q) : T G J pc lv (.int x :: .int i :: .ref a :: st) S Q := by
  intro M hR
  refine e_zast hd (hR.2.2.1 a _ hte).1 (hR.2.2.1 a _ hte).2.2 hin ?_
  refine tt_w (hR.up (S' := sI S a (upd (tI S a) i.toNatClampNeg (vp_nar .boolean x))) hte rfl rfl rfl (fun b ty j hb => vv_I ty hb) ?_) (Fr.up (S' := sI S a (upd (tI S a) i.toNatClampNeg (vp_nar .boolean x))) hte rfl) kk
  simp only [pcl]
  congr 3
  funext j
  by_cases hj : j = i.toNatClampNeg
  · subst hj
    simp [vv, te_sI, tI_sI, tL_sI, tR_sI, tz_sI, tk_sI, va_up, upd, updV, narrow, vp_nar]
  · simp [vv, te_sI, tI_sI, tL_sI, tR_sI, tz_sI, tk_sI, va_up, upd, updV, hj]
theorem tt_last {a : Nat} {i : Int32} {x : Int64} (hd : decode (jc J) pc = .ok (.lastore, 1)) (hte : te S a = some (.inl (.long, n))) (hin : vp_in i n) (kk : T G J (pc + 1) lv st (sL S a (vp_updL (tL S a) i.toNatClampNeg x)) Q) : T G J pc lv (.long x :: .int i :: .ref a :: st) S Q := by
  intro M hR
  refine e_last hd (hR.2.2.1 a _ hte).1 (hR.2.2.1 a _ hte).2.2 hin ?_
  refine tt_w (hR.up (S' := sL S a (vp_updL (tL S a) i.toNatClampNeg x)) hte rfl rfl rfl (fun b ty j hb => vv_L ty hb) ?_) (Fr.up (S' := sL S a (vp_updL (tL S a) i.toNatClampNeg x)) hte rfl) kk
  simp only [pcl]
  congr 3
  funext j
  by_cases hj : j = i.toNatClampNeg
  · subst hj
    simp [vv, te_sL, tI_sL, tL_sL, tR_sL, tz_sL, tk_sL, va_up, vp_updL, updV]
  · simp [vv, te_sL, tI_sL, tL_sL, tR_sL, tz_sL, tk_sL, va_up, vp_updL, updV, hj]
theorem tt_aast {a v ci : Nat} {r : vw_C} {i : Int32} (hd : decode (jc J) pc = .ok (.aastore, 1)) (hte : te S a = some (.inl (.object r.1, n))) (hc : vwCl[ci]? = some r) (hv : te S v = some (.inr ci)) (hin : vp_in i n) (kk : T G J (pc + 1) lv st (sR S a (va_up (tR S a) i.toNatClampNeg (some v))) Q) : T G J pc lv (.ref v :: .int i :: .ref a :: st) S Q := by
  intro M hR
  refine e_aast hd (hR.2.2.1 a _ hte).1 (hR.2.2.1 a _ hte).2.2 (hR.2.2.1 v _ hv).2.2 hc hin ?_
  refine tt_w (hR.up (S' := sR S a (va_up (tR S a) i.toNatClampNeg (some v))) hte rfl rfl rfl (fun b ty j hb => vv_R ty hb) ?_) (Fr.up (S' := sR S a (va_up (tR S a) i.toNatClampNeg (some v))) hte rfl) kk
  simp only [pcl]
  congr 3
  funext j
  by_cases hj : j = i.toNatClampNeg
  · subst hj
    simp [vv, te_sR, tI_sR, tL_sR, tR_sR, tz_sR, tk_sR, va_up, updV, va_rf]
  · simp [vv, te_sR, tI_sR, tL_sR, tR_sR, tz_sR, tk_sR, va_up, updV, hj]
theorem tt_newarr {at0 : ArrayType} {x : Int32} (hd : decode (jc J) pc = .ok (.newarray at0, 2)) (harr : Cond.arrayClass (newarray.typeOf at0) ∈ wG) (hok : okty (newarray.typeOf at0) = true) (hn : ¬ x < 0) (hN : x.toNatClampNeg = n) (hbytes : n * componentBytes (newarray.typeOf at0) ≤ 536870912)
    (kk : T G J (pc + 2) lv (.ref (tz S) :: st) (sN S (.inl (newarray.typeOf at0, n)) n) Q) : T G J pc lv (.int x :: st) S Q := by
  intro M hR
  have hz : M.2.1 = tz S := by rw [hR.1]
  refine e_newarr hd harr hn hN hbytes ?_
  have h2 := hR.nw (t := .inl (newarray.typeOf at0, n)) (n := n) (x := .inl (newarray.typeOf at0, n, fun _ => defaultValue (newarray.typeOf at0))) (by simp only [pcl]; congr 3; funext j; exact vv0 hok)
  rw [hz]
  exact tt_w h2.1 h2.2 kk
theorem tt_anew {C : String} {x : Int32} (hd : decode (jc J) pc = .ok (.anewarray idx, 3)) (hlk : Cond.classLink (jy J).cls idx C ∈ wG) (hov : C ∈ pOver) (hn : ¬ x < 0) (hN : x.toNatClampNeg = n) (hbytes : n * 4 ≤ 536870912)
    (kk : T G J (pc + 3) lv (.ref (tz S) :: st) (sN S (.inl (.object C, n)) n) Q) : T G J pc lv (.int x :: st) S Q := by
  intro M hR
  have hz : M.2.1 = tz S := by rw [hR.1]
  refine e_anew hd hlk hov hn hN hbytes ?_
  have h2 := hR.nw (t := .inl (.object C, n)) (n := n) (x := .inl (.object C, n, fun _ => .null)) (by simp only [pcl]; congr 3; funext j; exact vv0 rfl)
  rw [hz]
  exact tt_w h2.1 h2.2 kk
theorem tt_new {ci N : Nat} {C : String} {F : u_T} (hd : decode (jc J) pc = .ok (.new idx, 3)) (hc : KC ci C F N (cty ci)) (hlk : Cond.classLink (jy J).cls idx C ∈ wG) (hin : Cond.instantiable C N ∈ wG) (hini : Cond.initialized C ∈ wG) (hok : ∀ j, okty (cty ci j) = true)
    (kk : T G J (pc + 3) lv (.ref (tz S) :: st) (sN S (.inr ci) N) Q) : T G J pc lv st S Q := by
  intro M hR
  have hz : M.2.1 = tz S := by rw [hR.1]
  refine e_new (fs := fun j => defaultValue (cty ci j)) hd hc hlk hin hini (fun _ _ => rfl) ?_
  have h2 := hR.nw (t := .inr ci) (n := N) (x := .inr (ci, fun j => defaultValue (cty ci j))) (by simp only [pcl]; congr 2; funext j; exact vv0 (hok j))
  rw [hz]
  exact tt_w h2.1 h2.2 kk
theorem tt_acopyi {a0 a n0 n1 : Nat} {sp dp x : Int32} (hd : decode (jc J) pc = .ok (.invokestatic idx, 3)) (hl : Cond.methodLink (jy J).cls idx arraycopyName ∈ wG) (hnat : Cond.native arraycopyName ∈ wG) (hstt : Cond.static arraycopyName ∈ wG) (hini : Cond.initialized "java/lang/System" ∈ wG) (hfr : 1 ≤ jf J) (hlo : (st.map fun v => v.category).sum + 18 ≤ jn J)
    (h0 : te S a0 = some (.inl (.int, n0))) (h1 : te S a = some (.inl (.int, n1))) (p1 : ¬ sp < 0) (p2 : ¬ dp < 0) (p3 : ¬ x < 0) (p4 : sp.toNatClampNeg + x.toNatClampNeg ≤ n0) (p5 : dp.toNatClampNeg + x.toNatClampNeg ≤ n1)
    (kk : T G J (pc + 3) lv st (sI S a (va_cpy (tI S a0) (tI S a) sp.toNatClampNeg dp.toNatClampNeg x.toNatClampNeg)) Q) : T G J pc lv (.int x :: .int dp :: .ref a :: .int sp :: .ref a0 :: st) S Q := by
  intro M hR
  refine e_acopyi (f := tI S a0) (g := tI S a) hd hl hnat hstt hini hfr hlo (hR.2.2.1 a _ h1).1 (hR.2.2.1 a0 _ h0).2.2 (hR.2.2.1 a _ h1).2.2 p1 p2 p3 p4 p5 ?_
  refine tt_w (hR.up (S' := sI S a (va_cpy (tI S a0) (tI S a) sp.toNatClampNeg dp.toNatClampNeg x.toNatClampNeg)) h1 rfl rfl rfl (fun b ty j hb => vv_I ty hb) ?_) (Fr.up (S' := sI S a (va_cpy (tI S a0) (tI S a) sp.toNatClampNeg dp.toNatClampNeg x.toNatClampNeg)) h1 rfl) kk
  simp [pcl, vv, te_sI, tI_sI, tL_sI, tR_sI, va_up]
theorem tt_acopyl {a0 a n0 n1 : Nat} {sp dp x : Int32} (hd : decode (jc J) pc = .ok (.invokestatic idx, 3)) (hl : Cond.methodLink (jy J).cls idx arraycopyName ∈ wG) (hnat : Cond.native arraycopyName ∈ wG) (hstt : Cond.static arraycopyName ∈ wG) (hini : Cond.initialized "java/lang/System" ∈ wG) (hfr : 1 ≤ jf J) (hlo : (st.map fun v => v.category).sum + 18 ≤ jn J)
    (h0 : te S a0 = some (.inl (.long, n0))) (h1 : te S a = some (.inl (.long, n1))) (p1 : ¬ sp < 0) (p2 : ¬ dp < 0) (p3 : ¬ x < 0) (p4 : sp.toNatClampNeg + x.toNatClampNeg ≤ n0) (p5 : dp.toNatClampNeg + x.toNatClampNeg ≤ n1)
    (kk : T G J (pc + 3) lv st (sL S a (va_cpy (tL S a0) (tL S a) sp.toNatClampNeg dp.toNatClampNeg x.toNatClampNeg)) Q) : T G J pc lv (.int x :: .int dp :: .ref a :: .int sp :: .ref a0 :: st) S Q := by
  intro M hR
  refine e_acopyl (f := tL S a0) (g := tL S a) hd hl hnat hstt hini hfr hlo (hR.2.2.1 a _ h1).1 (hR.2.2.1 a0 _ h0).2.2 (hR.2.2.1 a _ h1).2.2 p1 p2 p3 p4 p5 ?_
  refine tt_w (hR.up (S' := sL S a (va_cpy (tL S a0) (tL S a) sp.toNatClampNeg dp.toNatClampNeg x.toNatClampNeg)) h1 rfl rfl rfl (fun b ty j hb => vv_L ty hb) ?_) (Fr.up (S' := sL S a (va_cpy (tL S a0) (tL S a) sp.toNatClampNeg dp.toNatClampNeg x.toNatClampNeg)) h1 rfl) kk
  simp [pcl, vv, te_sL, tI_sL, tL_sL, tR_sL, va_up]
theorem tt_acopyro {a0 a n0 n1 : Nat} {f : Nat → Int32} {sp dp x : Int32} (hd : decode (jc J) pc = .ok (.invokestatic idx, 3)) (hl : Cond.methodLink (jy J).cls idx arraycopyName ∈ wG) (hnat : Cond.native arraycopyName ∈ wG) (hstt : Cond.static arraycopyName ∈ wG) (hini : Cond.initialized "java/lang/System" ∈ wG) (hfr : 1 ≤ jf J) (hlo : (st.map fun v => v.category).sum + 18 ≤ jn J)
    (hz : (a0, n0, f) ∈ gr G) (h1 : te S a = some (.inl (.int, n1))) (p1 : ¬ sp < 0) (p2 : ¬ dp < 0) (p3 : ¬ x < 0) (p4 : sp.toNatClampNeg + x.toNatClampNeg ≤ n0) (p5 : dp.toNatClampNeg + x.toNatClampNeg ≤ n1)
    (kk : T G J (pc + 3) lv st (sI S a (va_cpy f (tI S a) sp.toNatClampNeg dp.toNatClampNeg x.toNatClampNeg)) Q) : T G J pc lv (.int x :: .int dp :: .ref a :: .int sp :: .ref a0 :: st) S Q := by
  intro M hR
  refine e_acopyi (f := f) (g := tI S a) hd hl hnat hstt hini hfr hlo (hR.2.2.1 a _ h1).1 (hR.2.2.2 _ hz).2 (hR.2.2.1 a _ h1).2.2 p1 p2 p3 p4 p5 ?_
  refine tt_w (hR.up (S' := sI S a (va_cpy f (tI S a) sp.toNatClampNeg dp.toNatClampNeg x.toNatClampNeg)) h1 rfl rfl rfl (fun b ty j hb => vv_I ty hb) ?_) (Fr.up (S' := sI S a (va_cpy f (tI S a) sp.toNatClampNeg dp.toNatClampNeg x.toNatClampNeg)) h1 rfl) kk
  simp [pcl, vv, te_sI, tI_sI, tL_sI, tR_sI, tz_sI, tk_sI, va_up]
/-! calls -/
theorem tt_callV {b ci : Nat} {r0 : vw_C} (hd : decode (jc J) pc = .ok (.invokevirtual idx, 3)) (hK : LK K n) (hl : Cond.methodLink (jy J).cls idx (jy K) ∈ wG) (hi : Cond.instanceMethod (jy K) ∈ wG) (hse : Cond.selects (jy K).cls (jy K) (jy K) ∈ wG) (hfr : jf K + 1 ≤ jf J) (hlo : 8 + (jl K + 11) + jn K ≤ jn J)
    (hn : As.length = n) (hst : st = As.reverse ++ .ref b :: rest) (hroom : (rest.map fun v => v.category).sum ≤ 8) (hc : vwCl[ci]? = some r0) (hcl : r0.1 = (jy K).cls) (hte : te S b = some (.inr ci))
    (k : CT G K (.ref b :: As) S (fun r S1 => T G J (pc + 3) lv (r.toList ++ rest) S1 Q)) : T G J pc lv st S Q :=
  fun M hR => e_callV hd hK hl hi hse hfr hlo hn hst hroom (hR.2.2.1 b _ hte).2.2 hc hcl (c_mono (k M hR) (fun _ _ h => by obtain ⟨S1, h1, h2, h3⟩ := h; exact tt_w h1 h2 h3))
theorem tt_callS (hd : decode (jc J) pc = .ok (.invokestatic idx, 3)) (hK : LK K n) (hl : Cond.methodLink (jy J).cls idx (jy K) ∈ wG) (hi : Cond.static (jy K) ∈ wG) (hfr : jf K + 1 ≤ jf J) (hlo : 8 + (jl K + 11) + jn K ≤ jn J)
    (hn : As.length = n) (hst : st = As.reverse ++ rest) (hroom : (rest.map fun v => v.category).sum ≤ 8)
    (k : CT G K As S (fun r S1 => T G J (pc + 3) lv (r.toList ++ rest) S1 Q)) : T G J pc lv st S Q :=
  fun M hR => e_callS hd hK hl hi hfr hlo hn hst hroom (c_mono (k M hR) (fun _ _ h => by obtain ⟨S1, h1, h2, h3⟩ := h; exact tt_w h1 h2 h3))
theorem tt_callI {b : Nat} (hd : decode (jc J) pc = .ok (.invokespecial idx, 3)) (hK : LK K n) (hrt : jr K = none) (hl : Cond.methodLink (jy J).cls idx (jy K) ∈ wG) (hi : Cond.instanceMethod (jy K) ∈ wG) (hin : (jy K).name = "<init>") (hfr : jf K + 1 ≤ jf J) (hlo : 8 + (jl K + 11) + jn K ≤ jn J)
    (hn : As.length = n) (hst : st = As.reverse ++ .ref b :: rest) (hroom : (rest.map fun v => v.category).sum ≤ 8)
    (k : CT G K (.ref b :: As) S (fun r S1 => T G J (pc + 3) lv (r.toList ++ rest) S1 Q)) : T G J pc lv st S Q :=
  fun M hR => e_callI hd hK hrt hl hi hin hfr hlo hn hst hroom (c_mono (k M hR) (fun _ _ h => by obtain ⟨S1, h1, h2, h3⟩ := h; exact tt_w h1 h2 h3))
theorem tt_callIN {b : Nat} {host : String} (hd : decode (jc J) pc = .ok (.invokespecial idx, 3)) (hK : LK K n) (hrt : jr K = none) (hl : ((jy J).cls, idx, jy K, host) ∈ pNest) (hi : Cond.instanceMethod (jy K) ∈ wG) (hin : (jy K).name = "<init>") (hfr : jf K + 1 ≤ jf J) (hlo : 8 + (jl K + 11) + jn K ≤ jn J)
    (hn : As.length = n) (hst : st = As.reverse ++ .ref b :: rest) (hroom : (rest.map fun v => v.category).sum ≤ 8)
    (k : CT G K (.ref b :: As) S (fun r S1 => T G J (pc + 3) lv (r.toList ++ rest) S1 Q)) : T G J pc lv st S Q :=
  fun M hR => e_callIN hd hK hrt hl hi hin hfr hlo hn hst hroom (c_mono (k M hR) (fun _ _ h => by obtain ⟨S1, h1, h2, h3⟩ := h; exact tt_w h1 h2 h3))
theorem tt_objInit {b : Nat} (hd : decode (jc J) pc = .ok (.invokespecial idx, 3)) (hl : Cond.methodLink (jy J).cls idx objectInit ∈ wG) (hi : Cond.instanceMethod objectInit ∈ wG) (hco : Cond.code objectInit ⟨#[0xb1]⟩ 1 none ∈ wG) (hfr : 1 ≤ jf J) (hlo : (st.map fun v => v.category).sum + 12 ≤ jn J)
    (k : T G J (pc + 3) lv st S Q) : T G J pc lv (.ref b :: st) S Q := tt_of (fun _ _ => e_objInit hd hl hi hco hfr hlo) k
theorem tt_iconst {n : Int} {v : Int32} (hd : decode (jc J) pc = .ok (.iconst n, 1)) (hv : Int32.ofInt n = v) (k : T G J (pc + 1) lv (.int v :: st) S Q) : T G J pc lv (st) S Q := tt_of (fun _ _ => e_iconst hd hv) k
theorem tt_bipush {n : Int} {v : Int32} (hd : decode (jc J) pc = .ok (.bipush n, 2)) (hv : (Int8.ofInt n).toInt32 = v) (k : T G J (pc + 2) lv (.int v :: st) S Q) : T G J pc lv (st) S Q := tt_of (fun _ _ => e_bipush hd hv) k
theorem tt_sipush {n : Int} {v : Int32} (hd : decode (jc J) pc = .ok (.sipush n, 3)) (hv : (Int16.ofInt n).toInt32 = v) (k : T G J (pc + 3) lv (.int v :: st) S Q) : T G J pc lv (st) S Q := tt_of (fun _ _ => e_sipush hd hv) k
theorem tt_lconst {n : Fin 2} {v : Int64} (hd : decode (jc J) pc = .ok (.lconst n, 1)) (hv : Int64.ofNat (n : Nat) = v) (k : T G J (pc + 1) lv (.long v :: st) S Q) : T G J pc lv (st) S Q := tt_of (fun _ _ => e_lconst hd hv) k
theorem tt_null (hd : decode (jc J) pc = .ok (.aconst_null, 1)) (k : T G J (pc + 1) lv (.null :: st) S Q) : T G J pc lv (st) S Q := tt_of (fun _ _ => e_null hd) k
theorem tt_ldc {i : Nat} {v : Int32} (hd : decode (jc J) pc = .ok (.ldc i, 2)) (hc : Cond.constant (jy J).cls i v ∈ wG) (k : T G J (pc + 2) lv (.int v :: st) S Q) : T G J pc lv (st) S Q := tt_of (fun _ _ => e_ldc hd hc) k
theorem tt_ldc_w {i : Nat} {v : Int32} (hd : decode (jc J) pc = .ok (.ldc_w i, 3)) (hc : Cond.constant (jy J).cls i v ∈ wG) (k : T G J (pc + 3) lv (.int v :: st) S Q) : T G J pc lv (st) S Q := tt_of (fun _ _ => e_ldc_w hd hc) k
theorem tt_ldc2 {i : Nat} {v : Int64} (hd : decode (jc J) pc = .ok (.ldc2_w i, 3)) (hc : Cond.constantLong (jy J).cls i v ∈ wG) (k : T G J (pc + 3) lv (.long v :: st) S Q) : T G J pc lv (st) S Q := tt_of (fun _ _ => e_ldc2 hd hc) k
theorem tt_iload_n {k0 : Fin 4} {x : Int32} (hd : decode (jc J) pc = .ok (.iload_n k0, 1)) (hl : lget lv (k0 : Nat) = some (.int x)) (k : T G J (pc + 1) lv (.int x :: st) S Q) : T G J pc lv (st) S Q := tt_of (fun _ _ => e_iload_n hd hl) k
theorem tt_iload {k0 : Nat} {x : Int32} (hd : decode (jc J) pc = .ok (.iload k0, 2)) (hl : lget lv k0 = some (.int x)) (k : T G J (pc + 2) lv (.int x :: st) S Q) : T G J pc lv (st) S Q := tt_of (fun _ _ => e_iload hd hl) k
theorem tt_istore_n {k0 : Fin 4} {x : Int32} (hd : decode (jc J) pc = .ok (.istore_n k0, 1)) (hn : (k0 : Nat) < jl J) (hl : lput 1 lv (k0 : Nat) (.int x) = lv') (k : T G J (pc + 1) lv' st S Q) : T G J pc lv (.int x :: st) S Q := tt_of (fun _ _ => e_istore_n hd hn hl) k
theorem tt_istore {k0 : Nat} {x : Int32} (hd : decode (jc J) pc = .ok (.istore k0, 2)) (hn : (k0 : Nat) < jl J) (hl : lput 1 lv (k0 : Nat) (.int x) = lv') (k : T G J (pc + 2) lv' st S Q) : T G J pc lv (.int x :: st) S Q := tt_of (fun _ _ => e_istore hd hn hl) k
theorem tt_lload_n {k0 : Fin 4} {x : Int64} (hd : decode (jc J) pc = .ok (.lload_n k0, 1)) (hl : lget lv (k0 : Nat) = some (.long x)) (k : T G J (pc + 1) lv (.long x :: st) S Q) : T G J pc lv (st) S Q := tt_of (fun _ _ => e_lload_n hd hl) k
theorem tt_lload {k0 : Nat} {x : Int64} (hd : decode (jc J) pc = .ok (.lload k0, 2)) (hl : lget lv k0 = some (.long x)) (k : T G J (pc + 2) lv (.long x :: st) S Q) : T G J pc lv (st) S Q := tt_of (fun _ _ => e_lload hd hl) k
theorem tt_lstore_n {k0 : Fin 4} {x : Int64} (hd : decode (jc J) pc = .ok (.lstore_n k0, 1)) (hn : (k0 : Nat) + 1 < jl J) (hl : lput 2 lv (k0 : Nat) (.long x) = lv') (k : T G J (pc + 1) lv' st S Q) : T G J pc lv (.long x :: st) S Q := tt_of (fun _ _ => e_lstore_n hd hn hl) k
theorem tt_lstore {k0 : Nat} {x : Int64} (hd : decode (jc J) pc = .ok (.lstore k0, 2)) (hn : (k0 : Nat) + 1 < jl J) (hl : lput 2 lv (k0 : Nat) (.long x) = lv') (k : T G J (pc + 2) lv' st S Q) : T G J pc lv (.long x :: st) S Q := tt_of (fun _ _ => e_lstore hd hn hl) k
theorem tt_aload_n {k0 : Fin 4} {x : Nat} (hd : decode (jc J) pc = .ok (.aload_n k0, 1)) (hl : lget lv (k0 : Nat) = some (.ref x)) (k : T G J (pc + 1) lv (.ref x :: st) S Q) : T G J pc lv (st) S Q := tt_of (fun _ _ => e_aload_n hd hl) k
theorem tt_aload {k0 : Nat} {x : Nat} (hd : decode (jc J) pc = .ok (.aload k0, 2)) (hl : lget lv k0 = some (.ref x)) (k : T G J (pc + 2) lv (.ref x :: st) S Q) : T G J pc lv (st) S Q := tt_of (fun _ _ => e_aload hd hl) k
theorem tt_astore_n {k0 : Fin 4} {x : Nat} (hd : decode (jc J) pc = .ok (.astore_n k0, 1)) (hn : (k0 : Nat) < jl J) (hl : lput 1 lv (k0 : Nat) (.ref x) = lv') (k : T G J (pc + 1) lv' st S Q) : T G J pc lv (.ref x :: st) S Q := tt_of (fun _ _ => e_astore_n hd hn hl) k
theorem tt_astore {k0 : Nat} {x : Nat} (hd : decode (jc J) pc = .ok (.astore k0, 2)) (hn : (k0 : Nat) < jl J) (hl : lput 1 lv (k0 : Nat) (.ref x) = lv') (k : T G J (pc + 2) lv' st S Q) : T G J pc lv (.ref x :: st) S Q := tt_of (fun _ _ => e_astore hd hn hl) k
theorem tt_iinc {i : Nat} {n : Int} {x v : Int32} (hd : decode (jc J) pc = .ok (.iinc i n, 3)) (hn : i < jl J) (hx : lget lv i = some (.int x)) (hv : x + Int32.ofInt n = v) (hl : lput 1 lv i (.int v) = lv') (k : T G J (pc + 3) lv' st S Q) : T G J pc lv st S Q := tt_of (fun _ _ => e_iinc hd hn hx hv hl) k
theorem tt_iadd {x y : Int32} (hd : decode (jc J) pc = .ok (.iadd, 1)) (k : T G J (pc + 1) lv (.int (x + y) :: st) S Q) : T G J pc lv (.int y :: .int x :: st) S Q := tt_of (fun _ _ => e_iadd hd) k
theorem tt_isub {x y : Int32} (hd : decode (jc J) pc = .ok (.isub, 1)) (k : T G J (pc + 1) lv (.int (x - y) :: st) S Q) : T G J pc lv (.int y :: .int x :: st) S Q := tt_of (fun _ _ => e_isub hd) k
theorem tt_imul {x y : Int32} (hd : decode (jc J) pc = .ok (.imul, 1)) (k : T G J (pc + 1) lv (.int (x * y) :: st) S Q) : T G J pc lv (.int y :: .int x :: st) S Q := tt_of (fun _ _ => e_imul hd) k
theorem tt_iand {x y : Int32} (hd : decode (jc J) pc = .ok (.iand, 1)) (k : T G J (pc + 1) lv (.int (x &&& y) :: st) S Q) : T G J pc lv (.int y :: .int x :: st) S Q := tt_of (fun _ _ => e_iand hd) k
theorem tt_ior {x y : Int32} (hd : decode (jc J) pc = .ok (.ior, 1)) (k : T G J (pc + 1) lv (.int (x ||| y) :: st) S Q) : T G J pc lv (.int y :: .int x :: st) S Q := tt_of (fun _ _ => e_ior hd) k
theorem tt_ixor {x y : Int32} (hd : decode (jc J) pc = .ok (.ixor, 1)) (k : T G J (pc + 1) lv (.int (x ^^^ y) :: st) S Q) : T G J pc lv (.int y :: .int x :: st) S Q := tt_of (fun _ _ => e_ixor hd) k
theorem tt_ladd {x y : Int64} (hd : decode (jc J) pc = .ok (.ladd, 1)) (k : T G J (pc + 1) lv (.long (x + y) :: st) S Q) : T G J pc lv (.long y :: .long x :: st) S Q := tt_of (fun _ _ => e_ladd hd) k
theorem tt_lsub {x y : Int64} (hd : decode (jc J) pc = .ok (.lsub, 1)) (k : T G J (pc + 1) lv (.long (x - y) :: st) S Q) : T G J pc lv (.long y :: .long x :: st) S Q := tt_of (fun _ _ => e_lsub hd) k
theorem tt_lmul {x y : Int64} (hd : decode (jc J) pc = .ok (.lmul, 1)) (k : T G J (pc + 1) lv (.long (x * y) :: st) S Q) : T G J pc lv (.long y :: .long x :: st) S Q := tt_of (fun _ _ => e_lmul hd) k
theorem tt_land {x y : Int64} (hd : decode (jc J) pc = .ok (.land, 1)) (k : T G J (pc + 1) lv (.long (x &&& y) :: st) S Q) : T G J pc lv (.long y :: .long x :: st) S Q := tt_of (fun _ _ => e_land hd) k
theorem tt_lor {x y : Int64} (hd : decode (jc J) pc = .ok (.lor, 1)) (k : T G J (pc + 1) lv (.long (x ||| y) :: st) S Q) : T G J pc lv (.long y :: .long x :: st) S Q := tt_of (fun _ _ => e_lor hd) k
theorem tt_lxor {x y : Int64} (hd : decode (jc J) pc = .ok (.lxor, 1)) (k : T G J (pc + 1) lv (.long (x ^^^ y) :: st) S Q) : T G J pc lv (.long y :: .long x :: st) S Q := tt_of (fun _ _ => e_lxor hd) k
theorem tt_ishl {x y : Int32} (hd : decode (jc J) pc = .ok (.ishl, 1)) (k : T G J (pc + 1) lv (.int (x <<< (y &&& 31)) :: st) S Q) : T G J pc lv (.int y :: .int x :: st) S Q := tt_of (fun _ _ => e_ishl hd) k
theorem tt_ishr {x y : Int32} (hd : decode (jc J) pc = .ok (.ishr, 1)) (k : T G J (pc + 1) lv (.int (x >>> (y &&& 31)) :: st) S Q) : T G J pc lv (.int y :: .int x :: st) S Q := tt_of (fun _ _ => e_ishr hd) k
theorem tt_iushr {x y : Int32} (hd : decode (jc J) pc = .ok (.iushr, 1)) (k : T G J (pc + 1) lv (.int (x.toUInt32 >>> (y.toUInt32 &&& Int32.toUInt32 31)).toInt32 :: st) S Q) : T G J pc lv (.int y :: .int x :: st) S Q := tt_of (fun _ _ => e_iushr hd) k
theorem tt_lushr {x : Int64} {y : Int32} (hd : decode (jc J) pc = .ok (.lushr, 1)) (k : T G J (pc + 1) lv (.long (x.toUInt64 >>> (y.toInt64.toUInt64 &&& Int64.toUInt64 63)).toInt64 :: st) S Q) : T G J pc lv (.int y :: .long x :: st) S Q := tt_of (fun _ _ => e_lushr hd) k
theorem tt_lshl {x : Int64} {y : Int32} (hd : decode (jc J) pc = .ok (.lshl, 1)) (k : T G J (pc + 1) lv (.long (x <<< (y.toInt64 &&& 63)) :: st) S Q) : T G J pc lv (.int y :: .long x :: st) S Q := tt_of (fun _ _ => e_lshl hd) k
theorem tt_lshr {x : Int64} {y : Int32} (hd : decode (jc J) pc = .ok (.lshr, 1)) (k : T G J (pc + 1) lv (.long (x >>> (y.toInt64 &&& 63)) :: st) S Q) : T G J pc lv (.int y :: .long x :: st) S Q := tt_of (fun _ _ => e_lshr hd) k
theorem tt_i2l {x : Int32} (hd : decode (jc J) pc = .ok (.i2l, 1)) (k : T G J (pc + 1) lv (.long x.toInt64 :: st) S Q) : T G J pc lv (.int x :: st) S Q := tt_of (fun _ _ => e_i2l hd) k
theorem tt_l2i {x : Int64} (hd : decode (jc J) pc = .ok (.l2i, 1)) (k : T G J (pc + 1) lv (.int x.toInt32 :: st) S Q) : T G J pc lv (.long x :: st) S Q := tt_of (fun _ _ => e_l2i hd) k
theorem tt_i2b {x : Int32} (hd : decode (jc J) pc = .ok (.i2b, 1)) (k : T G J (pc + 1) lv (.int x.toInt8.toInt32 :: st) S Q) : T G J pc lv (.int x :: st) S Q := tt_of (fun _ _ => e_i2b hd) k
theorem tt_ineg {x : Int32} (hd : decode (jc J) pc = .ok (.ineg, 1)) (k : T G J (pc + 1) lv (.int (-x) :: st) S Q) : T G J pc lv (.int x :: st) S Q := tt_of (fun _ _ => e_ineg hd) k
theorem tt_lneg {x : Int64} (hd : decode (jc J) pc = .ok (.lneg, 1)) (k : T G J (pc + 1) lv (.long (-x) :: st) S Q) : T G J pc lv (.long x :: st) S Q := tt_of (fun _ _ => e_lneg hd) k
theorem tt_idiv {x y : Int32} (hd : decode (jc J) pc = .ok (.idiv, 1)) (hne : ¬ y = 0) (k : T G J (pc + 1) lv (.int (x / y) :: st) S Q) : T G J pc lv (.int y :: .int x :: st) S Q := tt_of (fun _ _ => e_idiv hd hne) k
theorem tt_irem {x y : Int32} (hd : decode (jc J) pc = .ok (.irem, 1)) (hne : ¬ y = 0) (k : T G J (pc + 1) lv (.int (x - x / y * y) :: st) S Q) : T G J pc lv (.int y :: .int x :: st) S Q := tt_of (fun _ _ => e_irem hd hne) k
theorem tt_lcmp {x y : Int64} (hd : decode (jc J) pc = .ok (.lcmp, 1)) (k : T G J (pc + 1) lv (.int (lg_cmp x y) :: st) S Q) : T G J pc lv (.long y :: .long x :: st) S Q := tt_of (fun _ _ => e_lcmp hd) k
theorem tt_dup {a : Value} (hd : decode (jc J) pc = .ok (.dup, 1)) (ha : a.category = 1) (k : T G J (pc + 1) lv (a :: a :: st) S Q) : T G J pc lv (a :: st) S Q := tt_of (fun _ _ => e_dup hd ha) k
theorem tt_pop {a : Value} (hd : decode (jc J) pc = .ok (.pop, 1)) (ha : a.category = 1) (k : T G J (pc + 1) lv (st) S Q) : T G J pc lv (a :: st) S Q := tt_of (fun _ _ => e_pop hd ha) k
theorem tt_dup_x1 {a b : Value} (hd : decode (jc J) pc = .ok (.dup_x1, 1)) (ha : a.category = 1) (hb : b.category = 1) (k : T G J (pc + 1) lv (a :: b :: a :: st) S Q) : T G J pc lv (a :: b :: st) S Q := tt_of (fun _ _ => e_dup_x1 hd ha hb) k
theorem tt_dup_x2 {a b c0 : Value} (hd : decode (jc J) pc = .ok (.dup_x2, 1)) (ha : a.category = 1) (hb : b.category = 1) (hc : c0.category = 1) (k : T G J (pc + 1) lv (a :: b :: c0 :: a :: st) S Q) : T G J pc lv (a :: b :: c0 :: st) S Q := tt_of (fun _ _ => e_dup_x2 hd ha hb hc) k
theorem tt_dup2_11 {a b : Value} (hd : decode (jc J) pc = .ok (.dup2, 1)) (ha : a.category = 1) (hb : b.category = 1) (k : T G J (pc + 1) lv (a :: b :: a :: b :: st) S Q) : T G J pc lv (a :: b :: st) S Q := tt_of (fun _ _ => e_dup2_11 hd ha hb) k
theorem tt_dup2_2 {a : Value} (hd : decode (jc J) pc = .ok (.dup2, 1)) (ha : a.category = 2) (k : T G J (pc + 1) lv (a :: a :: st) S Q) : T G J pc lv (a :: st) S Q := tt_of (fun _ _ => e_dup2_2 hd ha) k
theorem tt_pop2_2 {a : Value} (hd : decode (jc J) pc = .ok (.pop2, 1)) (ha : a.category = 2) (k : T G J (pc + 1) lv (st) S Q) : T G J pc lv (a :: st) S Q := tt_of (fun _ _ => e_pop2_2 hd ha) k
theorem tt_dup2_x1_2 {a b : Value} (hd : decode (jc J) pc = .ok (.dup2_x1, 1)) (ha : a.category = 2) (hb : b.category = 1) (k : T G J (pc + 1) lv (a :: b :: a :: st) S Q) : T G J pc lv (a :: b :: st) S Q := tt_of (fun _ _ => e_dup2_x1_2 hd ha hb) k
theorem tt_dup2_x2_2 {a b c0 : Value} (hd : decode (jc J) pc = .ok (.dup2_x2, 1)) (ha : a.category = 2) (hb : b.category = 1) (hc : c0.category = 1) (k : T G J (pc + 1) lv (a :: b :: c0 :: a :: st) S Q) : T G J pc lv (a :: b :: c0 :: st) S Q := tt_of (fun _ _ => e_dup2_x2_2 hd ha hb hc) k
theorem tt_goto {off : Int} {tgt : Nat} (hd : decode (jc J) pc = .ok (.goto off, 3)) (ht : (pc : Int) + off = (tgt : Int)) (k : T G J tgt lv st S Q) : T G J pc lv st S Q := tt_of (fun _ _ => e_goto hd ht) k
theorem tt_tableOut {dflt lo hi : Int} {offs : Array Int} {len : Nat} {x : Int32} (tgt : Nat) (hd : decode (jc J) pc = .ok (.tableswitch dflt lo hi offs, len)) (h : x.toInt < lo ∨ hi < x.toInt) (ht : (pc : Int) + dflt = (tgt : Int)) (k : T G J tgt lv st S Q) : T G J pc lv (.int x :: st) S Q := tt_of (fun _ _ => e_tableOut tgt hd h ht) k
theorem tt_tableIn {dflt lo hi : Int} {offs : Array Int} {len : Nat} {x : Int32} {off : Int} (tgt : Nat) (hd : decode (jc J) pc = .ok (.tableswitch dflt lo hi offs, len)) (h1 : ¬ x.toInt < lo) (h2 : ¬ hi < x.toInt) (ho : offs[(x.toInt - lo).toNat]? = some off) (ht : (pc : Int) + off = (tgt : Int)) (k : T G J tgt lv st S Q) : T G J pc lv (.int x :: st) S Q := tt_of (fun _ _ => e_tableIn tgt hd h1 h2 ho ht) k
theorem tt_lookup {dflt : Int} {ps : Array (Int × Int)} {len : Nat} {x : Int32} {off : Int} (tgt : Nat) (hd : decode (jc J) pc = .ok (.lookupswitch dflt ps, len)) (hp : (ps.toList.zip (ps.toList.drop 1)).all (fun (a, next) => a.1 < next.1) = true) (ho : Op.lookupswitch.offset ps.toList dflt x.toInt = off) (ht : (pc : Int) + off = (tgt : Int)) (k : T G J tgt lv st S Q) : T G J pc lv (.int x :: st) S Q := tt_of (fun _ _ => e_lookup tgt hd hp ho ht) k
theorem tt_if_eq {x : Int32} {off : Int} (tgt : Nat) (hd : decode (jc J) pc = .ok (.ifCond .eq off, 3)) (ht : (pc : Int) + off = (tgt : Int)) (kt : x = 0 → T G J tgt lv st S Q) (kf : ¬ (x = 0) → T G J (pc + 3) lv st S Q) : T G J pc lv (.int x :: st) S Q := fun M hR => e_if_eq tgt hd ht (fun h => kt h M hR) (fun h => kf h M hR)
theorem tt_icmp_eq {x y : Int32} {off : Int} (tgt : Nat) (hd : decode (jc J) pc = .ok (.if_icmp .eq off, 3)) (ht : (pc : Int) + off = (tgt : Int)) (kt : x = y → T G J tgt lv st S Q) (kf : ¬ (x = y) → T G J (pc + 3) lv st S Q) : T G J pc lv (.int y :: .int x :: st) S Q := fun M hR => e_icmp_eq tgt hd ht (fun h => kt h M hR) (fun h => kf h M hR)
theorem tt_if_ne {x : Int32} {off : Int} (tgt : Nat) (hd : decode (jc J) pc = .ok (.ifCond .ne off, 3)) (ht : (pc : Int) + off = (tgt : Int)) (kt : ¬ x = 0 → T G J tgt lv st S Q) (kf : x = 0 → T G J (pc + 3) lv st S Q) : T G J pc lv (.int x :: st) S Q := fun M hR => e_if_ne tgt hd ht (fun h => kt h M hR) (fun h => kf h M hR)
theorem tt_icmp_ne {x y : Int32} {off : Int} (tgt : Nat) (hd : decode (jc J) pc = .ok (.if_icmp .ne off, 3)) (ht : (pc : Int) + off = (tgt : Int)) (kt : ¬ x = y → T G J tgt lv st S Q) (kf : x = y → T G J (pc + 3) lv st S Q) : T G J pc lv (.int y :: .int x :: st) S Q := fun M hR => e_icmp_ne tgt hd ht (fun h => kt h M hR) (fun h => kf h M hR)
theorem tt_if_lt {x : Int32} {off : Int} (tgt : Nat) (hd : decode (jc J) pc = .ok (.ifCond .lt off, 3)) (ht : (pc : Int) + off = (tgt : Int)) (kt : x < 0 → T G J tgt lv st S Q) (kf : ¬ (x < 0) → T G J (pc + 3) lv st S Q) : T G J pc lv (.int x :: st) S Q := fun M hR => e_if_lt tgt hd ht (fun h => kt h M hR) (fun h => kf h M hR)
theorem tt_icmp_lt {x y : Int32} {off : Int} (tgt : Nat) (hd : decode (jc J) pc = .ok (.if_icmp .lt off, 3)) (ht : (pc : Int) + off = (tgt : Int)) (kt : x < y → T G J tgt lv st S Q) (kf : ¬ (x < y) → T G J (pc + 3) lv st S Q) : T G J pc lv (.int y :: .int x :: st) S Q := fun M hR => e_icmp_lt tgt hd ht (fun h => kt h M hR) (fun h => kf h M hR)
theorem tt_if_ge {x : Int32} {off : Int} (tgt : Nat) (hd : decode (jc J) pc = .ok (.ifCond .ge off, 3)) (ht : (pc : Int) + off = (tgt : Int)) (kt : 0 ≤ x → T G J tgt lv st S Q) (kf : ¬ (0 ≤ x) → T G J (pc + 3) lv st S Q) : T G J pc lv (.int x :: st) S Q := fun M hR => e_if_ge tgt hd ht (fun h => kt h M hR) (fun h => kf h M hR)
theorem tt_icmp_ge {x y : Int32} {off : Int} (tgt : Nat) (hd : decode (jc J) pc = .ok (.if_icmp .ge off, 3)) (ht : (pc : Int) + off = (tgt : Int)) (kt : y ≤ x → T G J tgt lv st S Q) (kf : ¬ (y ≤ x) → T G J (pc + 3) lv st S Q) : T G J pc lv (.int y :: .int x :: st) S Q := fun M hR => e_icmp_ge tgt hd ht (fun h => kt h M hR) (fun h => kf h M hR)
theorem tt_if_gt {x : Int32} {off : Int} (tgt : Nat) (hd : decode (jc J) pc = .ok (.ifCond .gt off, 3)) (ht : (pc : Int) + off = (tgt : Int)) (kt : 0 < x → T G J tgt lv st S Q) (kf : ¬ (0 < x) → T G J (pc + 3) lv st S Q) : T G J pc lv (.int x :: st) S Q := fun M hR => e_if_gt tgt hd ht (fun h => kt h M hR) (fun h => kf h M hR)
theorem tt_icmp_gt {x y : Int32} {off : Int} (tgt : Nat) (hd : decode (jc J) pc = .ok (.if_icmp .gt off, 3)) (ht : (pc : Int) + off = (tgt : Int)) (kt : y < x → T G J tgt lv st S Q) (kf : ¬ (y < x) → T G J (pc + 3) lv st S Q) : T G J pc lv (.int y :: .int x :: st) S Q := fun M hR => e_icmp_gt tgt hd ht (fun h => kt h M hR) (fun h => kf h M hR)
theorem tt_if_le {x : Int32} {off : Int} (tgt : Nat) (hd : decode (jc J) pc = .ok (.ifCond .le off, 3)) (ht : (pc : Int) + off = (tgt : Int)) (kt : x ≤ 0 → T G J tgt lv st S Q) (kf : ¬ (x ≤ 0) → T G J (pc + 3) lv st S Q) : T G J pc lv (.int x :: st) S Q := fun M hR => e_if_le tgt hd ht (fun h => kt h M hR) (fun h => kf h M hR)
theorem tt_icmp_le {x y : Int32} {off : Int} (tgt : Nat) (hd : decode (jc J) pc = .ok (.if_icmp .le off, 3)) (ht : (pc : Int) + off = (tgt : Int)) (kt : x ≤ y → T G J tgt lv st S Q) (kf : ¬ (x ≤ y) → T G J (pc + 3) lv st S Q) : T G J pc lv (.int y :: .int x :: st) S Q := fun M hR => e_icmp_le tgt hd ht (fun h => kt h M hR) (fun h => kf h M hR)
end TYPED
