/-! THE LAW: what its loop keeps -/
abbrev J_L_law : pJ := (⟨"SealedWireLaw", "law", "([I)Z"⟩, code, 4, some .boolean, 10, 432)
abbrev J_L_cell : pJ := (⟨"SealedWireLaw", "cell", "([II)I"⟩, method_2_code, 2, some .int, 0, 0)
theorem LK_L_cell : LK J_L_cell 2 := ⟨w_858, w_0, by decide +kernel, by decide +kernel, by decide +kernel⟩
/-- the script of L ints -/
def SCR (b L : Nat) (xs : Nat → Int32) (M : pS) : Prop := ∃ f : Nat → Value, M.1 b = some (.inl (.int, L, f)) ∧ ∀ j, j < L → f j = .int (xs j)
theorem SCR.fr {G : pG} {b L : Nat} {xs : Nat → Int32} {S S' : TS} {M M' : pS} (h : SCR b L xs M) (hb : b < gb G) (hR : Rp G M' S') (hF : Fr S M S' M') : SCR b L xs M' := by
  have hn : te S' b = none := by
    cases hc : te S' b with
    | none => rfl
    | some t =>
      have := (hR.2.2.1 b t hc).1
      omega
  obtain ⟨f, h1, h2⟩ := h
  exact ⟨f, by rw [(hF b hn).2]; exact h1, h2⟩
section LXR
variable {G : pG} {b L : Nat} {xs : Nat → Int32} {M : pS} {S : TS} {Q : Option Value → pS → Prop} {pc n idx : Nat} {lv : List (Nat × Value)} {st rest As : List Value} {J K : pJ}
theorem lx_callV {a ci : Nat} {r0 : vw_C} (hb : b < gb G) (hR : Rp G M S) (hs : SCR b L xs M) (hd : decode (jc J) pc = .ok (.invokevirtual idx, 3)) (hK : LK K n) (hl : Cond.methodLink (jy J).cls idx (jy K) ∈ wG) (hi : Cond.instanceMethod (jy K) ∈ wG) (hse : Cond.selects (jy K).cls (jy K) (jy K) ∈ wG) (hfr : jf K + 1 ≤ jf J) (hlo : 8 + (jl K + 11) + jn K ≤ jn J)
    (hn : As.length = n) (hst : st = As.reverse ++ .ref a :: rest) (hroom : (rest.map fun v => v.category).sum ≤ 8) (hc : vwCl[ci]? = some r0) (hcl : r0.1 = (jy K).cls) (hte : te S a = some (.inr ci))
    (k : CT G K (.ref a :: As) S (fun r S1 => ∀ M1, Rp G M1 S1 → SCR b L xs M1 → E G J (pc + 3) lv (r.toList ++ rest) M1 Q)) : E G J pc lv st M Q :=
  e_callV hd hK hl hi hse hfr hlo hn hst hroom (hR.2.2.1 a _ hte).2.2 hc hcl (c_mono (k M hR) (fun _ _ h => by obtain ⟨S1, h1, h2, h3⟩ := h; exact h3 _ h1 (hs.fr hb h1 h2)))
theorem lx_callI {a : Nat} (hb : b < gb G) (hR : Rp G M S) (hs : SCR b L xs M) (hd : decode (jc J) pc = .ok (.invokespecial idx, 3)) (hK : LK K n) (hrt : jr K = none) (hl : Cond.methodLink (jy J).cls idx (jy K) ∈ wG) (hi : Cond.instanceMethod (jy K) ∈ wG) (hin : (jy K).name = "<init>") (hfr : jf K + 1 ≤ jf J) (hlo : 8 + (jl K + 11) + jn K ≤ jn J)
    (hn : As.length = n) (hst : st = As.reverse ++ .ref a :: rest) (hroom : (rest.map fun v => v.category).sum ≤ 8)
    (k : CT G K (.ref a :: As) S (fun r S1 => ∀ M1, Rp G M1 S1 → SCR b L xs M1 → E G J (pc + 3) lv (r.toList ++ rest) M1 Q)) : E G J pc lv st M Q :=
  e_callI hd hK hrt hl hi hin hfr hlo hn hst hroom (c_mono (k M hR) (fun _ _ h => by obtain ⟨S1, h1, h2, h3⟩ := h; exact h3 _ h1 (hs.fr hb h1 h2)))
theorem lx_new {ci N : Nat} {C : String} {F : u_T} (hb : b < gb G) (hR : Rp G M S) (hs : SCR b L xs M) (hd : decode (jc J) pc = .ok (.new idx, 3)) (hc : KC ci C F N (cty ci)) (hlk : Cond.classLink (jy J).cls idx C ∈ wG) (hin : Cond.instantiable C N ∈ wG) (hini : Cond.initialized C ∈ wG) (hok : ∀ j, okty (cty ci j) = true)
    (kk : ∀ M1, Rp G M1 (sN S (.inr ci) N) → SCR b L xs M1 → E G J (pc + 3) lv (.ref (tz S) :: st) M1 Q) : E G J pc lv st M Q := by
  have hz : M.2.1 = tz S := by rw [hR.1]
  refine e_new (fs := fun j => defaultValue (cty ci j)) hd hc hlk hin hini (fun _ _ => rfl) ?_
  have h2 := hR.nw (t := .inr ci) (n := N) (x := .inr (ci, fun j => defaultValue (cty ci j))) (by simp only [pcl]; congr 2; funext j; exact vv0 (hok j))
  rw [hz]
  exact kk _ h2.1 (hs.fr hb h2.1 h2.2)
end LXR
/-- the reference's rows aren't the class's -/
theorem RM.sam {y : Nat} {S S' : TS} {A : AS} (h : RM y S A) (e : ∀ a, y ≤ a → a < y + 45 → SAM S S' a) : RM y S' A := by
  have t : ∀ k, k < 45 → tI S' (y + k) = tI S (y + k) := fun k hk => (e (y + k) (by omega) (by omega)).2.1
  have t0 : tI S' y = tI S y := t 0 (by omega)
  have br : ∀ {k o : Nat} {l : List B8}, k < 45 → BR S (y + k) o l → BR S' (y + k) o l := fun hk hb => hb.eq (t _ hk)
  have bl : ∀ {f r : Nat} {l : List B8}, r < 45 → cBL y f r S l → cBL y f r S' l := fun hr hb => ⟨by rw [t0]; exact hb.1, br hr hb.2⟩
  obtain ⟨h0, h1, h2, h3, h4, h5, h6, h7, h8, h9, h10, h11, h12⟩ := h
  refine ⟨⟨by rw [(e y (by omega) (by omega)).1]; exact h0.1, fun i i1 i2 => ⟨by rw [(e y (by omega) (by omega)).2.2.2]; exact (h0.2 i i1 i2).1, by rw [(e (y + i) (by omega) (by omega)).1]; exact (h0.2 i i1 i2).2⟩⟩, bl (by omega) h1, bl (by omega) h2, bl (by omega) h3, bl (by omega) h4, fun j hj => ⟨by rw [t 9 (by omega)]; exact (h5 j hj).1, br (by omega) (h5 j hj).2⟩, fun s hs => ⟨by rw [t 11 (by omega)]; exact (h6 s hs).1, by rw [t 12 (by omega)]; exact (h6 s hs).2⟩, fun c => br (by omega) (h7 c), fun c => ⟨br (by omega) (h8 c).1, br (by omega) (h8 c).2⟩, fun s hs c d hd => ⟨br (by omega) (h9 s hs c d hd).1, by rw [t 16 (by omega)]; exact (h9 s hs c d hd).2.1, by rw [t 17 (by omega)]; exact (h9 s hs c d hd).2.2⟩, fun w hw => ⟨by rw [t 20 (by omega)]; exact (h10 w hw).1, fun k hk => ⟨by rw [t 19 (by omega)]; exact ((h10 w hw).2 k hk).1, br (by omega) ((h10 w hw).2 k hk).2⟩⟩, ⟨by rw [t0]; exact h11.1, fun k hk => ⟨by rw [t 23 (by omega)]; exact (h11.2 k hk).1, br (by omega) (h11.2 k hk).2.1, by rw [t 25 (by omega)]; exact (h11.2 k hk).2.2.1, br (by omega) (h11.2 k hk).2.2.2⟩⟩, ⟨by rw [t0]; exact h12.1, by rw [t0]; exact h12.2.1, by rw [t0]; exact h12.2.2⟩⟩
theorem RC.sam {x : Nat} {S S' : TS} {A : AS} (h : RC x S A) (e : AGR x (x + 264) S S') : RC x S' A := by
  obtain ⟨⟨c1, c2, c3, c4, c5, c6, c7, c8, c9, c10⟩, h2, h3, ⟨f, h4⟩, ⟨g, h5⟩, ⟨fn, fv, h6⟩⟩ := h
  have e0 := e x (by omega) (by omega)
  have bo : ∀ j, j < 28 → bO j + 2 ≤ 264 := by decide
  have io : ∀ j, j < 22 → iO j < 264 := by decide
  refine ⟨⟨by rw [e0.1]; exact c1, fun k hk => by rw [e0.2.2.2]; exact c2 k hk, c3.ag (e.sub (by omega) (by omega)), c4.agr (e.sub (by omega) (by omega)), c5.agr (e.sub (by omega) (by omega)), c6.ag (e.sub (by omega) (by omega)), c7.ag (e.sub (by omega) (by omega)), c8.ag (e.sub (by omega) (by omega)), c9.ag (e.sub (by omega) (by omega)), c10.ag (e.sub (by omega) (by omega))⟩, fun j hj => (h2 j hj).ag (e.sub (by omega) (by have := bo j hj; omega)), fun j hj => by rw [(e (x + iO j) (by omega) (by have := io j hj; omega)).2.1]; exact h3 j hj, ⟨f, h4.ag (e.sub (by omega) (by omega))⟩, ⟨g, h5.ag (e.sub (by omega) (by omega))⟩, ⟨fn, fv, h6.ag (e.sub (by omega) (by omega))⟩⟩
/-- the invariant of the law's loop -/
def LI (G : pG) (b L : Nat) (xs : Nat → Int32) (x y Z K : Nat) (M : pS) (S : TS) (A : AS) : Prop := Rp G M S ∧ SCR b L xs M ∧ RC x S A ∧ RM y S A ∧ AOK A ∧ tz S = Z ∧ tk S = K
section LWR
variable {G : pG} {b L x y Z K : Nat} {xs : Nat → Int32} {M : pS} {S : TS} {A A' : AS} {Q : Option Value → pS → Prop} {pc n idx : Nat} {lv : List (Nat × Value)} {st As : List Value} {C1m C2m : pJ} {v : Int32}
theorem cls0 {av : List Value} (h : C0 G C1m av S (fun r S' => r = some (.int v) ∧ RF x S S' A')) : CT G C1m av S (fun r S' => r = some (.int v) ∧ RF x S S' A') := ct_mono h (fun _ _ q => q.2)
theorem cls1 {av : List Value} (h : C1 G C1m av S (fun r S' => r = some (.int v) ∧ RF x S S' A')) : CT G C1m av S (fun r S' => r = some (.int v) ∧ RF x S S' A') := ct_mono h (fun _ _ q => q.2)
theorem clsP {av : List Value} (hr : RC x S A) (h : CP G C1m av S (fun r => r = some (.int v))) : CT G C1m av S (fun r S' => r = some (.int v) ∧ RF x S S' A) := ct_mono h (fun _ _ q => ⟨q.2, by rw [q.1]; exact RF.rf hr⟩)
theorem ref0 {av : List Value} (h : C0 G C2m av S (fun r S' => r = some (.int v) ∧ RMF y S S' A')) : CT G C2m av S (fun r S' => r = some (.int v) ∧ RMF y S S' A') := ct_mono h (fun _ _ q => q.2)
theorem refP {av : List Value} (hr : RM y S A) (h : CP G C2m av S (fun r => r = some (.int v))) : CT G C2m av S (fun r S' => r = some (.int v) ∧ RMF y S S' A) := ct_mono h (fun _ _ q => ⟨q.2, by rw [q.1]; exact hr.f⟩)
/-- between the two calls -/
def LH (G : pG) (b L : Nat) (xs : Nat → Int32) (x y Z K : Nat) (M : pS) (S : TS) (A A' : AS) : Prop := Rp G M S ∧ SCR b L xs M ∧ RC x S A' ∧ RM y S A ∧ tz S = Z ∧ tk S = K
theorem lw_cls (hb : b < gb G) (hxy : x + 264 ≤ y) (H : LI G b L xs x y Z K M S A) (hd : decode code pc = .ok (.invokevirtual idx, 3)) (hK : LK C1m n) (hl : Cond.methodLink "SealedWireLaw" idx (jy C1m) ∈ wG) (hi : Cond.instanceMethod (jy C1m) ∈ wG) (hse : Cond.selects (jy C1m).cls (jy C1m) (jy C1m) ∈ wG) (hfr : jf C1m + 1 ≤ 10) (hlo : 8 + (jl C1m + 11) + jn C1m ≤ 432)
    (hn : As.length = n) (hst : st = As.reverse ++ [.ref x]) (hcl : "SealedWire" = (jy C1m).cls)
    (hc : CT G C1m (.ref x :: As) S (fun r S' => r = some (.int v) ∧ RF x S S' A'))
    (k : ∀ M1 S1, LH G b L xs x y Z K M1 S1 A A' → E G J_L_law (pc + 3) lv [.int v] M1 Q) : E G J_L_law pc lv st M Q := by
  obtain ⟨hR, hs, h1, h2, h3, h4, h5⟩ := H
  refine lx_callV (rest := []) (ci := 10) (r0 := (R_10, F_10, 17)) hb hR hs hd hK hl hi hse hfr hlo hn hst (Nat.le_of_ble_eq_true rfl) rfl hcl h1.1.1 (ct_mono hc (fun r S1 q M1 r1 s1 => ?_))
  obtain ⟨rfl, g1, g2⟩ := q
  refine k M1 S1 ⟨r1, s1, g1, h2.sam (fun a a1 a2 => ⟨by rw [g2.1.1], (g2.2.1 a (by unfold inr; omega)).1, (g2.2.1 a (by unfold inr; omega)).2, g2.2.2 a (by unfold inr; omega)⟩), by rw [g2.1.2.1]; exact h4, by rw [g2.1.2.2]; exact h5⟩
theorem lw_ref (hb : b < gb G) (hxy : x + 264 ≤ y) (H : LH G b L xs x y Z K M S A A') (okA' : AOK A') (hd : decode code pc = .ok (.invokevirtual idx, 3)) (hK : LK C2m n) (hl : Cond.methodLink "SealedWireLaw" idx (jy C2m) ∈ wG) (hi : Cond.instanceMethod (jy C2m) ∈ wG) (hse : Cond.selects (jy C2m).cls (jy C2m) (jy C2m) ∈ wG) (hfr : jf C2m + 1 ≤ 10) (hlo : 8 + (jl C2m + 11) + jn C2m ≤ 432)
    (hn : As.length = n) (hst : st = As.reverse ++ [.ref y, .int v]) (hcl : "SealedWireModel" = (jy C2m).cls)
    (hc : CT G C2m (.ref y :: As) S (fun r S' => r = some (.int v) ∧ RMF y S S' A')) {off : Int} (he : decode code (pc + 3) = .ok (.if_icmp .eq off, 3)) (ho : ((pc + 3 : Nat) : Int) + off = ((780 : Nat) : Int))
    (k : ∀ M1 S1, LI G b L xs x y Z K M1 S1 A' → E G J_L_law 780 lv [] M1 Q) : E G J_L_law pc lv st M Q := by
  obtain ⟨hR, hs, h1, h2, h4, h5⟩ := H
  refine lx_callV (rest := [.int v]) (ci := 11) (r0 := (R_11, F_11, 55)) hb hR hs hd hK hl hi hse hfr hlo hn hst (Nat.le_of_ble_eq_true rfl) rfl hcl h2.1.1 (ct_mono hc (fun r S1 q M1 r1 s1 => ?_))
  obtain ⟨rfl, g1, g2⟩ := q
  refine e_icmp_eq 780 he ho (fun _ => k M1 S1 ⟨r1, s1, h1.sam (AGR.ex g2 (fun a a1 a2 => by unfold inM; omega)), g1, okA', by rw [g2.1.2.1]; exact h4, by rw [g2.1.2.2.1]; exact h5⟩) (fun c => absurd rfl c)
theorem lx_arg {i kk : Nat} {k : Int} (hs : SCR b L xs M) (hn : i + kk < L) (hL : L ≤ 3073) (h0 : decode code pc = .ok (.aload_n 0, 1)) (h1 : decode code (pc + 1) = .ok (.iload_n 3, 1)) (h2 : decode code (pc + 2) = .ok (.iconst k, 1)) (h3 : decode code (pc + 3) = .ok (.iadd, 1)) (h4 : decode code (pc + 4) = .ok (.iaload, 1)) (hk : Int32.ofInt k = nI kk)
    (kk2 : E G J_L_law (pc + 5) [(0, .ref b), (1, .ref x), (2, .ref y), (3, .int (nI i))] (.int (xs (i + kk)) :: st) M Q) : E G J_L_law pc [(0, .ref b), (1, .ref x), (2, .ref y), (3, .int (nI i))] st M Q := by
  obtain ⟨f, f1, f2⟩ := hs
  refine e_aload_n (k0 := 0) h0 rfl (e_iload_n (k0 := 3) h1 rfl (e_iconst (n := k) (v := nI kk) h2 hk (e_iadd h3 ?_)))
  rw [nI_add]
  refine e_iald h4 f1 (vp_in_nI hn (by omega)) ?_
  rw [nI_clamp (by omega), f2 _ hn]
  exact kk2
end LWR
