/-! how much a method may change: nothing (P), numbers alone (0), references too (1) -/
def Sm0 (S S' : TS) : Prop := te S' = te S ∧ tz S' = tz S ∧ tk S' = tk S ∧ tR S' = tR S
def Sm1 (S S' : TS) : Prop := te S' = te S ∧ tz S' = tz S ∧ tk S' = tk S
theorem Sm0.rf (S : TS) : Sm0 S S := ⟨rfl, rfl, rfl, rfl⟩
theorem Sm1.rf (S : TS) : Sm1 S S := ⟨rfl, rfl, rfl⟩
theorem Sm0.tr {S S1 S2 : TS} (h : Sm0 S S1) (k : Sm0 S1 S2) : Sm0 S S2 := ⟨k.1.trans h.1, k.2.1.trans h.2.1, k.2.2.1.trans h.2.2.1, k.2.2.2.trans h.2.2.2⟩
theorem Sm1.tr {S S1 S2 : TS} (h : Sm1 S S1) (k : Sm1 S1 S2) : Sm1 S S2 := ⟨k.1.trans h.1, k.2.1.trans h.2.1, k.2.2.trans h.2.2⟩
theorem Sm0.s1 {S S1 : TS} (h : Sm0 S S1) : Sm1 S S1 := ⟨h.1, h.2.1, h.2.2.1⟩
theorem Sm0.R {S S1 : TS} (h : Sm0 S S1) : tR S1 = tR S := h.2.2.2
def TP (G : pG) (J : pJ) (pc : Nat) (lv : List (Nat × Value)) (st : List Value) (S : TS) (Q : Option Value → Prop) : Prop := T G J pc lv st S (fun r S' => S' = S ∧ Q r)
def CP (G : pG) (J : pJ) (av : List Value) (S : TS) (Q : Option Value → Prop) : Prop := CT G J av S (fun r S' => S' = S ∧ Q r)
def T0 (G : pG) (J : pJ) (pc : Nat) (lv : List (Nat × Value)) (st : List Value) (S : TS) (Q : Option Value → TS → Prop) : Prop := T G J pc lv st S (fun r S' => Sm0 S S' ∧ Q r S')
def C0 (G : pG) (J : pJ) (av : List Value) (S : TS) (Q : Option Value → TS → Prop) : Prop := CT G J av S (fun r S' => Sm0 S S' ∧ Q r S')
def T1 (G : pG) (J : pJ) (pc : Nat) (lv : List (Nat × Value)) (st : List Value) (S : TS) (Q : Option Value → TS → Prop) : Prop := T G J pc lv st S (fun r S' => Sm1 S S' ∧ Q r S')
def C1 (G : pG) (J : pJ) (av : List Value) (S : TS) (Q : Option Value → TS → Prop) : Prop := CT G J av S (fun r S' => Sm1 S S' ∧ Q r S')
theorem cp_mono {G : pG} {J : pJ} {av : List Value} {S : TS} {Q Q' : Option Value → Prop} (k : CP G J av S Q) (h : ∀ r, Q r → Q' r) : CP G J av S Q' := ct_mono k (fun r _ q => ⟨q.1, h r q.2⟩)
theorem c0_mono {G : pG} {J : pJ} {av : List Value} {S : TS} {Q Q' : Option Value → TS → Prop} (k : C0 G J av S Q) (h : ∀ r S', Sm0 S S' → Q r S' → Q' r S') : C0 G J av S Q' := ct_mono k (fun r S' q => ⟨q.1, h r S' q.1 q.2⟩)
theorem c1_mono {G : pG} {J : pJ} {av : List Value} {S : TS} {Q Q' : Option Value → TS → Prop} (k : C1 G J av S Q) (h : ∀ r S', Sm1 S S' → Q r S' → Q' r S') : C1 G J av S Q' := ct_mono k (fun r S' q => ⟨q.1, h r S' q.1 q.2⟩)
theorem t0_mono {G : pG} {J : pJ} {pc : Nat} {lv : List (Nat × Value)} {st : List Value} {S : TS} {Q Q' : Option Value → TS → Prop} (k : T0 G J pc lv st S Q) (h : ∀ r S', Sm0 S S' → Q r S' → Q' r S') : T0 G J pc lv st S Q' := tt_mono k (fun r S' q => ⟨q.1, h r S' q.1 q.2⟩)
/-! the shifts without a sign -/
def ushr (x y : Int32) : Int32 := (x.toUInt32 >>> (y.toUInt32 &&& Int32.toUInt32 31)).toInt32
def lushr (x : Int64) (y : Int32) : Int64 := (x.toUInt64 >>> (y.toInt64.toUInt64 &&& Int64.toUInt64 63)).toInt64
/-! the static rows -/
def stt (t : Nat → Nat) : List (String × String × String × Value) := [("SealedWire$Hash", "START", "[I", .ref (t 0)), ("SealedWire$Hash", "ROUNDS", "[I", .ref (t 1)), ("SealedWire$Stream", "CONSTANTS", "[I", .ref (t 2)), ("SealedWireModel", "ROUND", "[I", .ref (t 3)), ("SealedWireModel", "BEGIN", "[I", .ref (t 4))]
def roL_0 : List Int32 := [1779033703, -1150833019, 1013904242, -1521486534, 1359893119, -1694144372, 528734635, 1541459225]
def roL_1 : List Int32 := [1116352408, 1899447441, -1245643825, -373957723, 961987163, 1508970993, -1841331548, -1424204075, -670586216, 310598401, 607225278, 1426881987, 1925078388, -2132889090, -1680079193, -1046744716, -459576895, -272742522, 264347078, 604807628, 770255983, 1249150122, 1555081692, 1996064986, -1740746414, -1473132947, -1341970488, -1084653625, -958395405, -710438585, 113926993, 338241895, 666307205, 773529912, 1294757372, 1396182291, 1695183700, 1986661051, -2117940946, -1838011259, -1564481375, -1474664885, -1035236496, -949202525, -778901479, -694614492, -200395387, 275423344, 430227734, 506948616, 659060556, 883997877, 958139571, 1322822218, 1537002063, 1747873779, 1955562222, 2024104815, -2067236844, -1933114872, -1866530822, -1538233109, -1090935817, -965641998]
def roL_2 : List Int32 := [1634760805, 857760878, 2036477234, 1797285236]
def ro (k : Nat) : Nat → Int32 := match k with
  | 0 => fun j => roL_0.getD j 0
  | 1 => fun j => roL_1.getD j 0
  | 2 => fun j => roL_2.getD j 0
  | 3 => fun j => roL_1.getD j 0
  | _ => fun j => roL_0.getD j 0
def rot (t : Nat → Nat) : List (Nat × Nat × (Nat → Int32)) := [(t 0, 8, ro 0), (t 1, 64, ro 1), (t 2, 4, ro 2), (t 3, 64, ro 3), (t 4, 8, ro 4)]
def GS (G : pG) (t : Nat → Nat) : Prop := gs G = stt t ∧ gr G = rot t
theorem Sm0.I {S S1 : TS} {a : Nat} {f : Nat → Int32} (h : Sm0 S S1) : Sm0 S (sI S1 a f) := ⟨(te_sI S1 a f).trans h.1, (tz_sI S1 a f).trans h.2.1, (tk_sI S1 a f).trans h.2.2.1, (tR_sI S1 a f).trans h.2.2.2⟩
theorem Sm0.L {S S1 : TS} {a : Nat} {f : Nat → Int64} (h : Sm0 S S1) : Sm0 S (sL S1 a f) := ⟨(te_sL S1 a f).trans h.1, (tz_sL S1 a f).trans h.2.1, (tk_sL S1 a f).trans h.2.2.1, (tR_sL S1 a f).trans h.2.2.2⟩
theorem Sm1.I {S S1 : TS} {a : Nat} {f : Nat → Int32} (h : Sm1 S S1) : Sm1 S (sI S1 a f) := ⟨(te_sI S1 a f).trans h.1, (tz_sI S1 a f).trans h.2.1, (tk_sI S1 a f).trans h.2.2⟩
theorem Sm1.L {S S1 : TS} {a : Nat} {f : Nat → Int64} (h : Sm1 S S1) : Sm1 S (sL S1 a f) := ⟨(te_sL S1 a f).trans h.1, (tz_sL S1 a f).trans h.2.1, (tk_sL S1 a f).trans h.2.2⟩
theorem Sm1.Rr {S S1 : TS} {a : Nat} {f : Nat → Option Nat} (h : Sm1 S S1) : Sm1 S (sR S1 a f) := ⟨(te_sR S1 a f).trans h.1, (tz_sR S1 a f).trans h.2.1, (tk_sR S1 a f).trans h.2.2⟩
