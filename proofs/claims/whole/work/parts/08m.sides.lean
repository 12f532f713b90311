/-! PURE: the class Side -/
def SD (S : TS) (s : Nat) : Prop := te S s = some (.inr 6) ∧ tR S s 2 = some (s + 1) ∧ HS S (s + 1) ∧ tR S s 3 = some (s + 8) ∧ te S (s + 8) = some (.inl (.object "SealedWire$Bytes", 8)) ∧ (∀ k, k < 8 → tR S (s + 8) k = some (s + 29 + 2 * k) ∧ BS S (s + 29 + 2 * k) 32) ∧ tR S s 4 = some (s + 9) ∧ DS S (s + 9) ∧ tR S s 5 = some (s + 14) ∧ DS S (s + 14) ∧ tR S s 6 = some (s + 19) ∧ BS S (s + 19) 33 ∧ tR S s 7 = some (s + 21) ∧ BS S (s + 21) 32 ∧ tR S s 8 = some (s + 23) ∧ BS S (s + 23) 32 ∧ tR S s 9 = some (s + 25) ∧ BS S (s + 25) 32 ∧ tR S s 10 = some (s + 27) ∧ BS S (s + 27) 33
theorem SD.sm {S S' : TS} {s : Nat} (k : SD S s) (e : Sm0 S S') : SD S' s := by
  obtain ⟨h1, h2, h3, h4, h5, h6, h7, h8, h9, h10, h11, h12, h13, h14, h15, h16, h17, h18, h19, h20⟩ := k
  refine ⟨by rw [e.1]; exact h1, by rw [e.R]; exact h2, h3.sm e, by rw [e.R]; exact h4, by rw [e.1]; exact h5, fun k hk => ⟨by rw [e.R]; exact (h6 k hk).1, (h6 k hk).2.sm e⟩, by rw [e.R]; exact h7, h8.sm e, by rw [e.R]; exact h9, h10.sm e, by rw [e.R]; exact h11, h12.sm e, by rw [e.R]; exact h13, h14.sm e, by rw [e.R]; exact h15, h16.sm e, by rw [e.R]; exact h17, h18.sm e, by rw [e.R]; exact h19, h20.sm e⟩
section PSI
variable {G : pG} {s : Nat} {S : TS}
theorem SD.o {S : TS} {s : Nat} (h : SD S s) : te S s = some (.inr 6) := h.1
theorem SD.hs {S : TS} {s : Nat} (h : SD S s) : tR S s 2 = some (s + 1) ∧ HS S (s + 1) := ⟨h.2.1, h.2.2.1⟩
theorem SD.ka {S : TS} {s : Nat} (h : SD S s) : tR S s 3 = some (s + 8) ∧ te S (s + 8) = some (.inl (.object "SealedWire$Bytes", 8)) := ⟨h.2.2.2.1, h.2.2.2.2.1⟩
theorem SD.kk {S : TS} {s : Nat} (h : SD S s) {k : Nat} (hk : k < 8) : tR S (s + 8) k = some (s + 29 + 2 * k) ∧ BS S (s + 29 + 2 * k) 32 := h.2.2.2.2.2.1 k hk
theorem SD.up {S : TS} {s : Nat} (h : SD S s) : tR S s 4 = some (s + 9) ∧ DS S (s + 9) := ⟨h.2.2.2.2.2.2.1, h.2.2.2.2.2.2.2.1⟩
theorem SD.dn {S : TS} {s : Nat} (h : SD S s) : tR S s 5 = some (s + 14) ∧ DS S (s + 14) := ⟨h.2.2.2.2.2.2.2.2.1, h.2.2.2.2.2.2.2.2.2.1⟩
theorem SD.gr {S : TS} {s : Nat} (h : SD S s) : tR S s 6 = some (s + 19) ∧ BS S (s + 19) 33 := ⟨h.2.2.2.2.2.2.2.2.2.2.1, h.2.2.2.2.2.2.2.2.2.2.2.1⟩
theorem SD.ag {S : TS} {s : Nat} (h : SD S s) : tR S s 7 = some (s + 21) ∧ BS S (s + 21) 32 := ⟨h.2.2.2.2.2.2.2.2.2.2.2.2.1, h.2.2.2.2.2.2.2.2.2.2.2.2.2.1⟩
theorem SD.se {S : TS} {s : Nat} (h : SD S s) : tR S s 8 = some (s + 23) ∧ BS S (s + 23) 32 := ⟨h.2.2.2.2.2.2.2.2.2.2.2.2.2.2.1, h.2.2.2.2.2.2.2.2.2.2.2.2.2.2.2.1⟩
theorem SD.fi {S : TS} {s : Nat} (h : SD S s) : tR S s 9 = some (s + 25) ∧ BS S (s + 25) 32 := ⟨h.2.2.2.2.2.2.2.2.2.2.2.2.2.2.2.2.1, h.2.2.2.2.2.2.2.2.2.2.2.2.2.2.2.2.2.1⟩
theorem SD.tx {S : TS} {s : Nat} (h : SD S s) : tR S s 10 = some (s + 27) ∧ BS S (s + 27) 33 := ⟨h.2.2.2.2.2.2.2.2.2.2.2.2.2.2.2.2.2.2.1, h.2.2.2.2.2.2.2.2.2.2.2.2.2.2.2.2.2.2.2⟩
theorem p_isKey {Q : Option Value → Prop} {x : Int32} (h1 : ∀ j, j < 8 → x = nI j → Q (some (.int 1))) (h0 : (∀ j, j < 8 → x ≠ nI j) → Q (some (.int 0))) : CP G J_Side_isKeyNumber [.int x] S Q := by
  refine v_Side_isKeyNumber x S Q ⟨fun c => h0 (fun j hj e => ?_), fun c => ⟨fun c2 => h0 (fun j hj e => ?_), fun c2 => ?_⟩⟩
  · rw [e] at c; exact nI_pos (by omega) c
  · rw [e] at c2; exact nI_ge (b := 8) (by omega) (by omega) c2
  · obtain ⟨j, hj, e1, -⟩ := pk_mu (L := 8) c c2 (by omega)
    exact h1 j hj e1
theorem p_hasKey {Q : Option Value → Prop} {j : Nat} {l : List B8} (hs : SD S s) (hj : j < 8) (hb : BT S (s + 29 + 2 * j) 32 l) (h1 : l ≠ [] → Q (some (.int 1))) (h0 : l = [] → Q (some (.int 0))) : CP G J_Side_hasKey [.ref s, .int (nI j)] S Q := by
  have hl := hb.2.2
  refine v_Side_hasKey s (nI j) S Q (p_isKey (fun j2 hj2 ej => ?_) (fun hno => absurd rfl (hno j hj)))
  refine ⟨1, rfl, fun c => absurd c (by decide), fun _ => ⟨hs.o, s + 8, hs.ka.1, 8, hs.ka.2, vp_in_nI (by omega) (by omega), s + 29 + 2 * j, ?_, hb.1.1, p_size hb ⟨_, rfl, fun c => ?_, fun c => ?_⟩⟩⟩
  · rw [nI_clamp (by omega)]; exact (hs.kk hj).1
  · have := (nI_leI (b := 0) (by omega) (by omega)).mp c
    exact h0 (List.eq_nil_of_length_eq_zero (by omega))
  · refine h1 (fun e => c ?_)
    rw [e]; exact Int32.le_refl _
theorem p_hasKeyX {Q : Option Value → Prop} {x : Int32} (hs : SD S s) (hx : ∀ j, j < 8 → x ≠ nI j) (h0 : Q (some (.int 0))) : CP G J_Side_hasKey [.ref s, .int x] S Q :=
  v_Side_hasKey s x S Q (p_isKey (fun j2 hj2 ej => absurd ej (hx j2 hj2)) (fun _ => ⟨0, rfl, fun _ => h0, fun c => absurd rfl c⟩))
theorem p_setKey {Q : Option Value → TS → Prop} {t : Nat → Nat} (hG : GS G t) {j q N : Nat} {l : List B8} (hs : SD S s) (hj : j < 8) (hq : BT S q N l) (hl : l.length ≤ 247) (hqs : q + 1 < s ∨ s + 45 ≤ q) (hQ : ∀ S', Ex (fun a => hP (s + 1) a ∨ bP (s + 29 + 2 * j) a) S S' → BT S' (s + 29 + 2 * j) 32 (sha l) → Q none S') : C0 G J_Side_setKey [.ref s, .int (nI j), .ref q] S Q := by
  refine v_Side_setKey s (nI j) q S Q (p_isKey (fun j2 hj2 ej => ?_) (fun hno => absurd rfl (hno j hj)))
  refine ⟨1, rfl, fun c => absurd c (by decide), fun _ => ⟨hs.o, s + 1, hs.hs.1, s + 8, hs.ka.1, 8, hs.ka.2, vp_in_nI (by omega) (by omega), s + 29 + 2 * j, ?_, hs.hs.2.1, ?_⟩⟩
  · rw [nI_clamp (by omega)]; exact (hs.kk hj).1
  · exact p_digest hG hs.hs.2 hq (by omega) hl (hs.kk hj).2 (by omega) (fun S' x' b' => ⟨rfl, hQ S' x' b'⟩)
theorem p_loseKey {Q : Option Value → TS → Prop} {j : Nat} (hs : SD S s) (hj : j < 8) (hQ : ∀ S', Ex (bP (s + 29 + 2 * j)) S S' → BT S' (s + 29 + 2 * j) 32 [] → Q none S') : C0 G J_Side_loseKey [.ref s, .int (nI j)] S Q := by
  refine v_Side_loseKey s (nI j) S Q (p_isKey (fun j2 hj2 ej => ?_) (fun hno => absurd rfl (hno j hj)))
  refine ⟨1, rfl, fun c => absurd c (by decide), fun _ => ⟨hs.o, s + 8, hs.ka.1, 8, hs.ka.2, vp_in_nI (by omega) (by omega), s + 29 + 2 * j, ?_, (hs.kk hj).2.1, ?_⟩⟩
  · rw [nI_clamp (by omega)]; exact (hs.kk hj).1
  · exact p_clear (hs.kk hj).2 (fun S' x' b' => ⟨rfl, hQ S' x' b'⟩)
/-- the text of a random number -/
def rtx (i e n : Int32) : List B8 := [82, b8 i] ++ be4 e ++ be4 n
theorem p_makeRandom {Q : Option Value → TS → Prop} {t : Nat → Nat} (hG : GS G t) {d : Nat} (hs : SD S s) (hd : BS S d 32) (hds : d + 1 < s ∨ s + 45 ≤ d)
    (hQ : ∀ S', Ex (fun a => a = s ∨ hP (s + 1) a ∨ bP (s + 27) a ∨ bP d a) S S' → BT S' d 32 (sha (rtx (tI S s 0) (tI S s 1) (tI S s 12))) → tI S' s = upd (tI S s) 12 (tI S s 12 + 1) → Q none S') : C0 G J_Side_makeRandom [.ref s, .ref d] S Q := by
  have ht := hs.tx
  refine v_Side_makeRandom s d S Q ⟨hs.o, s + 27, ht.1, ht.2.1, p_clear ht.2 (fun S5 x5 b5 => ⟨rfl, p_put b5 (by simp) (fun S6 x6 b6 => ⟨rfl, ?_⟩)⟩)⟩
  have r6 : tI S6 s = tI S s := ((x5.tr x6).2 s (by simp only [bP]; omega)).1
  rw [r6]
  refine p_put b6 (by simp) (fun S7 x7 b7 => ⟨rfl, ?_⟩)
  have r7 : tI S7 s = tI S s := (x7.2 s (by simp only [bP]; omega)).1.trans r6
  rw [r7]
  refine p_putNumber b7 (by simp) (fun S8 x8 b8' => ⟨rfl, ?_⟩)
  have r8 : tI S8 s = tI S s := (x8.2 s (by simp only [bP]; omega)).1.trans r7
  rw [r8]
  refine p_putNumber b8' (by simp [be4_len]) (fun S9 x9 b9 => ⟨rfl, ?_⟩)
  have r9 : tI S9 s = tI S s := (x9.2 s (by simp only [bP]; omega)).1.trans r8
  have x59 : Ex (bP (s + 27)) S S9 := (((x5.tr x6).tr x7).tr x8).tr x9
  have s9 := hs.sm x59.1
  have c9 : BT S9 (s + 27) 33 (rtx (tI S s 0) (tI S s 1) (tI S s 12)) := b9
  refine ⟨s + 1, s9.hs.1, s9.hs.2.1, p_digest hG s9.hs.2 c9 (by omega) (by simp [rtx, be4_len]) (hd.sm x59.1) (by omega) (fun S13 x13 b13 => ⟨rfl, fun S14 e14 => ?_⟩)⟩
  have r13 : tI S13 s = tI S s := (x13.2 s (by simp only [bP, hP]; omega)).1.trans r9
  have x14 : Ex (fun a => a = s) S13 S14 := by rw [e14]; exact (Ex.rf S13).I rfl
  refine hQ S14 (((x59.mono (fun a h => Or.inr (Or.inr (Or.inl h)))).tr (x13.mono (fun a h => h.elim (fun h => Or.inr (Or.inl h)) (fun h => Or.inr (Or.inr (Or.inr h)))))).tr (x14.mono (fun a h => Or.inl h))) (b13.ex x14 (by omega) (by omega)) ?_
  rw [e14, tI_sI, up_s, r13]
theorem p_keepGreeting {Q : Option Value → TS → Prop} {q N : Nat} {l : List B8} {x : Int32} (hs : SD S s) (hq : BT S q N l) (hl : l.length = 32) (hqs : q + 1 < s ∨ s + 45 ≤ q) (hQ : ∀ S', Ex (bP (s + 19)) S S' → BT S' (s + 19) 33 (l ++ [b8 x]) → Q none S') : C0 G J_Side_keepGreeting [.ref s, .ref q, .int x] S Q := by
  refine v_Side_keepGreeting s q x S Q ⟨hs.o, s + 19, hs.gr.1, hs.gr.2.1, p_become hs.gr.2 hq ⟨by omega, by omega⟩ (by omega) (fun S5 x5 b5 => ⟨rfl, p_put b5 (by omega) (fun S6 x6 b6 => ⟨rfl, hQ S6 (x5.tr x6) b6⟩)⟩)⟩
theorem p_agree {Q : Option Value → TS → Prop} {t : Nat → Nat} (hG : GS G t) {j q N : Nat} {k l : List B8} (hs : SD S s) (hj : j < 8) (hk : BT S (s + 29 + 2 * j) 32 k) (hq : BT S q N l) (hl : l.length ≤ 247) (hqs : q + 1 < s ∨ s + 45 ≤ q)
    (hQ : ∀ S', Ex (fun a => hP (s + 1) a ∨ (s + 21 ≤ a ∧ a < s + 29)) S S' → BT S' (s + 21) 32 (sha l) → BT S' (s + 23) 32 (mac k (sha l)) → BT S' (s + 25) 32 (mac (mac k (sha l)) [102]) → Q none S') : C0 G J_Side_agree [.ref s, .int (nI j), .ref q] S Q := by
  refine v_Side_agree s (nI j) q S Q (p_isKey (fun j2 hj2 ej => ?_) (fun hno => absurd rfl (hno j hj)))
  refine ⟨1, rfl, fun _ => ⟨hs.o, s + 1, hs.hs.1, s + 21, hs.ag.1, hs.hs.2.1, ?_⟩, fun c => absurd c (by decide)⟩
  refine p_digest hG hs.hs.2 hq (by omega) hl hs.ag.2 (by omega) (fun S8 x8 b8' => ⟨rfl, ?_⟩)
  have s8 := hs.sm x8.1
  refine ⟨s + 8, s8.ka.1, 8, s8.ka.2, vp_in_nI (by omega) (by omega), s + 29 + 2 * j, ?_, s + 23, s8.se.1, ?_⟩
  · rw [nI_clamp (by omega)]; exact (s8.kk hj).1
  have k8 : BT S8 (s + 29 + 2 * j) 32 k := hk.ex x8 (by simp only [bP, hP]; omega) (by simp only [bP, hP]; omega)
  refine p_mac hG s8.hs.2 k8 (by omega) b8' (by omega) (by rw [sha_len]; omega) s8.se.2 (by omega) (fun S16 x16 b16 => ⟨rfl, ?_⟩)
  have s16 := s8.sm x16.1
  have a16 : BT S16 (s + 21) 32 (sha l) := b8'.ex x16 (by simp only [bP, hP]; omega) (by simp only [bP, hP]; omega)
  refine ⟨s + 27, s16.tx.1, s16.tx.2.1, p_clear s16.tx.2 (fun S20 x20 b20 => ⟨rfl, p_put b20 (by simp) (fun S21 x21 b21 => ⟨rfl, ?_⟩)⟩)⟩
  have xt := x20.tr x21
  have s21 := s16.sm xt.1
  have a21 : BT S21 (s + 21) 32 (sha l) := a16.ex xt (by simp only [bP]; omega) (by simp only [bP]; omega)
  have e21 : BT S21 (s + 23) 32 (mac k (sha l)) := b16.ex xt (by simp only [bP]; omega) (by simp only [bP]; omega)
  have t21 : BT S21 (s + 27) 33 [102] := b21
  refine ⟨s + 25, s21.fi.1, p_mac hG s21.hs.2 e21 (by omega) t21 (by omega) (by simp) s21.fi.2 (by omega) (fun S24 x24 b24 => ⟨rfl, ?_⟩)⟩
  refine hQ S24 ((((x8.mono (fun a h => ?_)).tr (x16.mono (fun a h => ?_))).tr (xt.mono (fun a h => ?_))).tr (x24.mono (fun a h => ?_))) (a21.ex x24 (by simp only [bP, hP]; omega) (by simp only [bP, hP]; omega)) (e21.ex x24 (by simp only [bP, hP]; omega) (by simp only [bP, hP]; omega)) b24
  · simp only [bP, hP] at *; omega
  · simp only [bP, hP] at *; omega
  · simp only [bP, hP] at *; omega
  · simp only [bP, hP] at *; omega
theorem p_prove {Q : Option Value → TS → Prop} {t : Nat → Nat} (hG : GS G t) {d : Nat} {x : Int32} {al fl : List B8} (hs : SD S s) (ha : BT S (s + 21) 32 al) (hf : BT S (s + 25) 32 fl) (hd : BS S d 32) (hds : d + 1 < s ∨ s + 45 ≤ d)
    (hQ : ∀ S', Ex (fun a => hP (s + 1) a ∨ bP (s + 27) a ∨ bP d a) S S' → BT S' d 32 (mac fl (b8 x :: al)) → Q none S') : C0 G J_Side_prove [.ref s, .int x, .ref d] S Q := by
  have hal := ha.2.2
  refine v_Side_prove s x d S Q ⟨hs.o, s + 27, hs.tx.1, hs.tx.2.1, p_clear hs.tx.2 (fun S5 x5 b5 => ⟨rfl, p_put b5 (by simp) (fun S6 x6 b6 => ⟨rfl, ?_⟩)⟩)⟩
  have x56 := x5.tr x6
  have s6 := hs.sm x56.1
  have a6 : BT S6 (s + 21) 32 al := ha.ex x56 (by simp only [bP]; omega) (by simp only [bP]; omega)
  refine ⟨s + 21, s6.ag.1, p_putAll b6 a6 (by simp; omega) (fun S9 x9 b9 => ⟨rfl, ?_⟩)⟩
  have x59 := x56.tr x9
  have s9 := hs.sm x59.1
  have f9 : BT S9 (s + 25) 32 fl := hf.ex x59 (by simp only [bP]; omega) (by simp only [bP]; omega)
  have t9 : BT S9 (s + 27) 33 (b8 x :: al) := by simpa using b9
  refine ⟨s + 1, s9.hs.1, s + 25, s9.fi.1, s9.hs.2.1, p_mac hG s9.hs.2 f9 (by omega) t9 (by omega) (by simp; omega) (hd.sm x59.1) (by omega) (fun S15 x15 b15 => ⟨rfl, hQ S15 ((x59.mono (fun a h => Or.inr (Or.inl h))).tr (x15.mono (fun a h => h.elim Or.inl (fun h => Or.inr (Or.inr h))))) b15⟩)⟩
theorem p_open {Q : Option Value → TS → Prop} {t : Nat → Nat} (hG : GS G t) {k : List B8} (hs : SD S s) (hk : BT S (s + 23) 32 k) (i0 : tI S (s + 9) 0 = 0) (i1 : tI S (s + 14) 0 = 1)
    (hQ : ∀ S', Ex (fun a => a = s ∨ hP (s + 1) a ∨ gP (s + 9) a ∨ gP (s + 14) a) S S' → BT S' (s + 10) 32 (mac k (ktx 0 0)) → BT S' (s + 15) 32 (mac k (ktx 1 0)) → (tI S' (s + 9) 0 = 0 ∧ tI S' (s + 9) 3 = 0 ∧ tI S' (s + 9) 4 = 0) → (tI S' (s + 14) 0 = 1 ∧ tI S' (s + 14) 3 = 0 ∧ tI S' (s + 14) 4 = 0) → tI S' s = upd (tI S s) 11 2 → Q none S') : C0 G J_Side_open [.ref s] S Q := by
  refine v_Side_open s S Q ⟨hs.o, s + 9, hs.up.1, s + 1, hs.hs.1, s + 23, hs.se.1, hs.up.2.1, ?_⟩
  refine p_makeKey hG hs.up.2 hs.hs.2 hk (by omega) (by omega) (by omega) (fun S9 x9 b9 c0 c3 c4 => ⟨rfl, ?_⟩)
  have s9 := hs.sm x9.1
  have k9 : BT S9 (s + 23) 32 k := hk.ex x9 (by simp only [gP, hP]; omega) (by simp only [gP, hP]; omega)
  refine ⟨s + 14, s9.dn.1, s9.dn.2.1, ?_⟩
  refine p_makeKey hG s9.dn.2 s9.hs.2 k9 (by omega) (by omega) (by omega) (fun S13 x13 b13 d0 d3 d4 => ⟨rfl, fun S14 e14 => ?_⟩)
  have x14 : Ex (fun a => a = s) S13 S14 := by rw [e14]; exact (Ex.rf S13).I rfl
  have j1 : tI S9 (s + 14) = tI S (s + 14) := (x9.2 (s + 14) (by simp only [gP, hP]; omega)).1
  have j0 : tI S13 (s + 9) = tI S9 (s + 9) := (x13.2 (s + 9) (by simp only [gP, hP]; omega)).1
  have j2 : tI S14 (s + 9) = tI S13 (s + 9) := (x14.2 (s + 9) (by omega)).1
  have j3 : tI S14 (s + 14) = tI S13 (s + 14) := (x14.2 (s + 14) (by omega)).1
  have js : tI S13 s = tI S s := (x13.2 s (by simp only [gP, hP]; omega)).1.trans (x9.2 s (by simp only [gP, hP]; omega)).1
  rw [i0] at b9 c0
  rw [j1, i1] at b13 d0
  refine hQ S14 (((x9.mono (fun a h => ?_)).tr (x13.mono (fun a h => ?_))).tr (x14.mono (fun a h => Or.inl h))) ((b9.ex x13 (by simp only [gP, hP]; omega) (by simp only [gP, hP]; omega)).ex x14 (by omega) (by omega)) (b13.ex x14 (by omega) (by omega)) ?_ ?_ ?_
  · exact h.elim (fun h => Or.inr (Or.inr (Or.inl h))) (fun h => Or.inr (Or.inl h))
  · exact h.elim (fun h => Or.inr (Or.inr (Or.inr h))) (fun h => Or.inr (Or.inl h))
  · rw [j2, j0]; exact ⟨c0, c3, c4⟩
  · rw [j3]; exact ⟨d0, d3, d4⟩
  · rw [e14, tI_sI, up_s, js]
theorem p_dir {Q : Option Value → Prop} {d : Nat} (hs : SD S s) (hd : d < 2) (hQ : Q (some (.ref (s + 9 + 5 * d)))) : CP G J_Side_direction [.ref s, .int (nI d)] S Q := by
  rcases (show d = 0 ∨ d = 1 by omega) with rfl | rfl
  · exact v_Side_direction s (nI 0) S Q ⟨fun c => absurd rfl c, fun _ => ⟨hs.o, s + 9, hs.up.1, hQ⟩⟩
  · exact v_Side_direction s (nI 1) S Q ⟨fun _ => ⟨hs.o, s + 14, hs.dn.1, hQ⟩, fun c => absurd c (by decide)⟩
theorem SD.di {S : TS} {s : Nat} (h : SD S s) {d : Nat} (hd : d < 2) : DS S (s + 9 + 5 * d) := by
  rcases (show d = 0 ∨ d = 1 by omega) with rfl | rfl
  · exact h.up.2
  · exact h.dn.2
theorem p_anew {Q : Option Value → TS → Prop} {t : Nat → Nat} (hG : GS G t) {d : Nat} {k : List B8} (hs : SD S s) (hd : d < 2) (hk : BT S (s + 9 + 5 * d + 1) 32 k)
    (hQ : ∀ S', Ex (fun a => gP (s + 9 + 5 * d) a ∨ hP (s + 1) a) S S' → BT S' (s + 9 + 5 * d + 1) 32 (mac k (ktx (tI S (s + 9 + 5 * d) 0) (tI S (s + 9 + 5 * d) 4 + 1))) → tI S' (s + 9 + 5 * d) 0 = tI S (s + 9 + 5 * d) 0 → tI S' (s + 9 + 5 * d) 3 = 0 → tI S' (s + 9 + 5 * d) 4 = tI S (s + 9 + 5 * d) 4 + 1 → Q none S') : C0 G J_Side_makeKeyAnew [.ref s, .int (nI d)] S Q := by
  have hg := hs.di hd
  refine v_Side_makeKeyAnew s (nI d) S Q ⟨hs.o, p_dir hs hd ⟨_, rfl, s + 1, hs.hs.1, hg.1, p_dkey hg ⟨_, rfl, p_dgen hg ⟨_, rfl, ?_⟩⟩⟩⟩
  exact p_makeKey hG hg hs.hs.2 hk (by omega) (by omega) (by omega) (fun S' x' b' c0 c3 c4 => ⟨rfl, hQ S' x' b' c0 c3 c4⟩)
/-- how many of the first n are keys -/
def khN (K : Nat → List B8) : Nat → Nat
  | 0 => 0
  | n + 1 => khN K n + if K n = [] then 0 else 1
theorem khN_le (K : Nat → List B8) (n : Nat) : khN K n ≤ n := by
  induction n with
  | zero => exact Nat.le_refl 0
  | succ n ih =>
    simp only [khN]
    split <;> omega
theorem p_kh1 {Q : Option Value → Prop} {K : Nat → List B8} (hs : SD S s) (hK : ∀ j, j < 8 → BT S (s + 29 + 2 * j) 32 (K j)) (hQ : Q (some (.int (nI (khN K 8))))) : ∀ (n j : Nat), j + n = 8 → TP G J_Side_keysHeld 4 [(0, .ref s), (1, .int (nI (khN K j))), (2, .int (nI j))] [] S Q := by
  intro n
  induction n with
  | zero =>
    intro j hj
    have : j = 8 := by omega
    subst this
    exact v_Side_keysHeld_4 s _ _ S Q ⟨fun _ => hQ, fun c => absurd (Int32.le_refl _) c⟩
  | succ n ih =>
    intro j hj
    refine v_Side_keysHeld_4 s _ _ S Q ⟨fun c => absurd c (nI_ge (b := 8) (by omega) (by omega)), fun _ => ⟨hs.o, ?_⟩⟩
    refine p_hasKey hs (by omega) (hK j (by omega)) (fun hne => ⟨1, rfl, fun c => absurd c (by decide), fun _ y5 e5 y6 e6 => ?_⟩) (fun he => ⟨0, rfl, fun _ y3 e3 y4 e4 => ?_, fun c => absurd rfl c⟩)
    · have k := ih (j + 1) (by omega)
      simp only [khN] at k
      rw [if_neg hne] at k
      rw [e5, e6, nI_1, nI_1]
      exact k
    · have k := ih (j + 1) (by omega)
      simp only [khN] at k
      rw [if_pos he] at k
      rw [e3, e4, nI_1, show nI (khN K j) + (0 : Int32) = nI (khN K j + 0) from nI_add _ 0]
      exact k
theorem p_keysHeld {Q : Option Value → Prop} {K : Nat → List B8} (hs : SD S s) (hK : ∀ j, j < 8 → BT S (s + 29 + 2 * j) 32 (K j)) (hQ : Q (some (.int (nI (khN K 8))))) : CP G J_Side_keysHeld [.ref s] S Q :=
  v_Side_keysHeld s S Q (p_kh1 hs hK hQ 8 0 (by omega))
end PSI
