/-! PURE: what holds between two calls stays -/
section AOKS
variable {A : AS}
theorem AOK.st5 (ok : AOK A) {s : Nat} (hs : s < 2) : ∃ n, n < 5 ∧ aI A s = nI n := ok.2.2.2.2.2.2.1 s hs
theorem AOK.wBu (ok : AOK A) {i : Nat} {l : List B8} (h0 : i = 0 → l.length ≤ 200) (h1 : i = 1 → l.length ≤ 65) (h2 : i = 2 → 1 ≤ l.length ∧ l.length ≤ 16) (h3 : i = 3 → l.length ≤ 65) (hk : 4 ≤ i → i < 20 → l = [] ∨ l.length = 32) (h20 : i = 20 → aI A 0 = 1 → l.length = 33 ∧ (l.getD 32 0).toNat < 8) (h21 : 21 ≤ i → i < 24 → aI A 1 = 1 → l.length = 32) (h24 : 24 ≤ i → i < 28 → l.length = 32) : AOK (wB A i l) := by
  obtain ⟨a1, a2, a3, a4, a5, a6, a7, a8, a9, a10, a11, a12⟩ := ok
  have sp : ∀ j, aB (wB A i l) j = if j = i then l else aB A j := fun j => by
    rw [aB_wB]
    by_cases h : j = i
    · rw [if_pos h, h, up_s]
    · rw [if_neg h, up_n _ _ h]
  refine ⟨fun s hs hc d hd => ?_, fun j hj => ?_, fun c => ?_, fun c => ⟨?_, ?_, ?_⟩, a5, ?_, a7, a8, a9, ?_, ?_, ?_⟩
  · rw [sp]; split
    · exact h24 (by omega) (by omega)
    · exact a1 s hs hc d hd
  · rw [sp]; split
    · exact hk (by omega) (by omega)
    · exact a2 j hj
  · rw [sp]; split
    · exact h20 (by omega) c
    · exact a3 c
  · rw [sp]; split
    · exact h21 (by omega) (by omega) c
    · exact (a4 c).1
  · rw [sp]; split
    · exact h21 (by omega) (by omega) c
    · exact (a4 c).2.1
  · rw [sp]; split
    · exact h21 (by omega) (by omega) c
    · exact (a4 c).2.2
  · rw [sp]; split
    · exact h2 (by omega)
    · exact a6
  · rw [sp]; split
    · exact h0 (by omega)
    · exact a10
  · rw [sp]; split
    · exact h3 (by omega)
    · exact a11
  · rw [sp]; split
    · exact h1 (by omega)
    · exact a12
theorem AOK.tape (ok : AOK A) {l : List B8} (h : l.length ≤ 200) : AOK (wB A 0 l) := ok.wBu (fun _ => h) (fun h => absurd h (by omega)) (fun h => absurd h (by omega)) (fun h => absurd h (by omega)) (fun h => absurd h (by omega)) (fun h => absurd h (by omega)) (fun h => absurd h (by omega)) (fun h => absurd h (by omega))
theorem AOK.tape0 (ok : AOK A) : AOK (wB A 0 []) := ok.tape (by simp)
theorem AOK.outU (ok : AOK A) {l : List B8} (h : l.length ≤ 65) : AOK (wB A 1 l) := ok.wBu (fun h => absurd h (by omega)) (fun _ => h) (fun h => absurd h (by omega)) (fun h => absurd h (by omega)) (fun h => absurd h (by omega)) (fun h => absurd h (by omega)) (fun h => absurd h (by omega)) (fun h => absurd h (by omega))
theorem AOK.ansU (ok : AOK A) {l : List B8} (h : l.length ≤ 65) : AOK (wB A 3 l) := ok.wBu (fun h => absurd h (by omega)) (fun h => absurd h (by omega)) (fun h => absurd h (by omega)) (fun _ => h) (fun h => absurd h (by omega)) (fun h => absurd h (by omega)) (fun h => absurd h (by omega)) (fun h => absurd h (by omega))
theorem AOK.keyU (ok : AOK A) {i : Nat} {l : List B8} (hi : 4 ≤ i ∧ i < 20) (h : l = [] ∨ l.length = 32) : AOK (wB A i l) := ok.wBu (fun h => absurd h (by omega)) (fun h => absurd h (by omega)) (fun h => absurd h (by omega)) (fun h => absurd h (by omega)) (fun _ _ => h) (fun h => absurd h (by omega)) (fun h => absurd h (by omega)) (fun h => absurd h (by omega))
theorem AOK.zkU (ok : AOK A) {i : Nat} {l : List B8} (hi : 24 ≤ i) (h : l.length = 32) : AOK (wB A i l) := ok.wBu (fun h => absurd h (by omega)) (fun h => absurd h (by omega)) (fun h => absurd h (by omega)) (fun h => absurd h (by omega)) (fun _ h => absurd h (by omega)) (fun h => absurd h (by omega)) (fun _ h => absurd h (by omega)) (fun _ _ => h)
/-- a number that isn't a state -/
theorem AOK.wIu (ok : AOK A) {i : Nat} {v : Int32} (hi : 2 ≤ i ∧ i < 14) : AOK (wI A i v) := by
  obtain ⟨a1, a2, a3, a4, a5, a6, a7, a8, a9, a10, a11, a12⟩ := ok
  have ne : ∀ j, (j < 2 ∨ 14 ≤ j) → aI (wI A i v) j = aI A j := fun j hj => by rw [aI_wI, up_n _ _ (by omega)]
  refine ⟨fun s hs hc d hd => ?_, a2, fun c => ?_, fun c => ?_, ?_, a6, fun s hs => ?_, a8, a9, a10, a11, a12⟩
  · rw [ne s (by omega)] at hc; exact a1 s hs hc d hd
  · rw [ne 0 (by omega)] at c; exact a3 c
  · rw [ne 1 (by omega)] at c; exact a4 c
  · rw [ne 16 (by omega), ne 17 (by omega), ne 14 (by omega), ne 15 (by omega), ne 18 (by omega), ne 19 (by omega), ne 20 (by omega), ne 21 (by omega)]; exact a5
  · rw [ne s (by omega)]; exact a7 s hs
/-- the state of side s -/
theorem AOK.stU (ok : AOK A) {s n : Nat} (hs : s < 2) (hn : n < 5) (h10 : s = 0 → n = 1 → (aB A 20).length = 33 ∧ ((aB A 20).getD 32 0).toNat < 8) (h11 : s = 1 → n = 1 → (aB A 21).length = 32 ∧ (aB A 22).length = 32 ∧ (aB A 23).length = 32) (h2 : n = 2 → ∀ d, d < 2 → (aB A (24 + 2 * s + d)).length = 32) : AOK (wI A s (nI n)) := by
  obtain ⟨a1, a2, a3, a4, a5, a6, a7, a8, a9, a10, a11, a12⟩ := ok
  have sp : ∀ j, aI (wI A s (nI n)) j = if j = s then nI n else aI A j := fun j => by
    rw [aI_wI]
    by_cases h : j = s
    · rw [if_pos h, h, up_s]
    · rw [if_neg h, up_n _ _ h]
  refine ⟨fun s' hs' hc d hd => ?_, a2, fun c => ?_, fun c => ?_, ?_, a6, fun s' hs' => ?_, a8, a9, a10, a11, a12⟩
  · rw [sp] at hc
    by_cases h : s' = s
    · rw [if_pos h] at hc
      rw [h]
      exact h2 ((nI_eq (b := 2) (by omega) (by omega)).mp hc) d hd
    · rw [if_neg h] at hc; exact a1 s' hs' hc d hd
  · rw [sp] at c
    by_cases h : 0 = s
    · rw [if_pos h] at c; exact h10 h.symm ((nI_eq (b := 1) (by omega) (by omega)).mp c)
    · rw [if_neg h] at c; exact a3 c
  · rw [sp] at c
    by_cases h : 1 = s
    · rw [if_pos h] at c; exact h11 h.symm ((nI_eq (b := 1) (by omega) (by omega)).mp c)
    · rw [if_neg h] at c; exact a4 c
  · rw [sp, sp, sp, sp, sp, sp, sp, sp, if_neg (by omega), if_neg (by omega), if_neg (by omega), if_neg (by omega), if_neg (by omega), if_neg (by omega), if_neg (by omega), if_neg (by omega)]; exact a5
  · rw [sp]
    split
    · exact ⟨n, hn, rfl⟩
    · exact a7 s' hs'
theorem AOK.wWu (ok : AOK A) {w : Nat} {L : List (List B8)} (hl : L.length ≤ 12) (hr : ∀ l ∈ L, 3 ≤ l.length ∧ l.length ≤ 200) : AOK (wW A w L) := by
  obtain ⟨a1, a2, a3, a4, a5, a6, a7, a8, a9, a10, a11, a12⟩ := ok
  refine ⟨a1, a2, a3, a4, a5, a6, a7, fun v hv => ?_, a9, a10, a11, a12⟩
  rw [aW_wW]
  by_cases h : v = w
  · rw [h, up_s]; exact ⟨hl, hr⟩
  · rw [up_n _ _ h]; exact a8 v hv
theorem AOK.wTu (ok : AOK A) {t : Stt} (hl : t.length ≤ 20) (hr : ∀ e ∈ t, 1 ≤ e.1.length ∧ e.1.length ≤ 16 ∧ e.2.length ≤ 64) : AOK (wT A t) := by
  obtain ⟨a1, a2, a3, a4, a5, a6, a7, a8, a9, a10, a11, a12⟩ := ok
  exact ⟨a1, a2, a3, a4, a5, a6, a7, a8, ⟨hl, hr⟩, a10, a11, a12⟩
theorem AOK.push (ok : AOK A) {w : Nat} {r : List B8} (hw : w < 2) (hlt : (aW A w).length < 12) (hr : 3 ≤ r.length ∧ r.length ≤ 200) : AOK (wW A w (aW A w ++ [r])) := by
  refine ok.wWu (by rw [List.length_append]; show _ + 1 ≤ 12; omega) (fun l hl => ?_)
  rcases List.mem_append.mp hl with h | h
  · exact ok.wr hw l h
  · rw [List.mem_singleton.mp h]; exact hr
theorem AOK.erase (ok : AOK A) {w k : Nat} (hw : w < 2) : AOK (wW A w ((aW A w).eraseIdx k)) := by
  refine ok.wWu (Nat.le_trans (List.length_eraseIdx_le _ _) (ok.wl hw)) (fun l hl => ok.wr hw l (List.mem_of_mem_eraseIdx hl))
theorem o_feed (ok : AOK A) (a b c d e : Int32) : AOK (fFeed A a b c d e).2 := by
  unfold fFeed
  split
  · rename_i h
    exact ok.tape (by simp only [List.length_append, be4_len]; omega)
  · exact ok
theorem o_end (ok : AOK A) (n : Int32) : AOK (fEnd A n).2 := by
  unfold fEnd
  have := ok.tp
  split
  · exact ok.tape (by rw [List.length_take]; omega)
  · exact ok
theorem nof_lt {n k : Nat} {x : Int32} (h : nof n x = some k) : k < n := by
  unfold nof at h
  split at h
  · rename_i c; rw [← Option.some.inj h]; exact c
  · exact absurd h (by simp)
theorem o_key (ok : AOK A) (s k : Int32) : AOK (fKey A s k).2 := by
  unfold fKey
  split
  · rename_i s' hs
    split
    · rename_i k' hk
      have h1 := nof_lt hs
      have h2 := nof_lt hk
      exact (ok.keyU (by omega) (Or.inr (sha_len _))).tape0
    · exact ok.tape0
  · exact ok.tape0
theorem o_forget (ok : AOK A) (s k : Int32) : AOK (fForget A s k).2 := by
  unfold fForget
  split
  · rename_i s' hs
    split
    · rename_i k' hk
      have h1 := nof_lt hs
      have h2 := nof_lt hk
      split
      · exact ok
      · exact ok.keyU (by omega) (Or.inl rfl)
    · exact ok
  · exact ok
theorem o_idle (ok : AOK A) (s : Int32) : AOK (fIdle A s).2 := by
  unfold fIdle
  split
  · rename_i s' hs
    exact ok.stU (n := 0) (nof_lt hs) (by omega) (fun _ h => absurd h (by omega)) (fun _ h => absurd h (by omega)) (fun h => absurd h (by omega))
  · exact ok
theorem o_name (ok : AOK A) : AOK (fName A).2 := by
  unfold fName
  split
  · rename_i h
    exact (ok.wBu (fun h => absurd h (by omega)) (fun h => absurd h (by omega)) (fun _ => h) (fun h => absurd h (by omega)) (fun h => absurd h (by omega)) (fun h => absurd h (by omega)) (fun h => absurd h (by omega)) (fun h => absurd h (by omega))).tape0
  · exact ok.tape0
theorem rcd_lt {w k : Int32} {a b : Nat} (h : rcd A w k = some (a, b)) : a < 2 ∧ b < (aW A a).length := by
  unfold rcd at h
  split at h
  · rename_i w' hw
    split at h
    · rename_i k' hk
      have e := Option.some.inj h
      rw [← (Prod.mk.inj e).1, ← (Prod.mk.inj e).2]
      exact ⟨nof_lt hw, nof_lt hk⟩
    · exact absurd h (by simp)
  · exact absurd h (by simp)
theorem o_flip (ok : AOK A) (w k i b : Int32) : AOK (fFlip A w k i b).2 := by
  unfold fFlip
  split
  · rename_i a c hr
    obtain ⟨h1, h2⟩ := rcd_lt hr
    split
    · refine ok.wWu (by rw [List.length_set]; exact ok.wl h1) (fun l hl => ?_)
      rcases List.mem_or_eq_of_mem_set hl with h | h
      · exact ok.wr h1 l h
      · rw [h, List.length_set]; exact ok.wr h1 _ (gd_mem h2)
    · exact ok
  · exact ok
theorem o_drop (ok : AOK A) (w k : Int32) : AOK (fDrop A w k).2 := by
  unfold fDrop
  split
  · rename_i a c hr
    exact ok.erase (rcd_lt hr).1
  · exact ok
theorem o_copy (ok : AOK A) (w k to : Int32) : AOK (fCopy A w k to).2 := by
  unfold fCopy
  split
  · rename_i a c hr
    split
    · rename_i t ht
      split
      · rename_i h
        exact ok.push (nof_lt ht) h (ok.wr (rcd_lt hr).1 _ (gd_mem (rcd_lt hr).2))
      · exact ok
    · exact ok
  · exact ok
theorem o_hurry (ok : AOK A) (w k : Int32) : AOK (fHurry A w k).2 := by
  unfold fHurry
  split
  · rename_i a c hr
    obtain ⟨h1, h2⟩ := rcd_lt hr
    refine ok.wWu (by rw [List.length_cons, List.length_eraseIdx_of_lt h2]; have := ok.wl h1; omega) (fun l hl => ?_)
    rcases List.mem_cons.mp hl with h | h
    · rw [h]; exact ok.wr h1 _ (gd_mem h2)
    · exact ok.wr h1 l (List.mem_of_mem_eraseIdx h)
  · exact ok
theorem o_forge (ok : AOK A) (w : Int32) : AOK (fForge A w).2 := by
  unfold fForge
  have := ok.tp
  split
  · rename_i w' hw
    split
    · exact ok.tape0
    · split
      · rename_i h3 h12
        exact (ok.push (nof_lt hw) h12 (by omega)).tape0
      · exact ok.tape0
  · exact ok.tape0
theorem o_answer (ok : AOK A) : AOK (fAnswer A).2 := by
  unfold fAnswer
  split
  · exact ok
  · exact ok.outU ok.an
theorem sfind_lt {st : Stt} {n : List B8} {k : Nat} (h : sfind st n = some k) : k < st.length := by
  have := sfI_lt h
  omega
theorem o_stored (ok : AOK A) : AOK (fStored A).2 := by
  unfold fStored
  split
  · exact ok
  · rename_i k hk
    exact ok.outU (Nat.le_trans (ok.ts.2 _ (sn_mem (sfind_lt hk))).2.2 (by omega))
theorem gtg_ok (A : AS) {k : Nat} (hk : k < 8) : (gtg A k).length = 33 ∧ ((gtg A k).getD 32 0).toNat < 8 := by
  have hrl : (rnd A 0).length = 32 := sha_len _
  unfold gtg
  generalize rnd A 0 = r at *
  refine ⟨by rw [List.length_append, hrl]; rfl, ?_⟩
  rw [List.getD_eq_getElem?_getD, List.getElem?_append_right (by omega), hrl]
  show (b8 (nI k)).toNat < 8
  rw [b8_nI, BitVec.toNat_ofNat]
  omega
theorem o_greet (ok : AOK A) (k : Int32) : AOK (fGreet A k).2 := by
  unfold fGreet
  split
  · exact ok
  · rename_i k' hk
    have hg := gtg_ok A (nof_lt hk)
    generalize gtg A k' = g at *
    split
    · exact ok
    · split
      · exact ok
      · split
        · exact ok
        · rename_i h1 h2 h3
          have hl := ok.wl (w := 0) (by omega)
          have ok1 : AOK (wI A 2 (aI A 2 + 1)) := ok.wIu (by omega)
          have ok2 : AOK (wB (wI A 2 (aI A 2 + 1)) 20 g) := ok1.wBu (fun h => absurd h (by omega)) (fun h => absurd h (by omega)) (fun h => absurd h (by omega)) (fun h => absurd h (by omega)) (fun _ h => absurd h (by omega)) (fun _ _ => hg) (fun h => absurd h (by omega)) (fun h => absurd h (by omega))
          have ok3 : AOK (wW (wB (wI A 2 (aI A 2 + 1)) 20 g) 0 (aW A 0 ++ [hd3 1 33 ++ g])) := ok2.push (w := 0) (by omega) (show (aW A 0).length < 12 by omega) (by rw [List.length_append, hg.1]; show 3 ≤ 3 + 33 ∧ 3 + 33 ≤ 200; omega)
          refine ok3.stU (s := 0) (n := 1) (by omega) (by omega) (fun _ _ => ?_) (fun h => absurd h (by omega)) (fun h => absurd h (by omega))
          rw [aB_wW, aB_wB, up_s]
          exact hg
theorem o_seal (ok : AOK A) {s d w : Nat} {p : List B8} (hs : s < 2) (hd : d < 2) (hw : w < 2) (hlt : (aW A w).length < 12) (hp : p.length ≤ 181) : AOK (aSeal A s d w p) := by
  unfold aSeal
  have hl := sealR_len (aB A (24 + 2 * s + d)) (aI A (4 + 2 * s + d)) p
  generalize sealR (aB A (24 + 2 * s + d)) (aI A (4 + 2 * s + d)) p = q at *
  exact (ok.wIu (i := 4 + 2 * s + d) (v := aI A (4 + 2 * s + d) + 1) (by omega)).push hw hlt (by omega)
theorem o_new (ok : AOK A) {s d : Nat} (hs : s < 2) (hd : d < 2) : AOK (aNew A s d) := by
  unfold aNew
  have hl := mac_len (aB A (24 + 2 * s + d)) (ktx (aI A (18 + 2 * s + d)) (aI A (8 + 2 * s + d) + 1))
  generalize mac (aB A (24 + 2 * s + d)) (ktx (aI A (18 + 2 * s + d)) (aI A (8 + 2 * s + d) + 1)) = q at *
  exact ((ok.wIu (by omega)).wIu (by omega)).zkU (by omega) hl
theorem o_request (ok : AOK A) (o : Int32) : AOK (fRequest A o).2 := by
  unfold fRequest
  have hn := ok.nm
  split
  · exact ok.tape0
  · rename_i o' ho
    split
    · rename_i hq
      have : qmx o' ≤ 64 := by unfold qmx; split <;> omega
      split
      · exact ok.tape0
      · split
        · exact ok.tape0
        · have hl := ok.wl (w := 0) (by omega)
          exact (o_seal ok (by omega) (by omega) (by omega) (by omega) (by simp only [List.length_append]; show 3 + _ + _ ≤ 181; omega)).tape0
    · exact ok.tape0
theorem o_renew (ok : AOK A) (s : Int32) : AOK (fRenew A s).2 := by
  unfold fRenew
  split
  · exact ok
  · rename_i s' hs
    have h2 := nof_lt hs
    split
    · exact ok
    · split
      · exact ok
      · have hl := ok.wl (w := s') (by omega)
        exact o_new (o_seal ok h2 h2 h2 (by omega) (by show 1 ≤ 181; omega)) h2 h2
theorem o_close (ok : AOK A) (s : Int32) : AOK (fClose A s).2 := by
  unfold fClose
  split
  · exact ok
  · rename_i s' hs
    have h2 := nof_lt hs
    split
    · exact ok
    · split
      · exact ok
      · have hl := ok.wl (w := s') (by omega)
        exact (o_seal ok h2 h2 h2 (by omega) (by show 1 ≤ 181; omega)).stU (n := 3) h2 (by omega) (fun _ h => absurd h (by omega)) (fun _ h => absurd h (by omega)) (fun h => absurd h (by omega))
theorem o_open (ok : AOK A) {s : Nat} (hs : s < 2) (k : List B8) : AOK (aOpen A s k) := by
  unfold aOpen
  have h0 := mac_len k (ktx 0 0)
  have h1 := mac_len k (ktx 1 0)
  generalize mac k (ktx 0 0) = q0 at *
  generalize mac k (ktx 1 0) = q1 at *
  refine ((((((ok.zkU (by omega) h0).zkU (by omega) h1).wIu (by omega)).wIu (by omega)).wIu (by omega)).wIu (by omega)).stU (n := 2) hs (by omega) (fun _ h => absurd h (by omega)) (fun _ h => absurd h (by omega)) (fun _ d hd => ?_)
  rw [aB_wI, aB_wI, aB_wI, aB_wI, aB_wB]
  rcases (show d = 0 ∨ d = 1 by omega) with rfl | rfl
  · rw [up_n _ _ (by omega), aB_wB]
    show (va_up (aB A) (24 + 2 * s) q0 (24 + 2 * s)).length = 32
    rw [up_s]; exact h0
  · rw [up_s]; exact h1
theorem o_srv {st : Stt} {o : Nat} {nm dt : List B8} (hl : st.length ≤ 20) (hr : ∀ e ∈ st, 1 ≤ e.1.length ∧ e.1.length ≤ 16 ∧ e.2.length ≤ 64) (hn : 1 ≤ nm.length ∧ nm.length ≤ 16) (hd : dt.length ≤ 64) : (srv st o nm dt).2.length ≤ 20 ∧ ∀ e ∈ (srv st o nm dt).2, 1 ≤ e.1.length ∧ e.1.length ≤ 16 ∧ e.2.length ≤ 64 := by
  have setp : ∀ (k : Nat) (v : List B8), k < st.length → v.length ≤ 64 → (st.set k (sN1 st k, v)).length ≤ 20 ∧ ∀ e ∈ st.set k (sN1 st k, v), 1 ≤ e.1.length ∧ e.1.length ≤ 16 ∧ e.2.length ≤ 64 := by
    intro k v hk hv
    refine ⟨by rw [List.length_set]; exact hl, fun e he => ?_⟩
    rcases List.mem_or_eq_of_mem_set he with h | h
    · exact hr e h
    · rw [h]
      have := hr _ (sn_mem hk)
      exact ⟨this.1, this.2.1, hv⟩
  unfold srv
  split
  · split
    · split
      · refine ⟨by rw [List.length_append]; show _ + 1 ≤ 20; omega, fun e he => ?_⟩
        rcases List.mem_append.mp he with h | h
        · exact hr e h
        · rw [List.mem_singleton.mp h]; exact ⟨hn.1, hn.2, hd⟩
      · exact ⟨hl, hr⟩
    · exact ⟨hl, hr⟩
  · rename_i k hk
    have hk2 := sfind_lt hk
    split
    · exact ⟨hl, hr⟩
    · split
      · exact setp k dt hk2 hd
      · split
        · refine ⟨by rw [sRm_len]; omega, fun e he => ?_⟩
          unfold sRm at he
          rcases List.mem_or_eq_of_mem_set (List.mem_of_mem_take he) with h | h
          · exact hr e h
          · rw [h]; exact hr _ (sn_mem (by omega))
        · split
          · exact ⟨hl, hr⟩
          · split
            · rename_i h64
              exact setp k _ hk2 (by rw [List.length_append]; exact h64)
            · exact ⟨hl, hr⟩
theorem o_tGreet (ok : AOK A) {s : Nat} {L : List B8} : AOK (tGreet A s L).2 := by
  unfold tGreet
  split
  · rename_i h
    split
    · exact ok
    · rename_i h12
      have hl := ok.wl (w := 1) (by omega)
      have hrl : (rnd A 1).length = 32 := sha_len _
      generalize rnd A 1 = rn at *
      have hag := sha_len ((L.drop 3).take 33 ++ rn)
      generalize sha ((L.drop 3).take 33 ++ rn) = ag at *
      generalize aB A (12 + (L.getD 35 0).toNat) = K at *
      have hsc := mac_len K ag
      generalize mac K ag = sc at *
      have hfn := mac_len sc [102]
      generalize mac sc [102] = fn at *
      have hp := mac_len fn (b8 115 :: ag)
      generalize mac fn (b8 115 :: ag) = pr at *
      have b3 : ∀ {B : AS} {i : Nat} {l : List B8}, AOK B → 21 ≤ i → i < 24 → l.length = 32 → AOK (wB B i l) := fun okB h1 h2 h3 => okB.wBu (fun h => absurd h (by omega)) (fun h => absurd h (by omega)) (fun h => absurd h (by omega)) (fun h => absurd h (by omega)) (fun _ h => absurd h (by omega)) (fun h => absurd h (by omega)) (fun _ _ _ => h3) (fun h => absurd h (by omega))
      have ok1 : AOK (wI A 3 (aI A 3 + 1)) := ok.wIu (by omega)
      have ok2 : AOK (wB (wB (wB (wI A 3 (aI A 3 + 1)) 21 ag) 22 sc) 23 fn) := b3 (b3 (b3 ok1 (by omega) (by omega) hag) (by omega) (by omega) hsc) (by omega) (by omega) hfn
      have ok3 : AOK (wW (wB (wB (wB (wI A 3 (aI A 3 + 1)) 21 ag) 22 sc) 23 fn) 1 (aW A 1 ++ [hd3 2 64 ++ rn ++ pr])) := ok2.push (w := 1) (by omega) (show (aW A 1).length < 12 by omega) (by rw [List.length_append, List.length_append, hrl, hp]; show 3 ≤ 3 + 32 + 32 ∧ 3 + 32 + 32 ≤ 200; omega)
      refine ok3.stU (s := 1) (n := 1) (by omega) (by omega) (fun h => absurd h (by omega)) (fun _ _ => ⟨?_, ?_, ?_⟩) (fun h => absurd h (by omega))
      · rw [aB_wW, aB_wB, up_n _ _ (by omega), aB_wB, up_n _ _ (by omega), aB_wB, up_s]; exact hag
      · rw [aB_wW, aB_wB, up_n _ _ (by omega), aB_wB, up_s]; exact hsc
      · rw [aB_wW, aB_wB, up_s]; exact hfn
  · exact ok
theorem o_tReply (ok : AOK A) {s : Nat} {L : List B8} : AOK (tReply A s L).2 := by
  unfold tReply
  split
  · split
    · exact ok
    · rename_i h12
      have hl := ok.wl (w := 0) (by omega)
      generalize sha (aB A 20 ++ (L.drop 3).take 32) = ag at *
      generalize aB A (4 + ((aB A 20).getD 32 0).toNat) = K at *
      generalize mac K ag = sc at *
      generalize mac sc [102] = fn at *
      have hp := mac_len fn (b8 99 :: ag)
      generalize mac fn (b8 99 :: ag) = pr at *
      have ok1 : AOK (wW A 0 (aW A 0 ++ [hd3 3 32 ++ pr])) := ok.push (w := 0) (by omega) (by omega) (by rw [List.length_append, hp]; show 3 ≤ 3 + 32 ∧ 3 + 32 ≤ 200; omega)
      exact (o_open ok1 (by omega) sc).ansU (by simp)
  · exact ok
theorem o_tProof (ok : AOK A) {s : Nat} {L : List B8} : AOK (tProof A s L).2 := by
  unfold tProof
  split
  · exact o_open ok (by omega) _
  · exact ok
theorem o_tReq (ok : AOK A) {p : List B8} : AOK (tReq A p).2 := by
  unfold tReq
  split
  · exact ok
  · rename_i o nm dt hq
    split
    · exact ok
    · have hl := ok.wl (w := 1) (by omega)
      obtain ⟨-, -, -, m1, m16, -, -, -, hdt, -⟩ := rdq_some hq
      have hs := o_srv (o := o) ok.ts.1 ok.ts.2 ⟨m1, m16⟩ hdt
      have hv := srv_len (aT A) o nm dt (fun k hk => (ok.ts.2 _ (sn_mem hk)).2.2)
      generalize srv (aT A) o nm dt = sv at *
      exact (o_seal ((ok.wIu (i := 6) (v := aI A 6 + 1) (by omega)).wTu hs.1 hs.2) (by omega) (by omega) (by omega) (show (aW A 1).length < 12 by omega) (by rw [List.length_cons]; omega)).wIu (by omega)
theorem o_tAns (ok : AOK A) {p : List B8} : AOK (tAns A p).2 := by
  unfold tAns
  by_cases h : 2 ≤ p.length ∧ p.length ≤ 2 + (if (p.getD 1 0).toNat = 0 then 64 else 0) ∧ (p.getD 1 0).toNat ≤ 3
  · rw [if_pos h]
    have h66 : p.length ≤ 66 := by have := h.2.1; split at this <;> omega
    have hd : (p.drop 1).length ≤ 65 := by rw [List.length_drop]; omega
    exact ((ok.wIu (i := 5) (v := aI A 5 + 1) (by omega)).ansU hd).wIu (by omega)
  · rw [if_neg h]
    exact ok
theorem o_tSealed (ok : AOK A) {s : Nat} (hs : s < 2) {L : List B8} : AOK (tSealed A s L).2 := by
  unfold tSealed
  split
  · split
    · exact ok
    · split
      · exact ok
      · split
        · split
          · exact o_tReq ok
          · exact o_tAns ok
        · split
          · split
            · exact o_new ok hs (by omega)
            · split
              · exact ok.stU (n := 3) hs (by omega) (fun _ h => absurd h (by omega)) (fun _ h => absurd h (by omega)) (fun h => absurd h (by omega))
              · exact ok
          · exact ok
  · exact ok
theorem o_recv1 (ok : AOK A) {s : Nat} (hs : s < 2) {L : List B8} : AOK (fRecv1 A s L).2 := by
  unfold fRecv1
  split
  · unfold tAll
    split
    · exact o_tGreet ok
    · split
      · exact o_tReply ok
      · split
        · exact o_tProof ok
        · split
          · exact o_tSealed ok hs
          · exact ok
  · exact ok
theorem o_receive (ok : AOK A) (w : Int32) : AOK (fReceive A w).2 := by
  unfold fReceive
  split
  · exact ok
  · rename_i w' hw
    have h2 := nof_lt hw
    split
    · exact ok
    · have ok1 := o_recv1 ok (s := 1 - w') (by omega) (L := (aW A w').getD 0 [])
      generalize fRecv1 A (1 - w') ((aW A w').getD 0 []) = r at *
      unfold fRecv2
      split
      · exact ok1
      · split
        · have ok2 : AOK (wI r.2 (1 - w') 4) := ok1.stU (n := 4) (by omega) (by omega) (fun _ h => absurd h (by omega)) (fun _ h => absurd h (by omega)) (fun h => absurd h (by omega))
          exact ok2.erase (w := w') h2
        · exact ok1.erase h2
end AOKS
