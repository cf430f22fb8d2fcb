/-! The reference's tape. -/
def RM (w : Wd) (b : Nat → Nat) (n : Nat) (s : Rd) : Prop :=
  n ≤ 600 ∧ (∀ i, i < n → b i < 256) ∧ w.1 40 0 2 = nI n ∧ (∀ i, i < n → w.1 41 0 i = nI (b i)) ∧ Rk n s ∧ w.1 40 0 5 = nI s.1 ∧ (s.1 = 0 → w.1 40 0 6 = -1 ∧ w.1 40 0 4 = nI s.2) ∧ (s.1 ≠ 0 → w.1 40 0 6 = nI s.2 ∧ ∃ q, q ≤ n ∧ w.1 40 0 4 = nI q)
def GR4 (κ _b k : Nat) : Prop := κ = 40 ∧ k = 4
def GR (κ _b k : Nat) : Prop := κ = 40 ∧ (k = 4 ∨ k = 5 ∨ k = 6)
theorem GR4_GR : ∀ κ b k, GR4 κ b k → GR κ b k := by
  intro κ b k h
  unfold GR4 at h
  unfold GR
  omega
theorem RM.mv {w w' : Wd} {b : Nat → Nat} {n : Nat} {s : Rd} {S : Nat → Nat → Nat → Prop} (h : RM w b n s) (hs : Sm S w w') (h1 : ∀ k, (k = 2 ∨ k = 4 ∨ k = 5 ∨ k = 6) → ¬ S 40 0 k) (h10 : ∀ k, ¬ S 41 0 k) : RM w' b n s := by
  obtain ⟨a1, a2, a3, a4, a5, a6, a7, a8⟩ := h
  refine ⟨a1, a2, (hs.1 40 0 2 (h1 2 (by decide))).trans a3, fun i hi => (hs.1 41 0 i (h10 i)).trans (a4 i hi), a5, (hs.1 40 0 5 (h1 5 (by decide))).trans a6, fun q => ?_, fun q => ?_⟩
  · exact ⟨(hs.1 40 0 6 (h1 6 (by decide))).trans (a7 q).1, (hs.1 40 0 4 (h1 4 (by decide))).trans (a7 q).2⟩
  · obtain ⟨z1, z, z2, z3⟩ := a8 q
    exact ⟨(hs.1 40 0 6 (h1 6 (by decide))).trans z1, z, z2, (hs.1 40 0 4 (h1 4 (by decide))).trans z3⟩
theorem RM.to {w w' : Wd} {b : Nat → Nat} {n p q : Nat} {v : Int32} (h : RM w b n (0, p)) (hw : w' = setI w 40 0 4 v) (hv : v = nI q) (hq : q ≤ n) : RM w' b n (0, q) := by
  obtain ⟨a1, a2, a3, a4, a5, a6, a7, a8⟩ := h
  subst hw
  refine ⟨a1, a2, (setI_ne (by omega)).trans a3, fun i hi => (setI_ne (by omega)).trans (a4 i hi), ⟨by show (0 : Nat) ≤ 3; decide, hq⟩, (setI_ne (by omega)).trans a6, fun z => ⟨(setI_ne (by omega)).trans (a7 z).1, ?_⟩, fun z => absurd rfl z⟩
  rw [setI_eq, hv]
/-- where the reference stands -/
theorem RM.pos {w : Wd} {b : Nat → Nat} {n : Nat} {s : Rd} (h : RM w b n s) : ∃ q, q ≤ n ∧ w.1 40 0 4 = nI q := by
  by_cases h0 : s.1 = 0
  · exact ⟨s.2, h.2.2.2.2.1.2, (h.2.2.2.2.2.2.1 h0).2⟩
  · exact (h.2.2.2.2.2.2.2 h0).2
theorem RM.zero {w : Wd} {b : Nat → Nat} {n : Nat} {s : Rd} (h : RM w b n s) : w.1 40 0 5 = 0 ↔ s.1 = 0 := by
  have h3 := h.2.2.2.2.1.1
  rw [h.2.2.2.2.2.1]
  exact nI_eq (b := 0) (by omega) (by decide)
def btI (b : Nat → Nat) (n p : Nat) : Int32 := if p < n then nI (b p) else -1
def ev (f : Nat → Nat) : Nat → Nat
  | 0 => 0
  | k + 1 => 27 * ev f k + f k
theorem ev_lt {f : Nat → Nat} {k : Nat} (h : ∀ i, i < k → f i ≤ 26) : ev f k < 27 ^ k := by
  induction k with
  | zero => exact Nat.zero_lt_one
  | succ k ih =>
    have h1 := ih (fun i hi => h i (by omega))
    have h2 := h k (by omega)
    rw [ev, Nat.pow_succ]
    omega
theorem ev_inj : ∀ (n m : Nat) (f g : Nat → Nat), (∀ i, i < n → 1 ≤ f i ∧ f i ≤ 26) → (∀ i, i < m → 1 ≤ g i ∧ g i ≤ 26) → ev f n = ev g m → n = m ∧ ∀ i, i < n → f i = g i
  | 0, 0, _, _, _, _, _ => ⟨rfl, fun i hi => absurd hi (Nat.not_lt_zero _)⟩
  | 0, m + 1, f, g, _, hg, h => by
    have := hg m (by omega)
    rw [ev, ev] at h
    omega
  | n + 1, 0, f, g, hf, _, h => by
    have := hf n (by omega)
    rw [ev, ev] at h
    omega
  | n + 1, m + 1, f, g, hf, hg, h => by
    have a := hf n (by omega)
    have c := hg m (by omega)
    rw [ev, ev] at h
    have e1 : f n = g m := by omega
    have e2 : ev f n = ev g m := by omega
    obtain ⟨i1, i2⟩ := ev_inj n m f g (fun i hi => hf i (by omega)) (fun i hi => hg i (by omega)) e2
    subst i1
    refine ⟨rfl, fun i hi => ?_⟩
    by_cases q : i = n
    · rw [q]; exact e1
    · exact i2 i (by omega)
theorem ev_congr {f g : Nat → Nat} {k : Nat} (h : ∀ i, i < k → f i = g i) : ev f k = ev g k := by
  induction k with
  | zero => rfl
  | succ k ih => rw [ev, ev, ih (fun i hi => h i (by omega)), h k (by omega)]
def sixN (a b c d e f : Nat) : Nat :=
  let v := 27 * (27 * a + b) + c
  let v := if d = 0 then v else 27 * v + d
  let v := if e = 0 then v else 27 * v + e
  if f = 0 then v else 27 * v + f
/-- six letters spell the word L -/
def okL (L : List Nat) (a b c d e f : Nat) : Prop := L.length ≤ 6 ∧ (∀ i, i < L.length → 97 ≤ L.getD i 0 ∧ L.getD i 0 ≤ 122) ∧ sixN a b c d e f = ev (fun i => L.getD i 0 - 96) L.length ∧ a ≤ 26 ∧ b ≤ 26 ∧ c ≤ 26 ∧ d ≤ 26 ∧ e ≤ 26 ∧ f ≤ 26
section TB
variable {l : Launch} {G : Gx} {w : Wd} {b : Nat → Nat} {n : Nat} {s : Rd}
theorem m_byteAt (hl : l.stackTraces = false) {k : Nat} (hk9 : k < 2 ^ 31) (h : RM w b n s) : C_X10_byteAt l G w [.ref (G.2.1 40 0), .int (nI k)] (fun r w' => r = some (.int (btI b n k)) ∧ w' = w) noX := by
  obtain ⟨hn, hb, h5, h10, -⟩ := h
  refine e_X10_byteAt hl (fun M kk hM hk F => ?_)
  rw [h5, nI_clamp hk9, nI_ltI hk9 (by omega)]
  refine ⟨fun hc => ⟨vp_in_nI (by omega) (by decide), ?_, rfl⟩, fun hc => ⟨?_, rfl⟩⟩
  · rw [h10 k hc, btI, if_pos hc]
  · rw [btI, if_neg hc]
theorem m_isDigit (hl : l.stackTraces = false) {v : Int32} : C_X10_isDigit l G w [.int v] (fun r w' => r = some (.int (bI (decide (48 ≤ v) && decide (v ≤ 57)))) ∧ w' = w) noX := by
  refine e_X10_isDigit hl (fun M kk hM hk F => ⟨fun h => ⟨?_, rfl⟩, fun h => ⟨fun h2 => ⟨?_, rfl⟩, fun h2 => ⟨?_, rfl⟩⟩⟩)
  · simp [bI, Int32.not_le.mpr h]
  · simp [bI, Int32.not_le.mpr h2]
  · simp [bI, Int32.not_lt.mp h, Int32.not_lt.mp h2]
theorem m_isSmall (hl : l.stackTraces = false) {v : Int32} : C_X10_isSmall l G w [.int v] (fun r w' => r = some (.int (bI (decide (97 ≤ v) && decide (v ≤ 122)))) ∧ w' = w) noX := by
  refine e_X10_isSmall hl (fun M kk hM hk F => ⟨fun h => ⟨?_, rfl⟩, fun h => ⟨fun h2 => ⟨?_, rfl⟩, fun h2 => ⟨?_, rfl⟩⟩⟩)
  · simp [bI, Int32.not_le.mpr h]
  · simp [bI, Int32.not_le.mpr h2]
  · simp [bI, Int32.not_lt.mp h, Int32.not_lt.mp h2]
theorem btI_d (hb : ∀ i, i < n → b i < 256) (p : Nat) : (decide ((48 : Int32) ≤ btI b n p) && decide (btI b n p ≤ 57)) = decide (p < n ∧ isD b p = true) := by
  unfold btI
  by_cases h : p < n
  · have := hb p h
    have e1 : ((48 : Int32) ≤ nI (b p)) ↔ 48 ≤ b p := nI_leI (a := 48) (by decide) (by omega)
    have e2 : (nI (b p) ≤ (57 : Int32)) ↔ b p ≤ 57 := nI_leI (b := 57) (by omega) (by decide)
    rw [if_pos h, decide_eq_decide.mpr e1, decide_eq_decide.mpr e2, ← Bool.decide_and, decide_eq_decide, isD_iff]
    exact ⟨fun q => ⟨h, q⟩, fun q => q.2⟩
  · have e : decide (p < n ∧ isD b p = true) = false := decide_eq_false (fun q => h q.1)
    rw [if_neg h, e]
    decide
theorem btI_l (hb : ∀ i, i < n → b i < 256) (p : Nat) : (decide ((97 : Int32) ≤ btI b n p) && decide (btI b n p ≤ 122)) = decide (p < n ∧ isL b p = true) := by
  unfold btI
  by_cases h : p < n
  · have := hb p h
    have e1 : ((97 : Int32) ≤ nI (b p)) ↔ 97 ≤ b p := nI_leI (a := 97) (by decide) (by omega)
    have e2 : (nI (b p) ≤ (122 : Int32)) ↔ b p ≤ 122 := nI_leI (b := 122) (by omega) (by decide)
    rw [if_pos h, decide_eq_decide.mpr e1, decide_eq_decide.mpr e2, ← Bool.decide_and, decide_eq_decide, isL_iff]
    exact ⟨fun q => ⟨h, q⟩, fun q => q.2⟩
  · have e : decide (p < n ∧ isL b p = true) = false := decide_eq_false (fun q => h q.1)
    rw [if_neg h, e]
    decide
theorem btI_c (hb : ∀ i, i < n → b i < 256) (p : Nat) {c : Nat} (hc : c < 256) : btI b n p = nI c ↔ p < n ∧ b p = c := by
  unfold btI
  by_cases h : p < n
  · have := hb p h
    rw [if_pos h, nI_eq (by omega) (by omega)]
    exact ⟨fun q => ⟨h, q⟩, fun q => q.2⟩
  · rw [if_neg h]
    exact ⟨fun q => absurd q.symm (nI_neg1 (by omega)), fun q => absurd q.1 h⟩
theorem m_blanks (hl : l.stackTraces = false) (h : RM w b n s) : C_X10_blanks l G w [.ref (G.2.1 40 0)] (fun r w' => r = none ∧ RM w' b n (pkS b n s) ∧ Sm GR4 w w') noX := by
  have hb := h.2.1
  have hn := h.1
  refine e_X10_blanks hl (fun M kk hM hk F => ?_)
  generalize hK : (fun r w' => r = none ∧ RM w' b n (pkS b n s) ∧ Sm GR4 w w' : Option Value → Wd → Prop) = K
  subst hM
  have key : ∀ d p w', n - p = d → p ≤ n → w'.1 40 0 4 = nI p → (s.1 = 0 → sk b n p = sk b n s.2 ∧ RM w' b n (0, p)) → (s.1 ≠ 0 → RM w' b n s) → Sm GR4 w w' → Z M G 0 K noX w' 0 [some (.ref (G.2.1 40 0))] [] := by
    intro d
    induction d with
    | zero =>
      intro p w' hd hp e4 hz hx hs
      have hR : ∃ s', RM w' b n s' := by
        by_cases h0 : s.1 = 0
        · exact ⟨_, (hz h0).2⟩
        · exact ⟨_, hx h0⟩
      obtain ⟨s', hR⟩ := hR
      refine b_X10_blanks_0 F hk ?_
      rw [e4]
      refine con_i (m_byteAt hl (by omega) hR) ⟨fun _ => ?_, fun hc => ?_⟩
      · rw [← hK]
        refine ⟨rfl, ?_, hs⟩
        by_cases h0 : s.1 = 0
        · have ep : p = sk b n s.2 := by rw [← (hz h0).1]; exact (rn_n (fun q => by omega)).symm
          rw [pkS, if_neg (fun z => z h0), ← ep]
          exact (hz h0).2
        · rw [pkS_x h0]
          exact hx h0
      · have := ((btI_c hb p (c := 32) (by decide)).mp (Classical.not_not.mp hc)).1
        omega
    | succ d ih =>
      intro p w' hd hp e4 hz hx hs
      have hR : ∃ s', RM w' b n s' := by
        by_cases h0 : s.1 = 0
        · exact ⟨_, (hz h0).2⟩
        · exact ⟨_, hx h0⟩
      obtain ⟨s', hR⟩ := hR
      refine b_X10_blanks_0 F hk ?_
      rw [e4]
      refine con_i (m_byteAt hl (by omega) hR) ⟨fun hc => ?_, fun hc => ?_⟩
      · rw [← hK]
        refine ⟨rfl, ?_, hs⟩
        by_cases h0 : s.1 = 0
        · have ep : p = sk b n s.2 := by
            rw [← (hz h0).1]
            exact (rn_n (fun q => hc ((btI_c hb p (c := 32) (by decide)).mpr ⟨q.1, isB_iff.mp q.2⟩))).symm
          rw [pkS, if_neg (fun z => z h0), ← ep]
          exact (hz h0).2
        · rw [pkS_x h0]
          exact hx h0
      · obtain ⟨hlt, hy⟩ := (btI_c hb p (c := 32) (by decide)).mp (Classical.not_not.mp hc)
        intro w3 hw3
        rw [e4] at hw3
        refine ih (p + 1) w3 (by omega) (by omega) (by rw [hw3, setI_eq, nI_succ]) (fun h0 => ⟨?_, (hz h0).2.to hw3 (nI_succ p).symm (by omega)⟩) (fun h0 => ?_) (by rw [hw3]; exact hs.set ⟨rfl, rfl⟩)
        · rw [← (hz h0).1]
          exact (rn_y hlt (isB_iff.mpr hy)).symm
        · obtain ⟨a1, a2, a3, a4, a5, a6, a7, a8⟩ := hx h0
          rw [hw3]
          refine ⟨a1, a2, (setI_ne (by omega)).trans a3, fun i hi => (setI_ne (by omega)).trans (a4 i hi), a5, (setI_ne (by omega)).trans a6, fun z => absurd z h0, fun z => ⟨(setI_ne (by omega)).trans (a8 z).1, p + 1, by omega, ?_⟩⟩
          rw [setI_eq, nI_succ]
  obtain ⟨q, hq, e4⟩ := h.pos
  refine key (n - q) q w rfl hq e4 (fun h0 => ?_) (fun _ => h) Sm.rf
  have e : q = s.2 := by
    have := (h.2.2.2.2.2.2.1 h0).2
    rw [e4] at this
    exact (nI_eq (by omega) (by have := h.2.2.2.2.1.2; omega)).mp this
  rw [e]
  refine ⟨rfl, ?_⟩
  have e2 : s = (0, s.2) := by rw [← h0]
  rw [← e2]
  exact h
theorem m_wrong (hl : l.stackTraces = false) {f x : Nat} (h : RM w b n s) (hf : 1 ≤ f) (hf3 : f ≤ 3) (hx : x ≤ n) : C_X10_wrong l G w [.ref (G.2.1 40 0), .int (nI f), .int (nI x)] (fun r w' => r = none ∧ RM w' b n (flF f x s) ∧ Sm GR w w' ∧ w'.1 40 0 4 = w.1 40 0 4) noX := by
  refine e_X10_wrong hl (fun M kk hM hk F => ⟨fun hc => ⟨rfl, ?_, Sm.rf, rfl⟩, fun hc w1 hw1 w2 hw2 => ⟨rfl, ?_, ?_, ?_⟩⟩)
  · have h0 : s.1 ≠ 0 := fun z => hc (h.zero.mpr z)
    rw [flF_x h0]
    exact h
  · have h0 : s.1 = 0 := h.zero.mp (Classical.not_not.mp hc)
    obtain ⟨q, hq, e4⟩ := h.pos
    obtain ⟨a1, a2, a3, a4, a5, a6, a7, a8⟩ := h
    rw [flF, if_neg (fun z => z h0)]
    refine ⟨a1, a2, by rw [hw2, setI_ne (by omega), hw1, setI_ne (by omega)]; exact a3, fun i hi => by rw [hw2, setI_ne (by omega), hw1, setI_ne (by omega)]; exact a4 i hi, ⟨hf3, hx⟩, by rw [hw2, setI_ne (by omega), hw1]; exact setI_eq _ _ _ _ _, fun z => absurd z (by show ¬ f = 0; omega), fun _ => ⟨by rw [hw2]; exact setI_eq _ _ _ _ _, q, hq, by rw [hw2, setI_ne (by omega), hw1, setI_ne (by omega)]; exact e4⟩⟩
  · rw [hw2, hw1]
    exact (Sm.rf.set (by unfold GR; omega)).set (by unfold GR; omega)
  · rw [hw2, setI_ne (by omega), hw1, setI_ne (by omega)]
theorem m_sign (hl : l.stackTraces = false) {c : Nat} (hc : c < 256) (h : RM w b n s) : C_X10_sign l G w [.ref (G.2.1 40 0), .int (nI c)] (fun r w' => r = none ∧ RM w' b n (sgnF b n c s) ∧ Sm GR w w') noX := by
  have hb := h.2.1
  have hn := h.1
  refine e_X10_sign hl (fun M kk hM hk F => ?_)
  subst hM
  rw [h.zero]
  refine ⟨fun h0 => ?_, fun h0 => ⟨rfl, by rw [sgnF_x h0]; exact h, Sm.rf⟩⟩
  have hle := sk_le (b := b) h.2.2.2.2.1.2
  refine con_vP (m_blanks hl h) (fun w2 k2 => ?_)
  obtain ⟨hR2, hs2⟩ := k2
  rw [pkS, if_neg (fun z => z h0)] at hR2
  have e4 : w2.1 40 0 4 = nI (sk b n s.2) := (hR2.2.2.2.2.2.2.1 rfl).2
  rw [e4]
  refine con_i (m_byteAt hl (by omega) hR2) ?_
  rw [btI_c hb _ hc, e4]
  refine ⟨fun hq => ?_, fun hq w7 hw7 => ?_⟩
  · refine con_vP (m_wrong hl hR2 (f := 1) (by decide) (by decide) hle) (fun w6 k6 => ⟨rfl, ?_, (hs2.mono GR4_GR).tr k6.2.1⟩)
    rw [sgnF, if_neg (fun z => z h0), if_neg hq]
    have := k6.1
    rw [flF, if_neg (fun z => z rfl)] at this
    exact this
  · have hq := Classical.not_not.mp hq
    refine ⟨rfl, ?_, by rw [hw7]; exact (hs2.mono GR4_GR).set (by unfold GR; omega)⟩
    rw [sgnF, if_neg (fun z => z h0), if_pos hq]
    exact hR2.to hw7 (nI_succ _).symm (by omega)
/-- a sign that may stand here -/
def tkB (b : Nat → Nat) (n c : Nat) (s : Rd) : Bool := decide (s.1 = 0 ∧ sk b n s.2 < n ∧ b (sk b n s.2) = c)
def tkS (b : Nat → Nat) (n c : Nat) (s : Rd) : Rd := if tkB b n c s then (0, sk b n s.2 + 1) else pkS b n s
theorem m_takesSign (hl : l.stackTraces = false) {c : Nat} (hc : c < 256) (h : RM w b n s) : C_X10_takesSign l G w [.ref (G.2.1 40 0), .int (nI c)] (fun r w' => r = some (.int (bI (tkB b n c s))) ∧ RM w' b n (tkS b n c s) ∧ Sm GR4 w w') noX := by
  have hb := h.2.1
  have hn := h.1
  refine e_X10_takesSign hl (fun M kk hM hk F => ?_)
  subst hM
  rw [h.zero]
  refine ⟨fun h0 => ?_, fun h0 => ⟨?_, ?_, Sm.rf⟩⟩
  · have hle := sk_le (b := b) h.2.2.2.2.1.2
    refine con_vP (m_blanks hl h) (fun w2 k2 => ?_)
    obtain ⟨hR2, hs2⟩ := k2
    have hR2' := hR2
    rw [pkS, if_neg (fun z => z h0)] at hR2
    have e4 : w2.1 40 0 4 = nI (sk b n s.2) := (hR2.2.2.2.2.2.2.1 rfl).2
    rw [e4]
    refine con_i (m_byteAt hl (by omega) hR2) ?_
    rw [btI_c hb _ hc]
    refine ⟨fun hq => b_X10_takesSign_30 F hk ⟨fun _ => ⟨rfl, ?_, ?_, hs2⟩, fun q => absurd rfl q⟩, fun hq => b_X10_takesSign_30 F hk ⟨fun q => absurd q (by decide), fun _ w1 hw1 => ⟨rfl, ?_, ?_, by rw [hw1]; exact hs2.set ⟨rfl, rfl⟩⟩⟩⟩
    · rw [tkB, decide_eq_false (fun z => hq z.2)]; rfl
    · rw [tkS, tkB, decide_eq_false (fun z => hq z.2)]
      exact hR2'
    · rw [tkB, decide_eq_true ⟨h0, Classical.not_not.mp hq⟩]; rfl
    · have hq := Classical.not_not.mp hq
      rw [tkS, tkB, decide_eq_true ⟨h0, hq⟩]
      rw [e4] at hw1
      exact hR2.to hw1 (nI_succ _).symm (by omega)
  · rw [tkB, decide_eq_false (fun z => h0 z.1)]; rfl
  · rw [tkS, tkB, decide_eq_false (fun z => h0 z.1)]
    show RM w b n (pkS b n s)
    rw [pkS_x h0]
    exact h
theorem m_skipWord (hl : l.stackTraces = false) {p : Nat} (h : RM w b n (0, p)) : C_X10_skipWord l G w [.ref (G.2.1 40 0)] (fun r w' => r = none ∧ RM w' b n (0, we b n p) ∧ Sm GR4 w w') noX := by
  have hb := h.2.1
  have hn := h.1
  refine e_X10_skipWord hl (fun M kk hM hk F => ?_)
  generalize hK : (fun r w' => r = none ∧ RM w' b n (0, we b n p) ∧ Sm GR4 w w' : Option Value → Wd → Prop) = K
  subst hM
  have key : ∀ d q w', n - q = d → q ≤ n → we b n q = we b n p → RM w' b n (0, q) → Sm GR4 w w' → Z M G 0 K noX w' 0 [some (.ref (G.2.1 40 0))] [] := by
    intro d
    induction d with
    | zero =>
      intro q w' hd hp hwe hR hs
      have e4 : w'.1 40 0 4 = nI q := (hR.2.2.2.2.2.2.1 rfl).2
      refine b_X10_skipWord_0 F hk ?_
      rw [e4]
      refine con_i (m_byteAt hl (by omega) hR) (con_i (m_isSmall hl) ?_)
      rw [btI_l hb, decide_eq_false (fun z => by omega)]
      refine ⟨fun _ => ?_, fun hc => absurd rfl hc⟩
      rw [← hK, ← hwe]
      refine ⟨rfl, ?_, hs⟩
      rw [we, rn_n (fun z => by omega)]
      exact hR
    | succ d ih =>
      intro q w' hd hp hwe hR hs
      have e4 : w'.1 40 0 4 = nI q := (hR.2.2.2.2.2.2.1 rfl).2
      refine b_X10_skipWord_0 F hk ?_
      rw [e4]
      refine con_i (m_byteAt hl (by omega) hR) (con_i (m_isSmall hl) ?_)
      rw [btI_l hb, bI_t, decide_eq_false_iff_not]
      refine ⟨fun hc => ?_, fun hc w5 hw5 => ?_⟩
      · rw [← hK, ← hwe]
        refine ⟨rfl, ?_, hs⟩
        rw [we, rn_n hc]
        exact hR
      · have hc := Classical.not_not.mp hc
        rw [e4] at hw5
        refine ih (q + 1) w5 (by omega) (by omega) ?_ (hR.to hw5 (nI_succ q).symm (by omega)) (by rw [hw5]; exact hs.set ⟨rfl, rfl⟩)
        rw [← hwe]
        exact (rn_y hc.1 hc.2).symm
  exact key (n - p) p w rfl h.2.2.2.2.1.2 rfl h Sm.rf
theorem m_six (hl : l.stackTraces = false) {a1 a2 a3 a4 a5 a6 : Nat} (h4 : a4 ≤ 26) (h5 : a5 ≤ 26) (h6 : a6 ≤ 26) : C_X10_six l G w [.int (nI a1), .int (nI a2), .int (nI a3), .int (nI a4), .int (nI a5), .int (nI a6)] (fun r w' => r = some (.int (nI (sixN a1 a2 a3 a4 a5 a6))) ∧ w' = w) noX := by
  have e27 : ∀ x y : Nat, (27 : Int32) * nI x + nI y = nI (27 * x + y) := fun x y => by
    have e1 : (27 : Int32) * nI x = nI (27 * x) := nI_mul 27 x
    rw [e1, nI_add]
  have z0 : ∀ x : Nat, x ≤ 26 → (nI x = 0 ↔ x = 0) := fun x hx => nI_eq (b := 0) (by omega) (by decide)
  refine e_X10_six hl (fun M kk hM hk F => ?_)
  have fin : ∀ v : Nat, (if a6 = 0 then v else 27 * v + a6) = sixN a1 a2 a3 a4 a5 a6 → Z M G 0 (fun r w' => r = some (Value.int (nI (sixN a1 a2 a3 a4 a5 a6))) ∧ w' = w) noX w 49 [none, none, none, none, none, some (.int (nI a6)), none] [.int (nI v)] := by
    intro v hv
    refine b_X10_six_49 F hk ?_
    rw [z0 a6 h6, e27]
    refine ⟨fun hc => ⟨?_, rfl⟩, fun hc => ⟨?_, rfl⟩⟩
    · rw [← hv, if_neg hc]
    · rw [← hv, if_pos (Classical.not_not.mp hc)]
  have mid : ∀ v : Nat, (if a6 = 0 then (if a5 = 0 then v else 27 * v + a5) else 27 * (if a5 = 0 then v else 27 * v + a5) + a6) = sixN a1 a2 a3 a4 a5 a6 → Z M G 0 (fun r w' => r = some (Value.int (nI (sixN a1 a2 a3 a4 a5 a6))) ∧ w' = w) noX w 29 [none, none, none, none, some (.int (nI a5)), some (.int (nI a6)), none] [.int (nI v)] := by
    intro v hv
    refine b_X10_six_29 F hk ?_
    rw [z0 a5 h5, e27]
    refine ⟨fun hc => fin _ ?_, fun hc => fin _ ?_⟩
    · rw [if_neg hc] at hv; exact hv
    · rw [if_pos (Classical.not_not.mp hc)] at hv; exact hv
  rw [z0 a4 h4, e27, e27, e27]
  refine ⟨fun hc => mid _ ?_, fun hc => mid _ ?_⟩
  · unfold sixN
    simp only [if_neg hc]
  · unfold sixN
    simp only [if_pos (Classical.not_not.mp hc)]
end TB
