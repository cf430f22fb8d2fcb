/-! The class's tape: signs, words, figures. -/
def RC (w : Wd) (b : Nat → Nat) (n : Nat) (s : Rd) : Prop :=
  n ≤ 600 ∧ (∀ i, i < n → b i < 256) ∧ w.1 1 0 5 = nI n ∧ (∀ i, i < n → w.1 10 0 i = sb8 (b i)) ∧ Rk n s ∧ w.1 1 0 1 = nI s.1 ∧ (s.1 = 0 → w.1 1 0 2 = -1 ∧ w.1 1 0 3 = nI s.2) ∧ (s.1 ≠ 0 → w.1 1 0 2 = nI s.2 ∧ w.1 1 0 3 = nI n)
def GT3 (κ _b k : Nat) : Prop := κ = 1 ∧ (k = 1 ∨ k = 2 ∨ k = 3)
def GT (κ _b k : Nat) : Prop := κ = 1 ∧ (k = 1 ∨ k = 2 ∨ k = 3 ∨ k = 4)
theorem GT3_GT : ∀ κ b k, GT3 κ b k → GT κ b k := by
  intro κ b k h
  unfold GT3 at h
  unfold GT
  omega
theorem RC.mv {w w' : Wd} {b : Nat → Nat} {n : Nat} {s : Rd} {S : Nat → Nat → Nat → Prop} (h : RC w b n s) (hs : Sm S w w') (h1 : ∀ k, k ≠ 0 → k ≠ 4 → ¬ S 1 0 k) (h10 : ∀ k, ¬ S 10 0 k) : RC w' b n s := by
  obtain ⟨a1, a2, a3, a4, a5, a6, a7, a8⟩ := h
  refine ⟨a1, a2, (hs.1 1 0 5 (h1 5 (by decide) (by decide))).trans a3, fun i hi => (hs.1 10 0 i (h10 i)).trans (a4 i hi), a5, (hs.1 1 0 1 (h1 1 (by decide) (by decide))).trans a6, fun q => ?_, fun q => ?_⟩
  · exact ⟨(hs.1 1 0 2 (h1 2 (by decide) (by decide))).trans (a7 q).1, (hs.1 1 0 3 (h1 3 (by decide) (by decide))).trans (a7 q).2⟩
  · exact ⟨(hs.1 1 0 2 (h1 2 (by decide) (by decide))).trans (a8 q).1, (hs.1 1 0 3 (h1 3 (by decide) (by decide))).trans (a8 q).2⟩
theorem RC.to {w w' : Wd} {b : Nat → Nat} {n p q : Nat} {v : Int32} (h : RC w b n (0, p)) (hw : w' = setI w 1 0 3 v) (hv : v = nI q) (hq : q ≤ n) : RC w' b n (0, q) := by
  obtain ⟨a1, a2, a3, a4, a5, a6, a7, a8⟩ := h
  subst hw
  refine ⟨a1, a2, (setI_ne (by omega)).trans a3, fun i hi => (setI_ne (by omega)).trans (a4 i hi), ⟨by show (0 : Nat) ≤ 3; decide, hq⟩, (setI_ne (by omega)).trans a6, fun z => ⟨(setI_ne (by omega)).trans (a7 z).1, ?_⟩, fun z => absurd rfl z⟩
  rw [setI_eq, hv]
theorem nI_lePred {v H : Nat} (hv : v < 2 ^ 31) (hH : H < 2 ^ 31) : nI v ≤ nI H - 1 ↔ v < H := by
  cases H with
  | zero =>
    constructor
    · intro h
      exfalso
      have h1 : nI 0 - 1 = (-1 : Int32) := by decide
      rw [h1] at h
      have h2 : (0 : Int32) ≤ nI v := nI_pos' hv
      exact absurd (Int32.le_trans h2 h) (by decide)
    · intro h; exact absurd h (Nat.not_lt_zero _)
  | succ H =>
    rw [nI_pred, nI_leI hv (by omega)]
    omega
theorem nI_subc (a c : Nat) : nI (a + c) - nI c = nI a := by
  rw [← nI_add]
  exact Int32.add_sub_cancel _ _
theorem dig_v {v m : Nat} (h : 48 ≤ m) : nI v * (10 : Int32) + nI m - (48 : Int32) = nI (10 * v + (m - 48)) := by
  have e1 : nI v * (10 : Int32) = nI (v * 10) := nI_mul v 10
  rw [e1, nI_add, show v * 10 + m = (10 * v + (m - 48)) + 48 by omega]
  exact nI_subc _ 48
theorem dig_v2 {v m : Nat} (h : 48 ≤ m) : (10 : Int32) * nI v + nI m - (48 : Int32) = nI (10 * v + (m - 48)) := by
  have e1 : (10 : Int32) * nI v = nI (10 * v) := nI_mul 10 v
  rw [e1, nI_add, show 10 * v + m = (10 * v + (m - 48)) + 48 by omega]
  exact nI_subc _ 48
theorem sb8_eq {m c : Nat} (hm : m < 256) (hc : c < 128) : sb8 m = nI c ↔ m = c := by
  rw [← Int32.toInt_inj, sb8_i m hm, nI_toInt (by omega)]
  split <;> omega
theorem isD_iff {b : Nat → Nat} {p : Nat} : isD b p = true ↔ 48 ≤ b p ∧ b p ≤ 57 := by
  unfold isD
  rw [Bool.and_eq_true, decide_eq_true_iff, decide_eq_true_iff]
theorem isL_iff {b : Nat → Nat} {p : Nat} : isL b p = true ↔ 97 ≤ b p ∧ b p ≤ 122 := by
  unfold isL
  rw [Bool.and_eq_true, decide_eq_true_iff, decide_eq_true_iff]
theorem isB_iff {b : Nat → Nat} {p : Nat} : isB b p = true ↔ b p = 32 := by
  unfold isB
  exact beq_iff_eq
/-- what figure answers -/
def figC (b : Nat → Nat) (n lo H : Nat) (s : Rd) : Nat := if (figF b n lo H s).1.1 = 0 then (figF b n lo H s).2 else lo
/-- where a word begins, and the status behind it -/
def wdA (b : Nat → Nat) (n : Nat) (s : Rd) : Nat := if s.1 ≠ 0 then n else sk b n s.2
def wdE (b : Nat → Nat) (n : Nat) (s : Rd) : Nat := if s.1 ≠ 0 then n else we b n (sk b n s.2)
def wdS (b : Nat → Nat) (n : Nat) (s : Rd) : Rd := if s.1 ≠ 0 then s else (0, we b n (sk b n s.2))
theorem wdS_k {b : Nat → Nat} {n : Nat} {s : Rd} (h : Rk n s) : Rk n (wdS b n s) := by
  unfold wdS
  split
  · exact h
  · exact ⟨by show (0 : Nat) ≤ 3; decide, we_le (sk_le h.2)⟩
section TA
variable {l : Launch} {G : Gx} {w : Wd} {b : Nat → Nat} {n : Nat} {s : Rd}
theorem c_peek (hl : l.stackTraces = false) (h : RC w b n s) : C_X8_peek l G w [.ref (G.2.1 1 0)] (fun r w' => r = some (.int (pkV b n s)) ∧ RC w' b n (pkS b n s) ∧ Sm (fun κ _ k => κ = 1 ∧ k = 3) w w') noX := by
  obtain ⟨hn, hb, h5, h10, hrk, h1, hz, hx⟩ := id h
  refine e_X8_peek hl (fun M kk hM hk F => ?_)
  generalize hK : (fun r w' => r = some (Value.int (pkV b n s)) ∧ RC w' b n (pkS b n s) ∧ Sm (fun κ _ k => κ = 1 ∧ k = 3) w w' : Option Value → Wd → Prop) = K
  by_cases h0 : s.1 ≠ 0
  · have hc : w.1 1 0 5 ≤ w.1 1 0 3 := by rw [h5, (hx h0).2]; exact Int32.le_refl _
    refine b_X8_peek_0 F hk ⟨fun _ => b_X8_peek_38 F hk ⟨fun _ => ?_, fun q => absurd hc q⟩, fun q => absurd hc q⟩
    rw [← hK]
    exact ⟨by rw [pkV, if_pos h0], by rw [pkS_x h0]; exact h, Sm.rf⟩
  · have fin : ∀ p w', p ≤ n → ¬ (p < n ∧ isB b p = true) → sk b n p = sk b n s.2 → RC w' b n (0, p) → Sm (fun κ _ k => κ = 1 ∧ k = 3) w w' → Z M G 0 K noX w' 38 [some (.ref (G.2.1 1 0))] [] := by
      intro p w' hp hq hsk hR hs
      have ep : p = sk b n s.2 := by rw [← hsk]; exact (rn_n hq).symm
      obtain ⟨-, -, g5, g10, -, -, gz, -⟩ := id hR
      have e3 : w'.1 1 0 3 = nI p := (gz rfl).2
      refine b_X8_peek_38 F hk ?_
      rw [g5, e3, nI_clamp (by omega), nI_leI (by omega) (by omega)]
      refine ⟨fun hc => ?_, fun hc => ⟨vp_in_nI (by omega) (by decide), ?_⟩⟩
      · rw [← hK]
        exact ⟨by rw [pkV, if_neg h0, if_neg (by omega)], by rw [pkS, if_neg h0, ← ep]; exact hR, hs⟩
      · rw [g10 p (by omega), (hz_sb _ (hb p (by omega))).1, ← hK]
        exact ⟨by rw [pkV, if_neg h0, if_pos (by omega), ← ep], by rw [pkS, if_neg h0, ← ep]; exact hR, hs⟩
    have key : ∀ d p w', n - p = d → p ≤ n → sk b n p = sk b n s.2 → RC w' b n (0, p) → Sm (fun κ _ k => κ = 1 ∧ k = 3) w w' → Z M G 0 K noX w' 0 [some (.ref (G.2.1 1 0))] [] := by
      intro d
      induction d with
      | zero =>
        intro p w' hd hp hsk hR hs
        obtain ⟨-, -, g5, g10, -, -, gz, -⟩ := id hR
        have e3 : w'.1 1 0 3 = nI p := (gz rfl).2
        refine b_X8_peek_0 F hk ⟨fun _ => fin p w' hp (fun q => by omega) hsk hR hs, fun hc => ?_⟩
        rw [g5, e3] at hc
        exact absurd (nI_le (by omega) (by omega)) hc
      | succ d ih =>
        intro p w' hd hp hsk hR hs
        obtain ⟨-, -, g5, g10, -, -, gz, -⟩ := id hR
        have e3 : w'.1 1 0 3 = nI p := (gz rfl).2
        have hlt : p < n := by omega
        refine b_X8_peek_0 F hk ?_
        rw [g5, e3, nI_clamp (by omega), g10 p hlt, (hz_sb _ (hb p hlt)).2.1]
        refine ⟨fun hc => absurd hc (nI_ge hlt (by omega)), fun _ => ⟨vp_in_nI (by omega) (by decide), fun hc => ?_, fun hc w1 hw1 => ?_⟩⟩
        · exact fin p w' hp (fun q => hc (isB_iff.mp q.2)) hsk hR hs
        · have hy := Classical.not_not.mp hc
          refine ih (p + 1) w1 (by omega) (by omega) ?_ (hR.to hw1 (nI_succ p).symm (by omega)) (by rw [hw1]; exact hs.set ⟨rfl, rfl⟩)
          rw [← hsk]
          exact (rn_y hlt (isB_iff.mpr hy)).symm
    have h0' : s.1 = 0 := Classical.not_not.mp h0
    have hR : RC w b n (0, s.2) := by
      have e : s = (0, s.2) := by rw [← h0']
      rw [← e]
      exact h
    exact key (n - s.2) s.2 w rfl hrk.2 rfl hR Sm.rf
theorem c_fail (hl : l.stackTraces = false) {f x : Nat} (h : RC w b n s) (hf : 1 ≤ f) (hf3 : f ≤ 3) (hx : x ≤ n) : C_X8_fail l G w [.ref (G.2.1 1 0), .int (nI f), .int (nI x)] (fun r w' => r = none ∧ RC w' b n (flF f x s) ∧ Sm GT3 w w') noX := by
  obtain ⟨hn, hb, h5, h10, hrk, h1, hz, hx'⟩ := id h
  refine e_X8_fail hl (fun M kk hM hk F => ⟨fun hc => ⟨rfl, ?_, Sm.rf⟩, fun hc w1 hw1 w2 hw2 w3 hw3 => ⟨rfl, ?_, ?_⟩⟩)
  · have h0 : s.1 ≠ 0 := fun z => hc (by rw [h1, z]; rfl)
    rw [flF_x h0]
    exact h
  · have h0 : s.1 = 0 := by
      have h3 := hrk.1
      have := Classical.not_not.mp hc
      rw [h1] at this
      exact (nI_eq (a := s.1) (b := 0) (by omega) (by decide)).mp this
    rw [flF, if_neg (fun z => z h0)]
    have e5 : w2.1 1 0 5 = nI n := by rw [hw2, setI_ne (by omega), hw1, setI_ne (by omega)]; exact h5
    rw [e5] at hw3
    refine ⟨hn, hb, by rw [hw3, setI_ne (by omega)]; exact e5, fun i hi => by rw [hw3, setI_ne (by omega), hw2, setI_ne (by omega), hw1, setI_ne (by omega)]; exact h10 i hi, ⟨hf3, hx⟩, ?_, fun z => absurd z (by show ¬ f = 0; omega), fun _ => ⟨?_, ?_⟩⟩
    · rw [hw3, setI_ne (by omega), hw2, setI_ne (by omega), hw1]; exact setI_eq _ _ _ _ _
    · rw [hw3, setI_ne (by omega), hw2]; exact setI_eq _ _ _ _ _
    · rw [hw3]; exact setI_eq _ _ _ _ _
  · rw [hw3, hw2, hw1]
    exact ((Sm.rf.set (by unfold GT3; omega)).set (by unfold GT3; omega)).set (by unfold GT3; omega)
theorem c_fine (hl : l.stackTraces = false) (h : RC w b n s) : C_X8_fine l G w [.ref (G.2.1 1 0)] (fun r w' => r = some (.int (bI (decide (s.1 = 0)))) ∧ w' = w) noX := by
  obtain ⟨hn, hb, h5, h10, hrk, h1, hz, hx'⟩ := id h
  refine e_X8_fine hl (fun M kk hM hk F => ⟨fun hc => ⟨?_, rfl⟩, fun hc => ⟨?_, rfl⟩⟩)
  · have h0 : ¬ s.1 = 0 := fun z => hc (by rw [h1, z]; rfl)
    rw [decide_eq_false h0]; rfl
  · have h0 : s.1 = 0 := by
      have h3 := hrk.1
      have := Classical.not_not.mp hc
      rw [h1] at this
      exact (nI_eq (a := s.1) (b := 0) (by omega) (by decide)).mp this
    rw [decide_eq_true h0]; rfl
/-- more to read -/
def moB (b : Nat → Nat) (n : Nat) (s : Rd) : Bool := decide (s.1 = 0 ∧ sk b n s.2 < n)
theorem c_more (hl : l.stackTraces = false) (h : RC w b n s) : C_X8_more l G w [.ref (G.2.1 1 0)] (fun r w' => r = some (.int (bI (moB b n s))) ∧ RC w' b n (pkS b n s) ∧ Sm GT3 w w') noX := by
  obtain ⟨hn, hb, h5, h10, hrk, h1, hz, hx'⟩ := id h
  refine e_X8_more hl (fun M kk hM hk F => ⟨fun hc => ⟨?_, ?_, Sm.rf⟩, fun hc => ?_⟩)
  · have h0 : ¬ s.1 = 0 := fun z => hc (by rw [h1, z]; rfl)
    rw [moB, decide_eq_false (fun z => h0 z.1)]; rfl
  · have h0 : ¬ s.1 = 0 := fun z => hc (by rw [h1, z]; rfl)
    rw [pkS_x h0]
    exact h
  · have h0 : s.1 = 0 := by
      have h3 := hrk.1
      have := Classical.not_not.mp hc
      rw [h1] at this
      exact (nI_eq (a := s.1) (b := 0) (by omega) (by decide)).mp this
    subst hM
    refine con_iP (c_peek hl h) (fun w2 k2 => ?_)
    have hs2 : Sm GT3 w w2 := k2.2.mono (fun κ b k q => by unfold GT3; omega)
    rw [pkV, if_neg (fun z => z h0)]
    by_cases hq : sk b n s.2 < n
    · rw [if_pos hq]
      refine ⟨fun hc => absurd hc (nI_neg1 (by have := hb _ hq; omega)), fun _ => ⟨?_, k2.1, hs2⟩⟩
      rw [moB, decide_eq_true ⟨h0, hq⟩]; rfl
    · rw [if_neg hq]
      refine ⟨fun _ => ⟨?_, k2.1, hs2⟩, fun hc => absurd rfl hc⟩
      rw [moB, decide_eq_false (fun z => hq z.2)]; rfl
theorem c_sign (hl : l.stackTraces = false) {c : Nat} (hc : c < 256) (h : RC w b n s) : C_X8_sign l G w [.ref (G.2.1 1 0), .int (nI c)] (fun r w' => r = none ∧ RC w' b n (sgnF b n c s) ∧ Sm GT3 w w') noX := by
  obtain ⟨hn, hb, h5, h10, hrk, h1, hz, hx'⟩ := id h
  refine e_X8_sign hl (fun M kk hM hk F => ?_)
  subst hM
  refine con_iP (c_peek hl h) (fun w2 k2 => ?_)
  obtain ⟨hR2, hs2'⟩ := k2
  have hs2 : Sm GT3 w w2 := hs2'.mono (fun κ b k q => by unfold GT3; omega)
  by_cases h0 : s.1 ≠ 0
  · rw [pkS_x h0] at hR2
    rw [pkV, if_pos h0]
    have e3 := (hR2.2.2.2.2.2.2.2 h0).2
    refine ⟨fun _ => ?_, fun q => absurd (Classical.not_not.mp q).symm (nI_neg1 (by omega))⟩
    rw [e3]
    refine con_vP (c_fail hl hR2 (f := 1) (x := n) (by decide) (by decide) (Nat.le_refl _)) (fun w4 k4 => ⟨rfl, ?_, hs2.tr k4.2⟩)
    rw [sgnF_x h0]
    rw [flF_x h0] at k4
    exact k4.1
  · rw [pkS, if_neg h0] at hR2
    have e3 : w2.1 1 0 3 = nI (sk b n s.2) := (hR2.2.2.2.2.2.2.1 rfl).2
    have hle := sk_le (b := b) hrk.2
    rw [pkV, if_neg h0]
    have bad : ¬ (sk b n s.2 < n ∧ b (sk b n s.2) = c) → Con (mL M) G 1 0 yX8_fail cX8_fail 3 none w2 [.ref (G.2.1 1 0), .int 1, .int (w2.1 1 0 3)] (fun r w4 => r = none ∧ (RC w4 b n (sgnF b n c s) ∧ Sm GT3 w w4)) noX := by
      intro hq
      rw [e3]
      refine con_vP (c_fail hl hR2 (f := 1) (x := sk b n s.2) (by decide) (by decide) hle) (fun w4 k4 => ?_)
      refine ⟨?_, hs2.tr k4.2⟩
      rw [sgnF, if_neg h0, if_neg hq]
      have := k4.1
      rw [flF, if_neg (fun z => z rfl)] at this
      exact this
    by_cases hq : sk b n s.2 < n
    · rw [if_pos hq]
      have h256 := hb _ hq
      refine ⟨fun hne => ?_, fun he w5 hw5 => ⟨rfl, ?_, by rw [hw5]; exact hs2.set (by unfold GT3; omega)⟩⟩
      · refine con_mono (bad (fun z => hne (by rw [z.2]))) (fun r w' q => ⟨q.1, rfl, q.2⟩) (fun _ _ q => q)
      · have he := (nI_eq (by omega) (by omega)).mp (Classical.not_not.mp he)
        rw [sgnF, if_neg h0, if_pos ⟨hq, he⟩]
        exact hR2.to hw5 (by rw [e3, nI_succ]) (by omega)
    · rw [if_neg hq]
      refine ⟨fun _ => con_mono (bad (fun z => hq z.1)) (fun r w' q => ⟨q.1, rfl, q.2⟩) (fun _ _ q => q), fun he => absurd (Classical.not_not.mp he).symm (nI_neg1 (by omega))⟩
theorem c_word (hl : l.stackTraces = false) (h : RC w b n s) : C_X8_word l G w [.ref (G.2.1 1 0)] (fun r w' => r = none ∧ RC w' b n (wdS b n s) ∧ w'.1 1 0 4 = nI (wdA b n s) ∧ w'.1 1 0 3 = nI (wdE b n s) ∧ Sm GT w w') noX := by
  obtain ⟨hn, hb, h5, h10, hrk, h1, hz, hx'⟩ := id h
  refine e_X8_word hl (fun M kk hM hk F => ?_)
  generalize hK : (fun r w' => r = none ∧ RC w' b n (wdS b n s) ∧ w'.1 1 0 4 = nI (wdA b n s) ∧ w'.1 1 0 3 = nI (wdE b n s) ∧ Sm GT w w' : Option Value → Wd → Prop) = K
  subst hM
  refine con_iP (c_peek hl h) (fun w2 k2 => ?_)
  intro w3 hw3
  obtain ⟨hR2, hs2'⟩ := k2
  have hs2 : Sm GT w w2 := hs2'.mono (fun κ b k q => by unfold GT; omega)
  have hs3 : Sm GT w w3 := by rw [hw3]; exact hs2.set (by unfold GT; omega)
  have e4 : w3.1 1 0 4 = w2.1 1 0 3 := by rw [hw3]; exact setI_eq _ _ _ _ _
  have hR3 : RC w3 b n (pkS b n s) := hR2.mv (S := fun κ _ k => κ = 1 ∧ k = 4) (by rw [hw3]; exact Sm.rf.set ⟨rfl, rfl⟩) (fun k q q4 z => q4 z.2) (fun k z => by omega)
  have e43 : w3.1 1 0 3 = w2.1 1 0 3 := by rw [hw3]; exact setI_ne (by omega)
  by_cases h0 : s.1 ≠ 0
  · rw [pkS_x h0] at hR3
    have e3 := (hR3.2.2.2.2.2.2.2 h0).2
    refine b_X8_word_13 F hk ⟨fun _ => ?_, fun hc => ?_⟩
    · rw [← hK]
      exact ⟨rfl, by rw [wdS, if_pos h0]; exact hR3, by rw [e4, ← e43, e3, wdA, if_pos h0], by rw [e3, wdE, if_pos h0], hs3⟩
    · rw [e3, hR3.2.2.1] at hc
      exact absurd (Int32.le_refl _) hc
  · rw [pkS, if_neg h0] at hR3
    have e3 : w3.1 1 0 3 = nI (sk b n s.2) := (hR3.2.2.2.2.2.2.1 rfl).2
    have key : ∀ d p w', n - p = d → p ≤ n → we b n p = we b n (sk b n s.2) → RC w' b n (0, p) → w'.1 1 0 4 = nI (sk b n s.2) → Sm GT w w' → Z M G 0 K noX w' 13 [some (.ref (G.2.1 1 0))] [] := by
      intro d
      induction d with
      | zero =>
        intro p w' hd hp hsk hR g4 hs
        obtain ⟨-, -, g5, g10, -, -, gz, -⟩ := id hR
        have g3 : w'.1 1 0 3 = nI p := (gz rfl).2
        have ep : p = we b n (sk b n s.2) := by rw [← hsk]; exact (rn_n (fun q => by omega)).symm
        refine b_X8_word_13 F hk ⟨fun _ => ?_, fun hc => ?_⟩
        · rw [← hK]
          exact ⟨rfl, by rw [wdS, if_neg h0, ← ep]; exact hR, by rw [g4, wdA, if_neg h0], by rw [g3, wdE, if_neg h0, ← ep], hs⟩
        · rw [g5, g3] at hc
          exact absurd (nI_le (by omega) (by omega)) hc
      | succ d ih =>
        intro p w' hd hp hsk hR g4 hs
        obtain ⟨-, -, g5, g10, -, -, gz, -⟩ := id hR
        have g3 : w'.1 1 0 3 = nI p := (gz rfl).2
        have hlt : p < n := by omega
        have hv : vp_in (nI p) 600 := vp_in_nI (by omega) (by decide)
        have stop : ¬ isL b p = true → K none w' := by
          intro hq
          have ep : p = we b n (sk b n s.2) := by rw [← hsk]; exact (rn_n (fun q => hq q.2)).symm
          rw [← hK]
          exact ⟨rfl, by rw [wdS, if_neg h0, ← ep]; exact hR, by rw [g4, wdA, if_neg h0], by rw [g3, wdE, if_neg h0, ← ep], hs⟩
        have hL := (hz_sb _ (hb p hlt)).2.2.1
        refine b_X8_word_13 F hk ?_
        rw [g5, g3, nI_clamp (by omega), g10 p hlt]
        refine ⟨fun hc => absurd hc (nI_ge hlt (by omega)), fun _ => ⟨hv, fun hc => stop (fun q => hL.mp (Or.inl hc) (isL_iff.mp q)), fun hc => ⟨hv, fun hc2 => stop (fun q => hL.mp (Or.inr hc2) (isL_iff.mp q)), fun hc2 w1 hw1 => ?_⟩⟩⟩
        have hy : 97 ≤ b p ∧ b p ≤ 122 := Classical.byContradiction (fun z => (hL.mpr z).elim hc hc2)
        refine ih (p + 1) w1 (by omega) (by omega) ?_ (hR.to hw1 (nI_succ p).symm (by omega)) (by rw [hw1, setI_ne (by omega)]; exact g4) (by rw [hw1]; exact hs.set (by unfold GT; omega))
        rw [← hsk]
        exact (rn_y hlt (isL_iff.mpr hy)).symm
    exact key _ _ w3 rfl (sk_le hrk.2) rfl hR3 (by rw [e4, ← e43, e3]) hs3
theorem c_figure (hl : l.stackTraces = false) {lo H : Nat} (hlo : lo ≤ 1000) (hH : H ≤ 1000) (h : RC w b n s) : C_X8_figure l G w [.ref (G.2.1 1 0), .int (nI lo), .int (nI H - 1)] (fun r w' => r = some (.int (nI (figC b n lo H s))) ∧ RC w' b n (figF b n lo H s).1 ∧ (s.1 = 0 → w'.1 1 0 4 = nI (sk b n s.2)) ∧ Sm GT w w') noX := by
  obtain ⟨hn, hb, h5, h10, hrk, h1, hz, hx'⟩ := id h
  refine e_X8_figure hl (fun M kk hM hk F => ?_)
  generalize hK : (fun r w' => r = some (Value.int (nI (figC b n lo H s))) ∧ RC w' b n (figF b n lo H s).1 ∧ (s.1 = 0 → w'.1 1 0 4 = nI (sk b n s.2)) ∧ Sm GT w w' : Option Value → Wd → Prop) = K
  subst hM
  refine con_iP (c_peek hl h) (fun w2 k2 => ?_)
  intro w3 hw3
  obtain ⟨hR2, hs2'⟩ := k2
  have hs2 : Sm GT w w2 := hs2'.mono (fun κ b k q => by unfold GT; omega)
  have hs3 : Sm GT w w3 := by rw [hw3]; exact hs2.set (by unfold GT; omega)
  have e4 : w3.1 1 0 4 = w2.1 1 0 3 := by rw [hw3]; exact setI_eq _ _ _ _ _
  have hR3 : RC w3 b n (pkS b n s) := hR2.mv (S := fun κ _ k => κ = 1 ∧ k = 4) (by rw [hw3]; exact Sm.rf.set ⟨rfl, rfl⟩) (fun k q q4 z => q4 z.2) (fun k z => by omega)
  have e43 : w3.1 1 0 3 = w2.1 1 0 3 := by rw [hw3]; exact setI_ne (by omega)
  -- the end of it
  have fin : ∀ (w' : Wd) (v : Nat), RC w' b n (figF b n lo H s).1 → (s.1 = 0 → w'.1 1 0 4 = nI (sk b n s.2)) → Sm GT w w' → ((figF b n lo H s).1.1 = 0 → v = (figF b n lo H s).2) → Z M G 0 K noX w' 140 [some (.ref (G.2.1 1 0)), some (.int (nI lo)), none, some (.int (nI v))] [] := by
    intro w' v hR g4 hs hv
    have hf3 := hR.2.2.2.2.1.1
    refine b_X8_figure_140 F hk ?_
    rw [hR.2.2.2.2.2.1]
    refine ⟨fun hc => ?_, fun hc => ?_⟩
    · have hc' : ¬ (figF b n lo H s).1.1 = 0 := fun z => hc (by rw [z]; rfl)
      rw [← hK]
      exact ⟨by rw [figC, if_neg hc'], hR, g4, hs⟩
    · have hc' : (figF b n lo H s).1.1 = 0 := (nI_eq (b := 0) (by omega) (by decide)).mp (Classical.not_not.mp hc)
      rw [← hK]
      exact ⟨by rw [figC, if_pos hc', hv hc'], hR, g4, hs⟩
  by_cases h0 : s.1 ≠ 0
  · rw [pkS_x h0] at hR3
    have e3 := (hR3.2.2.2.2.2.2.2 h0).2
    have ef : figF b n lo H s = (s, 0) := figF_x h0
    refine b_X8_figure_15 F hk ⟨fun _ => b_X8_figure_98 F hk ⟨fun hc => ?_, fun _ => ?_⟩, fun hc => ?_⟩
    · exact absurd (by rw [e4, e43]) hc
    · rw [e4, ← e43, e3]
      refine con_vP (c_fail hl hR3 (f := 1) (x := n) (by decide) (by decide) (Nat.le_refl _)) (fun w5 k5 => ?_)
      rw [flF_x h0] at k5
      exact fin w5 0 (by rw [ef]; exact k5.1) (fun z => absurd z h0) (hs3.tr (k5.2.mono GT3_GT)) (fun z => absurd (by rw [ef] at z; exact z) h0)
    · rw [e3, hR3.2.2.1] at hc
      exact absurd (Int32.le_refl _) hc
  · have h0' : s.1 = 0 := Classical.not_not.mp h0
    rw [pkS, if_neg h0] at hR3
    have e3 : w3.1 1 0 3 = nI (sk b n s.2) := (hR3.2.2.2.2.2.2.1 rfl).2
    have hle := sk_le (b := b) hrk.2
    have at98 : ∀ (e v : Nat) (w' : Wd), e ≤ n → v ≤ 100000 → e = rn (isD b) n (sk b n s.2) → v = dv b n (sk b n s.2) 0 → RC w' b n (0, e) → w'.1 1 0 4 = nI (sk b n s.2) → Sm GT w w' → Z M G 0 K noX w' 98 [some (.ref (G.2.1 1 0)), some (.int (nI lo)), some (.int (nI H - 1)), some (.int (nI v))] [] := by
      intro e v w' he hv100 hee hvv hR g4 hs
      have g3 : w'.1 1 0 3 = nI e := (hR.2.2.2.2.2.2.1 rfl).2
      have bad : ∀ (f : Nat), 1 ≤ f → f ≤ 3 → figF b n lo H s = ((f, sk b n s.2), 0) → Con (mL M) G 1 0 yX8_fail cX8_fail 3 none w' [.ref (G.2.1 1 0), .int (nI f), .int (nI (sk b n s.2))] (fun r w2 => r = none ∧ Z M G 0 K noX w2 140 [some (.ref (G.2.1 1 0)), some (.int (nI lo)), none, some (.int (nI v))] []) noX := by
        intro f h1f h3f hfe
        refine con_vP (c_fail hl hR (f := f) (x := sk b n s.2) h1f h3f hle) (fun w5 k5 => ?_)
        have k51 := k5.1
        rw [flF, if_neg (fun z => z rfl)] at k51
        refine fin w5 v (by rw [hfe]; exact k51) (fun _ => ?_) (hs.tr (k5.2.mono GT3_GT)) (fun z => absurd (by rw [hfe] at z; exact z) (by show ¬ f = 0; omega))
        rw [k5.2.1 1 0 4 (by unfold GT3; omega)]
        exact g4
      refine b_X8_figure_98 F hk ?_
      rw [g3, g4, nI_eq (by omega) (by omega), nI_ltI (by omega) (by omega), nI_lePred (by omega) (by omega)]
      refine ⟨fun hne => ?_, fun heq => ?_⟩
      · have hd : ¬ rn (isD b) n (sk b n s.2) = sk b n s.2 := by rw [← hee]; exact hne
        have out : ¬ (lo ≤ v ∧ v < H) → Z M G 0 K noX w' 131 [some (.ref (G.2.1 1 0)), some (.int (nI lo)), none, some (.int (nI v))] [] := by
          intro hq
          refine b_X8_figure_131 F hk ?_
          rw [g4]
          refine bad 2 (by decide) (by decide) ?_
          rw [figF, if_neg h0, if_neg hd, if_neg (by rw [← hvv]; exact hq)]
        refine ⟨fun hc => out (by omega), fun hc => ⟨fun hc2 => ?_, fun hc2 => out (by omega)⟩⟩
        have ef : figF b n lo H s = ((0, e), v) := by rw [figF, if_neg h0, if_neg hd, if_pos (by rw [← hvv]; omega), ← hee, ← hvv]
        exact fin w' v (by rw [ef]; exact hR) (fun _ => g4) hs (fun _ => by rw [ef])
      · have heq := Classical.not_not.mp heq
        refine bad 1 (by decide) (by decide) ?_
        rw [figF, if_neg h0, if_pos (by rw [← hee]; exact heq)]
    have key : ∀ d p v w', n - p = d → p ≤ n → v ≤ 100000 → rn (isD b) n p = rn (isD b) n (sk b n s.2) → dv b n p v = dv b n (sk b n s.2) 0 → RC w' b n (0, p) → w'.1 1 0 4 = nI (sk b n s.2) → Sm GT w w' → Z M G 0 K noX w' 15 [some (.ref (G.2.1 1 0)), some (.int (nI lo)), some (.int (nI H - 1)), some (.int (nI v))] [] := by
      intro d
      induction d with
      | zero =>
        intro p v w' hd hp hv hrn hdv hR g4 hs
        have g3 : w'.1 1 0 3 = nI p := (hR.2.2.2.2.2.2.1 rfl).2
        refine b_X8_figure_15 F hk ⟨fun _ => at98 p v w' hp hv (by rw [← hrn]; exact (rn_n (fun q => by omega)).symm) (by rw [← hdv]; exact (dv_n (fun q => by omega)).symm) hR g4 hs, fun hc => ?_⟩
        rw [hR.2.2.1, g3] at hc
        exact absurd (nI_le (by omega) (by omega)) hc
      | succ d ih =>
        intro p v w' hd hp hv hrn hdv hR g4 hs
        have g3 : w'.1 1 0 3 = nI p := (hR.2.2.2.2.2.2.1 rfl).2
        have hlt : p < n := by omega
        have hvi : vp_in (nI p) 600 := vp_in_nI (by omega) (by decide)
        have stop : ¬ isD b p = true → Z M G 0 K noX w' 98 [some (.ref (G.2.1 1 0)), some (.int (nI lo)), some (.int (nI H - 1)), some (.int (nI v))] [] := fun hq =>
          at98 p v w' hp hv (by rw [← hrn]; exact (rn_n (fun q => hq q.2)).symm) (by rw [← hdv]; exact (dv_n (fun q => hq q.2)).symm) hR g4 hs
        have hL := (hz_sb _ (hb p hlt)).2.2.2.1
        refine b_X8_figure_15 F hk ?_
        rw [hR.2.2.1, g3, nI_clamp (by omega), hR.2.2.2.1 p hlt]
        refine ⟨fun hc => absurd hc (nI_ge hlt (by omega)), fun _ => ⟨hvi, fun hc => stop (fun q => hL.mp (Or.inl hc) (isD_iff.mp q)), fun hc => ⟨hvi, fun hc2 => stop (fun q => hL.mp (Or.inr hc2) (isD_iff.mp q)), fun hc2 => ⟨hvi, ?_⟩⟩⟩⟩
        have hy : 48 ≤ b p ∧ b p ≤ 57 := Classical.byContradiction (fun z => (hL.mpr z).elim hc hc2)
        rw [(hz_sb _ (hb p hlt)).2.2.2.2 (by omega), dig_v hy.1]
        have hrn' : rn (isD b) n (p + 1) = rn (isD b) n (sk b n s.2) := by rw [← hrn]; exact (rn_y hlt (isD_iff.mpr hy)).symm
        have hdv' : dv b n (p + 1) (min 100000 (10 * v + (b p - 48))) = dv b n (sk b n s.2) 0 := by rw [← hdv]; exact (dv_y hlt (isD_iff.mpr hy)).symm
        have c100 : (nI (10 * v + (b p - 48)) ≤ (100000 : Int32)) ↔ 10 * v + (b p - 48) ≤ 100000 := nI_leI (b := 100000) (by omega) (by decide)
        rw [c100]
        refine ⟨fun hm w1 hw1 => ?_, fun hm w1 hw1 => ?_⟩
        · rw [Nat.min_eq_right hm] at hdv'
          exact ih (p + 1) _ w1 (by omega) (by omega) hm hrn' hdv' (hR.to hw1 (nI_succ p).symm (by omega)) (by rw [hw1, setI_ne (by omega)]; exact g4) (by rw [hw1]; exact hs.set (by unfold GT; omega))
        · rw [Nat.min_eq_left (by omega)] at hdv'
          exact ih (p + 1) 100000 w1 (by omega) (by omega) (Nat.le_refl _) hrn' hdv' (hR.to hw1 (nI_succ p).symm (by omega)) (by rw [hw1, setI_ne (by omega)]; exact g4) (by rw [hw1]; exact hs.set (by unfold GT; omega))
    exact key _ _ 0 w3 rfl hle (by omega) rfl rfl hR3 (by rw [e4, ← e43, e3]) hs3
end TA
