/-! The reference: words and numbers. -/
/-- the word at p, as a number -/
def wv (b : Nat → Nat) (p k : Nat) : Nat := ev (fun i => b (p + i) - 96) k
section TC
variable {l : Launch} {G : Gx} {w : Wd} {b : Nat → Nat} {n : Nat} {s : Rd}
theorem m_wordHere (hl : l.stackTraces = false) (h : RM w b n s) (h0 : s.1 = 0) : C_X10_wordHere l G w [.ref (G.2.1 40 0)] (fun r w' => r = some (.int (if we b n (sk b n s.2) - sk b n s.2 ≤ 6 then nI (wv b (sk b n s.2) (we b n (sk b n s.2) - sk b n s.2)) else -1)) ∧ RM w' b n (pkS b n s) ∧ Sm GR4 w w') noX := by
  have hb := h.2.1
  have hn := h.1
  refine e_X10_wordHere hl (fun M kk hM hk F => ?_)
  subst hM
  have hle := sk_le (b := b) h.2.2.2.2.1.2
  refine con_vP (m_blanks hl h) (fun w2 k2 => ?_)
  obtain ⟨hR2', hs2⟩ := k2
  have hR2 := hR2'
  rw [pkS, if_neg (fun z => z h0)] at hR2
  have e4 : w2.1 40 0 4 = nI (sk b n s.2) := (hR2.2.2.2.2.2.2.1 rfl).2
  generalize hp : sk b n s.2 = p at *
  generalize hK : (fun r w' => r = some (Value.int (if we b n p - p ≤ 6 then nI (wv b p (we b n p - p)) else -1)) ∧ RM w' b n (pkS b n s) ∧ Sm GR4 w w' : Option Value → Wd → Prop) = K
  have key : ∀ d k, n - (p + k) = d → p + k ≤ n → we b n (p + k) = we b n p → Z M G 0 K noX w2 8 [some (.ref (G.2.1 40 0)), some (.int (nI (wv b p (min k 6)))), some (.int (nI k))] [] := by
    intro d
    induction d with
    | zero =>
      intro k hd hpk hwe
      refine b_X10_wordHere_8 F hk ?_
      rw [e4, nI_add]
      refine con_i (m_byteAt hl (by omega) hR2) (con_i (m_isSmall hl) ?_)
      rw [btI_l hb, decide_eq_false (fun z => by omega)]
      refine ⟨fun _ => ?_, fun hc => absurd rfl hc⟩
      have ek : we b n p - p = k := by
        rw [← hwe, we, rn_n (fun z => by omega)]
        omega
      have c6 : (nI k ≤ (6 : Int32)) ↔ k ≤ 6 := nI_leI (b := 6) (by omega) (by decide)
      rw [c6]
      refine ⟨fun hc => ?_, fun hc => ?_⟩
      · rw [← hK]
        exact ⟨by rw [ek, if_pos hc, Nat.min_eq_left hc], hR2', hs2⟩
      · rw [← hK]
        exact ⟨by rw [ek, if_neg hc], hR2', hs2⟩
    | succ d ih =>
      intro k hd hpk hwe
      refine b_X10_wordHere_8 F hk ?_
      rw [e4, nI_add]
      refine con_i (m_byteAt hl (by omega) hR2) (con_i (m_isSmall hl) ?_)
      rw [btI_l hb, bI_t, decide_eq_false_iff_not]
      have c6 : (nI k ≤ (6 : Int32)) ↔ k ≤ 6 := nI_leI (b := 6) (by omega) (by decide)
      have c6' : ((6 : Int32) ≤ nI k) ↔ 6 ≤ k := nI_leI (a := 6) (by decide) (by omega)
      rw [c6, c6']
      refine ⟨fun hst => ?_, fun hst => ?_⟩
      · have ek : we b n p - p = k := by
          rw [← hwe, we, rn_n hst]
          omega
        refine ⟨fun hc => ?_, fun hc => ?_⟩
        · rw [← hK]
          exact ⟨by rw [ek, if_pos hc, Nat.min_eq_left hc], hR2', hs2⟩
        · rw [← hK]
          exact ⟨by rw [ek, if_neg hc], hR2', hs2⟩
      · have hst := Classical.not_not.mp hst
        have hwe' : we b n (p + (k + 1)) = we b n p := by
          rw [← hwe]
          exact (rn_y hst.1 hst.2).symm
        have hnx := ih (k + 1) (by omega) (by omega) hwe'
        rw [nI_succ] at hnx
        refine ⟨fun hc => ?_, fun hc => ?_⟩
        · rw [Nat.min_eq_right (by omega)] at hnx ⊢
          exact hnx
        · rw [e4, nI_add]
          refine con_i (m_byteAt hl (by omega) hR2) ?_
          have hL := isL_iff.mp hst.2
          have ev1 : (27 : Int32) * nI (wv b p (min k 6)) + btI b n (p + k) - (97 : Int32) + 1 = nI (wv b p (min (k + 1) 6)) := by
            rw [Nat.min_eq_left (by omega), Nat.min_eq_left (by omega), btI, if_pos hst.1]
            have e1 : (27 : Int32) * nI (wv b p k) = nI (27 * wv b p k) := nI_mul 27 _
            have e2 : nI (27 * wv b p k + b (p + k)) - (97 : Int32) = nI (27 * wv b p k + (b (p + k) - 97)) := by
              rw [show 27 * wv b p k + b (p + k) = (27 * wv b p k + (b (p + k) - 97)) + 97 by omega]
              exact nI_subc _ 97
            rw [e1, nI_add, e2, ← nI_succ]
            show nI (27 * wv b p k + (b (p + k) - 97) + 1) = nI (27 * wv b p k + (b (p + k) - 96))
            rw [show 27 * wv b p k + (b (p + k) - 97) + 1 = 27 * wv b p k + (b (p + k) - 96) by omega]
          rw [ev1]
          exact hnx
  exact key (n - p) 0 (by omega) (by omega) rfl
theorem wv_is {L : List Nat} {a1 a2 a3 a4 a5 a6 p e : Nat} (hL : okL L a1 a2 a3 a4 a5 a6) (hpe : p ≤ e) (hin : ∀ i, p ≤ i → i < e → isL b i = true) : ((if e - p ≤ 6 then nI (wv b p (e - p)) else (-1 : Int32)) = nI (sixN a1 a2 a3 a4 a5 a6)) ↔ isW b p e L = true := by
  obtain ⟨h6, hl, hs, -⟩ := hL
  have hlt2 : ev (fun i => L.getD i 0 - 96) L.length < 27 ^ L.length := ev_lt (fun i hi => by have := hl i hi; show L.getD i 0 - 96 ≤ 26; omega)
  have hp2 : 27 ^ L.length ≤ 27 ^ 6 := Nat.pow_le_pow_right (by decide) h6
  have h27 : (27 : Nat) ^ 6 < 2 ^ 31 := by decide
  rw [hs, isW_is]
  by_cases hc : e - p ≤ 6
  · rw [if_pos hc]
    have hd : ∀ i, i < e - p → 97 ≤ b (p + i) ∧ b (p + i) ≤ 122 := fun i hi => isL_iff.mp (hin (p + i) (by omega) (by omega))
    have hlt1 : wv b p (e - p) < 27 ^ (e - p) := ev_lt (fun i hi => by have := hd i hi; show b (p + i) - 96 ≤ 26; omega)
    have hp1 : 27 ^ (e - p) ≤ 27 ^ 6 := Nat.pow_le_pow_right (by decide) hc
    rw [nI_eq (by omega) (by omega)]
    constructor
    · intro q
      obtain ⟨q1, q2⟩ := ev_inj (e - p) L.length _ _ (fun i hi => by have := hd i hi; show 1 ≤ b (p + i) - 96 ∧ b (p + i) - 96 ≤ 26; omega) (fun i hi => by have := hl i hi; show 1 ≤ L.getD i 0 - 96 ∧ L.getD i 0 - 96 ≤ 26; omega) q
      refine ⟨by omega, fun i hi => ?_⟩
      have q3 : b (p + i) - 96 = L.getD i 0 - 96 := q2 i (by omega)
      have := hd i (by omega)
      have := hl i hi
      omega
    · rintro ⟨q1, q2⟩
      have e1 : e - p = L.length := by omega
      rw [e1]
      exact ev_congr (fun i hi => by show b (p + i) - 96 = L.getD i 0 - 96; rw [q2 i hi])
  · rw [if_neg hc]
    constructor
    · intro q
      exact absurd q.symm (nI_neg1 (by omega))
    · rintro ⟨q1, -⟩
      omega
/-- the word that stands next is L -/
def nxW (b : Nat → Nat) (n : Nat) (s : Rd) (L : List Nat) : Bool := decide (s.1 = 0) && isW b (sk b n s.2) (we b n (sk b n s.2)) L
theorem m_isWord (hl : l.stackTraces = false) {a1 a2 a3 a4 a5 a6 : Nat} {L : List Nat} (hL : okL L a1 a2 a3 a4 a5 a6) (h : RM w b n s) : C_X10_isWord l G w [.ref (G.2.1 40 0), .int (nI a1), .int (nI a2), .int (nI a3), .int (nI a4), .int (nI a5), .int (nI a6)] (fun r w' => r = some (.int (bI (nxW b n s L))) ∧ RM w' b n (pkS b n s) ∧ Sm GR4 w w') noX := by
  refine e_X10_isWord hl (fun M kk hM hk F => ?_)
  subst hM
  rw [h.zero]
  refine ⟨fun h0 => ⟨?_, ?_, Sm.rf⟩, fun h0 => ?_⟩
  · rw [nxW, decide_eq_false h0]; rfl
  · rw [pkS_x h0]; exact h
  · have h0 := Classical.not_not.mp h0
    refine con_iP (m_wordHere hl h h0) (fun w2 k2 => ?_)
    refine con_i (m_six hl hL.2.2.2.2.2.2.1 hL.2.2.2.2.2.2.2.1 hL.2.2.2.2.2.2.2.2) ?_
    rw [wv_is hL (we_ge b n _) (fun i h1 h2 => rn_in h1 h2)]
    refine ⟨fun hc => ⟨?_, k2⟩, fun hc => ⟨?_, k2⟩⟩
    · rw [nxW, Bool.eq_false_iff.mpr hc, Bool.and_false]; rfl
    · rw [nxW, Classical.not_not.mp hc, decide_eq_true h0]; rfl
theorem m_isNext (hl : l.stackTraces = false) {a1 a2 a3 a4 a5 a6 : Nat} {L : List Nat} (hL : okL L a1 a2 a3 a4 a5 a6) (h : RM w b n s) : C_X10_isNext l G w [.ref (G.2.1 40 0), .int (nI a1), .int (nI a2), .int (nI a3), .int (nI a4), .int (nI a5), .int (nI a6)] (fun r w' => r = some (.int (bI (nxW b n s L))) ∧ RM w' b n (if nxW b n s L then (0, we b n (sk b n s.2)) else pkS b n s) ∧ Sm GR4 w w') noX := by
  refine e_X10_isNext hl (fun M kk hM hk F => ?_)
  subst hM
  refine con_iP (m_isWord hl hL h) (fun w2 k2 => ?_)
  obtain ⟨hR2, hs2⟩ := k2
  rw [bI_t]
  refine ⟨fun hc => ⟨bI_nar _, rfl, ?_, hs2⟩, fun hc => ?_⟩
  · rw [hc]
    exact hR2
  · have hc : nxW b n s L = true := by
      cases hq : nxW b n s L with
      | false => exact absurd hq hc
      | true => rfl
    have h0 : s.1 = 0 := by
      unfold nxW at hc
      rw [Bool.and_eq_true, decide_eq_true_iff] at hc
      exact hc.1
    rw [pkS, if_neg (fun z => z h0)] at hR2
    refine con_vP (m_skipWord hl hR2) (fun w4 k4 => ⟨bI_nar _, rfl, ?_, hs2.tr k4.2⟩)
    rw [if_pos hc]
    exact k4.1
theorem m_number (hl : l.stackTraces = false) {lo H : Nat} (hlo : lo ≤ 1000) (hH : H ≤ 1000) (h : RM w b n s) : C_X10_number l G w [.ref (G.2.1 40 0), .int (nI lo), .int (nI H - 1)] (fun r w' => r = some (.int (nI (figF b n lo H s).2)) ∧ RM w' b n (figF b n lo H s).1 ∧ Sm GR w w') noX := by
  have hb := h.2.1
  have hn := h.1
  refine e_X10_number hl (fun M kk hM hk F => ?_)
  subst hM
  rw [h.zero]
  refine ⟨fun h0 => ?_, fun h0 => ⟨by rw [figF_x h0]; rfl, by rw [figF_x h0]; exact h, Sm.rf⟩⟩
  have hz : ¬ s.1 ≠ 0 := fun z => z h0
  have hle := sk_le (b := b) h.2.2.2.2.1.2
  refine con_vP (m_blanks hl h) (fun w2 k2 => ?_)
  obtain ⟨hR2, hs2'⟩ := k2
  rw [pkS, if_neg hz] at hR2
  have hs2 := hs2'.mono GR4_GR
  have e4 : w2.1 40 0 4 = nI (sk b n s.2) := (hR2.2.2.2.2.2.2.1 rfl).2
  rw [e4]
  generalize hp : sk b n s.2 = p at *
  have efF : figF b n lo H s = (if rn (isD b) n p = p then ((1, p), 0) else if lo ≤ dv b n p 0 ∧ dv b n p 0 < H then ((0, rn (isD b) n p), dv b n p 0) else ((2, p), 0)) := by
    rw [figF, if_neg hz, hp]
  generalize hK : (fun r w' => r = some (Value.int (nI (figF b n lo H s).2)) ∧ RM w' b n (figF b n lo H s).1 ∧ Sm GR w w' : Option Value → Wd → Prop) = K
  have fin : ∀ (w' : Wd) (v : Nat), RM w' b n (figF b n lo H s).1 → Sm GR w w' → ((figF b n lo H s).1.1 = 0 → v = (figF b n lo H s).2) → ((figF b n lo H s).1.1 ≠ 0 → (figF b n lo H s).2 = 0) → Z M G 0 K noX w' 122 [some (.ref (G.2.1 40 0)), none, none, none, some (.int (nI v))] [] := by
    intro w' v hR hs hv hv0
    refine b_X10_number_122 F hk ?_
    rw [hR.zero]
    refine ⟨fun hc => ?_, fun hc => ?_⟩
    · rw [← hK]
      exact ⟨by rw [hv0 hc]; rfl, hR, hs⟩
    · rw [← hK]
      exact ⟨by rw [hv (Classical.not_not.mp hc)], hR, hs⟩
  -- behind the figures: e their end, v their number
  have out : ∀ (st : Rd) (e v : Nat) (w' : Wd), e ≤ n → v ≤ 100000 → ¬ (e < n ∧ isD b e = true) → e = rn (isD b) n p → v = dv b n p 0 → RM w' b n st → w'.1 40 0 4 = nI e → (rn (isD b) n p = p → st = (1, p)) → (rn (isD b) n p ≠ p → st = (0, e)) → Sm GR w w' → Z M G 0 K noX w' 44 [some (.ref (G.2.1 40 0)), some (.int (nI lo)), some (.int (nI H - 1)), some (.int (nI p)), some (.int (nI v))] [] := by
    intro st e v w' he hv hq hee hvv hR g4 c1 c0 hs
    refine b_X10_number_44 F hk ?_
    rw [g4]
    refine con_i (m_byteAt hl (by omega) hR) (con_i (m_isDigit hl) ?_)
    rw [btI_d hb, decide_eq_false hq]
    refine ⟨fun _ => con_i (m_in hl) ?_, fun hc => absurd rfl hc⟩
    have ein : (decide (nI lo ≤ nI v) && decide (nI v ≤ nI H - 1)) = decide (lo ≤ v ∧ v < H) := by
      rw [decide_eq_decide.mpr (nI_leI (by omega) (by omega)), decide_eq_decide.mpr (nI_lePred (by omega) (by omega)), ← Bool.decide_and]
    rw [ein, bI_t, decide_eq_false_iff_not]
    by_cases hst : rn (isD b) n p = p
    · rw [if_pos hst] at efF
      have hst1 := c1 hst
      subst hst1
      refine ⟨fun _ => fin w' v (by rw [efF]; exact hR) hs (fun z => absurd (by rw [efF] at z; exact z) (by show ¬ _ = 0; simp)) (fun _ => by rw [efF]), fun _ => ?_⟩
      refine con_vP (m_wrong hl hR (f := 2) (x := p) (by decide) (by decide) (by omega)) (fun w8 k8 => ?_)
      rw [flF_x (by show ¬ (1 : Nat) = 0; decide)] at k8
      exact fin w8 v (by rw [efF]; exact k8.1) (hs.tr k8.2.1) (fun z => absurd (by rw [efF] at z; exact z) (by show ¬ _ = 0; simp)) (fun _ => by rw [efF])
    · rw [if_neg hst, ← hvv, ← hee] at efF
      have hst1 := c0 hst
      subst hst1
      refine ⟨fun hin => ?_, fun hin => ?_⟩
      · rw [if_pos (Classical.not_not.mp hin)] at efF
        exact fin w' v (by rw [efF]; exact hR) hs (fun _ => by rw [efF]) (fun z => absurd (by rw [efF]) z)
      · rw [if_neg (fun z => hin (fun q => q z))] at efF
        refine con_vP (m_wrong hl hR (f := 2) (x := p) (by decide) (by decide) (by omega)) (fun w8 k8 => ?_)
        rw [flF, if_neg (fun z => z rfl)] at k8
        exact fin w8 v (by rw [efF]; exact k8.1) (hs.tr k8.2.1) (fun z => absurd (by rw [efF] at z; exact z) (by show ¬ _ = 0; simp)) (fun _ => by rw [efF])
  have key : ∀ d q v w', n - q = d → p ≤ q → q ≤ n → v ≤ 100000 → (p < q ∨ isD b p = true ∧ p < n) → rn (isD b) n q = rn (isD b) n p → dv b n q v = dv b n p 0 → RM w' b n (0, q) → Sm GR w w' → Z M G 0 K noX w' 44 [some (.ref (G.2.1 40 0)), some (.int (nI lo)), some (.int (nI H - 1)), some (.int (nI p)), some (.int (nI v))] [] := by
    intro d
    induction d with
    | zero =>
      intro q v w' hd hpq hqn hv hfirst hrn hdv hR hs
      have g4 : w'.1 40 0 4 = nI q := (hR.2.2.2.2.2.2.1 rfl).2
      have hno : ¬ (q < n ∧ isD b q = true) := fun z => by omega
      have e1 : rn (isD b) n p = q := by rw [← hrn]; exact rn_n hno
      refine out (0, q) q v w' hqn hv hno e1.symm (by rw [← hdv]; exact (dv_n hno).symm) hR g4 (fun z => ?_) (fun _ => rfl) hs
      omega
    | succ d ih =>
      intro q v w' hd hpq hqn hv hfirst hrn hdv hR hs
      have g4 : w'.1 40 0 4 = nI q := (hR.2.2.2.2.2.2.1 rfl).2
      by_cases hno : ¬ (q < n ∧ isD b q = true)
      · have e1 : rn (isD b) n p = q := by rw [← hrn]; exact rn_n hno
        refine out (0, q) q v w' hqn hv hno e1.symm (by rw [← hdv]; exact (dv_n hno).symm) hR g4 (fun z => ?_) (fun _ => rfl) hs
        have hqp : q = p := by omega
        rcases hfirst with z1 | z1
        · omega
        · rw [hqp] at hno
          exact absurd ⟨z1.2, z1.1⟩ hno
      · have hy := Classical.not_not.mp hno
        refine b_X10_number_44 F hk ?_
        rw [g4]
        refine con_i (m_byteAt hl (by omega) hR) (con_i (m_isDigit hl) ?_)
        rw [btI_d hb, decide_eq_true hy]
        refine ⟨fun hc => absurd hc (by decide), fun _ => ?_⟩
        rw [g4]
        refine con_i (m_byteAt hl (by omega) hR) ?_
        have hD := isD_iff.mp hy.2
        rw [btI, if_pos hy.1, dig_v2 hD.1, g4]
        have hrn' : rn (isD b) n (q + 1) = rn (isD b) n p := by rw [← hrn]; exact (rn_y hy.1 hy.2).symm
        have hdv' : dv b n (q + 1) (min 100000 (10 * v + (b q - 48))) = dv b n p 0 := by rw [← hdv]; exact (dv_y hy.1 hy.2).symm
        have c100 : (nI (10 * v + (b q - 48)) ≤ (100000 : Int32)) ↔ 10 * v + (b q - 48) ≤ 100000 := nI_leI (b := 100000) (by omega) (by decide)
        rw [c100]
        refine ⟨fun hm w1 hw1 => ?_, fun hm w1 hw1 => ?_⟩
        · rw [Nat.min_eq_right hm] at hdv'
          exact ih (q + 1) _ w1 (by omega) (by omega) (by omega) hm (Or.inl (by omega)) hrn' hdv' (hR.to hw1 (nI_succ q).symm (by omega)) (by rw [hw1]; exact hs.set (by unfold GR; omega))
        · rw [Nat.min_eq_left (by omega)] at hdv'
          exact ih (q + 1) 100000 w1 (by omega) (by omega) (by omega) (Nat.le_refl _) (Or.inl (by omega)) hrn' hdv' (hR.to hw1 (nI_succ q).symm (by omega)) (by rw [hw1]; exact hs.set (by unfold GR; omega))
  refine con_i (m_byteAt hl (by omega) hR2) (con_i (m_isDigit hl) ?_)
  rw [btI_d hb, bI_t, decide_eq_false_iff_not]
  refine ⟨fun hd => ?_, fun hd => ?_⟩
  · have hd := Classical.not_not.mp hd
    exact key (n - p) p 0 w2 rfl (Nat.le_refl _) hle (by omega) (Or.inr ⟨hd.2, hd.1⟩) rfl rfl hR2 hs2
  · have hd : ¬ (p < n ∧ isD b p = true) := fun z => hd (fun q => q z)
    rw [e4]
    refine con_vP (m_wrong hl hR2 (f := 1) (x := p) (by decide) (by decide) hle) (fun w8 k8 => ?_)
    rw [flF, if_neg (fun z => z rfl)] at k8
    exact out (1, p) p 0 w8 hle (by omega) hd (rn_n hd).symm (dv_n hd).symm k8.1 (k8.2.2.trans e4) (fun _ => rfl) (fun z => absurd (rn_n hd) z) (hs2.tr k8.2.1)
def GS (κ _b k : Nat) : Prop := κ = 40 ∧ (k = 1 ∨ k = 2 ∨ k = 4 ∨ k = 5 ∨ k = 6 ∨ k = 7 ∨ k = 8)
theorem m_starts (hl : l.stackTraces = false) (hn : n ≤ 600) (hb : ∀ i, i < n → b i < 256) (h41 : ∀ i, i < n → w.1 41 0 i = nI (b i)) : C_X10_starts l G w [.ref (G.2.1 40 0), .int (nI n)] (fun r w' => r = none ∧ RM w' b n (0, sk b n 0) ∧ w'.1 40 0 1 = 0 ∧ w'.1 40 0 7 = 0 ∧ w'.1 40 0 8 = 0 ∧ Sm GS w w') noX := by
  refine e_X10_starts hl (fun M kk hM hk F => ?_)
  subst hM
  intro w1 hw1 w2 hw2 w3 hw3 w4 hw4 w5 hw5 w6 hw6 w7 hw7
  have hs7 : Sm GS w w7 := by
    rw [hw7, hw6, hw5, hw4, hw3, hw2, hw1]
    exact ((((((Sm.rf.set (by unfold GS; omega)).set (by unfold GS; omega)).set (by unfold GS; omega)).set (by unfold GS; omega)).set (by unfold GS; omega)).set (by unfold GS; omega)).set (by unfold GS; omega)
  have f1 : w7.1 40 0 1 = 0 := by simp [hw7, hw6, hw5, hw4, hw3, hw2, hw1, setI_1]
  have f2 : w7.1 40 0 2 = nI n := by simp [hw7, hw6, hw5, hw4, hw3, hw2, hw1, setI_1]
  have f4 : w7.1 40 0 4 = 0 := by simp [hw7, hw6, hw5, hw4, hw3, hw2, hw1, setI_1]
  have f5 : w7.1 40 0 5 = 0 := by simp [hw7, hw6, hw5, hw4, hw3, hw2, hw1, setI_1]
  have f6 : w7.1 40 0 6 = -1 := by simp [hw7, hw6, hw5, hw4, hw3, hw2, hw1, setI_1]
  have f7 : w7.1 40 0 7 = 0 := by simp [hw7, hw6, hw5, hw4, hw3, hw2, hw1, setI_1]
  have f8 : w7.1 40 0 8 = 0 := by simp [hw7, hw6, hw5, hw4, hw3, hw2, hw1, setI_1]
  have hR : RM w7 b n (0, 0) := ⟨hn, hb, f2, fun i hi => (hs7.1 41 0 i (by unfold GS; omega)).trans (h41 i hi), ⟨by show (0 : Nat) ≤ 3; decide, by show 0 ≤ n; omega⟩, f5, fun _ => ⟨f6, f4⟩, fun z => absurd rfl z⟩
  refine con_vP (m_blanks hl hR) (fun w9 k9 => ?_)
  rw [pkS, if_neg (fun z => z rfl)] at k9
  refine ⟨rfl, k9.1, (k9.2.1 40 0 1 (by unfold GR4; omega)).trans f1, (k9.2.1 40 0 7 (by unfold GR4; omega)).trans f7, (k9.2.1 40 0 8 (by unfold GR4; omega)).trans f8, hs7.tr (k9.2.mono (fun κ b k q => ?_))⟩
  unfold GR4 at q
  unfold GS
  omega
theorem m_ends (hl : l.stackTraces = false) (h : RM w b n s) (h0 : s.1 ≠ 0) : C_X10_ends l G w [.ref (G.2.1 40 0)] (fun r w' => r = some (.int (nI s.1 - 10)) ∧ w' = setI w 40 0 3 (nI s.2)) noX := by
  refine e_X10_ends hl (fun M kk hM hk F => ?_)
  intro w1 hw1
  rw [(h.2.2.2.2.2.2.2 h0).1] at hw1
  refine ⟨?_, hw1⟩
  rw [hw1, setI_ne (by omega), h.2.2.2.2.2.1]
end TC
