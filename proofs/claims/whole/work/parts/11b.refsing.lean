/-! The reference: notes are sung, rests, days. -/
theorem ix0 (i : Nat) (h : i < 57) : vp_in ((0 : Int32) + nI i) 57 ∧ ((0 : Int32) + nI i).toNatClampNeg = i := by
  have := ixa 0 i (by omega)
  rw [Nat.zero_add] at this
  exact this
theorem ix7 (i : Nat) (h : i < 50) : vp_in ((7 : Int32) + nI i) 57 ∧ ((7 : Int32) + nI i).toNatClampNeg = 7 + i := ixa 7 i (by omega)
theorem ix14 (i : Nat) (h : i < 40) : vp_in ((14 : Int32) + nI i) 57 ∧ ((14 : Int32) + nI i).toNatClampNeg = 14 + i := ixa 14 i (by omega)
theorem ix21 (i : Nat) (h : i < 30) : vp_in ((21 : Int32) + nI i) 57 ∧ ((21 : Int32) + nI i).toNatClampNeg = 21 + i := ixa 21 i (by omega)
theorem ix28 (i : Nat) (h : i < 20) : vp_in ((28 : Int32) + nI i) 57 ∧ ((28 : Int32) + nI i).toNatClampNeg = 28 + i := ixa 28 i (by omega)
theorem ix35 (i : Nat) (h : i < 20) : vp_in ((35 : Int32) + nI i) 57 ∧ ((35 : Int32) + nI i).toNatClampNeg = 35 + i := ixa 35 i (by omega)
theorem setI_69 {w : Wd} {j k : Nat} {v : Int32} {σ : Sg} (h : w.1 69 j = σ) : (setI w 69 j k v).1 69 j = setS σ k v := by
  rw [setI_same, h]
  rfl
section MS
variable {l : Launch} {G : Gx} {w : Wd}
theorem m_breathBy (hl : l.stackTraces = false) {E : Ex} (hE : LawM w E) {a0 a1 a2 a3 a4 a5 a6 a7 : Int32} {f : Nat → Int32} (hok : Eok E) (hf : f 0 = a0 ∧ f 1 = a1 ∧ f 2 = a2 ∧ f 3 = a3 ∧ f 4 = a4 ∧ f 5 = a5 ∧ f 6 = a6 ∧ f 7 = a7) :
    C_X10_breathBy l G w [.ref (G.2.1 40 0), .int a0, .int a1, .int a2, .int a3, .int a4, .int a5, .int a6, .int a7] (fun v w' => v = some (.int (clampE (E f))) ∧ Sm N2 w w') noX := by
  refine e_X10_breathBy hl (fun M kk hM hk F => ?_)
  subst hM
  rintro _ rfl _ rfl _ rfl _ rfl _ rfl _ rfl _ rfl w8 hw8
  have hs : Sm (fun κ _ _ => κ = 66) w w8 := by
    rw [hw8]
    exact (((((((Sm.rf.set rfl).set rfl).set rfl).set rfl).set rfl).set rfl).set rfl).set rfl
  have hE8 : LawM w8 E := hE.mv hs (fun b k => by decide) (by decide)
  refine con_iP (m_byLaw hl hE8) (fun w' hw' => ⟨?_, ?_⟩)
  · have e : ∀ k, k < 8 → w8.1 66 0 k = f k := by
      intro k hk8
      obtain ⟨f0, f1, f2, f3, f4, f5, f6, f7⟩ := hf
      rw [hw8]
      rcases (show k = 0 ∨ k = 1 ∨ k = 2 ∨ k = 3 ∨ k = 4 ∨ k = 5 ∨ k = 6 ∨ k = 7 by omega) with rfl | rfl | rfl | rfl | rfl | rfl | rfl | rfl <;> simp [setI_1, f0, f1, f2, f3, f4, f5, f6, f7]
    rw [hok _ _ e]
  · exact (hs.mono (fun κ b k q => Or.inr q)).tr (hw'.mono (fun κ b k q => Or.inl q))
theorem m_breathOf (hl : l.stackTraces = false) {T : Tx} {E : Ex} {σ : Sg} {j n s : Nat} (hj : j < 18) (hT : Tok T) (hst : StM w T E) (hok : Eok E) (hσ : w.1 69 j = σ) (hn : n < tN T) (hs : s < tS T) :
    C_X10_breathOf l G w [.ref (G.2.1 40 0), .ref (G.2.1 69 j), .int (nI n), .int (nI s)] (fun r w' => r = some (.int (tk T E σ n s)) ∧ Sm N2 w w') noX := by
  have hS7 := hT.1
  have hN20 := hT.2.1
  obtain ⟨hR, hE⟩ := hst
  have hin : vp_in (nI n) 20 := vp_in_nI (by omega) (by decide)
  have his : vp_in (nI s) 7 := vp_in_nI (by omega) (by decide)
  refine e_X10_breathOf hj hl (fun M kk hM hk F => ⟨hin, his, (ix0 s (by omega)).1, (ix14 s (by omega)).1, (ix35 n (by omega)).1, ?_⟩)
  subst hM
  rw [(ix0 s (by omega)).2, (ix14 s (by omega)).2, (ix35 n (by omega)).2, nI_clamp (show n < 2 ^ 31 by omega), nI_clamp (show s < 2 ^ 31 by omega), hσ, (hR.2.2.2.2.2.1 n hn).2, (hR.2.2.2.2.1 s hs).2.1]
  exact con_iP (m_breathBy hl hE (f := fct T σ n s) hok ⟨rfl, rfl, rfl, rfl, rfl, rfl, rfl, rfl⟩) (fun w' hw' => ⟨rfl, hw'⟩)
theorem m_sungBy (hl : l.stackTraces = false) {T : Tx} {E : Ex} {σ : Sg} {j n : Nat} (hj : j < 18) (hT : Tok T) (hst : StM w T E) (hok : Eok E) (hσ : w.1 69 j = σ) (hn : n < tN T) :
    C_X10_sungBy l G w [.ref (G.2.1 40 0), .ref (G.2.1 69 j), .int (nI n)] (fun r w' => r = some (.int (sbI T E σ n)) ∧ Sm N2 w w') noX := by
  have hS7 := hT.1
  have hN20 := hT.2.1
  refine e_X10_sungBy hj hl (fun M kk hM hk F => ?_)
  subst hM
  refine up_to (P := fun i => ∀ w' : Wd, Sm N2 w w' → (∀ s, s < i → canS T E σ n s = false) → Z M G 0 (fun r w' => r = some (.int (sbI T E σ n)) ∧ Sm N2 w w') noX w' 2 [some (.ref (G.2.1 40 0)), some (.ref (G.2.1 69 j)), some (.int (nI n)), some (.int (nI i))] []) (tS T) ?_ ?_ w Sm.rf (fun s hs => absurd hs (Nat.not_lt_zero _))
  · intro i hi ih w' hs hno
    have hst' : StM w' T E := hst.mv hs (fun κ b k q => by unfold N2; omega) (by unfold N2; omega)
    have hσ' : w'.1 69 j = σ := (hs.row (fun k => by unfold N2; omega)).trans hσ
    have hR := hst'.1
    have ci : (nI i).toNatClampNeg = i := nI_clamp (by omega)
    have hii : vp_in (nI i) 7 := vp_in_nI (by omega) (by decide)
    have next : canS T E σ n i = false → ∀ w2 : Wd, Sm N2 w w2 → Z M G 0 (fun r w' => r = some (.int (sbI T E σ n)) ∧ Sm N2 w w') noX w2 2 [some (.ref (G.2.1 40 0)), some (.ref (G.2.1 69 j)), some (.int (nI n)), some (.int (nI i + 1))] [] := by
      intro hf w2 hs2
      rw [← nI_succ]
      refine ih w2 hs2 (fun s hsi => ?_)
      by_cases hq : s = i
      · rw [hq]; exact hf
      · exact hno s (by omega)
    refine b_X10_sungBy_2 hj F hk ⟨fun hc => ?_, fun _ => ⟨hii, (ix35 n (by omega)).1, ?_⟩⟩
    · rw [hR.1] at hc
      exact absurd hc (nI_ge hi (by omega))
    · rw [ci, (ix35 n (by omega)).2, (ix7 i (by omega)).2, (hR.2.2.2.2.1 i hi).1, hσ']
      refine ⟨fun hc => next ?_ w' hs, fun hc => ⟨(ix7 i (by omega)).1, fun hc2 => next ?_ w' hs, fun hc2 => ?_⟩⟩
      · unfold canS
        rw [beq_eq_false_iff_ne.mpr hc]
        rfl
      · unfold canS
        rw [beq_eq_false_iff_ne.mpr hc2]
        simp
      · have hvw : sv T i = σ (35 + n) := Classical.not_not.mp hc
        have h70 : σ (7 + i) = 0 := Classical.not_not.mp hc2
        refine con_iP (m_breathOf hl hj hT hst' hok hσ' hn hi) (fun w4 hw4 => ⟨(ix0 i (by omega)).1, ?_⟩)
        have hs4 : Sm N2 w w4 := hs.tr hw4
        rw [(ix0 i (by omega)).2, (hs4.row (fun k => by unfold N2; omega)).trans hσ]
        refine ⟨fun hlt => next ?_ w4 hs4, fun hge => ⟨?_, hs4⟩⟩
        · unfold canS
          rw [decide_eq_false (Int32.not_le.mpr hlt), Bool.and_false]
        · have hcan : canS T E σ n i = true := by
            unfold canS
            rw [hvw, h70, decide_eq_true (Int32.not_lt.mp hge)]
            simp
          have hfs : sbF T E σ n = i := fs_is hi hcan hno
          unfold sbI
          rw [hfs, if_pos hi]
  · intro w' hs hno
    have hst' : StM w' T E := hst.mv hs (fun κ b k q => by unfold N2; omega) (by unfold N2; omega)
    have hfs : sbF T E σ n = tS T := fs_none hno
    refine b_X10_sungBy_2 hj F hk ⟨fun _ => ⟨?_, hs⟩, fun hc => ?_⟩
    · unfold sbI
      rw [hfs, if_neg (Nat.lt_irrefl _)]
    · rw [hst'.1.1] at hc
      exact absurd (nI_le (Nat.le_refl _) (by omega)) hc
theorem sung1_set {T : Tx} {E : Ex} {σ : Sg} {n s : Nat} (hs : s < 7) : setS (setS (setS σ s (σ s - tk T E σ n s)) (14 + s) (setS σ s (σ s - tk T E σ n s) (14 + s) + 1)) (28 + s) (setS (setS σ s (σ s - tk T E σ n s)) (14 + s) (setS σ s (σ s - tk T E σ n s) (14 + s) + 1) (28 + s) + 1) = sung1 T E σ n s := by
  rw [setS_n (q := 14 + s) (by omega), setS_n (q := 28 + s) (by omega), setS_n (q := 28 + s) (by omega)]
  funext q
  by_cases h1 : q = s
  · rw [h1, sung1_s, setS_n (by omega), setS_n (by omega), setS_s]
  · by_cases h2 : q = 14 + s
    · rw [sung1_14 (Or.inl h2), h2, setS_n (by omega), setS_s]
    · by_cases h3 : q = 28 + s
      · rw [sung1_14 (Or.inr h3), h3, setS_s]
      · rw [sung1_off h1 h2 h3, setS_n h3, setS_n h2, setS_n h1]
theorem m_sings (hl : l.stackTraces = false) {T : Tx} {E : Ex} {σ : Sg} {j n : Nat} (hj : j < 18) (hT : Tok T) (hst : StM w T E) (hok : Eok E) (hσ : w.1 69 j = σ) (hn : n < tN T) :
    C_X10_sings l G w [.ref (G.2.1 40 0), .ref (G.2.1 69 j), .int (nI n)] (fun r w' => r = some (.int (bI (decide (sbF T E σ n < tS T)))) ∧ w'.1 69 j = singF T E σ n ∧ Sm (fun κ b k => N2 κ b k ∨ (κ = 69 ∧ b = j)) w w') noX := by
  have hS7 := hT.1
  refine e_X10_sings hj hl (fun M kk hM hk F => ?_)
  subst hM
  refine con_iP (m_sungBy hl hj hT hst hok hσ hn) (fun w2 hs2 => ?_)
  have hst2 : StM w2 T E := hst.mv hs2 (fun κ b k q => by unfold N2; omega) (by unfold N2; omega)
  have hσ2 : w2.1 69 j = σ := (hs2.row (fun k => by unfold N2; omega)).trans hσ
  unfold sbI singF
  by_cases hlt : sbF T E σ n < tS T
  · obtain ⟨s, hse⟩ : ∃ s, s = sbF T E σ n := ⟨_, rfl⟩
    rw [← hse] at hlt ⊢
    rw [if_pos hlt, if_pos hlt]
    refine ⟨fun _ => ⟨(ix0 s (by omega)).1, ?_⟩, fun hc => absurd (Classical.not_not.mp hc) (nI_neg1 (by omega))⟩
    refine con_iP (m_breathOf hl hj hT hst2 hok hσ2 hn hlt) (fun w4 hs4 => ⟨(ix0 s (by omega)).1, ?_⟩)
    have hσ4 : w4.1 69 j = σ := (hs4.row (fun k => by unfold N2; omega)).trans hσ2
    rw [(ix0 s (by omega)).2, (ix14 s (by omega)).2, (ix28 s (by omega)).2, hσ2]
    intro w5 hw5
    have hσ5 : w5.1 69 j = setS σ s (σ s - tk T E σ n s) := by rw [hw5]; exact setI_69 hσ4
    refine ⟨(ix14 s (by omega)).1, (ix14 s (by omega)).1, fun w6 hw6 => ⟨(ix28 s (by omega)).1, (ix28 s (by omega)).1, fun w7 hw7 => ?_⟩⟩
    have hσ6 : w6.1 69 j = setS (setS σ s (σ s - tk T E σ n s)) (14 + s) (setS σ s (σ s - tk T E σ n s) (14 + s) + 1) := by rw [hw6, ← hσ5]; exact setI_69 rfl
    refine ⟨by rw [decide_eq_true hlt]; rfl, ?_, ?_⟩
    · rw [hw7, setI_69 hσ6, hσ6]
      exact sung1_set (by omega)
    · rw [hw7, hw6, hw5]
      exact ((((hs2.tr hs4).mono (fun κ b k q => Or.inl q)).set (Or.inr ⟨rfl, rfl⟩)).set (Or.inr ⟨rfl, rfl⟩)).set (Or.inr ⟨rfl, rfl⟩)
  · rw [if_neg hlt, if_neg hlt]
    refine ⟨fun hc => absurd rfl hc, fun _ => ⟨by rw [decide_eq_false hlt]; rfl, hσ2, hs2.mono (fun κ b k q => Or.inl q)⟩⟩
theorem m_hymns (hl : l.stackTraces = false) {T : Tx} {E : Ex} {σ : Sg} {j : Nat} (hj : j < 18) (hT : Tok T) (hst : StM w T E) (hok : Eok E) (hσ : w.1 69 j = σ) :
    C_X10_hymns l G w [.ref (G.2.1 40 0), .ref (G.2.1 69 j)] (fun r w' => r = none ∧ w'.1 69 j = (hymF T E σ (tN T)).1 ∧ w'.1 40 0 38 = (hymF T E σ (tN T)).2 ∧ Sm (NJ j) w w') noX := by
  have hS7 := hT.1
  have hN20 := hT.2.1
  refine e_X10_hymns hj hl (fun M kk hM hk F => ?_)
  subst hM
  intro w1 hw1
  refine up_to (P := fun i => ∀ w' : Wd, Sm (NJ j) w w' → w'.1 69 j = (hymF T E σ i).1 → w'.1 40 0 38 = (hymF T E σ i).2 → Z M G 0 (fun r w' => r = none ∧ w'.1 69 j = (hymF T E σ (tN T)).1 ∧ w'.1 40 0 38 = (hymF T E σ (tN T)).2 ∧ Sm (NJ j) w w') noX w' 7 [some (.ref (G.2.1 40 0)), some (.ref (G.2.1 69 j)), some (.int (nI i)), none] []) (tN T) ?_ ?_ w1 ?_ ?_ ?_
  · intro i hi ih w' hs hσ' hh'
    have hst' : StM w' T E := hst.mv hs (fun κ b k q => by unfold NJ; omega) (by unfold NJ; omega)
    refine b_X10_hymns_7 hj F hk ⟨fun hc => ?_, fun _ => ?_⟩
    · rw [hst'.1.2.1] at hc
      exact absurd hc (nI_ge hi (by omega))
    · refine con_iP (m_sings hl hj hT hst' hok hσ' hi) (fun w2 hw2 => ?_)
      obtain ⟨hσ2, hs2⟩ := hw2
      have hs02 : Sm (NJ j) w w2 := hs.tr (hs2.mono (fun κ b k q => by unfold N2 at q; unfold NJ; omega))
      have hh2 : w2.1 40 0 38 = (hymF T E σ i).2 := (hs2.1 40 0 38 (by unfold N2; omega)).trans hh'
      have i55 : vp_in (55 : Int32) 57 := by unfold vp_in; decide
      have c55 : (55 : Int32).toNatClampNeg = 55 := by decide
      by_cases hsb : sbF T E (hymF T E σ i).1 i < tS T
      · rw [hymF, if_pos hsb] at ih
        rw [decide_eq_true hsb]
        refine ⟨fun hc => absurd hc (by decide), fun _ => b_X10_hymns_38 hj F hk ⟨i55, fun w3 hw3 => ⟨fun hc => absurd hc (by decide), fun _ w4 hw4 => ?_⟩⟩⟩
        rw [c55] at hw3
        rw [← nI_succ]
        have e3 : w3.1 69 j = w2.1 69 j := by
          rw [hw3, setI_69 rfl]
          funext q
          by_cases hq : q = 55
          · rw [hq, setS_s]; exact Int32.add_zero _
          · rw [setS_n hq]
        refine ih w4 ?_ ?_ ?_
        · rw [hw4, hw3]
          exact (hs02.set (by unfold NJ; omega)).set (by unfold NJ; omega)
        · rw [hw4, setI_row (by omega), e3, hσ2]
        · rw [hw4, setI_eq, hw3, setI_ne (by omega), hh2]
          rfl
      · rw [hymF, if_neg hsb] at ih
        rw [decide_eq_false hsb]
        refine ⟨fun _ => b_X10_hymns_38 hj F hk ⟨i55, fun w3 hw3 => ⟨fun _ w4 hw4 => ?_, fun hc => absurd rfl hc⟩⟩, fun hc => absurd rfl hc⟩
        rw [c55] at hw3
        rw [← nI_succ]
        have e2 : w2.1 69 j = (hymF T E σ i).1 := by
          rw [hσ2]
          unfold singF
          rw [if_neg hsb]
        refine ih w4 ?_ ?_ ?_
        · rw [hw4, hw3]
          exact (hs02.set (by unfold NJ; omega)).set (by unfold NJ; omega)
        · rw [hw4, setI_row (by omega), hw3, setI_69 e2, e2]
          rfl
        · rw [hw4, setI_eq, hw3, setI_ne (by omega), hh2]
          exact Int32.or_zero
  · intro w' hs hσ' hh'
    have hst' : StM w' T E := hst.mv hs (fun κ b k q => by unfold NJ; omega) (by unfold NJ; omega)
    refine b_X10_hymns_7 hj F hk ⟨fun _ => ⟨rfl, hσ', hh', hs⟩, fun hc => ?_⟩
    rw [hst'.1.2.1] at hc
    exact absurd (nI_le (Nat.le_refl _) (by omega)) hc
  · rw [hw1]; exact Sm.rf.set (by unfold NJ; omega)
  · rw [hw1, setI_row (by omega)]; exact hσ
  · rw [hw1, setI_eq]; rfl
end MS
