/-! The reference: rests, days, rows, sets. -/
/-- hoarse singers as bits -/
def hbF (σ : Sg) : Nat → Int32
  | 0 => 0
  | s + 1 => hbF σ s ||| (σ (7 + s) <<< (nI s &&& 31))
/-- just these are not hoarse: the first i of them -/
def onK (m : Nat) (σ : Sg) (i : Nat) : Sg := fun q => if 7 ≤ q ∧ q < 7 + i then nI (1 - m / 2 ^ (q - 7) % 2) else σ q
theorem onK_1 {m : Nat} {σ : Sg} {i : Nat} : setS (onK m σ i) (7 + i) (nI (1 - m / 2 ^ i % 2)) = onK m σ (i + 1) := by
  funext q
  unfold setS onK
  by_cases e : q = 7 + i
  · rw [if_pos e, if_pos (by omega), e, show 7 + i - 7 = i by omega]
  · rw [if_neg e]
    by_cases h : 7 ≤ q ∧ q < 7 + i
    · rw [if_pos h, if_pos (by omega)]
    · rw [if_neg h, if_neg (by omega)]
theorem onK_0 {m : Nat} {σ : Sg} : onK m σ 0 = σ := funext fun q => if_neg (by omega)
/-- pay of the singers in m, the first i -/
def payK (T : Tx) (m : Nat) : Nat → Int32
  | 0 => 0
  | i + 1 => if m / 2 ^ i % 2 = 1 then payK T m i + sp T i else payK T m i
def NR (j κ b _k : Nat) : Prop := κ = 69 ∧ b = j
section MD
variable {l : Launch} {G : Gx} {w : Wd}
theorem m_rests (hl : l.stackTraces = false) {T : Tx} {σ : Sg} {j : Nat} (hj : j < 18) (hT : Tok T) (hR : RollM w T) (hσ : w.1 69 j = σ) :
    C_X10_rests l G w [.ref (G.2.1 40 0), .ref (G.2.1 69 j)] (fun r w' => r = some (.int (bI (tired T σ))) ∧ w'.1 69 j = restF T σ ∧ Sm (NR j) w w') noX := by
  have hS7 := hT.1
  refine e_X10_rests hj hl (fun M kk hM hk F => ?_)
  subst hM
  refine up_to (P := fun i => ∀ w' : Wd, Sm (NR j) w w' → w'.1 69 j = restK T σ i → Z M G 0 (fun r w' => r = some (.int (bI (tired T σ))) ∧ w'.1 69 j = restF T σ ∧ Sm (NR j) w w') noX w' 4 [some (.ref (G.2.1 40 0)), some (.ref (G.2.1 69 j)), some (.int (bI (an (fun s => decide (σ s < sb T s)) i))), some (.int (nI i))] []) (tS T) ?_ ?_ w Sm.rf ?_
  · intro i hi ih w' hs hσ'
    have hR' : RollM w' T := hR.mv hs (fun κ b k q => by unfold NR; omega)
    have ci : (nI i).toNatClampNeg = i := nI_clamp (by omega)
    have hii : vp_in (nI i) 7 := vp_in_nI (by omega) (by decide)
    have eL : restK T σ i i = σ i := if_neg (Nat.lt_irrefl _)
    have fin : ∀ b : Bool, b = decide (σ i < sb T i) → Z M G 0 (fun r w' => r = some (.int (bI (tired T σ))) ∧ w'.1 69 j = restF T σ ∧ Sm (NR j) w w') noX w' 36 [some (.ref (G.2.1 40 0)), some (.ref (G.2.1 69 j)), none, some (.int (nI i))] [.int (bI b), .int (bI (an (fun s => decide (σ s < sb T s)) i))] := by
      intro b hb
      refine b_X10_rests_36 hj F hk ⟨hii, (ix0 i (by omega)).1, ?_⟩
      refine con_i (m_less hl) ⟨(ix0 i (by omega)).1, fun w3 hw3 => ?_⟩
      rw [ci, (ix0 i (by omega)).2, (hR'.2.2.2.2.1 i hi).2.2, hσ', eL, hR'.2.2.2.1] at hw3
      rw [bI_or, ← nI_succ, hb]
      refine ih w3 (by rw [hw3]; exact hs.set ⟨rfl, rfl⟩) ?_
      rw [hw3, ← restK_1]
      exact setI_69 hσ'
    refine b_X10_rests_4 hj F hk ⟨fun hc => ?_, fun _ => ⟨(ix0 i (by omega)).1, hii, ?_⟩⟩
    · rw [hR'.1] at hc
      exact absurd hc (nI_ge hi (by omega))
    · rw [ci, (ix0 i (by omega)).2, (hR'.2.2.2.2.1 i hi).2.2, hσ', eL]
      exact ⟨fun hc => fin false (decide_eq_false (Int32.not_lt.mpr hc)).symm, fun hc => fin true (decide_eq_true (Int32.not_le.mp hc)).symm⟩
  · intro w' hs hσ'
    have hR' : RollM w' T := hR.mv hs (fun κ b k q => by unfold NR; omega)
    refine b_X10_rests_4 hj F hk ⟨fun _ => ⟨bI_nar _, rfl, hσ', hs⟩, fun hc => ?_⟩
    rw [hR'.1] at hc
    exact absurd (nI_le (Nat.le_refl _) (by omega)) hc
  · have e : restK T σ 0 = σ := funext fun q => if_neg (Nat.not_lt_zero _)
    rw [e]
    exact hσ
theorem m_breathes (hl : l.stackTraces = false) {T : Tx} {σ : Sg} {j : Nat} (hj : j < 18) (hT : Tok T) (hR : RollM w T) (hσ : w.1 69 j = σ) :
    C_X10_breathes l G w [.ref (G.2.1 40 0), .ref (G.2.1 69 j)] (fun r w' => r = none ∧ w'.1 69 j = refF T σ ∧ Sm (NR j) w w') noX := by
  have hS7 := hT.1
  refine e_X10_breathes hj hl (fun M kk hM hk F => ?_)
  subst hM
  refine up_to (P := fun i => ∀ w' : Wd, Sm (NR j) w w' → w'.1 69 j = refK T σ i → Z M G 0 (fun r w' => r = none ∧ w'.1 69 j = refF T σ ∧ Sm (NR j) w w') noX w' 2 [some (.ref (G.2.1 40 0)), some (.ref (G.2.1 69 j)), some (.int (nI i))] []) (tS T) ?_ ?_ w Sm.rf ?_
  · intro i hi ih w' hs hσ'
    have hR' : RollM w' T := hR.mv hs (fun κ b k q => by unfold NR; omega)
    have ci : (nI i).toNatClampNeg = i := nI_clamp (by omega)
    have hii : vp_in (nI i) 7 := vp_in_nI (by omega) (by decide)
    refine b_X10_breathes_2 hj F hk ⟨fun hc => ?_, fun _ => ⟨hii, (ix0 i (by omega)).1, fun w3 hw3 => ?_⟩⟩
    · rw [hR'.1] at hc
      exact absurd hc (nI_ge hi (by omega))
    · rw [ci, (ix0 i (by omega)).2, (hR'.2.2.2.2.1 i hi).2.2] at hw3
      rw [← nI_succ]
      refine ih w3 (by rw [hw3]; exact hs.set ⟨rfl, rfl⟩) ?_
      rw [hw3, ← refK_1]
      exact setI_69 hσ'
  · intro w' hs hσ'
    have hR' : RollM w' T := hR.mv hs (fun κ b k q => by unfold NR; omega)
    refine b_X10_breathes_2 hj F hk ⟨fun _ => ⟨rfl, hσ', hs⟩, fun hc => ?_⟩
    rw [hR'.1] at hc
    exact absurd (nI_le (Nat.le_refl _) (by omega)) hc
  · have e : refK T σ 0 = σ := funext fun q => if_neg (Nat.not_lt_zero _)
    rw [e]
    exact hσ
theorem m_dayEnds (hl : l.stackTraces = false) {T : Tx} {σ : Sg} {j : Nat} (hj : j < 18) (hT : Tok T) (hR : RollM w T) (hσ : w.1 69 j = σ) :
    C_X10_dayEnds l G w [.ref (G.2.1 40 0), .ref (G.2.1 69 j)] (fun r w' => r = none ∧ w'.1 69 j = dayF T σ ∧ Sm (NR j) w w') noX := by
  have hS7 := hT.1
  refine e_X10_dayEnds hj hl (fun M kk hM hk F => ?_)
  subst hM
  refine con_vP (m_breathes hl hj hT hR hσ) (fun w2 hw2 => ?_)
  refine up_to (P := fun i => ∀ w' : Wd, Sm (NR j) w w' → w'.1 69 j = dayK T (refF T σ) i → Z M G 0 (fun r w' => r = none ∧ w'.1 69 j = dayF T σ ∧ Sm (NR j) w w') noX w' 7 [some (.ref (G.2.1 40 0)), some (.ref (G.2.1 69 j)), some (.int (nI i))] []) (tS T) ?_ ?_ w2 hw2.2 ?_
  · intro i hi ih w' hs hσ'
    have hR' : RollM w' T := hR.mv hs (fun κ b k q => by unfold NR; omega)
    have ci : (nI i).toNatClampNeg = i := nI_clamp (by omega)
    have hii : vp_in (nI i) 7 := vp_in_nI (by omega) (by decide)
    have e28 : dayK T (refF T σ) i (28 + i) = refF T σ (28 + i) := dayK_n (by omega) (by omega)
    have e21 : dayK T (refF T σ) i (21 + i) = refF T σ (21 + i) := dayK_n (by omega) (by omega)
    have fin : ∀ (w3 : Wd) (v : Int32), w3 = setI (setI w' 69 j (21 + i) v) 69 j (28 + i) 0 → v = (if refF T σ (28 + i) = 0 then refF T σ (21 + i) else mnI 9999 (refF T σ (21 + i) + sp T i)) → Z M G 0 (fun r w' => r = none ∧ w'.1 69 j = dayF T σ ∧ Sm (NR j) w w') noX w3 7 [some (.ref (G.2.1 40 0)), some (.ref (G.2.1 69 j)), some (.int (nI i + 1))] [] := by
      intro w3 v hw3 hv
      rw [← nI_succ]
      refine ih w3 (by rw [hw3]; exact (hs.set ⟨rfl, rfl⟩).set ⟨rfl, rfl⟩) ?_
      rw [hw3, ← dayK_1 (by omega), hv]
      exact setI_69 (setI_69 hσ')
    refine b_X10_dayEnds_7 hj F hk ⟨fun hc => ?_, fun _ => ⟨(ix28 i (by omega)).1, ?_⟩⟩
    · rw [hR'.1] at hc
      exact absurd hc (nI_ge hi (by omega))
    · rw [ci, (ix28 i (by omega)).2, (ix21 i (by omega)).2, hσ', e28, e21, (hR'.2.2.2.2.1 i hi).2.1]
      refine ⟨fun hc => ⟨(ix21 i (by omega)).1, hii, con_i (m_less hl) ⟨(ix21 i (by omega)).1, fun w5 hw5 => ⟨(ix28 i (by omega)).1, fun w6 hw6 => ?_⟩⟩⟩, fun hc => ⟨(ix21 i (by omega)).1, (ix21 i (by omega)).1, fun w7 hw7 => ⟨(ix28 i (by omega)).1, fun w8 hw8 => ?_⟩⟩⟩
      · refine fin w6 _ (by rw [hw6, hw5]) ?_
        rw [if_neg hc]
      · refine fin w8 _ (by rw [hw8, hw7]) ?_
        rw [if_pos (Classical.not_not.mp hc)]
  · intro w' hs hσ'
    have hR' : RollM w' T := hR.mv hs (fun κ b k q => by unfold NR; omega)
    refine b_X10_dayEnds_7 hj F hk ⟨fun _ w2 hw2 => ⟨rfl, ?_, ?_⟩, fun hc => ?_⟩
    · rw [hw2, hσ']
      exact setI_69 hσ'
    · rw [hw2]; exact hs.set ⟨rfl, rfl⟩
    · rw [hR'.1] at hc
      exact absurd (nI_le (Nat.le_refl _) (by omega)) hc
  · have e : dayK T (refF T σ) 0 = refF T σ := funext fun q => by unfold dayK; rw [if_neg (by omega), if_neg (by omega)]
    rw [e]
    exact hw2.1
theorem m_wordsOf (hl : l.stackTraces = false) {T : Tx} {n : Nat} (hT : Tok T) (hR : RollM w T) (hn : n < tN T) : C_X10_wordsOf l G w [.ref (G.2.1 40 0), .int (nI n)] (fun r w' => r = some (.int (wf T n (tL T))) ∧ w' = w) noX := by
  have hN20 := hT.2.1
  have hL12 := hT.2.2.1
  refine e_X10_wordsOf hl (fun M kk hM hk F => ⟨vp_in_nI (by omega) (by decide), ?_⟩)
  rw [nI_clamp (by omega), (hR.2.2.2.2.2.1 n hn).1]
  refine up_to (P := fun i => Z M G 0 _ _ w 13 [some (.ref (G.2.1 40 0)), some (.int (nI n)), some (.int (wf T n i)), some (.int (nI i))] []) (tL T) (fun i hi ih => ?_) ?_
  · have hii : vp_in (nI i) 12 := vp_in_nI (by omega) (by decide)
    refine b_X10_wordsOf_13 F hk ⟨fun hc => ?_, fun _ => ⟨hii, ?_⟩⟩
    · rw [hR.2.2.1] at hc
      exact absurd hc (nI_ge hi (by omega))
    · rw [nI_clamp (by omega), (hR.2.2.2.2.2.2 i hi).1, (hR.2.2.2.2.2.2 i hi).2, ← nI_succ]
      rw [wf] at ih
      refine ⟨fun hc => ?_, fun hc => ⟨hii, ?_⟩⟩
      · rw [if_neg hc] at ih
        rw [Int32.or_zero]
        exact ih
      · rw [if_pos (Classical.not_not.mp hc)] at ih
        exact ih
  · refine b_X10_wordsOf_13 F hk ⟨fun _ => ⟨rfl, rfl⟩, fun hc => ?_⟩
    rw [hR.2.2.1] at hc
    exact absurd (nI_le (Nat.le_refl _) (by omega)) hc
theorem m_becomes (hl : l.stackTraces = false) {σ : Sg} {j q : Nat} {v : Int32} (hj : j < 18) (hσ : w.1 69 j = σ) (hq : q < 57) :
    C_X10_becomes l G w [.ref (G.2.1 69 j), .int (nI q), .int v] (fun r w' => r = some (.int (bI (!(σ q == v)))) ∧ w'.1 69 j = (if σ q = v then σ else setS σ q v) ∧ Sm (NR j) w w') noX := by
  have hii : vp_in (nI q) 57 := vp_in_nI hq (by decide)
  refine e_X10_becomes hj hl (fun M kk hM hk F => ⟨hii, ?_⟩)
  rw [nI_clamp (by omega), hσ]
  refine ⟨fun hc => ⟨hii, fun w1 hw1 => ⟨?_, ?_, ?_⟩⟩, fun hc => ⟨?_, ?_, Sm.rf⟩⟩
  · rw [beq_eq_false_iff_ne.mpr hc]; rfl
  · rw [if_neg hc, hw1]; exact setI_69 hσ
  · rw [hw1]; exact Sm.rf.set ⟨rfl, rfl⟩
  · rw [Classical.not_not.mp hc]; simp [bI]
  · rw [if_pos (Classical.not_not.mp hc)]
theorem m_copies (hl : l.stackTraces = false) {i j : Nat} (hi : i < 18) (hj : j < 18) (hij : i ≠ j) : C_X10_copies l G w [.ref (G.2.1 69 i), .ref (G.2.1 69 j)] (fun r w' => r = none ∧ (∀ q, q < 57 → w'.1 69 j q = w.1 69 i q) ∧ (∀ q, 57 ≤ q → w'.1 69 j q = w.1 69 j q) ∧ Sm (NR j) w w') noX := by
  refine e_X10_copies hi hj hl (fun M kk hM hk F => ?_)
  refine up_to (P := fun k => ∀ w' : Wd, Sm (NR j) w w' → (∀ q, q < k → w'.1 69 j q = w.1 69 i q) → (∀ q, 57 ≤ q → w'.1 69 j q = w.1 69 j q) → Z M G 0 (fun r w' => r = none ∧ (∀ q, q < 57 → w'.1 69 j q = w.1 69 i q) ∧ (∀ q, 57 ≤ q → w'.1 69 j q = w.1 69 j q) ∧ Sm (NR j) w w') noX w' 2 [some (.ref (G.2.1 69 i)), some (.ref (G.2.1 69 j)), some (.int (nI k))] []) 57 ?_ ?_ w Sm.rf (fun q hq => absurd hq (Nat.not_lt_zero _)) (fun _ _ => rfl)
  · intro k hk57 ih w' hs h1 h2
    have hii : vp_in (nI k) 57 := vp_in_nI hk57 (by decide)
    refine b_X10_copies_2 hi hj F hk ⟨fun hc => absurd hc (nI_ge (show k < 57 from hk57) (by decide)), fun _ => ⟨hii, hii, fun w1 hw1 => ?_⟩⟩
    rw [nI_clamp (by omega)] at hw1
    rw [← nI_succ]
    refine ih w1 (by rw [hw1]; exact hs.set ⟨rfl, rfl⟩) (fun q hq => ?_) (fun q hq => ?_)
    · rw [hw1, setI_1]
      by_cases e : q = k
      · rw [if_pos ⟨rfl, rfl, e⟩, e]
        exact hs.1 69 i k (by unfold NR; omega)
      · rw [if_neg (fun z => e z.2.2)]
        exact h1 q (by omega)
    · rw [hw1, setI_1, if_neg (by omega)]
      exact h2 q hq
  · intro w' hs h1 h2
    exact b_X10_copies_2 hi hj F hk ⟨fun _ => ⟨rfl, h1, h2, hs⟩, fun hc => absurd (by decide) hc⟩
theorem m_all (hl : l.stackTraces = false) {T : Tx} {σ : Sg} {j a : Nat} (hj : j < 18) (hT : Tok T) (hR : RollM w T) (hσ : w.1 69 j = σ) (ha : a ≤ 28) :
    C_X10_all l G w [.ref (G.2.1 40 0), .ref (G.2.1 69 j), .int (nI a)] (fun r w' => r = some (.int (sm (fun s => σ (a + s)) (tS T))) ∧ w' = w) noX := by
  have hS7 := hT.1
  refine e_X10_all hj hl (fun M kk hM hk F => ?_)
  refine up_to (P := fun i => Z M G 0 _ _ w 5 [some (.ref (G.2.1 40 0)), some (.ref (G.2.1 69 j)), some (.int (nI a)), some (.int (sm (fun s => σ (a + s)) i)), some (.int (nI i))] []) (tS T) (fun i hi ih => ?_) ?_
  · have hx := ixa a i (by omega)
    refine b_X10_all_5 hj F hk ⟨fun hc => ?_, fun _ => ⟨hx.1, ?_⟩⟩
    · rw [hR.1] at hc
      exact absurd hc (nI_ge hi (by omega))
    · rw [hx.2, hσ, ← nI_succ]
      exact ih
  · refine b_X10_all_5 hj F hk ⟨fun _ => ⟨rfl, rfl⟩, fun hc => ?_⟩
    rw [hR.1] at hc
    exact absurd (nI_le (Nat.le_refl _) (by omega)) hc
theorem m_hoarse (hl : l.stackTraces = false) {T : Tx} {σ : Sg} {j : Nat} (hj : j < 18) (hT : Tok T) (hR : RollM w T) (hσ : w.1 69 j = σ) :
    C_X10_hoarse l G w [.ref (G.2.1 40 0), .ref (G.2.1 69 j)] (fun r w' => r = some (.int (hbF σ (tS T))) ∧ w' = w) noX := by
  have hS7 := hT.1
  refine e_X10_hoarse hj hl (fun M kk hM hk F => ?_)
  refine up_to (P := fun i => Z M G 0 _ _ w 4 [some (.ref (G.2.1 40 0)), some (.ref (G.2.1 69 j)), some (.int (hbF σ i)), some (.int (nI i))] []) (tS T) (fun i hi ih => ?_) ?_
  · refine b_X10_hoarse_4 hj F hk ⟨fun hc => ?_, fun _ => ⟨(ix7 i (by omega)).1, ?_⟩⟩
    · rw [hR.1] at hc
      exact absurd hc (nI_ge hi (by omega))
    · rw [(ix7 i (by omega)).2, hσ, ← nI_succ]
      exact ih
  · refine b_X10_hoarse_4 hj F hk ⟨fun _ => ⟨rfl, rfl⟩, fun hc => ?_⟩
    rw [hR.1] at hc
    exact absurd (nI_le (Nat.le_refl _) (by omega)) hc
theorem m_onlyThese (hl : l.stackTraces = false) {T : Tx} {σ : Sg} {m : Nat} (hm : m < 128) (hT : Tok T) (hR : RollM w T) (hσ : w.1 69 1 = σ) :
    C_X10_onlyThese l G w [.ref (G.2.1 40 0), .int (nI m)] (fun r w' => r = none ∧ w'.1 69 1 = onK m σ (tS T) ∧ Sm (NR 1) w w') noX := by
  have hS7 := hT.1
  refine e_X10_onlyThese hl (fun M kk hM hk F => ?_)
  subst hM
  refine up_to (P := fun i => ∀ w' : Wd, Sm (NR 1) w w' → w'.1 69 1 = onK m σ i → Z M G 0 (fun r w' => r = none ∧ w'.1 69 1 = onK m σ (tS T) ∧ Sm (NR 1) w w') noX w' 2 [some (.ref (G.2.1 40 0)), some (.int (nI m)), some (.int (nI i))] []) (tS T) ?_ ?_ w Sm.rf (by rw [onK_0]; exact hσ)
  · intro i hi ih w' hs hσ'
    have hR' : RollM w' T := hR.mv hs (fun κ b k q => by unfold NR; omega)
    refine b_X10_onlyThese_2 F hk ⟨fun hc => ?_, fun _ => ?_⟩
    · rw [hR'.1] at hc
      exact absurd hc (nI_ge hi (by omega))
    · refine con_i (m_has hl) ?_
      rw [hz_bit m hm i (by omega), ← nI_succ, (ix7 i (by omega)).2]
      refine ⟨fun hc => ⟨(ix7 i (by omega)).1, fun w3 hw3 => ?_⟩, fun hc => ⟨(ix7 i (by omega)).1, fun w3 hw3 => ?_⟩⟩
      · refine ih w3 (by rw [hw3]; exact hs.set ⟨rfl, rfl⟩) ?_
        rw [hw3, ← onK_1, setI_69 hσ']
        rcases bit01 m i with q | q
        · rw [q]; rfl
        · rw [q] at hc; exact absurd hc (by decide)
      · refine ih w3 (by rw [hw3]; exact hs.set ⟨rfl, rfl⟩) ?_
        rw [hw3, ← onK_1, setI_69 hσ']
        rcases bit01 m i with q | q
        · rw [q] at hc; exact absurd rfl hc
        · rw [q]; rfl
  · intro w' hs hσ'
    have hR' : RollM w' T := hR.mv hs (fun κ b k q => by unfold NR; omega)
    refine b_X10_onlyThese_2 F hk ⟨fun _ => ⟨rfl, hσ', hs⟩, fun hc => ?_⟩
    rw [hR'.1] at hc
    exact absurd (nI_le (Nat.le_refl _) (by omega)) hc
theorem m_payOf (hl : l.stackTraces = false) {T : Tx} {m : Nat} (hm : m < 128) (hT : Tok T) (hR : RollM w T) : C_X10_payOf l G w [.ref (G.2.1 40 0), .int (nI m)] (fun r w' => r = some (.int (payK T m (tS T))) ∧ w' = w) noX := by
  have hS7 := hT.1
  refine e_X10_payOf hl (fun M kk hM hk F => ?_)
  subst hM
  refine up_to (P := fun i => Z M G 0 _ _ w 4 [some (.ref (G.2.1 40 0)), some (.int (nI m)), some (.int (payK T m i)), some (.int (nI i))] []) (tS T) (fun i hi ih => ?_) ?_
  · refine b_X10_payOf_4 F hk ⟨fun hc => ?_, fun _ => ?_⟩
    · rw [hR.1] at hc
      exact absurd hc (nI_ge hi (by omega))
    · refine con_i (m_has hl) ?_
      rw [hz_bit m hm i (by omega), ← nI_succ, nI_clamp (by omega), (hR.2.2.2.2.1 i hi).2.1]
      rw [payK] at ih
      rcases bit01 m i with q | q
      · rw [if_neg (by omega)] at ih
        rw [q]
        refine ⟨fun _ => ?_, fun hc => absurd rfl hc⟩
        rw [Int32.add_zero]
        exact ih
      · rw [if_pos q] at ih
        rw [q]
        exact ⟨fun hc => absurd hc (by decide), fun _ => ⟨vp_in_nI (by omega) (by decide), ih⟩⟩
  · refine b_X10_payOf_4 F hk ⟨fun _ => ⟨rfl, rfl⟩, fun hc => ?_⟩
    rw [hR.1] at hc
    exact absurd (nI_le (Nat.le_refl _) (by omega)) hc
end MD
