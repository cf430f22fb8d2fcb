/-! The class's small methods. -/
section CB
variable {l : Launch} {G : Gx} {w : Wd}
theorem c_within (hl : l.stackTraces = false) {v a b : Int32} : C_X9_within l G w [.int v, .int a, .int b] (fun r w' => r = some (.int (bI (decide (a ≤ v) && decide (v ≤ b)))) ∧ w' = w) noX := by
  refine e_X9_within hl (fun M kk hM hk F => ⟨fun h => ⟨?_, rfl⟩, fun h => ⟨fun h2 => ⟨?_, rfl⟩, fun h2 => ⟨?_, rfl⟩⟩⟩)
  · simp [bI, Int32.not_le.mpr h]
  · simp [bI, Int32.not_le.mpr h2]
  · simp [bI, Int32.not_lt.mp h, Int32.not_lt.mp h2]
theorem c_isVowel (hl : l.stackTraces = false) {v : Int32} : C_X9_isVowel l G w [.int v] (fun r w' => r = some (.int (bI (decide (0 ≤ v) && decide (v ≤ 5)))) ∧ w' = w) noX :=
  e_X9_isVowel hl (fun M kk hM hk F => by subst hM; exact con_i (c_within hl) ⟨bI_nar _, rfl, rfl⟩)
theorem c_isSinger (hl : l.stackTraces = false) {v : Int32} : C_X9_isSinger l G w [.ref (G.2.1 0 0), .int v] (fun r w' => r = some (.int (bI (decide (0 ≤ v) && decide (v < w.1 7 (w.2.2 2 0 0) 0)))) ∧ w' = w) noX := by
  refine e_X9_isSinger hl (fun M kk hM hk F => ⟨fun h => ⟨?_, rfl⟩, fun h => ⟨fun h2 => ⟨?_, rfl⟩, fun h2 => ⟨?_, rfl⟩⟩⟩)
  · simp [bI, Int32.not_le.mpr h]
  · simp [bI, Int32.not_lt.mpr h2]
  · simp [bI, Int32.not_lt.mp h, Int32.not_le.mp h2]
theorem c_isNote (hl : l.stackTraces = false) {v : Int32} : C_X9_isNote l G w [.ref (G.2.1 0 0), .int v] (fun r w' => r = some (.int (bI (decide (0 ≤ v) && decide (v < w.1 7 (w.2.2 2 0 0) 1)))) ∧ w' = w) noX := by
  refine e_X9_isNote hl (fun M kk hM hk F => ⟨fun h => ⟨?_, rfl⟩, fun h => ⟨fun h2 => ⟨?_, rfl⟩, fun h2 => ⟨?_, rfl⟩⟩⟩)
  · simp [bI, Int32.not_le.mpr h]
  · simp [bI, Int32.not_lt.mpr h2]
  · simp [bI, Int32.not_lt.mp h, Int32.not_le.mp h2]
theorem c_allSingers (hl : l.stackTraces = false) : C_X9_allSingers l G w [.ref (G.2.1 0 0)] (fun r w' => r = some (.int (((1 : Int32) <<< ((w.1 7 (w.2.2 2 0 0) 0) &&& 31)) - 1)) ∧ w' = w) noX :=
  e_X9_allSingers hl (fun M kk hM hk F => ⟨rfl, rfl⟩)
theorem c_areSingers (hl : l.stackTraces = false) {v : Int32} : C_X9_areSingers l G w [.ref (G.2.1 0 0), .int v] (fun r w' => r = some (.int (bI (v &&& ((((1 : Int32) <<< ((w.1 7 (w.2.2 2 0 0) 0) &&& 31)) - 1) ^^^ (-1)) == 0))) ∧ w' = w) noX :=
  e_X9_areSingers hl (fun M kk hM hk F => by
    subst hM
    refine con_i (c_allSingers hl) ⟨fun h => ⟨?_, rfl⟩, fun h => ⟨?_, rfl⟩⟩
    · rw [beq_eq_false_iff_ne.mpr h]; rfl
    · rw [Classical.not_not.mp h]; rfl)
theorem c_demand (hl : l.stackTraces = false) {b : Bool} : C_X9_demand l G w [.ref (G.2.1 0 0), .int (bI b)] (fun r w' => r = none ∧ b = true ∧ w' = w) (fun E w' => E = nIae ∧ b = false ∧ w' = setI w 0 0 16 (w.1 0 0 16 + 1)) := by
  refine e_X9_demand hl (fun M kk hM hk F => ⟨fun h => ⟨rfl, ?_, rfl⟩, fun h w1 hw1 => ⟨rfl, ?_, hw1⟩⟩)
  · cases b
    · exact absurd rfl h
    · rfl
  · exact bI_t.mp (Classical.not_not.mp h)
theorem c_find (hl : l.stackTraces = false) {b : Bool} : C_X9_find l G w [.ref (G.2.1 0 0), .int (bI b)] (fun r w' => r = none ∧ b = true ∧ w' = w) (fun E w' => E = nNse ∧ b = false ∧ w' = setI w 0 0 15 (w.1 0 0 15 + 1)) := by
  refine e_X9_find hl (fun M kk hM hk F => ⟨fun h => ⟨rfl, ?_, rfl⟩, fun h w1 hw1 => ⟨rfl, ?_, hw1⟩⟩)
  · cases b
    · exact absurd rfl h
    · rfl
  · exact bI_t.mp (Classical.not_not.mp h)
theorem c_total (hl : l.stackTraces = false) {κ j m : Nat} (hq : ka κ = some (0, m)) (hj : j < cnt κ) (hm : m < 1000) : C_X9_total l G w [.ref (G.2.1 κ j)] (fun r w' => r = some (.int (sm (w.1 κ j) m)) ∧ w' = w) noX := by
  refine e_X9_total hq hj hl (fun M kk hM hk F => ?_)
  refine up_to (P := fun i => Z M G 0 _ _ w 4 [some (.ref (G.2.1 κ j)), some (.int (sm (w.1 κ j) i)), some (.int (nI i))] []) m (fun i hi ih => ?_) ?_
  · refine b_X9_total_4 hq hj F hk ⟨fun hc => absurd hc (nI_ge hi (by omega)), fun _ => ⟨vp_in_nI hi (by omega), ?_⟩⟩
    rw [nI_clamp (by omega), ← nI_succ]
    exact ih
  · exact b_X9_total_4 hq hj F hk ⟨fun _ => ⟨rfl, rfl⟩, fun hc => absurd (nI_le (Nat.le_refl m) (by omega)) hc⟩
theorem c_places (hl : l.stackTraces = false) {κ j m n : Nat} {v : Int32} (hq : ka κ = some (0, m)) (hj : j < cnt κ) (hm : m < 1000) (hn : n ≤ m) : C_X9_places l G w [.ref (G.2.1 κ j), .int (nI n), .int v] (fun r w' => r = some (.int (ob (fun i => w.1 κ j i == v) n)) ∧ w' = w) noX := by
  refine e_X9_places hq hj hl (fun M kk hM hk F => ?_)
  refine up_to (P := fun i => Z M G 0 _ _ w 5 [some (.ref (G.2.1 κ j)), some (.int (nI n)), some (.int v), some (.int (ob (fun i => w.1 κ j i == v) i)), some (.int (nI i))] []) n (fun i hi ih => ?_) ?_
  · refine b_X9_places_5 hq hj F hk ⟨fun hc => absurd hc (nI_ge hi (by omega)), fun _ => ⟨fun hc => absurd hc (nI_ge (show i < m by omega) (by omega)), fun _ => ⟨vp_in_nI (show i < m by omega) (by omega), ?_⟩⟩⟩
    rw [nI_clamp (by omega), ← nI_succ]
    refine ⟨fun hc => ?_, fun hc => ?_⟩
    · rw [ob, if_neg (by simpa using hc)] at ih
      exact ih
    · rw [ob, if_pos (by simpa using Classical.not_not.mp hc)] at ih
      exact ih
  · exact b_X9_places_5 hq hj F hk ⟨fun _ => ⟨rfl, rfl⟩, fun hc => absurd (nI_le (Nat.le_refl n) (by omega)) hc⟩
theorem c_firstMost (hl : l.stackTraces = false) {κ j m n : Nat} (hq : ka κ = some (0, m)) (hj : j < cnt κ) (hm : m < 1000) (hn : n ≤ m) : C_X9_firstMost l G w [.ref (G.2.1 κ j), .int (nI n)] (fun r w' => r = some (.int (oI (bs (fun a b => decide (w.1 κ j b < w.1 κ j a)) n))) ∧ w' = w) noX := by
  refine e_X9_firstMost hq hj hl (fun M kk hM hk F => ?_)
  refine up_to (P := fun i => Z M G 0 _ _ w 4 [some (.ref (G.2.1 κ j)), some (.int (nI n)), some (.int (oI (bs (fun a b => decide (w.1 κ j b < w.1 κ j a)) i))), some (.int (nI i))] []) n (fun i hi ih => ?_) ?_
  · refine b_X9_firstMost_4 hq hj F hk ⟨fun hc => absurd hc (nI_ge hi (by omega)), fun _ => ⟨fun hc => absurd hc (nI_ge (show i < m by omega) (by omega)), fun _ => ?_⟩⟩
    rw [← nI_succ]
    cases hb : bs (fun a b => decide (w.1 κ j b < w.1 κ j a)) i with
    | none =>
      rw [bs, hb] at ih
      exact ⟨fun _ => ih, fun hc => absurd rfl hc⟩
    | some b =>
      have hlt := bs_lt hb
      rw [bs, hb] at ih
      refine ⟨fun hc => absurd hc (nI_neg1 (by omega)), fun _ => ⟨vp_in_nI (show i < m by omega) (by omega), vp_in_nI (show b < m by omega) (by omega), ?_⟩⟩
      show (w.1 κ j (nI i).toNatClampNeg ≤ w.1 κ j (nI b).toNatClampNeg → _) ∧ (¬ (w.1 κ j (nI i).toNatClampNeg ≤ w.1 κ j (nI b).toNatClampNeg) → _)
      rw [nI_clamp (by omega), nI_clamp (by omega)]
      refine ⟨fun hc => ?_, fun hc => ?_⟩
      · simp only [Int32.not_lt.mpr hc, decide_false] at ih
        exact ih
      · simp only [Int32.not_le.mp hc, decide_true, if_true] at ih
        exact ih
  · exact b_X9_firstMost_4 hq hj F hk ⟨fun _ => ⟨rfl, rfl⟩, fun hc => absurd (nI_le (Nat.le_refl n) (by omega)) hc⟩
end CB
