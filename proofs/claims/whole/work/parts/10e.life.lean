/-! The class: rests, days, lives. -/
def refK (T : Tx) (σ : Sg) (i : Nat) : Sg := fun q => if q < i then sb T q else σ q
def restK (T : Tx) (σ : Sg) (i : Nat) : Sg := fun q => if q < i then mnI (sb T q) (σ q + tB T) else σ q
theorem refK_S (T : Tx) (σ : Sg) : refK T σ (tS T) = refF T σ := rfl
theorem restK_S (T : Tx) (σ : Sg) : restK T σ (tS T) = restF T σ := rfl
theorem SceneC.s17 {w : Wd} {j s N : Nat} {σ : Sg} {v : Int32} (h : SceneC w j σ N) (hs : s < 7) : SceneC (setI w 17 j s v) j (setS σ s v) N := by
  obtain ⟨t1, t2, t3, t4, m4, t5, t6, t7⟩ := h
  refine ⟨?_, ?_, fun q hq => ?_, fun q hq => ?_, m4, t5, ?_, fun q hq => ?_⟩
  · rw [setS_n (by omega), ← t1]; simp [setI_1]
  · rw [setS_n (by omega), ← t2]; simp [setI_1]
  · obtain ⟨a, b, c, d⟩ := t3 q hq
    rw [setS_n (q := 14 + q) (by omega), setS_n (q := 21 + q) (by omega), setS_n (q := 28 + q) (by omega), ← b, ← c, ← d]
    refine ⟨?_, by simp [setI_1], by simp [setI_1], by simp [setI_1]⟩
    by_cases e : q = s
    · subst e; rw [setS_s]; simp [setI_1]
    · rw [setS_n e, ← a]; simp [setI_1, e]
  · rw [setS_n (by omega), ← t4 q hq]; simp [setI_1]
  · rw [← t6]; simp [setI_1]
  · rw [setS_n (by omega), t7 q hq]
theorem SceneC.s18 {w : Wd} {j s N : Nat} {σ : Sg} {v : Int32} (h : SceneC w j σ N) (hs : s < 7) : SceneC (setI w 18 j s v) j (setS σ (14 + s) v) N := by
  obtain ⟨t1, t2, t3, t4, m4, t5, t6, t7⟩ := h
  refine ⟨?_, ?_, fun q hq => ?_, fun q hq => ?_, m4, t5, ?_, fun q hq => ?_⟩
  · rw [setS_n (by omega), ← t1]; simp [setI_1]
  · rw [setS_n (by omega), ← t2]; simp [setI_1]
  · obtain ⟨a, b, c, d⟩ := t3 q hq
    rw [setS_n (q := q) (by omega), setS_n (q := 21 + q) (by omega), setS_n (q := 28 + q) (by omega), ← a, ← c, ← d]
    refine ⟨by simp [setI_1], ?_, by simp [setI_1], by simp [setI_1]⟩
    by_cases e : q = s
    · subst e; rw [setS_s]; simp [setI_1]
    · rw [setS_n (by omega), ← b]; simp [setI_1, e]
  · rw [setS_n (by omega), ← t4 q hq]; simp [setI_1]
  · rw [← t6]; simp [setI_1]
  · rw [setS_n (by omega), t7 q hq]
theorem SceneC.s19 {w : Wd} {j s N : Nat} {σ : Sg} {v : Int32} (h : SceneC w j σ N) (hs : s < 7) : SceneC (setI w 19 j s v) j (setS σ (21 + s) v) N := by
  obtain ⟨t1, t2, t3, t4, m4, t5, t6, t7⟩ := h
  refine ⟨?_, ?_, fun q hq => ?_, fun q hq => ?_, m4, t5, ?_, fun q hq => ?_⟩
  · rw [setS_n (by omega), ← t1]; simp [setI_1]
  · rw [setS_n (by omega), ← t2]; simp [setI_1]
  · obtain ⟨a, b, c, d⟩ := t3 q hq
    rw [setS_n (q := q) (by omega), setS_n (q := 14 + q) (by omega), setS_n (q := 28 + q) (by omega), ← a, ← b, ← d]
    refine ⟨by simp [setI_1], by simp [setI_1], ?_, by simp [setI_1]⟩
    by_cases e : q = s
    · subst e; rw [setS_s]; simp [setI_1]
    · rw [setS_n (by omega), ← c]; simp [setI_1, e]
  · rw [setS_n (by omega), ← t4 q hq]; simp [setI_1]
  · rw [← t6]; simp [setI_1]
  · rw [setS_n (by omega), t7 q hq]
theorem SceneC.s20 {w : Wd} {j s N : Nat} {σ : Sg} {v : Int32} (h : SceneC w j σ N) (hs : s < 7) : SceneC (setI w 20 j s v) j (setS σ (28 + s) v) N := by
  obtain ⟨t1, t2, t3, t4, m4, t5, t6, t7⟩ := h
  refine ⟨?_, ?_, fun q hq => ?_, fun q hq => ?_, m4, t5, ?_, fun q hq => ?_⟩
  · rw [setS_n (by omega), ← t1]; simp [setI_1]
  · rw [setS_n (by omega), ← t2]; simp [setI_1]
  · obtain ⟨a, b, c, d⟩ := t3 q hq
    rw [setS_n (q := q) (by omega), setS_n (q := 14 + q) (by omega), setS_n (q := 21 + q) (by omega), ← a, ← b, ← c]
    refine ⟨by simp [setI_1], by simp [setI_1], by simp [setI_1], ?_⟩
    by_cases e : q = s
    · subst e; rw [setS_s]; simp [setI_1]
    · rw [setS_n (by omega), ← d]; simp [setI_1, e]
  · rw [setS_n (by omega), ← t4 q hq]; simp [setI_1]
  · rw [← t6]; simp [setI_1]
  · rw [setS_n (by omega), t7 q hq]
theorem SceneC.s21 {w : Wd} {j s N : Nat} {σ : Sg} {v : Int32} (h : SceneC w j σ N) (hs : s < 20) (hN : N ≤ 20) : SceneC (setI w 21 j s v) j (setS σ (35 + s) v) N := by
  obtain ⟨t1, t2, t3, t4, m4, t5, t6, t7⟩ := h
  refine ⟨?_, ?_, fun q hq => ?_, fun q hq => ?_, m4, t5, ?_, fun q hq => ?_⟩
  · rw [setS_n (by omega), ← t1]; simp [setI_1]
  · rw [setS_n (by omega), ← t2]; simp [setI_1]
  · obtain ⟨a, b, c, d⟩ := t3 q hq
    rw [setS_n (q := q) (by omega), setS_n (q := 14 + q) (by omega), setS_n (q := 21 + q) (by omega), setS_n (q := 28 + q) (by omega), ← a, ← b, ← c, ← d]
    exact ⟨by simp [setI_1], by simp [setI_1], by simp [setI_1], by simp [setI_1]⟩
  · by_cases e : q = s
    · subst e; rw [setS_s]; simp [setI_1]
    · rw [setS_n (by omega), ← t4 q hq]; simp [setI_1, e]
  · rw [← t6]; simp [setI_1]
  · rw [setS_n (by omega), t7 q hq]
theorem SceneC.s50 {w : Wd} {j N : Nat} {σ : Sg} {v : Int32} (h : SceneC w j σ N) (hN : N ≤ 20) : SceneC (setI w 5 j 0 v) j (setS σ 56 v) N := by
  obtain ⟨t1, t2, t3, t4, m4, t5, t6, t7⟩ := h
  refine ⟨?_, ?_, fun q hq => ?_, fun q hq => ?_, m4, t5, ?_, fun q hq => ?_⟩
  · rw [setS_s]; simp [setI_1]
  · rw [setS_n (by omega), ← t2]; simp [setI_1]
  · obtain ⟨a, b, c, d⟩ := t3 q hq
    rw [setS_n (q := q) (by omega), setS_n (q := 14 + q) (by omega), setS_n (q := 21 + q) (by omega), setS_n (q := 28 + q) (by omega), ← a, ← b, ← c, ← d]
    exact ⟨by simp [setI_1], by simp [setI_1], by simp [setI_1], by simp [setI_1]⟩
  · rw [setS_n (by omega), ← t4 q hq]; simp [setI_1]
  · rw [← t6]; simp [setI_1]
  · rw [setS_n (by omega), t7 q hq]
theorem SceneC.cong {w : Wd} {j N : Nat} {σ τ : Sg} (h : SceneC w j σ N) (e : ∀ q, q < 57 → τ q = σ q) (hN : N ≤ 20) : SceneC w j τ N := by
  obtain ⟨t1, t2, t3, t4, m4, t5, t6, t7⟩ := h
  refine ⟨by rw [e 56 (by omega)]; exact t1, by rw [e 55 (by omega)]; exact t2, fun q hq => ?_, fun q hq => by rw [e (35 + q) (by omega)]; exact t4 q hq, m4, t5, t6, fun q hq => by rw [e (7 + q) (by omega)]; exact t7 q hq⟩
  rw [e q (by omega), e (14 + q) (by omega), e (21 + q) (by omega), e (28 + q) (by omega)]
  exact t3 q hq
theorem refK_1 {T : Tx} {σ : Sg} {i : Nat} : setS (refK T σ i) i (sb T i) = refK T σ (i + 1) := by
  funext q
  unfold setS refK
  by_cases e : q = i
  · rw [if_pos e, if_pos (by omega), e]
  · rw [if_neg e]
    by_cases h : q < i
    · rw [if_pos h, if_pos (by omega)]
    · rw [if_neg h, if_neg (by omega)]
theorem restK_1 {T : Tx} {σ : Sg} {i : Nat} : setS (restK T σ i) i (mnI (sb T i) (σ i + tB T)) = restK T σ (i + 1) := by
  funext q
  unfold setS restK
  by_cases e : q = i
  · rw [if_pos e, if_pos (by omega), e]
  · rw [if_neg e]
    by_cases h : q < i
    · rw [if_pos h, if_pos (by omega)]
    · rw [if_neg h, if_neg (by omega)]
theorem dayK_o {T : Tx} {σ : Sg} {i q : Nat} (h : 21 ≤ q ∧ q < 21 + i) : dayK T σ i q = (if σ (q + 7) = 0 then σ q else mnI 9999 (σ q + sp T (q - 21))) := if_pos h
theorem dayK_t {T : Tx} {σ : Sg} {i q : Nat} (hi : i ≤ 7) (h : 28 ≤ q ∧ q < 28 + i) : dayK T σ i q = 0 := by
  unfold dayK
  rw [if_neg (by omega), if_pos h]
theorem dayK_n {T : Tx} {σ : Sg} {i q : Nat} (h1 : ¬ (21 ≤ q ∧ q < 21 + i)) (h2 : ¬ (28 ≤ q ∧ q < 28 + i)) : dayK T σ i q = σ q := by
  unfold dayK
  rw [if_neg h1, if_neg h2]
theorem dayK_1 {T : Tx} {σ : Sg} {i : Nat} (hi : i < 7) : setS (setS (dayK T σ i) (21 + i) (if σ (28 + i) = 0 then σ (21 + i) else mnI 9999 (σ (21 + i) + sp T i))) (28 + i) 0 = dayK T σ (i + 1) := by
  funext q
  by_cases e : q = 28 + i
  · rw [e, setS_s, dayK_t (by omega) (by omega)]
  · rw [setS_n e]
    by_cases e2 : q = 21 + i
    · rw [e2, setS_s, dayK_o (by omega), show 21 + i + 7 = 28 + i by omega, show 21 + i - 21 = i by omega]
    · rw [setS_n e2]
      by_cases h1 : 21 ≤ q ∧ q < 21 + i
      · rw [dayK_o h1, dayK_o (by omega)]
      · by_cases h2 : 28 ≤ q ∧ q < 28 + i
        · rw [dayK_t (by omega) h2, dayK_t (by omega) (by omega)]
        · rw [dayK_n h1 h2, dayK_n (by omega) (by omega)]
theorem bI_or (a b : Bool) : bI a ||| bI b = bI (a || b) := by cases a <;> cases b <;> decide
def LifeC (w : Wd) (j : Nat) (σ : Sg) (bf : List Sg) (N : Nat) : Prop := w.1 4 j 0 = nI bf.length ∧ bf.length ≤ 16 ∧ SceneC w (17 * j) σ N ∧ ∀ (i : Nat) (τ : Sg), bf[i]? = some τ → SceneC w (17 * j + 1 + i) τ N
/-- the cells of life j -/
def GL (j κ b _k : Nat) : Prop := κ = 33 ∨ κ = 37 ∨ (κ = 4 ∧ b = j) ∨ (17 * j ≤ b ∧ b < 17 * j + 17 ∧ (κ = 5 ∨ (17 ≤ κ ∧ κ ≤ 21)))
theorem LifeC.mv {w w' : Wd} {j : Nat} {σ : Sg} {bf : List Sg} {N : Nat} {S : Nat → Nat → Nat → Prop} (h : LifeC w j σ bf N) (hs : Sm S w w') (h4 : ∀ k, ¬ S 4 j k) (hn : ∀ κ b k, 17 * j ≤ b → b < 17 * j + 17 → κ = 5 ∨ (17 ≤ κ ∧ κ ≤ 21) → ¬ S κ b k) : LifeC w' j σ bf N := by
  obtain ⟨h1, h2, h3, h5⟩ := h
  refine ⟨(hs.1 _ _ _ (h4 0)).trans h1, h2, h3.mv hs (fun κ k q => hn κ _ k (by omega) (by omega) q), fun i τ hi => (h5 i τ hi).mv hs (fun κ k q => hn κ _ k (by omega) ?_ q)⟩
  have := (List.getElem?_eq_some_iff.mp hi).1
  omega
section CL
variable {l : Launch} {G : Gx} {w : Wd}
theorem c_rest (hl : l.stackTraces = false) {T : Tx} {E : Ex} {σ : Sg} {j : Nat} (hj : j < 69) (hT : Tok T) (hst : StC w T E) (hsc : SceneC w j σ (tN T)) :
    C_X7_rest l G w [.ref (G.2.1 2 0), .ref (G.2.1 5 j)] (fun r w' => r = some (.int (bI (tired T σ))) ∧ SceneC w' j (restF T σ) (tN T) ∧ Sm (GJ j) w w') noX := by
  have hS7 := hT.1
  refine e_X7_rest hj hl (fun M kk hM hk F => ?_)
  subst hM
  refine up_to (P := fun i => ∀ w' : Wd, Sm (GJ j) w w' → SceneC w' j (restK T σ i) (tN T) → Z M G 0 (fun r w' => r = some (.int (bI (tired T σ))) ∧ SceneC w' j (restF T σ) (tN T) ∧ Sm (GJ j) w w') noX w' 4 [some (.ref (G.2.1 2 0)), some (.ref (G.2.1 5 j)), some (.int (bI (an (fun s => decide (σ s < sb T s)) i))), some (.int (nI i))] []) (tS T) ?_ ?_ w Sm.rf ?_
  · intro i hi ih w' hs hsc'
    have hst' : StC w' T E := hst.mv hs (fun κ b k q => by unfold GJ; omega)
    obtain ⟨hr0, hr1, hR, hE⟩ := hst'
    have ci : (nI i).toNatClampNeg = i := nI_clamp (by omega)
    have hii : vp_in (nI i) 7 := vp_in_nI (by omega) (by decide)
    have eL : w'.1 17 j i = σ i := by
      rw [(hsc'.2.2.1 i (by omega)).1]
      exact if_neg (Nat.lt_irrefl _)
    have fin : ∀ b : Bool, b = decide (σ i < sb T i) → Z M G 0 (fun r w' => r = some (.int (bI (tired T σ))) ∧ SceneC w' j (restF T σ) (tN T) ∧ Sm (GJ j) w w') noX w' 39 [some (.ref (G.2.1 2 0)), some (.ref (G.2.1 5 j)), none, some (.int (nI i))] [.int (bI b), .int (bI (an (fun s => decide (σ s < sb T s)) i))] := by
      intro b hb
      refine b_X7_rest_39 hj F hk ⟨hii, hii, hii, fun w3 hw3 => ?_⟩
      rw [ci, (hR.2.2.2.2.1 i hi).2.2, eL, hR.2.2.2.1] at hw3
      rw [bI_or, ← nI_succ, hb]
      refine ih w3 (by rw [hw3]; exact hs.set (by unfold GJ; omega)) ?_
      rw [hw3, ← restK_1]
      exact hsc'.s17 (by omega)
    refine b_X7_rest_4 hj F hk ⟨fun hc => ?_, fun _ => ⟨hii, hii, ?_⟩⟩
    · rw [hR.1] at hc
      exact absurd hc (nI_ge hi (by omega))
    · rw [ci, (hR.2.2.2.2.1 i hi).2.2, eL]
      exact ⟨fun hc => fin false (decide_eq_false (Int32.not_lt.mpr hc)).symm, fun hc => fin true (decide_eq_true (Int32.not_le.mp hc)).symm⟩
  · intro w' hs hsc'
    have hst' : StC w' T E := hst.mv hs (fun κ b k q => by unfold GJ; omega)
    refine b_X7_rest_4 hj F hk ⟨fun _ => ⟨bI_nar _, rfl, hsc', hs⟩, fun hc => ?_⟩
    rw [hst'.2.2.1.1] at hc
    exact absurd (nI_le (Nat.le_refl _) (by omega)) hc
  · have e : restK T σ 0 = σ := funext fun q => if_neg (Nat.not_lt_zero _)
    rw [e]
    exact hsc
theorem c_refresh (hl : l.stackTraces = false) {T : Tx} {E : Ex} {σ : Sg} {j : Nat} (hj : j < 69) (hT : Tok T) (hst : StC w T E) (hsc : SceneC w j σ (tN T)) :
    C_X7_refresh l G w [.ref (G.2.1 2 0), .ref (G.2.1 5 j)] (fun r w' => r = none ∧ SceneC w' j (refF T σ) (tN T) ∧ Sm (GJ j) w w') noX := by
  have hS7 := hT.1
  refine e_X7_refresh hj hl (fun M kk hM hk F => ?_)
  subst hM
  refine up_to (P := fun i => ∀ w' : Wd, Sm (GJ j) w w' → SceneC w' j (refK T σ i) (tN T) → Z M G 0 (fun r w' => r = none ∧ SceneC w' j (refF T σ) (tN T) ∧ Sm (GJ j) w w') noX w' 2 [some (.ref (G.2.1 2 0)), some (.ref (G.2.1 5 j)), some (.int (nI i))] []) (tS T) ?_ ?_ w Sm.rf ?_
  · intro i hi ih w' hs hsc'
    have hst' : StC w' T E := hst.mv hs (fun κ b k q => by unfold GJ; omega)
    obtain ⟨hr0, hr1, hR, hE⟩ := hst'
    have ci : (nI i).toNatClampNeg = i := nI_clamp (by omega)
    have hii : vp_in (nI i) 7 := vp_in_nI (by omega) (by decide)
    refine b_X7_refresh_2 hj F hk ⟨fun hc => ?_, fun _ => ⟨hii, hii, fun w3 hw3 => ?_⟩⟩
    · rw [hR.1] at hc
      exact absurd hc (nI_ge hi (by omega))
    · rw [ci, (hR.2.2.2.2.1 i hi).2.2] at hw3
      rw [← nI_succ]
      refine ih w3 (by rw [hw3]; exact hs.set (by unfold GJ; omega)) ?_
      rw [hw3, ← refK_1]
      exact hsc'.s17 (by omega)
  · intro w' hs hsc'
    have hst' : StC w' T E := hst.mv hs (fun κ b k q => by unfold GJ; omega)
    refine b_X7_refresh_2 hj F hk ⟨fun _ => ⟨rfl, hsc', hs⟩, fun hc => ?_⟩
    rw [hst'.2.2.1.1] at hc
    exact absurd (nI_le (Nat.le_refl _) (by omega)) hc
  · have e : refK T σ 0 = σ := funext fun q => if_neg (Nat.not_lt_zero _)
    rw [e]
    exact hsc
theorem c_nextDay (hl : l.stackTraces = false) {T : Tx} {E : Ex} {σ : Sg} {j : Nat} (hj : j < 69) (hT : Tok T) (hst : StC w T E) (hsc : SceneC w j σ (tN T)) (hnn : ∀ s, s < tS T → 0 ≤ σ (28 + s)) :
    C_X7_nextDay l G w [.ref (G.2.1 2 0), .ref (G.2.1 5 j)] (fun r w' => r = some (.int 1) ∧ SceneC w' j (dayF T σ) (tN T) ∧ Sm (GJ j) w w') noX := by
  have hS7 := hT.1
  refine e_X7_nextDay hj hl (fun M kk hM hk F => ?_)
  subst hM
  refine con_vP (c_refresh hl hj hT hst hsc) (fun w2 hw2 => ?_)
  refine up_to (P := fun i => ∀ w' : Wd, Sm (GJ j) w w' → SceneC w' j (dayK T (refF T σ) i) (tN T) → Z M G 0 (fun r w' => r = some (.int 1) ∧ SceneC w' j (dayF T σ) (tN T) ∧ Sm (GJ j) w w') noX w' 7 [some (.ref (G.2.1 2 0)), some (.ref (G.2.1 5 j)), some (.int (nI i))] []) (tS T) ?_ ?_ w2 hw2.2 ?_
  · intro i hi ih w' hs hsc'
    have hst' : StC w' T E := hst.mv hs (fun κ b k q => by unfold GJ; omega)
    obtain ⟨hr0, hr1, hR, hE⟩ := hst'
    have ci : (nI i).toNatClampNeg = i := nI_clamp (by omega)
    have hii : vp_in (nI i) 7 := vp_in_nI (by omega) (by decide)
    have hr28 : refF T σ (28 + i) = σ (28 + i) := if_neg (by omega)
    have e20 : w'.1 20 j i = σ (28 + i) := by
      rw [(hsc'.2.2.1 i (by omega)).2.2.2, dayK_n (by omega) (by omega), hr28]
    have e19 : w'.1 19 j i = refF T σ (21 + i) := by
      rw [(hsc'.2.2.1 i (by omega)).2.2.1, dayK_n (by omega) (by omega)]
    have fin : ∀ (w3 : Wd) (v : Int32), w3 = setI (setI w' 19 j i v) 20 j i 0 → v = (if refF T σ (28 + i) = 0 then refF T σ (21 + i) else mnI 9999 (refF T σ (21 + i) + sp T i)) → Z M G 0 (fun r w' => r = some (.int 1) ∧ SceneC w' j (dayF T σ) (tN T) ∧ Sm (GJ j) w w') noX w3 7 [some (.ref (G.2.1 2 0)), some (.ref (G.2.1 5 j)), some (.int (nI i + 1))] [] := by
      intro w3 v hw3 hv
      rw [← nI_succ]
      refine ih w3 (by rw [hw3]; exact (hs.set (by unfold GJ; omega)).set (by unfold GJ; omega)) ?_
      rw [hw3, ← dayK_1 (by omega), hv]
      exact (hsc'.s19 (by omega)).s20 (by omega)
    refine b_X7_nextDay_7 hj F hk ⟨fun hc => ?_, fun _ => ⟨hii, ?_⟩⟩
    · rw [hR.1] at hc
      exact absurd hc (nI_ge hi (by omega))
    · rw [ci, e20, e19, (hR.2.2.2.2.1 i hi).2.1]
      refine ⟨fun hc => ⟨hii, fun w3 hw3 => ?_⟩, fun hc => ⟨hii, hii, hii, fun w5 hw5 => ⟨hii, fun w6 hw6 => ?_⟩⟩⟩
      · have h0 : σ (28 + i) = 0 := Int32.le_antisymm hc (hnn i hi)
        refine fin w3 (w'.1 19 j i) ?_ ?_
        · rw [hw3]
          have e : setI w' 19 j i (w'.1 19 j i) = w' := by
            have e1 : (setI w' 19 j i (w'.1 19 j i)).1 = w'.1 := by
              funext a b c
              rw [setI_1]
              split
              · rename_i hh
                rw [hh.1, hh.2.1, hh.2.2]
              · rfl
            exact Prod.ext e1 rfl
          rw [e]
        · rw [e19, hr28, if_pos h0]
      · have h0 : ¬ σ (28 + i) = 0 := fun z => hc (by rw [z]; exact Int32.le_refl _)
        refine fin w6 _ (by rw [hw6, hw5]) ?_
        rw [hr28, if_neg h0]
        rfl
  · intro w' hs hsc'
    have hst' : StC w' T E := hst.mv hs (fun κ b k q => by unfold GJ; omega)
    refine b_X7_nextDay_7 hj F hk ⟨fun _ w2 hw2 => ⟨rfl, ?_, ?_⟩, fun hc => ?_⟩
    · rw [hw2, hsc'.1]
      exact hsc'.s50 hT.2.1
    · rw [hw2]; exact hs.set (by unfold GJ; omega)
    · rw [hst'.2.2.1.1] at hc
      exact absurd (nI_le (Nat.le_refl _) (by omega)) hc
  · have e : dayK T (refF T σ) 0 = refF T σ := funext fun q => by unfold dayK; rw [if_neg (by omega), if_neg (by omega)]
    rw [e]
    exact hw2.1
end CL
