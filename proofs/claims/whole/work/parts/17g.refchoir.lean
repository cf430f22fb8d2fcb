/-! The reference: rows copied, a new beginning, choir. -/
def vwK (T : Tx) (i : Nat) : Sg := fun q => if 35 ≤ q ∧ q < 35 + i then nv T (q - 35) else refF T (fun _ => 0) q
theorem vwK_1 {T : Tx} {i : Nat} : setS (vwK T i) (35 + i) (nv T i) = vwK T (i + 1) := by
  funext q
  unfold setS vwK
  by_cases e : q = 35 + i
  · rw [if_pos e, if_pos (by omega), e, show 35 + i - 35 = i by omega]
  · rw [if_neg e]
    by_cases h : 35 ≤ q ∧ q < 35 + i
    · rw [if_pos h, if_pos (by omega)]
    · rw [if_neg h, if_neg (by omega)]
theorem vwK_N {T : Tx} (h : Tok T) : vwK T (tN T) = sg0 T := by
  have h7 := h.1
  funext q
  unfold vwK sg0 refF
  by_cases h1 : q < tS T
  · rw [if_neg (by omega), if_pos h1, if_pos h1]
  · by_cases h2 : 35 ≤ q ∧ q < 35 + tN T
    · rw [if_pos h2, if_neg h1, if_pos h2]
    · rw [if_neg h2, if_neg h1, if_neg h1, if_neg h2]
section YF
variable {l : Launch} {G : Gx} {w : Wd} {b : Nat → Nat} {n sz : Nat} {T : Tx} {p0 : Int32}
theorem m_tellsNothing (hl : l.stackTraces = false) : C_X10_tellsNothing l G w [.ref (G.2.1 40 0)] (fun r w' => r = none ∧ RollR w' T00 ∧ Sm (fun κ _ _ => κ = 43) w w') noX := by
  refine e_X10_tellsNothing hl (fun M kk hM hk F => ?_)
  refine up_to (P := fun i => ∀ w', Sm (fun κ _ _ => κ = 43) w w' → (∀ k, k < i → w'.1 43 0 k = 0) → Z M G 0 (fun r w' => r = none ∧ RollR w' T00 ∧ Sm (fun κ _ _ => κ = 43) w w') noX w' 2 [some (.ref (G.2.1 40 0)), some (.int (nI i))] []) 3 (fun i hi ih w' hs hz => ?_) (fun w' hs hz => ?_) w Sm.rf (fun k hk => absurd hk (Nat.not_lt_zero _))
  · refine b_X10_tellsNothing_2 F hk ⟨fun hc => absurd hc (nI_ge hi (by decide)), fun _ => ⟨vp_in_nI (by omega) (by decide), fun w2 hw2 => ?_⟩⟩
    rw [nI_clamp (by omega)] at hw2
    rw [← nI_succ]
    refine ih w2 (by rw [hw2]; exact hs.set rfl) (fun k hk => ?_)
    rw [hw2, setI_1]
    by_cases e : k = i
    · rw [if_pos ⟨rfl, rfl, e⟩]
    · rw [if_neg (fun z => e z.2.2)]
      exact hz k (by omega)
  · refine b_X10_tellsNothing_2 F hk ⟨fun _ w1 hw1 => ⟨rfl, ⟨?_, ?_, ?_, ?_, fun s hs => absurd hs (Nat.not_lt_zero _), fun s hs => absurd hs (Nat.not_lt_zero _), fun s hs => absurd hs (Nat.not_lt_zero _)⟩, by rw [hw1]; exact hs.set rfl⟩, fun hc => absurd (by decide) hc⟩
    · rw [hw1, setI_ne (by omega)]; exact hz 0 (by omega)
    · rw [hw1, setI_ne (by omega)]; exact hz 1 (by omega)
    · rw [hw1, setI_ne (by omega)]; exact hz 2 (by omega)
    · rw [hw1, setI_eq]; rfl
theorem m_lays (hl : l.stackTraces = false) {κ0 jr0 m0 κe0 me0 : Nat} (hq0 : ka κ0 = some (5, m0)) (hr0 : jr0 < cnt κ0) (he0 : er κ0 = κe0) (hx0 : ∀ i, eix κ0 jr0 i = i) (hqe0 : ka κe0 = some (0, me0)) {κ1 jr1 m1 κe1 me1 : Nat} (hq1 : ka κ1 = some (5, m1)) (hr1 : jr1 < cnt κ1) (he1 : er κ1 = κe1) (hx1 : ∀ i, eix κ1 jr1 i = i) (hqe1 : ka κe1 = some (0, me1))
    (hne : κe0 ≠ κe1) (hm : me1 ≤ me0) (hm9 : me0 < 1000) {c : Nat} (hc0 : c ≤ m0) (hc1 : c ≤ m1) (h09 : m0 < 1000) (h19 : m1 < 1000) : C_X10_lays l G w [.ref (G.2.1 κ0 jr0), .ref (G.2.1 κ1 jr1), .int (nI c)] (fun r w' => r = none ∧ (∀ i k, i < c → k < me1 → w'.1 κe1 i k = w.1 κe0 i k) ∧ Sm (fun κ _ _ => κ = κe1) w w') noX := by
  refine e_X10_lays hq0 hr0 he0 hx0 hqe0 hq1 hr1 he1 hx1 hqe1 hl (fun M kk hM hk F => ?_)
  generalize hK : (fun r w' => r = none ∧ (∀ i k, i < c → k < me1 → w'.1 κe1 i k = w.1 κe0 i k) ∧ Sm (fun κ _ _ => κ = κe1) w w' : Option Value → Wd → Prop) = K
  refine up_to (P := fun i => ∀ w', Sm (fun κ _ _ => κ = κe1) w w' → (∀ j k, j < i → k < me1 → w'.1 κe1 j k = w.1 κe0 j k) → Z M G 0 K noX w' 2 [some (.ref (G.2.1 κ0 jr0)), some (.ref (G.2.1 κ1 jr1)), some (.int (nI c)), some (.int (nI i)), none] []) c (fun i hi ih w' hs hz => ?_) (fun w' hs hz => ?_) w Sm.rf (fun j k hj => absurd hj (Nat.not_lt_zero _))
  · refine b_X10_lays_2 hq0 hr0 he0 hx0 hqe0 hq1 hr1 he1 hx1 hqe1 F hk ⟨fun hc => absurd hc (nI_ge hi (by omega)), fun _ => ?_⟩
    have v1 : vp_in (nI i) m1 := vp_in_nI (by omega) (by omega)
    have v0 : vp_in (nI i) m0 := vp_in_nI (by omega) (by omega)
    refine up_to (P := fun k => ∀ w', Sm (fun κ _ _ => κ = κe1) w w' → (∀ j q, j < i → q < me1 → w'.1 κe1 j q = w.1 κe0 j q) → (∀ q, q < k → w'.1 κe1 i q = w.1 κe0 i q) → Z M G 0 K noX w' 10 [some (.ref (G.2.1 κ0 jr0)), some (.ref (G.2.1 κ1 jr1)), some (.int (nI c)), some (.int (nI i)), some (.int (nI k))] []) me1 (fun k hk9 ih2 w' hs hz hy => ?_) (fun w' hs hz hy => ?_) w' hs hz (fun q hq => absurd hq (Nat.not_lt_zero _))
    · refine b_X10_lays_10 hq0 hr0 he0 hx0 hqe0 hq1 hr1 he1 hx1 hqe1 F hk ⟨v1, fun hc => absurd hc (nI_ge hk9 (by omega)), fun _ => ⟨v1, v0, vp_in_nI (by omega) (by omega), vp_in_nI hk9 (by omega), fun w4 hw4 => ?_⟩⟩
      rw [nI_clamp (n := i) (by omega), nI_clamp (n := k) (by omega), hs.1 κe0 i k hne] at hw4
      rw [← nI_succ]
      refine ih2 w4 (by rw [hw4]; exact hs.set rfl) (fun j q hj hq => ?_) (fun q hq => ?_)
      · rw [hw4, setI_ne (by omega)]
        exact hz j q hj hq
      · rw [hw4, setI_1]
        by_cases e : q = k
        · rw [if_pos ⟨rfl, rfl, e⟩, e]
        · rw [if_neg (fun z => e z.2.2)]
          exact hy q (by omega)
    · refine b_X10_lays_10 hq0 hr0 he0 hx0 hqe0 hq1 hr1 he1 hx1 hqe1 F hk ⟨v1, fun _ => ?_, fun hc => absurd (nI_le (Nat.le_refl me1) (by omega)) hc⟩
      rw [← nI_succ]
      refine ih w' hs (fun j q hj hq => ?_)
      by_cases e : j = i
      · rw [e]; exact hy q hq
      · exact hz j q (by omega) hq
  · refine b_X10_lays_2 hq0 hr0 he0 hx0 hqe0 hq1 hr1 he1 hx1 hqe1 F hk ⟨fun _ => ?_, fun hc => absurd (nI_le (Nat.le_refl _) (by omega)) hc⟩
    rw [← hK]
    exact ⟨rfl, hz, hs⟩
def GW1 (κ b k : Nat) : Prop := κ = 44 ∨ κ = 48 ∨ κ = 52 ∨ κ = 56 ∨ (κ = 69 ∧ b = 0) ∨ (κ = 40 ∧ (k = 19 ∨ k = 33 ∨ k = 34 ∨ k = 35 ∨ k = 36))
theorem m_beginsAnew (hl : l.stackTraces = false) (hT : Tok T) (hR : RollR w T) (hj : Jk (w.1 69 0)) : C_X10_beginsAnew l G w [.ref (G.2.1 40 0)] (fun r w' => r = none ∧ StM w' T E00 ∧ w'.1 69 0 = sg0 T ∧ w'.1 40 0 33 = 0 ∧ w'.1 40 0 34 = 0 ∧ w'.1 40 0 35 = 0 ∧ w'.1 40 0 36 = 0 ∧ Sm GW1 w w') noX := by
  have hS7 := hT.1
  have hN20 := hT.2.1
  have hL12 := hT.2.2.1
  refine e_X10_beginsAnew hl (fun M kk hM hk F => ?_)
  generalize hK : (fun r w' => r = none ∧ StM w' T E00 ∧ w'.1 69 0 = sg0 T ∧ w'.1 40 0 33 = 0 ∧ w'.1 40 0 34 = 0 ∧ w'.1 40 0 35 = 0 ∧ w'.1 40 0 36 = 0 ∧ Sm GW1 w w' : Option Value → Wd → Prop) = K
  subst hM
  refine up_to (P := fun i => ∀ w', Sm GW1 w w' → w'.1 69 0 = w.1 69 0 → (∀ k, k < i → w'.1 44 0 k = w.1 43 0 k) → Z M G 0 K noX w' 2 [some (.ref (G.2.1 40 0)), some (.int (nI i))] []) 4 (fun i hi ih w' hs h69 hz => ?_) (fun w' hs h69 hz => ?_) w Sm.rf rfl (fun k hk => absurd hk (Nat.not_lt_zero _))
  · have hvi : vp_in (nI i) 4 := vp_in_nI hi (by decide)
    refine b_X10_beginsAnew_2 F hk ⟨fun hc => absurd hc (nI_ge hi (by decide)), fun _ => ⟨hvi, hvi, fun w2 hw2 => ?_⟩⟩
    rw [nI_clamp (by omega), hs.1 43 0 i (by unfold GW1; omega)] at hw2
    rw [← nI_succ]
    refine ih w2 (by rw [hw2]; exact hs.set (by unfold GW1; omega)) (by rw [hw2, setI_row (by omega)]; exact h69) (fun k hk => ?_)
    rw [hw2, setI_1]
    by_cases e : k = i
    · rw [if_pos ⟨rfl, rfl, e⟩, e]
    · rw [if_neg (fun z => e z.2.2)]
      exact hz k (by omega)
  · refine b_X10_beginsAnew_2 F hk ⟨fun _ => ?_, fun hc => absurd (by decide) hc⟩
    have t0 : w'.1 44 0 0 = nI (tS T) := (hz 0 (by omega)).trans hR.1
    have t1 : w'.1 44 0 1 = nI (tN T) := (hz 1 (by omega)).trans hR.2.1
    have t2 : w'.1 44 0 2 = nI (tL T) := (hz 2 (by omega)).trans hR.2.2.1
    have t3 : w'.1 44 0 3 = tB T := (hz 3 (by omega)).trans hR.2.2.2.1
    rw [t0]
    refine con_vP (m_lays hl (κe0 := 46) (κe1 := 48) (m0 := 7) (m1 := 7) (me0 := 3) (me1 := 3) rfl (by decide) rfl (fun _ => rfl) rfl rfl (by decide) rfl (fun _ => rfl) rfl (by decide) (by decide) (by decide) hS7 hS7 (by decide) (by decide)) (fun w2 k2 => ?_)
    have o2 : ∀ κ x y, κ ≠ 48 → w2.1 κ x y = w'.1 κ x y := fun κ x y hκ => k2.2.1 κ x y hκ
    rw [o2 44 0 1 (by decide), t1]
    refine con_vP (m_lays hl (κe0 := 50) (κe1 := 52) (m0 := 20) (m1 := 20) (me0 := 2) (me1 := 2) rfl (by decide) rfl (fun _ => rfl) rfl rfl (by decide) rfl (fun _ => rfl) rfl (by decide) (by decide) (by decide) hN20 hN20 (by decide) (by decide)) (fun w4 k4 => ?_)
    have o4 : ∀ κ x y, κ ≠ 52 → w4.1 κ x y = w2.1 κ x y := fun κ x y hκ => k4.2.1 κ x y hκ
    rw [o4 44 0 2 (by decide), o2 44 0 2 (by decide), t2]
    refine con_vP (m_lays hl (κe0 := 54) (κe1 := 56) (m0 := 12) (m1 := 12) (me0 := 2) (me1 := 2) rfl (by decide) rfl (fun _ => rfl) rfl rfl (by decide) rfl (fun _ => rfl) rfl (by decide) (by decide) (by decide) hL12 hL12 (by decide) (by decide)) (fun w6 k6 => ?_)
    have o6 : ∀ κ x y, κ ≠ 56 → w6.1 κ x y = w4.1 κ x y := fun κ x y hκ => k6.2.1 κ x y hκ
    have s6 : Sm GW1 w w6 := ((hs.tr (k2.2.mono (fun κ b k q => by unfold GW1; omega))).tr (k4.2.mono (fun κ b k q => by unfold GW1; omega))).tr (k6.2.mono (fun κ b k q => by unfold GW1; omega))
    have R6 : RollM w6 T := by
      obtain ⟨r1, r2, r3, r4, r5, r6, r7⟩ := hR
      refine ⟨?_, ?_, ?_, ?_, fun i hi => ?_, fun i hi => ?_, fun i hi => ?_⟩
      · rw [o6 _ _ _ (by decide), o4 _ _ _ (by decide), o2 _ _ _ (by decide)]; exact t0
      · rw [o6 _ _ _ (by decide), o4 _ _ _ (by decide), o2 _ _ _ (by decide)]; exact t1
      · rw [o6 _ _ _ (by decide), o4 _ _ _ (by decide), o2 _ _ _ (by decide)]; exact t2
      · rw [o6 _ _ _ (by decide), o4 _ _ _ (by decide), o2 _ _ _ (by decide)]; exact t3
      · rw [o6 _ _ _ (by decide), o6 _ _ _ (by decide), o6 _ _ _ (by decide), o4 _ _ _ (by decide), o4 _ _ _ (by decide), o4 _ _ _ (by decide), k2.1 i 0 hi (by decide), k2.1 i 1 hi (by decide), k2.1 i 2 hi (by decide), hs.1 46 i 0 (by unfold GW1; omega), hs.1 46 i 1 (by unfold GW1; omega), hs.1 46 i 2 (by unfold GW1; omega)]
        exact r5 i hi
      · rw [o6 _ _ _ (by decide), o6 _ _ _ (by decide), k4.1 i 0 hi (by decide), k4.1 i 1 hi (by decide), o2 _ _ _ (by decide), o2 _ _ _ (by decide), hs.1 50 i 0 (by unfold GW1; omega), hs.1 50 i 1 (by unfold GW1; omega)]
        exact r6 i hi
      · rw [k6.1 i 0 hi (by decide), k6.1 i 1 hi (by decide), o4 _ _ _ (by decide), o4 _ _ _ (by decide), o2 _ _ _ (by decide), o2 _ _ _ (by decide), hs.1 54 i 0 (by unfold GW1; omega), hs.1 54 i 1 (by unfold GW1; omega)]
        exact r7 i hi
    have j6 : Jk (w6.1 69 0) := fun q hq => by
      rw [o6 _ _ _ (by decide), o4 _ _ _ (by decide), o2 _ _ _ (by decide), h69]
      exact hj q hq
    refine up_to (P := fun i => ∀ w', Sm GW1 w w' → RollM w' T → Jk (w'.1 69 0) → (∀ k, k < i → w'.1 69 0 k = 0) → Z M G 0 K noX w' 78 [some (.ref (G.2.1 40 0)), some (.int (nI i))] []) 57 (fun i hi ih w' hs hRm hj hz => ?_) (fun w' hs hRm hj hz => ?_) w6 s6 R6 j6 (fun k hk => absurd hk (Nat.not_lt_zero _))
    · refine b_X10_beginsAnew_78 F hk ⟨fun hc => absurd hc (nI_ge hi (by decide)), fun _ => ⟨vp_in_nI hi (by decide), fun w3 hw3 => ?_⟩⟩
      rw [nI_clamp (by omega)] at hw3
      rw [← nI_succ]
      refine ih w3 (by rw [hw3]; exact hs.set (by unfold GW1; omega)) (hRm.mv (S := fun κ _ _ => κ = 69) (by rw [hw3]; exact Sm.rf.set rfl) (fun κ b k q z => by omega)) (fun q hq => ?_) (fun k hk => ?_)
      · rw [hw3, setI_ne (by omega)]
        exact hj q hq
      · rw [hw3, setI_1]
        by_cases e : k = i
        · rw [if_pos ⟨rfl, rfl, e⟩]
        · rw [if_neg (fun z => e z.2.2)]
          exact hz k (by omega)
    · have e69 : w'.1 69 0 = fun _ => 0 := by
        funext q
        by_cases hq : q < 57
        · exact hz q hq
        · exact hj q (by omega)
      refine b_X10_beginsAnew_78 F hk ⟨fun _ => ?_, fun hc => absurd (by decide) hc⟩
      refine con_vP (m_breathes hl (j := 0) (by decide) hT hRm e69) (fun w8 k8 => ?_)
      have s8 : Sm GW1 w w8 := hs.tr (k8.2.mono (fun κ b k q => by unfold NR at q; unfold GW1; omega))
      have R8 : RollM w8 T := hRm.mv k8.2 (fun κ b k q => by unfold NR; omega)
      refine up_to (P := fun i => ∀ w', Sm GW1 w w' → RollM w' T → w'.1 69 0 = vwK T i → Z M G 0 K noX w' 107 [some (.ref (G.2.1 40 0)), some (.int (nI i))] []) (tN T) (fun i hi ih w' hs hRm hv => ?_) (fun w' hs hRm hv => ?_) w8 s8 R8 ?_
      · refine b_X10_beginsAnew_107 F hk ?_
        rw [hRm.2.1]
        refine ⟨fun hc => absurd hc (nI_ge hi (by omega)), fun _ => ⟨vp_in_nI (by omega) (by decide), (ix35 i (by omega)).1, fun w9 hw9 => ?_⟩⟩
        rw [(ix35 i (by omega)).2, nI_clamp (by omega), (hRm.2.2.2.2.2.1 i hi).1] at hw9
        rw [← nI_succ]
        refine ih w9 (by rw [hw9]; exact hs.set (by unfold GW1; omega)) (hRm.mv (S := fun κ _ _ => κ = 69) (by rw [hw9]; exact Sm.rf.set rfl) (fun κ b k q z => by omega)) ?_
        rw [hw9, ← vwK_1]
        exact setI_69 hv
      · refine b_X10_beginsAnew_107 F hk ?_
        rw [hRm.2.1]
        refine ⟨fun _ => ?_, fun hc => absurd (nI_le (Nat.le_refl _) (by omega)) hc⟩
        intro x1 hx1 x2 hx2 x3 hx3 x4 hx4 x5 hx5
        have s9 : Sm (fun κ _ _ => κ = 40) w' x5 := by
          rw [hx5, hx4, hx3, hx2, hx1]
          exact ((((Sm.rf.set rfl).set rfl).set rfl).set rfl).set rfl
        have s10 : Sm GW1 w x5 := by
          rw [hx5, hx4, hx3, hx2, hx1]
          exact ((((hs.set (by unfold GW1; omega)).set (by unfold GW1; omega)).set (by unfold GW1; omega)).set (by unfold GW1; omega)).set (by unfold GW1; omega)
        rw [← hK]
        refine ⟨rfl, ⟨hRm.mv s9 (fun κ b k q z => by omega), 0, by decide, ?_, fun k hk => absurd hk (Nat.not_lt_zero _), fun z => absurd z (Nat.lt_irrefl _), fun f => rfl⟩, ?_, ?_, ?_, ?_, ?_, s10⟩
        · simp [hx5, hx4, hx3, hx2, hx1, setI_1]; rfl
        · rw [s9.row (fun k z => by omega), hv]
          exact vwK_N hT
        · simp [hx5, hx4, hx3, hx2, hx1, setI_1]
        · simp [hx5, hx4, hx3, hx2, hx1, setI_1]
        · simp [hx5, hx4, hx3, hx2, hx1, setI_1]
        · simp [hx5, hx4, hx3, hx2, hx1, setI_1]
      · rw [k8.1]
        funext q
        unfold vwK
        rw [if_neg (by omega)]
def GQS (κ b k : Nat) : Prop := GQ κ b k ∨ GS κ b k ∨ (κ = 40 ∧ (k = 0 ∨ k = 3))
theorem chL_end {f k : Nat} {s : Rd} (hf : 0 < f) (h : s.1 = 0 → n ≤ sk b n s.2) : chL b n f k T s = (pkS b n s, T) := by
  cases f with
  | zero => exact absurd hf (Nat.lt_irrefl _)
  | succ f =>
    rw [chL, if_neg]
    rintro ⟨h1, h2⟩
    have := h h1
    omega
theorem bad_T {sz : Nat} (hz : sz ≤ 600) : (!(decide ((0 : Int32) ≤ p0) && decide (p0 ≤ nI sz))) = !okT p0 600 sz := by
  unfold okT okB
  congr 1
  by_cases h1 : (0 : Int32) ≤ p0
  · by_cases h2 : p0 ≤ nI sz
    · have h3 : p0 ≤ nI 600 := Int32.le_trans h2 (nI_le hz (by decide))
      rw [decide_eq_true h1, decide_eq_true h2, decide_eq_true h3]
      rfl
    · rw [decide_eq_false h2, Bool.and_false, Bool.and_false]
  · rw [decide_eq_false h1, Bool.false_and, Bool.false_and, Bool.false_and]
theorem m_choirX (hl : l.stackTraces = false) (h1 : w.1 40 0 1 = nI sz) (hz : sz ≤ 600) (hx : okT p0 600 sz = false) : C_X10_choir l G w [.ref (G.2.1 40 0), .int p0] (fun r w' => (∃ v : Int32, r = some (.int v)) ∧ w' = bpM (cl0 w) 1 1) noX := by
  refine e_X10_choir hl (fun M kk hM hk F => ?_)
  subst hM
  rintro _ rfl
  have e1 : (setI w 40 0 0 0).1 40 0 1 = nI sz := (setI_ne (by omega)).trans h1
  rw [e1]
  refine con_i (m_in hl) ?_
  have go : Z M G 0 (fun r w' => (∃ v : Int32, r = some (Value.int v)) ∧ w' = bpM (cl0 w) 1 1) noX (setI w 40 0 0 0) 23 [some (.ref (G.2.1 40 0)), some (.int p0)] [.int (bI true), .ref (G.2.1 40 0)] := by
    refine b_X10_choir_23 F hk (con_bad hl (b := true) (rs := 1) (setI_eq _ _ _ _ _) (by decide) (by decide) (fun h => absurd h (by decide)) (fun _ => ⟨fun h => absurd h (by decide), fun _ => ⟨⟨0, rfl⟩, rfl⟩⟩))
  have hb := bad_T (p0 := p0) hz
  rw [hx] at hb
  have hb : (decide ((0 : Int32) ≤ p0) && decide (p0 ≤ nI sz)) = false := by
    cases hq : (decide ((0 : Int32) ≤ p0) && decide (p0 ≤ nI sz)) with
    | false => rfl
    | true => rw [hq] at hb; exact absurd hb (by decide)
  rw [hb]
  exact ⟨fun h => absurd rfl h, fun _ => go⟩
theorem m_choir (hl : l.stackTraces = false) (h1 : w.1 40 0 1 = nI sz) (hz : sz ≤ 600) (h2 : n ≤ sz) (hb : ∀ i, i < n → b i < 256) (h41 : ∀ i, i < n → w.1 41 0 i = nI (b i)) (hj : Jk (w.1 69 0)) :
    C_X10_choir l G w [.ref (G.2.1 40 0), .int (nI n)] (fun r w' => w'.1 40 0 0 = 0 ∧ w'.1 40 0 1 = 0 ∧
      ((chF b n).1.1 ≠ 0 → r = some (.int (nI (chF b n).1.1 - 10)) ∧ w'.1 40 0 3 = nI (chF b n).1.2 ∧ Sm GQS w w') ∧
      ((chF b n).1.1 = 0 → r = some (.int (nI (tS (chF b n).2))) ∧ w'.1 40 0 3 = -1 ∧ StM w' (chF b n).2 E00 ∧ w'.1 69 0 = sg0 (chF b n).2 ∧ w'.1 40 0 33 = 0 ∧ w'.1 40 0 34 = 0 ∧ w'.1 40 0 35 = 0 ∧ w'.1 40 0 36 = 0 ∧ Sm (fun κ b k => GQS κ b k ∨ GW1 κ b k) w w')) noX := by
  refine e_X10_choir hl (fun M kk hM hk F => ?_)
  generalize hK : (fun r w' => w'.1 40 0 0 = 0 ∧ w'.1 40 0 1 = 0 ∧
      ((chF b n).1.1 ≠ 0 → r = some (Value.int (nI (chF b n).1.1 - 10)) ∧ w'.1 40 0 3 = nI (chF b n).1.2 ∧ Sm GQS w w') ∧
      ((chF b n).1.1 = 0 → r = some (Value.int (nI (tS (chF b n).2))) ∧ w'.1 40 0 3 = -1 ∧ StM w' (chF b n).2 E00 ∧ w'.1 69 0 = sg0 (chF b n).2 ∧ w'.1 40 0 33 = 0 ∧ w'.1 40 0 34 = 0 ∧ w'.1 40 0 35 = 0 ∧ w'.1 40 0 36 = 0 ∧ Sm (fun κ b k => GQS κ b k ∨ GW1 κ b k) w w') : Option Value → Wd → Prop) = K
  subst hM
  rintro w0 rfl
  have e1 : (setI w 40 0 0 0).1 40 0 1 = nI sz := (setI_ne (by omega)).trans h1
  rw [e1]
  refine con_i (m_in hl) ?_
  have eb : (decide ((0 : Int32) ≤ nI n) && decide (nI n ≤ nI sz)) = true := by
    rw [decide_eq_true (nI_pos' (by omega)), decide_eq_true (nI_le h2 (by omega))]; rfl
  rw [eb]
  refine ⟨fun _ => ?_, fun h => absurd (Classical.not_not.mp h) (by decide)⟩
  have hs0 : Sm GQS w (setI w 40 0 0 0) := Sm.rf.set (by unfold GQS; omega)
  have z0 : (setI w 40 0 0 0).1 40 0 0 = 0 := setI_eq _ _ _ _ _
  refine b_X10_choir_23 F hk (con_bad hl (b := false) (rs := 1) z0 (by decide) (by decide) (fun _ => ⟨fun _ => ?_, fun h => absurd rfl h⟩) (fun h => absurd h (by decide)))
  refine con_vP (m_starts hl (by omega) hb (fun i hi => (setI_ne (by omega)).trans (h41 i hi))) (fun w4 k4 => ?_)
  obtain ⟨k41, k42, k43, k44, k45⟩ := k4
  have hs4 : Sm GQS w w4 := hs0.tr (k45.mono (fun κ b k q => Or.inr (Or.inl q)))
  refine con_vP (m_tellsNothing hl) (fun w6 k6 => ?_)
  have hs6 : Sm GQS w w6 := hs4.tr (k6.2.mono (fun κ b k q => by unfold GQS GQ; omega))
  have R6 : RM w6 b n (0, sk b n 0) := k41.mv k6.2 (fun k q z => by omega) (fun k z => by omega)
  have o6 : ∀ κ x y, κ ≠ 43 → w6.1 κ x y = w4.1 κ x y := fun κ x y hκ => k6.2.1 κ x y hκ
  have key : ∀ f k (T : Tx) (s : Rd) (w' : Wd), f + k = 62 → (s.1 = 0 → k ≤ 60) → (s.1 = 0 → Tok T) → (s.1 = 0 → sk b n s.2 = s.2) → chL b n f k T s = chF b n → RM w' b n s → (s.1 = 0 → RollR w' T ∧ w'.1 40 0 7 = nI k) → w'.1 40 0 0 = 0 → w'.1 40 0 1 = 0 → Sm GQS w w' → Z M G 0 K noX w' 42 [some (.ref (G.2.1 40 0)), none] [] := by
    intro f
    induction f with
    | zero =>
      intro k T s w' hfk hk60 hTk hsk hch hRm hro g0 g1 hs
      have hne : s.1 ≠ 0 := fun z => by have := hk60 z; omega
      refine b_X10_choir_42 F hk ?_
      rw [hRm.zero]
      refine ⟨fun _ => b_X10_choir_71 F hk ?_, fun z => absurd hne z⟩
      rw [hRm.zero]
      refine ⟨fun z => absurd z hne, fun _ => ?_⟩
      refine con_i (m_ends hl hRm hne) ?_
      have hch : (s, T) = chF b n := hch
      rw [← hK, ← hch]
      refine ⟨?_, ?_, fun _ => ⟨rfl, setI_eq _ _ _ _ _, hs.set (by unfold GQS; omega)⟩, fun z => absurd z hne⟩
      · rw [setI_ne (by omega)]; exact g0
      · rw [setI_ne (by omega)]; exact g1
    | succ f ih =>
      intro k T s w' hfk hk60 hTk hsk hch hRm hro g0 g1 hs
      by_cases hne : s.1 ≠ 0
      · refine b_X10_choir_42 F hk ?_
        rw [hRm.zero]
        refine ⟨fun _ => b_X10_choir_71 F hk ?_, fun z => absurd hne z⟩
        rw [hRm.zero]
        refine ⟨fun z => absurd z hne, fun _ => ?_⟩
        refine con_i (m_ends hl hRm hne) ?_
        rw [chL_x hne] at hch
        rw [← hK, ← hch]
        refine ⟨?_, ?_, fun _ => ⟨rfl, setI_eq _ _ _ _ _, hs.set (by unfold GQS; omega)⟩, fun z => absurd z hne⟩
        · rw [setI_ne (by omega)]; exact g0
        · rw [setI_ne (by omega)]; exact g1
      · have h0 : s.1 = 0 := Classical.not_not.mp hne
        have es : s = (0, s.2) := by rw [← h0]
        have hsk0 := hsk h0
        have hle := hRm.2.2.2.2.1.2
        have g4 : w'.1 40 0 4 = nI s.2 := (hRm.2.2.2.2.2.2.1 h0).2
        refine b_X10_choir_42 F hk ?_
        rw [hRm.zero, hRm.2.2.1, g4, nI_leI (by omega) (by omega)]
        refine ⟨fun z => absurd h0 z, fun _ => ⟨fun hc => b_X10_choir_71 F hk ?_, fun hc => ?_⟩⟩
        · rw [hRm.zero]
          refine ⟨fun _ w1 hw1 => ?_, fun z => absurd h0 z⟩
          rw [chL, if_neg (by omega), es, pkS_0 hsk0] at hch
          have hch : ((0, s.2), T) = chF b n := hch
          have R1 : RollR w1 T := (hro h0).1.cg (fun κ x y q => by rw [hw1, setI_ne (by omega)])
          have s1 : Sm (fun κ b k => GQS κ b k ∨ GW1 κ b k) w w1 := by rw [hw1]; exact (hs.mono (fun κ b k q => Or.inl q)).set (by unfold GQS; omega)
          have j1 : Jk (w1.1 69 0) := fun q hq => by
            rw [hw1, setI_ne (by omega), hs.1 69 0 q (by unfold GQS GQ GS; omega)]
            exact hj q hq
          refine con_vP (m_beginsAnew hl (hTk h0) R1 j1) (fun w3 k3 => ?_)
          obtain ⟨z1, z2, z3, z4, z5, z6, z7⟩ := k3
          rw [← hK, ← hch]
          refine ⟨?_, ?_, fun z => absurd rfl z, fun _ => ⟨by rw [z1.1.1], ?_, z1, z2, z3, z4, z5, z6, s1.tr (z7.mono (fun κ b k q => Or.inr q))⟩⟩
          · rw [z7.1 40 0 0 (by unfold GW1; omega), hw1, setI_ne (by omega)]; exact g0
          · rw [z7.1 40 0 1 (by unfold GW1; omega), hw1, setI_ne (by omega)]; exact g1
          · rw [z7.1 40 0 3 (by unfold GW1; omega), hw1, setI_eq]
        · rw [chL, if_pos ⟨h0, by omega⟩, hsk0] at hch
          rw [es] at hRm
          refine con_vP (m_clause hl hRm hsk0 (hk60 h0) (hro h0).2 (hTk h0) (hro h0).1) (fun w2 k2 => ?_)
          obtain ⟨z1, z2, z3⟩ := k2
          refine con_vP (m_blanks hl z1) (fun w5 k5 => ?_)
          have s5 : Sm GQS w w5 := (hs.tr (z3.mono (fun κ b k q => Or.inl q))).tr (k5.2.mono (fun κ b k q => Or.inl (GR4_GQ κ b k q)))
          have o5 : ∀ y, (y = 0 ∨ y = 1) → w5.1 40 0 y = w'.1 40 0 y := fun y hy => by
            rw [k5.2.1 40 0 y (by unfold GR4; omega), z3.1 40 0 y (by unfold GQ; omega)]
          generalize hcl : clF b n (decide (k < 60)) T s.2 = c at *
          have epk : chL b n f (k + 1) c.2 (pkS b n c.1) = chL b n f (k + 1) c.2 c.1 := by
            by_cases hc0 : c.1.1 ≠ 0
            · rw [pkS_x hc0]
            · have e0 : pkS b n c.1 = (0, sk b n c.1.2) := by rw [pkS, if_neg hc0]
              cases f with
              | zero =>
                exfalso
                have : k < 60 := by
                  rw [← hcl] at hc0
                  exact clF_lt (Classical.not_not.mp hc0)
                omega
              | succ f =>
                rw [chL, chL, e0]
                show (if (0 : Nat) = 0 ∧ sk b n (sk b n c.1.2) < n then _ else (pkS b n (0, sk b n c.1.2), c.2)) = _
                rw [sk_idem, pkS_0 (sk_idem b n _), Classical.not_not.mp hc0]
          rw [← epk] at hch
          refine ih (k + 1) c.2 (pkS b n c.1) w5 (by omega) (fun z => ?_) (fun z => ?_) (fun z => ?_) hch k5.1 (fun z => ?_) ((o5 0 (by decide)).trans g0) ((o5 1 (by decide)).trans g1) s5
          all_goals
            have hz0 : c.1.1 = 0 := by
              by_cases q : c.1.1 = 0
              · exact q
              · rw [pkS_x q] at z; exact z
          · rw [← hcl] at hz0
            have := clF_lt hz0
            omega
          · rw [← hcl] at hz0 ⊢
            exact clF_tok (hTk h0) hz0
          · rw [pkS, if_neg (fun q => q hz0)]
            exact sk_idem b n _
          · obtain ⟨y1, y2⟩ := z2 hz0
            exact ⟨y1.cg (fun κ x y q => k5.2.oth40 (fun _ _ _ q => q.1) (by omega)), (k5.2.1 40 0 7 (by unfold GR4; omega)).trans y2⟩
  have ech : chL b n 62 0 T00 (0, sk b n 0) = chF b n := by
    unfold chF
    rw [chL, chL]
    show (if (0 : Nat) = 0 ∧ sk b n (sk b n 0) < n then _ else (pkS b n (0, sk b n 0), T00)) = (if (0 : Nat) = 0 ∧ sk b n 0 < n then _ else (pkS b n (0, 0), T00))
    rw [sk_idem, pkS_0 (sk_idem b n 0)]
    rfl
  refine key 62 0 T00 (0, sk b n 0) w6 rfl (fun _ => by decide) (fun _ => Tok00) (fun _ => sk_idem b n 0) ech R6 (fun _ => ⟨k6.1, ?_⟩) ?_ ?_ hs6
  · rw [o6 _ _ _ (by decide)]; exact k43
  · rw [o6 _ _ _ (by decide), k45.1 40 0 0 (by unfold GS; omega)]; exact z0
  · rw [o6 _ _ _ (by decide)]; exact k42
end YF
