/-! The reference: bench and benched. -/
section RK
variable {l : Launch} {G : Gx} {w : Wd} {T : Tx} {E : Ex} {σ : Sg}
theorem m_laysBench (hl : l.stackTraces = false) (h : RQ w T E σ) : C_X10_laysBench l G w [.ref (G.2.1 40 0)] (fun r w' => r = none ∧ w'.1 40 0 43 = nI (Mb (tS T) (gT T σ) 0 none) ∧ (∀ j, j < tS T → w'.1 74 0 j = oI (stB (tS T) (gT T σ) (j + 1)).2) ∧ Sm GB w w') noX := by
  refine e_X10_laysBench hl (fun M kk hM hk F => ?_)
  subst hM
  intro w1 hw1
  have hs1 : Sm GB w w1 := by rw [hw1]; exact Sm.rf.set (by unfold GB; omega)
  have e43 : w1.1 40 0 43 = oI none := by rw [hw1]; exact setI_eq _ _ _ _ _
  have hp0 : popN 0 (tS T) = 0 := popN_0 _
  refine con_vP (m_benches hl h.1 (tS T) 0 0 none 0 none w1 (by omega) (h.gb hs1) (Nat.two_pow_pos _) hp0 (Nat.zero_le _) e43 (fun x hx => by cases hx) (fun _ => rfl) (fun hz => absurd hz (Nat.lt_irrefl _))) (fun w2 h2 => ?_)
  obtain ⟨p1, p2, p3⟩ := h2
  rcases p3 with ⟨b1, b2, b3, b4⟩ | ⟨b1, b2, b3⟩
  · refine ⟨rfl, by rw [b2, Nat.zero_add], fun j hj => ?_, hs1.tr p1⟩
    have := b4 j (by omega)
    rw [Nat.zero_add, cpB_st] at this
    exact this
  · exact absurd trivial b1
theorem m_bench (hl : l.stackTraces = false) (h : RQ w T E σ) : C_X10_bench l G w [.ref (G.2.1 40 0)] (KM w true 1 1 (nI (Mb (tS T) (gT T σ) 0 none))) noX := by
  refine e_X10_bench hl (fun M kk hM hk F => ?_)
  subst hM
  rintro _ rfl
  refine con_vP (m_laysBench hl h.cl) (fun w2 h2 => ?_)
  rw [h2.1]
  refine km_ok rfl ?_ (cl0_sm.tr (h2.2.2.mono GB_GM)) ?_
  · exact (h2.2.2.1 40 0 0 (by unfold GB; omega)).trans cl0_0
  · rw [h2.2.2.row (fun k => by unfold GB; omega)]
    show Jk ((cl0 w).1 69 1)
    rw [cl0_69]
    exact h.2.2.2.2.2
theorem m_benched (hl : l.stackTraces = false) {v : Int32} (h : RQ w T E σ) : C_X10_benched l G w [.ref (G.2.1 40 0), .int v] (KM w (decide (0 ≤ v)) 1 1 (if v < nI (tS T) then oI (stB (tS T) (gT T σ) (v.toNatClampNeg + 1)).2 else -1)) noX := by
  have hS := h.1.1
  refine e_X10_benched hl (fun M kk hM hk F => ?_)
  subst hM
  rintro _ rfl
  have f15 : ∀ b : Bool, decide (0 ≤ v) = !b → Z M G 0 (KM w (decide (0 ≤ v)) 1 1 (if v < nI (tS T) then oI (stB (tS T) (gT T σ) (v.toNatClampNeg + 1)).2 else -1)) noX (cl0 w) 15 [some (.ref (G.2.1 40 0)), some (.int v)] [.int (bI b), .ref (G.2.1 40 0)] := by
    intro b hb
    refine b_X10_benched_15 F hk (con_q hl (rs := 1) (by decide) (by decide) hb (fun hok => ?_))
    refine con_vP (m_laysBench hl h.cl) (fun w2 h2 => ?_)
    have q2 := h.cl.gb h2.2.2
    have fin : ∀ x, x = (if v < nI (tS T) then oI (stB (tS T) (gT T σ) (v.toNatClampNeg + 1)).2 else -1) → KM w (decide (0 ≤ v)) 1 1 (if v < nI (tS T) then oI (stB (tS T) (gT T σ) (v.toNatClampNeg + 1)).2 else -1) (some (.int x)) w2 := by
      intro x hx
      rw [← hx]
      refine km_ok hok ?_ (cl0_sm.tr (h2.2.2.mono GB_GM)) ?_
      · exact (h2.2.2.1 40 0 0 (by unfold GB; omega)).trans cl0_0
      · rw [h2.2.2.row (fun k => by unfold GB; omega), cl0_69]
        exact h.2.2.2.2.2
    obtain ⟨p, hp, rfl⟩ := nI_of (Int32.not_lt.mpr (of_decide_eq_true hok))
    rw [q2.2.1.1.1]
    refine ⟨fun hle => fin _ ?_, fun hnle => ?_⟩
    · rw [if_neg (Int32.not_lt.mpr hle)]
    · have hlt := Int32.not_le.mp hnle
      have hpS := (nI_ltI hp (show tS T < 2 ^ 31 by omega)).mp hlt
      refine ⟨vp_in_nI (by omega) (by decide), fin _ ?_⟩
      rw [if_pos hlt, nI_clamp hp, h2.2.1 p hpS]
  exact ⟨fun hc => f15 false (decide_eq_true hc), fun hc => f15 true (decide_eq_false hc)⟩
end RK
