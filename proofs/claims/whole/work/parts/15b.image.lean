/-! Images: the class's; the reference's undo, one put. -/
section IA
variable {l : Launch} {G : Gx} {w : Wd} {σ τ : Sg} {bf : List Sg} {N n : Nat}
theorem c_image3 (hl : l.stackTraces = false) (h : w.1 0 0 12 = nI 3) : C_X9_image l G w [.ref (G.2.1 0 0)] (fun r w' => r = some (.int (-1)) ∧ w' = w) noX := by
  refine e_X9_image hl (fun M kk hM hk F => ?_)
  rw [h]
  exact ⟨fun hc => absurd hc (by decide), fun _ => ⟨rfl, rfl⟩⟩
theorem c_image (hl : l.stackTraces = false) (hN : N ≤ 20) (hn : n < 3) (h12 : w.1 0 0 12 = nI n) (h : LifeC w 0 σ bf N) : C_X9_image l G w [.ref (G.2.1 0 0)] (fun r w' => r = some (.int (nI (n + 1))) ∧ w'.1 0 0 12 = nI (n + 1) ∧ LifeC w' (1 + n) σ bf N ∧ Sm (fun κ b k => GL (1 + n) κ b k ∨ (κ = 0 ∧ b = 0 ∧ k = 12)) w w') noX := by
  refine e_X9_image hl (fun M kk hM hk F => ?_)
  subst hM
  rw [h12, nI_clamp (by omega)]
  refine ⟨fun _ => ⟨vp_in_nI hn (by decide), con_vP (c_lifeBecome hl (i := 1 + n) (j := 0) (by omega) (by omega) (by omega) hN h) (fun w3 k3 => ?_)⟩, fun hc => absurd (nI_lt hn (by decide)) hc⟩
  intro w4 hw4
  rw [(k3.2.1 0 0 12 (by unfold GL; omega)).trans h12, ← nI_succ] at hw4
  have e12 : w4.1 0 0 12 = nI (n + 1) := by rw [hw4]; exact setI_eq _ _ _ _ _
  have hs4 : Sm (fun κ b k => κ = 0 ∧ b = 0 ∧ k = 12) w3 w4 := by rw [hw4]; exact Sm.rf.set ⟨rfl, rfl, rfl⟩
  exact ⟨by rw [e12], e12, k3.1.mv hs4 (fun k => by omega) (fun κ b k q1 q2 q3 => by omega), (k3.2.mono (fun κ b k q => Or.inl q)).tr (hs4.mono (fun κ b k q => Or.inr q))⟩
theorem c_restore0 (hl : l.stackTraces = false) (h : w.1 0 0 12 = nI 0) : C_X9_restore l G w [.ref (G.2.1 0 0)] (fun r w' => r = some (.int (-1)) ∧ w' = w) noX := by
  refine e_X9_restore hl (fun M kk hM hk F => ?_)
  rw [h]
  exact ⟨fun hc => absurd hc (by decide), fun _ => ⟨rfl, rfl⟩⟩
theorem c_restore (hl : l.stackTraces = false) (hN : N ≤ 20) (hn : n < 3) (h12 : w.1 0 0 12 = nI (n + 1)) (h : LifeC w (1 + n) σ bf N) : C_X9_restore l G w [.ref (G.2.1 0 0)] (fun r w' => r = some (.int (nI n)) ∧ w'.1 0 0 12 = nI n ∧ w'.1 0 0 13 = 0 ∧ LifeC w' 0 σ bf N ∧ Sm GU w w') noX := by
  refine e_X9_restore hl (fun M kk hM hk F => ?_)
  subst hM
  rw [h12, nI_pred]
  refine ⟨fun _ w1 hw1 => ?_, fun hc => absurd (nI_lt (show 0 < n + 1 by omega) (by omega)) hc⟩
  have e1 : w1.1 0 0 12 = nI n := by rw [hw1]; exact setI_eq _ _ _ _ _
  have hs1 : Sm (fun κ b k => κ = 0 ∧ b = 0 ∧ (k = 12 ∨ k = 13)) w w1 := by rw [hw1]; exact Sm.rf.set ⟨rfl, rfl, Or.inl rfl⟩
  have h1 := h.mv hs1 (fun k => by omega) (fun κ b k q1 q2 q3 => by omega)
  rw [e1, nI_clamp (by omega)]
  refine ⟨vp_in_nI hn (by decide), con_vP (c_lifeBecome hl (i := 0) (j := 1 + n) (by omega) (by omega) (by omega) hN h1) (fun w4 k4 => ?_)⟩
  intro w5 hw5
  have hs5 : Sm (fun κ b k => κ = 0 ∧ b = 0 ∧ (k = 12 ∨ k = 13)) w4 w5 := by rw [hw5]; exact Sm.rf.set ⟨rfl, rfl, Or.inr rfl⟩
  have e5 : w5.1 0 0 12 = nI n := by rw [hw5, setI_ne (by omega)]; exact (k4.2.1 0 0 12 (by unfold GL; omega)).trans e1
  refine ⟨by rw [e5], e5, by rw [hw5]; exact setI_eq _ _ _ _ _, k4.1.mv hs5 (fun k => by omega) (fun κ b k q1 q2 q3 => by omega), ?_⟩
  exact ((hs1.mono (fun κ b k q => Or.inr q)).tr (k4.2.mono (fun κ b k q => Or.inl q))).tr (hs5.mono (fun κ b k q => Or.inr q))
/-- how the reference holds works -/
def LifeM (w : Wd) (σ : Sg) (bf : List Sg) : Prop := w.1 40 0 34 = nI bf.length ∧ bf.length ≤ 16 ∧ w.1 69 0 = σ ∧ ∀ (i : Nat) (τ : Sg), bf[i]? = some τ → w.1 69 (2 + i) = τ
theorem m_undo0 (hl : l.stackTraces = false) (h : LifeM w σ []) : C_X10_undo l G w [.ref (G.2.1 40 0)] (fun r w' => r = some (.int (-1)) ∧ w' = cl0 w) noX := by
  refine e_X10_undo hl (fun M kk hM hk F => ?_)
  rintro _ rfl
  have e : (setI w 40 0 0 0).1 40 0 34 = nI 0 := (setI_ne (by omega)).trans h.1
  rw [e]
  exact ⟨fun hc => absurd rfl hc, fun _ => ⟨rfl, rfl⟩⟩
theorem m_undo1 (hl : l.stackTraces = false) (h : LifeM w σ (bf ++ [τ])) (hj : Jk σ) (hjt : Jk τ) : C_X10_undo l G w [.ref (G.2.1 40 0)] (fun r w' => r = some (.int (nI bf.length)) ∧ LifeM w' τ bf ∧ w'.1 40 0 35 = 0 ∧ w'.1 40 0 0 = 0 ∧ Sm (fun κ b k => (κ = 69 ∧ b = 0) ∨ (κ = 40 ∧ (k = 0 ∨ k = 34 ∨ k = 35))) w w') noX := by
  obtain ⟨h1, h2, h3, h5⟩ := h
  rw [List.length_append] at h1 h2
  have h1 : w.1 40 0 34 = nI (bf.length + 1) := h1
  have h2 : bf.length + 1 ≤ 16 := h2
  have hτ : w.1 69 (2 + bf.length) = τ := h5 bf.length τ (by rw [List.getElem?_append_right (Nat.le_refl _), Nat.sub_self]; rfl)
  refine e_X10_undo hl (fun M kk hM hk F => ?_)
  subst hM
  rintro _ rfl
  have e : (setI w 40 0 0 0).1 40 0 34 = nI (bf.length + 1) := (setI_ne (by omega)).trans h1
  rw [e, nI_pred]
  refine ⟨fun _ w2 hw2 => ?_, fun hc => absurd (Classical.not_not.mp hc) (nI_ne0 (by omega) (by omega))⟩
  have e2 : w2.1 40 0 34 = nI bf.length := by rw [hw2]; exact setI_eq _ _ _ _ _
  have hs2 : Sm (fun κ b k => (κ = 69 ∧ b = 0) ∨ (κ = 40 ∧ (k = 0 ∨ k = 34 ∨ k = 35))) w w2 := by
    rw [hw2]
    exact (Sm.rf.set (by omega)).set (by omega)
  rw [e2, nI_clamp (by omega)]
  refine ⟨vp_in_nI (by omega) (by decide), ?_⟩
  refine con_mono (m_copies hl (i := 2 + bf.length) (j := 0) (by omega) (by decide) (by omega)) ?_ (fun _ _ q => q.elim)
  rintro r w5 ⟨p0, p1, p2, p3⟩
  refine ⟨p0, fun w6 hw6 => ?_⟩
  have hs5 := hs2.tr (p3.mono (S' := fun κ b k => (κ = 69 ∧ b = 0) ∨ (κ = 40 ∧ (k = 0 ∨ k = 34 ∨ k = 35))) (fun κ b k q => Or.inl q))
  have hs6 : Sm (fun κ b k => (κ = 69 ∧ b = 0) ∨ (κ = 40 ∧ (k = 0 ∨ k = 34 ∨ k = 35))) w w6 := by
    rw [hw6]
    exact hs5.set (by omega)
  have row : ∀ i, ¬ i = 0 → w6.1 69 i = w.1 69 i := fun i hi => hs6.row (fun k => by omega)
  have e34 : w6.1 40 0 34 = nI bf.length := by
    rw [hw6, setI_ne (by omega)]
    exact (p3.1 40 0 34 (by unfold NR; omega)).trans e2
  have e0 : w6.1 40 0 0 = 0 := by
    rw [hw6, setI_ne (by omega), p3.1 40 0 0 (by unfold NR; omega), hw2, setI_ne (by omega)]
    exact setI_eq _ _ _ _ _
  have r2 : ∀ i, w2.1 69 i = w.1 69 i := fun i => by
    rw [hw2, setI_row (by omega)]
    exact setI_row (by omega)
  have eσ : w6.1 69 0 = τ := by
    rw [hw6, setI_row (by omega)]
    funext q
    by_cases hq : q < 57
    · rw [p1 q hq, r2, hτ]
    · rw [p2 q (by omega), r2, h3, hj q (by omega), hjt q (by omega)]
  refine ⟨by rw [e34], ⟨e34, by omega, eσ, fun i ρ hi => ?_⟩, by rw [hw6]; exact setI_eq _ _ _ _ _, e0, hs6⟩
  have hil : i < bf.length := (List.getElem?_eq_some_iff.mp hi).1
  rw [row (2 + i) (by omega)]
  refine h5 i ρ ?_
  rw [List.getElem?_append_left hil]
  exact hi
end IA
