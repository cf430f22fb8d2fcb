/-! The class: works kept and taken back, images. -/
theorem GJ_GL {j i : Nat} (h1 : 17 * j ≤ i) (h2 : i < 17 * j + 17) : ∀ κ b k, GJ i κ b k → GL j κ b k := by
  intro κ b k h
  unfold GJ at h
  unfold GL
  omega
section LA
variable {l : Launch} {G : Gx} {w : Wd} {σ τ : Sg} {bf : List Sg} {N : Nat}
theorem c_keep (hl : l.stackTraces = false) {j : Nat} (hj : j < 4) (hN : N ≤ 20) (h : LifeC w j σ bf N) (hlt : bf.length < 16) : C_X3_keep l G w [.ref (G.2.1 4 j)] (fun r w' => r = none ∧ LifeC w' j σ (bf ++ [σ]) N ∧ Sm (GL j) w w') noX := by
  obtain ⟨h1, h2, h3, h5⟩ := h
  refine e_X3_keep hj hl (fun M kk hM hk F => ?_)
  subst hM
  rw [h1]
  refine ⟨fun hc => absurd hc (nI_ge hlt (by decide)), fun _ => ⟨vp_in_nI hlt (by decide), ?_⟩⟩
  rw [nI_clamp (by omega)]
  refine con_vP (c_become hl (i := 17 * j + 1 + bf.length) (j := 17 * j) (by omega) (by omega) hN h3) (fun w3 k3 => ?_)
  intro w4 hw4
  have e4 : w3.1 4 j 0 = nI bf.length := (k3.2.1 4 j 0 (by unfold GJ; omega)).trans h1
  rw [e4, ← nI_succ] at hw4
  have hs4 : Sm (fun κ b k => GJ (17 * j + 1 + bf.length) κ b k ∨ (κ = 4 ∧ b = j)) w w4 := by
    rw [hw4]
    exact (k3.2.mono (fun κ b k q => Or.inl q)).set (Or.inr ⟨rfl, rfl⟩)
  have hs34 : Sm (fun κ b _ => κ = 4 ∧ b = j) w3 w4 := by rw [hw4]; exact Sm.rf.set ⟨rfl, rfl⟩
  refine ⟨rfl, ⟨?_, by rw [List.length_append]; show bf.length + 1 ≤ 16; omega, ?_, fun i ρ hi => ?_⟩, hs4.mono (fun κ b k q => ?_)⟩
  · rw [hw4, setI_eq, List.length_append]; rfl
  · exact h3.mv hs4 (fun κ k q => by unfold GJ; omega)
  · by_cases hq : i < bf.length
    · rw [List.getElem?_append_left hq] at hi
      exact (h5 i ρ hi).mv hs4 (fun κ k q => by unfold GJ; omega)
    · rw [List.getElem?_append_right (by omega)] at hi
      have hi0 : i - bf.length = 0 := by
        by_cases hz : i - bf.length = 0
        · exact hz
        · rw [List.getElem?_eq_none (by show 1 ≤ i - bf.length; omega)] at hi
          cases hi
      rw [hi0] at hi
      cases hi
      rw [show i = bf.length by omega]
      exact k3.1.mv hs34 (fun κ k q => by omega)
  · rcases q with q | q
    · exact GJ_GL (by omega) (by omega) κ b k q
    · unfold GL; omega
theorem c_drop (hl : l.stackTraces = false) {j : Nat} (hj : j < 4) (hN : N ≤ 20) (h : LifeC w j σ (bf ++ [τ]) N) : C_X3_drop l G w [.ref (G.2.1 4 j)] (fun r w' => r = none ∧ LifeC w' j τ bf N ∧ Sm (GL j) w w') noX := by
  obtain ⟨h1, h2, h3, h5⟩ := h
  rw [List.length_append] at h1 h2
  have h1 : w.1 4 j 0 = nI (bf.length + 1) := h1
  have h2 : bf.length + 1 ≤ 16 := h2
  refine e_X3_drop hj hl (fun M kk hM hk F => ?_)
  subst hM
  rw [h1]
  refine ⟨fun hc => absurd hc (nI_nle (by omega) (by omega)), fun _ => ?_⟩
  rw [nI_pred]
  intro w1 hw1
  have e1 : w1.1 4 j 0 = nI bf.length := by rw [hw1]; exact setI_eq _ _ _ _ _
  have hs1 : Sm (fun κ b _ => κ = 4 ∧ b = j) w w1 := by rw [hw1]; exact Sm.rf.set ⟨rfl, rfl⟩
  rw [e1, nI_clamp (by omega)]
  have hτ : SceneC w1 (17 * j + 1 + bf.length) τ N := by
    refine (h5 bf.length τ ?_).mv hs1 (fun κ k q => by omega)
    rw [List.getElem?_append_right (Nat.le_refl _), Nat.sub_self]
    rfl
  refine ⟨vp_in_nI (by omega) (by decide), con_vP (c_become hl (i := 17 * j) (by omega) (by omega) hN hτ) (fun w4 k4 => ?_)⟩
  have hs4 : Sm (fun κ b k => GJ (17 * j) κ b k ∨ (κ = 4 ∧ b = j)) w w4 := (hs1.mono (fun κ b k q => Or.inr q)).tr (k4.2.mono (fun κ b k q => Or.inl q))
  refine ⟨rfl, ⟨(k4.2.1 4 j 0 (by unfold GJ; omega)).trans e1, by omega, k4.1, fun i ρ hi => ?_⟩, hs4.mono (fun κ b k q => ?_)⟩
  · have hil : i < bf.length := (List.getElem?_eq_some_iff.mp hi).1
    refine (h5 i ρ ?_).mv hs4 (fun κ k q => by unfold GJ; omega)
    rw [List.getElem?_append_left hil]
    exact hi
  · rcases q with q | q
    · exact GJ_GL (by omega) (by omega) κ b k q
    · unfold GL; omega
theorem c_lifeBecome (hl : l.stackTraces = false) {i j : Nat} (hi : i < 4) (hj : j < 4) (hij : i ≠ j) (hN : N ≤ 20) (h : LifeC w j σ bf N) : C_X3_become l G w [.ref (G.2.1 4 i), .ref (G.2.1 4 j)] (fun r w' => r = none ∧ LifeC w' i σ bf N ∧ Sm (GL i) w w') noX := by
  have hj4 := h.2.1
  refine e_X3_become hi hj hl (fun M kk hM hk F => ?_)
  subst hM
  intro w1 hw1
  have e1 : w1.1 4 i 0 = nI bf.length := by rw [hw1, setI_eq]; exact h.1
  have hs1 : Sm (GL i) w w1 := by rw [hw1]; exact Sm.rf.set (by unfold GL; omega)
  have other : ∀ {w'}, Sm (GL i) w w' → LifeC w' j σ bf N := fun hs => h.mv hs (fun k => by unfold GL; omega) (fun κ b k q1 q2 q3 => by unfold GL; omega)
  refine con_vP (c_become hl (i := 17 * i) (j := 17 * j) (by omega) (by omega) hN (other hs1).2.2.1) (fun w2 k2 => ?_)
  have hs2 := hs1.tr (k2.2.mono (GJ_GL (j := i) (by omega) (by omega)))
  refine up_to (P := fun c => ∀ w', Sm (GL i) w w' → w'.1 4 i 0 = nI bf.length → SceneC w' (17 * i) σ N → (∀ (a : Nat) (ρ : Sg), a < c → bf[a]? = some ρ → SceneC w' (17 * i + 1 + a) ρ N) → Z M G 0 (fun r w' => r = none ∧ LifeC w' i σ bf N ∧ Sm (GL i) w w') noX w' 21 [some (.ref (G.2.1 4 i)), some (.ref (G.2.1 4 j)), some (.int (nI c))] []) bf.length (fun c hc ih w' hs e4 hn hb => ?_) (fun w' hs e4 hn hb => ?_) w2 hs2 ((k2.2.1 4 i 0 (by unfold GJ; omega)).trans e1) k2.1 (fun a ρ ha => absurd ha (Nat.not_lt_zero _))
  · have hii : vp_in (nI c) 16 := vp_in_nI (by omega) (by decide)
    refine b_X3_become_21 hi hj F hk ⟨fun hq => ?_, fun _ => ⟨hii, hii, ?_⟩⟩
    · rw [e4] at hq
      exact absurd hq (nI_ge hc (by omega))
    · obtain ⟨ρ, hρ⟩ : ∃ ρ, bf[c]? = some ρ := ⟨bf[c], List.getElem?_eq_getElem hc⟩
      rw [nI_clamp (by omega)]
      refine con_vP (c_become hl (i := 17 * i + 1 + c) (j := 17 * j + 1 + c) (by omega) (by omega) hN ((other hs).2.2.2 c ρ hρ)) (fun w3 k3 => ?_)
      rw [← nI_succ]
      refine ih w3 (hs.tr (k3.2.mono (GJ_GL (j := i) (by omega) (by omega)))) ((k3.2.1 4 i 0 (by unfold GJ; omega)).trans e4) (hn.mv k3.2 (fun κ k q => by unfold GJ; omega)) (fun a ρ' ha hρ' => ?_)
      by_cases hq : a = c
      · rw [hq, hρ] at hρ'
        cases hρ'
        rw [hq]
        exact k3.1
      · exact (hb a ρ' (by omega) hρ').mv k3.2 (fun κ k q => by unfold GJ; omega)
  · refine b_X3_become_21 hi hj F hk ⟨fun _ => ⟨rfl, ⟨e4, hj4, hn, fun a ρ ha => hb a ρ (List.getElem?_eq_some_iff.mp ha).1 ha⟩, hs⟩, fun hq => ?_⟩
    rw [e4] at hq
    exact absurd (nI_le (Nat.le_refl _) (by omega)) hq
/-- undo: nothing to take back -/
theorem c_undo0 (hl : l.stackTraces = false) (h : LifeC w 0 σ [] N) : C_X9_undo l G w [.ref (G.2.1 0 0)] (fun r w' => r = some (.int (-1)) ∧ w' = w) noX := by
  refine e_X9_undo hl (fun M kk hM hk F => ?_)
  rw [h.1]
  exact ⟨fun hc => absurd hc (by decide), fun _ => ⟨rfl, rfl⟩⟩
def GU (κ b k : Nat) : Prop := GL 0 κ b k ∨ (κ = 0 ∧ b = 0 ∧ (k = 12 ∨ k = 13))
theorem c_undo1 (hl : l.stackTraces = false) (hN : N ≤ 20) (h : LifeC w 0 σ (bf ++ [τ]) N) : C_X9_undo l G w [.ref (G.2.1 0 0)] (fun r w' => r = some (.int (nI bf.length)) ∧ LifeC w' 0 τ bf N ∧ w'.1 0 0 13 = 0 ∧ Sm (fun κ b k => GL 0 κ b k ∨ (κ = 0 ∧ b = 0 ∧ k = 13)) w w') noX := by
  refine e_X9_undo hl (fun M kk hM hk F => ?_)
  subst hM
  have e : w.1 4 0 0 = nI (bf.length + 1) := by rw [h.1, List.length_append]; rfl
  have h2 : bf.length + 1 ≤ 16 := by have := h.2.1; rw [List.length_append] at this; exact this
  rw [e]
  refine ⟨fun _ => con_vP (c_drop hl (by decide) hN h) (fun w2 k2 => ?_), fun hc => absurd (nI_lt (show 0 < bf.length + 1 by omega) (by omega)) hc⟩
  intro w3 hw3
  have hs3 : Sm (fun κ b k => κ = 0 ∧ b = 0 ∧ k = 13) w2 w3 := by rw [hw3]; exact Sm.rf.set ⟨rfl, rfl, rfl⟩
  have hl3 := k2.1.mv hs3 (fun k => by omega) (fun κ b k q1 q2 q3 => by omega)
  refine ⟨by rw [hl3.1], hl3, by rw [hw3]; exact setI_eq _ _ _ _ _, (k2.2.mono (fun κ b k q => Or.inl q)).tr (hs3.mono (fun κ b k q => Or.inr q))⟩
end LA
