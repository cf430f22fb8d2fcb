/-! The reference: image and restore. -/
def KeptM (w : Wd) (i : Nat) (σ : Sg) (bf : List Sg) : Prop := w.1 72 i 0 = nI bf.length ∧ bf.length ≤ 16 ∧ (∀ q, q < 57 → w.1 72 i (1 + q) = σ q) ∧ ∀ (a : Nat) (τ : Sg), bf[a]? = some τ → ∀ q, q < 57 → w.1 72 i (58 + 57 * a + q) = τ q
section PC
variable {l : Launch} {G : Gx} {w : Wd} {σ : Sg} {bf : List Sg} {n : Nat}
theorem m_image3 (hl : l.stackTraces = false) (h : w.1 40 0 36 = nI 3) : C_X10_image l G w [.ref (G.2.1 40 0)] (fun r w' => r = some (.int (-1)) ∧ w' = cl0 w) noX := by
  refine e_X10_image hl (fun M kk hM hk F => ?_)
  rintro _ rfl
  have e : (setI w 40 0 0 0).1 40 0 36 = nI 3 := (setI_ne (by omega)).trans h
  rw [e]
  exact ⟨fun hc => absurd rfl hc, fun _ => ⟨rfl, rfl⟩⟩
theorem m_image (hl : l.stackTraces = false) (hn : n < 3) (h36 : w.1 40 0 36 = nI n) (h : LifeM w σ bf) : C_X10_image l G w [.ref (G.2.1 40 0)] (fun r w' => r = some (.int (nI (n + 1))) ∧ w'.1 40 0 36 = nI (n + 1) ∧ KeptM w' n σ bf ∧ w'.1 40 0 0 = 0 ∧ Sm (fun κ b k => (κ = 72 ∧ b = n) ∨ (κ = 40 ∧ (k = 0 ∨ k = 36 ∨ k = 37))) w w') noX := by
  refine e_X10_image hl (fun M kk hM hk F => ?_)
  subst hM
  rintro _ rfl
  have e : (setI w 40 0 0 0).1 40 0 36 = nI n := (setI_ne (by omega)).trans h36
  have hne : ¬ nI n = 3 := fun z => by
    have := (nI_eq (show n < 2 ^ 31 by omega) (show 3 < 2 ^ 31 by decide)).mp z
    omega
  rw [e, nI_clamp (by omega)]
  refine ⟨fun _ => ⟨vp_in_nI hn (by decide), con_vP (m_putsAll hl hn) (fun w4 k4 => ?_)⟩, fun hc => absurd (Classical.not_not.mp hc) hne⟩
  intro w5 hw5
  rw [(k4.2.1 40 0 36 (by unfold GP; omega)).trans e, ← nI_succ] at hw5
  have e36 : w5.1 40 0 36 = nI (n + 1) := by rw [hw5]; exact setI_eq _ _ _ _ _
  have e0 : w5.1 40 0 0 = 0 := by
    rw [hw5, setI_ne (by omega), k4.2.1 40 0 0 (by unfold GP; omega)]
    exact setI_eq _ _ _ _ _
  have e72 : ∀ q, q < 970 → w5.1 72 n q = fl (setI w 40 0 0 0) q := fun q hq => by
    rw [hw5, setI_ne (by omega)]
    exact k4.1 q hq
  have f0 : fl (setI w 40 0 0 0) 0 = w.1 40 0 34 := by
    show (setI w 40 0 0 0).1 40 0 34 = _
    exact setI_ne (by omega)
  refine ⟨by rw [e36], e36, ⟨?_, h.2.1, fun q hq => ?_, fun a τ ha q hq => ?_⟩, e0, ?_⟩
  · rw [e72 0 (by decide), f0]; exact h.1
  · rw [e72 (1 + q) (by omega)]
    unfold fl
    rw [if_neg (by omega), if_pos (by omega), show 1 + q - 1 = q by omega, setI_ne (by omega), h.2.2.1]
  · have hal : a < bf.length := (List.getElem?_eq_some_iff.mp ha).1
    have := h.2.1
    rw [e72 (58 + 57 * a + q) (by omega)]
    unfold fl
    rw [if_neg (by omega), if_neg (by omega), show (58 + 57 * a + q - 58) / 57 = a by omega, show (58 + 57 * a + q - 58) % 57 = q by omega, setI_ne (by omega), h.2.2.2 a τ ha]
  · rw [hw5]
    refine Sm.set (Sm.tr (Sm.set Sm.rf (by omega)) (k4.2.mono (fun κ b k q => ?_))) (by omega)
    unfold GP at q
    omega
theorem m_restore0 (hl : l.stackTraces = false) (h : w.1 40 0 36 = nI 0) : C_X10_restore l G w [.ref (G.2.1 40 0)] (fun r w' => r = some (.int (-1)) ∧ w' = cl0 w) noX := by
  refine e_X10_restore hl (fun M kk hM hk F => ?_)
  rintro _ rfl
  have e : (setI w 40 0 0 0).1 40 0 36 = nI 0 := (setI_ne (by omega)).trans h
  rw [e]
  exact ⟨fun hc => absurd rfl hc, fun _ => ⟨rfl, rfl⟩⟩
theorem m_restore (hl : l.stackTraces = false) (hn : n < 3) (h36 : w.1 40 0 36 = nI (n + 1)) (h : KeptM w n σ bf) (hj : Jk σ) (hjb : ∀ (a : Nat) (τ : Sg), bf[a]? = some τ → Jk τ) (hjw : ∀ b, Jk (w.1 69 b)) : C_X10_restore l G w [.ref (G.2.1 40 0)] (fun r w' => r = some (.int (nI n)) ∧ w'.1 40 0 36 = nI n ∧ w'.1 40 0 35 = 0 ∧ LifeM w' σ bf ∧ (∀ b, Jk (w'.1 69 b)) ∧ w'.1 40 0 0 = 0 ∧ Sm (fun κ b k => (κ = 69 ∧ b ≠ 1) ∨ (κ = 40 ∧ (k = 0 ∨ k = 34 ∨ k = 35 ∨ k = 36 ∨ k = 37))) w w') noX := by
  refine e_X10_restore hl (fun M kk hM hk F => ?_)
  subst hM
  rintro _ rfl
  have e : (setI w 40 0 0 0).1 40 0 36 = nI (n + 1) := (setI_ne (by omega)).trans h36
  rw [e, nI_pred]
  refine ⟨fun _ w2 hw2 => ?_, fun hc => absurd (Classical.not_not.mp hc) (nI_ne0 (by omega) (by omega))⟩
  have e2 : w2.1 40 0 36 = nI n := by rw [hw2]; exact setI_eq _ _ _ _ _
  have hs2 : Sm (fun κ b k => (κ = 69 ∧ b ≠ 1) ∨ (κ = 40 ∧ (k = 0 ∨ k = 34 ∨ k = 35 ∨ k = 36 ∨ k = 37))) w w2 := by
    rw [hw2]
    exact (Sm.rf.set (by omega)).set (by omega)
  have r72 : ∀ q, w2.1 72 n q = w.1 72 n q := fun q => by rw [hw2, setI_ne (by omega), setI_ne (by omega)]
  have r69 : ∀ b q, w2.1 69 b q = w.1 69 b q := fun b q => by rw [hw2, setI_ne (by omega), setI_ne (by omega)]
  rw [e2, nI_clamp (by omega)]
  refine ⟨vp_in_nI hn (by decide), con_vP (m_getsAll hl hn) (fun w5 k5 => ?_)⟩
  obtain ⟨p1, p2, p3, p4, p5⟩ := k5
  intro w6 hw6
  have hs5 := hs2.tr (p5.mono (S' := fun κ b k => (κ = 69 ∧ b ≠ 1) ∨ (κ = 40 ∧ (k = 0 ∨ k = 34 ∨ k = 35 ∨ k = 36 ∨ k = 37))) (fun κ b k q => by unfold GG at q; omega))
  have hs6 : Sm (fun κ b k => (κ = 69 ∧ b ≠ 1) ∨ (κ = 40 ∧ (k = 0 ∨ k = 34 ∨ k = 35 ∨ k = 36 ∨ k = 37))) w w6 := by
    rw [hw6]
    exact hs5.set (by omega)
  have e36 : w6.1 40 0 36 = nI n := by
    rw [hw6, setI_ne (by omega)]
    exact (p5.1 40 0 36 (by unfold GG; omega)).trans e2
  have e0 : w6.1 40 0 0 = 0 := by
    rw [hw6, setI_ne (by omega), p5.1 40 0 0 (by unfold GG; omega), hw2, setI_ne (by omega)]
    exact setI_eq _ _ _ _ _
  have g69 : ∀ b q, w6.1 69 b q = w5.1 69 b q := fun b q => by rw [hw6]; exact setI_ne (by omega)
  have g34 : w6.1 40 0 34 = nI bf.length := by
    rw [hw6, setI_ne (by omega), p1, r72]
    exact h.1
  have gj : ∀ b, Jk (w6.1 69 b) := fun b q hq => by
    rw [g69, p4 b q hq, r69]
    exact hjw b q hq
  refine ⟨by rw [e36], e36, by rw [hw6]; exact setI_eq _ _ _ _ _, ⟨g34, h.2.1, ?_, fun a τ ha => ?_⟩, gj, e0, hs6⟩
  · funext q
    by_cases hq : q < 57
    · rw [g69, p2 q hq, r72]
      exact h.2.2.1 q hq
    · rw [gj 0 q (by omega), hj q (by omega)]
  · have hal : a < bf.length := (List.getElem?_eq_some_iff.mp ha).1
    have := h.2.1
    funext q
    by_cases hq : q < 57
    · rw [g69, p3 a q (by omega) hq, r72]
      exact h.2.2.2 a τ ha q hq
    · rw [gj (2 + a) q (by omega), hjb a τ ha q (by omega)]
end PC
