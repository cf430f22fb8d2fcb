/-! The reference: images taken back; image, restore. -/
def GG (κ b k : Nat) : Prop := (κ = 69 ∧ b ≠ 1) ∨ (κ = 40 ∧ (k = 34 ∨ k = 37))
section PB
variable {l : Launch} {G : Gx} {w : Wd}
theorem m_getsAll (hl : l.stackTraces = false) {j : Nat} (hj : j < 3) : C_X10_putsAll l G w [.ref (G.2.1 40 0), .ref (G.2.1 72 j), .int 1] (fun r w' => r = none ∧ w'.1 40 0 34 = w.1 72 j 0 ∧ (∀ q, q < 57 → w'.1 69 0 q = w.1 72 j (1 + q)) ∧ (∀ b q, b < 16 → q < 57 → w'.1 69 (2 + b) q = w.1 72 j (58 + 57 * b + q)) ∧ (∀ b q, 57 ≤ q → w'.1 69 b q = w.1 69 b q) ∧ Sm GG w w') noX := by
  refine e_X10_putsAll hj hl (fun M kk hM hk F => ?_)
  subst hM
  intro w1 hw1
  generalize hK : (fun r w' => r = none ∧ w'.1 40 0 34 = w.1 72 j 0 ∧ (∀ q, q < 57 → w'.1 69 0 q = w.1 72 j (1 + q)) ∧ (∀ b q, b < 16 → q < 57 → w'.1 69 (2 + b) q = w.1 72 j (58 + 57 * b + q)) ∧ (∀ b q, 57 ≤ q → w'.1 69 b q = w.1 69 b q) ∧ Sm GG w w' : Option Value → Wd → Prop) = K
  -- so far: works, the first c of now, all of the first b rows before, the first d of row b
  have k72 : ∀ {w'}, Sm GG w w' → ∀ q, w'.1 72 j q = w.1 72 j q := fun hs q => hs.1 72 j q (by unfold GG; omega)
  have f62 : ∀ b, b < 16 → (∀ w', Sm GG w w' → w'.1 40 0 37 = nI (58 + 57 * (b + 1)) → w'.1 40 0 34 = w.1 72 j 0 → (∀ q, q < 57 → w'.1 69 0 q = w.1 72 j (1 + q)) → (∀ a q, a < b + 1 → q < 57 → w'.1 69 (2 + a) q = w.1 72 j (58 + 57 * a + q)) → (∀ b q, 57 ≤ q → w'.1 69 b q = w.1 69 b q) → Z M G 0 K noX w' 53 [some (.ref (G.2.1 40 0)), some (.ref (G.2.1 72 j)), some (.int 1), some (.int (nI (b + 1))), none] []) → ∀ w', Sm GG w w' → w'.1 40 0 37 = nI (58 + 57 * b) → w'.1 40 0 34 = w.1 72 j 0 → (∀ q, q < 57 → w'.1 69 0 q = w.1 72 j (1 + q)) → (∀ a q, a < b → q < 57 → w'.1 69 (2 + a) q = w.1 72 j (58 + 57 * a + q)) → (∀ b q, 57 ≤ q → w'.1 69 b q = w.1 69 b q) → Z M G 0 K noX w' 62 [some (.ref (G.2.1 40 0)), some (.ref (G.2.1 72 j)), some (.int 1), some (.int (nI b)), some (.int (nI 0))] [] := by
    intro b hb hnext w0 hs0 e0 e340 en0 eb0 ej0
    refine up_to (P := fun d => ∀ w', Sm GG w w' → w'.1 40 0 37 = nI (58 + 57 * b + d) → w'.1 40 0 34 = w.1 72 j 0 → (∀ q, q < 57 → w'.1 69 0 q = w.1 72 j (1 + q)) → (∀ a q, a < b → q < 57 → w'.1 69 (2 + a) q = w.1 72 j (58 + 57 * a + q)) → (∀ q, q < d → w'.1 69 (2 + b) q = w.1 72 j (58 + 57 * b + q)) → (∀ b q, 57 ≤ q → w'.1 69 b q = w.1 69 b q) → Z M G 0 K noX w' 62 [some (.ref (G.2.1 40 0)), some (.ref (G.2.1 72 j)), some (.int 1), some (.int (nI b)), some (.int (nI d))] []) 57 (fun d hd ih w' hs e37 e34 en eb ed ej => ?_) (fun w' hs e37 e34 en eb ed ej => ?_) w0 hs0 e0 e340 en0 eb0 (fun q hq => absurd hq (Nat.not_lt_zero _)) ej0
    · have h16 : vp_in (nI b) 16 := vp_in_nI hb (by decide)
      have h57 : vp_in (nI d) 57 := vp_in_nI hd (by decide)
      refine b_X10_putsAll_62 hj F hk ⟨fun hz => absurd hz (nI_ge hd (by decide)), fun _ => ⟨h16, h16, h57, ?_⟩⟩
      rw [nI_clamp (show b < 2 ^ 31 by omega), nI_clamp (show d < 2 ^ 31 by omega), ← nI_succ]
      refine con_i (m_get hl hj (by omega) e37) ⟨h57, fun w5 hw5 => ?_⟩
      rw [k72 hs] at hw5
      have hs5 : Sm GG w w5 := by rw [hw5]; exact (hs.set (by unfold GG; omega)).set (by unfold GG; omega)
      have g69 : ∀ a q, ¬ (a = 2 + b ∧ q = d) → w5.1 69 a q = w'.1 69 a q := fun a q hn => by
        rw [hw5, setI_ne (by omega), setI_ne (by omega)]
      refine ih w5 hs5 ?_ ?_ (fun q hq => ?_) (fun a q ha hq => ?_) (fun q hq => ?_) (fun a q hq => ?_)
      · rw [hw5, setI_ne (by omega), setI_eq]; rfl
      · rw [hw5, setI_ne (by omega), setI_ne (by omega)]; exact e34
      · rw [g69 0 q (by omega)]; exact en q hq
      · rw [g69 _ q (by omega)]; exact eb a q ha hq
      · by_cases h : q = d
        · rw [h, hw5, setI_eq]
        · rw [g69 _ q (by omega)]; exact ed q (by omega)
      · rw [g69 a q (by omega)]; exact ej a q hq
    · refine b_X10_putsAll_62 hj F hk ⟨fun _ => ?_, fun hz => absurd (by decide) hz⟩
      rw [← nI_succ]
      refine hnext w' hs (by rw [e37, show 58 + 57 * b + 57 = 58 + 57 * (b + 1) by omega]) e34 en (fun a q ha hq => ?_) ej
      by_cases h : a = b
      · rw [h]; exact ed q hq
      · exact eb a q (by omega) hq
  have f53 : ∀ w', Sm GG w w' → w'.1 40 0 37 = nI (58 + 57 * 0) → w'.1 40 0 34 = w.1 72 j 0 → (∀ q, q < 57 → w'.1 69 0 q = w.1 72 j (1 + q)) → (∀ a q, a < 0 → q < 57 → w'.1 69 (2 + a) q = w.1 72 j (58 + 57 * a + q)) → (∀ b q, 57 ≤ q → w'.1 69 b q = w.1 69 b q) → Z M G 0 K noX w' 53 [some (.ref (G.2.1 40 0)), some (.ref (G.2.1 72 j)), some (.int 1), some (.int (nI 0)), none] [] := by
    refine up_to (P := fun b => ∀ w', Sm GG w w' → w'.1 40 0 37 = nI (58 + 57 * b) → w'.1 40 0 34 = w.1 72 j 0 → (∀ q, q < 57 → w'.1 69 0 q = w.1 72 j (1 + q)) → (∀ a q, a < b → q < 57 → w'.1 69 (2 + a) q = w.1 72 j (58 + 57 * a + q)) → (∀ b q, 57 ≤ q → w'.1 69 b q = w.1 69 b q) → Z M G 0 K noX w' 53 [some (.ref (G.2.1 40 0)), some (.ref (G.2.1 72 j)), some (.int 1), some (.int (nI b)), none] []) 16 (fun b hb ih w' hs e37 e34 en eb ej => ?_) (fun w' hs e37 e34 en eb ej => ?_)
    · exact b_X10_putsAll_53 hj F hk ⟨fun hz => absurd hz (nI_ge hb (by decide)), fun _ => f62 b hb ih w' hs e37 e34 en eb ej⟩
    · exact b_X10_putsAll_53 hj F hk ⟨fun _ => by rw [← hK]; exact ⟨rfl, e34, en, eb, ej, hs⟩, fun hz => absurd (by decide) hz⟩
  have hs1 : Sm GG w w1 := by rw [hw1]; exact Sm.rf.set (by unfold GG; omega)
  have e1 : w1.1 40 0 37 = nI 0 := by rw [hw1]; exact setI_eq _ _ _ _ _
  refine con_i (m_get hl hj (by decide) e1) (fun w4 hw4 => ?_)
  rw [k72 hs1] at hw4
  have hs4 : Sm GG w w4 := by rw [hw4]; exact (hs1.set (by unfold GG; omega)).set (by unfold GG; omega)
  have r4 : ∀ a q, w4.1 69 a q = w.1 69 a q := fun a q => by
    rw [hw4, setI_ne (by omega), setI_ne (by omega), hw1, setI_ne (by omega)]
  refine up_to (P := fun c => ∀ w', Sm GG w w' → w'.1 40 0 37 = nI (1 + c) → w'.1 40 0 34 = w.1 72 j 0 → (∀ q, q < c → w'.1 69 0 q = w.1 72 j (1 + q)) → (∀ b q, 57 ≤ q → w'.1 69 b q = w.1 69 b q) → Z M G 0 K noX w' 21 [some (.ref (G.2.1 40 0)), some (.ref (G.2.1 72 j)), some (.int 1), some (.int (nI c)), none] []) 57 (fun c hc ih w' hs e37 e34 en ej => ?_) (fun w' hs e37 e34 en ej => b_X10_putsAll_21 hj F hk ⟨fun _ => f53 w' hs e37 e34 en (fun a q ha => absurd ha (Nat.not_lt_zero _)) ej, fun hz => absurd (by decide) hz⟩) w4 hs4 ?_ ?_ (fun q hq => absurd hq (Nat.not_lt_zero _)) (fun b q _ => r4 b q)
  · have h57 : vp_in (nI c) 57 := vp_in_nI hc (by decide)
    refine b_X10_putsAll_21 hj F hk ⟨fun hz => absurd hz (nI_ge hc (by decide)), fun _ => ⟨h57, ?_⟩⟩
    rw [nI_clamp (by omega), ← nI_succ]
    refine con_i (m_get hl hj (by omega) e37) ⟨h57, fun w5 hw5 => ?_⟩
    rw [k72 hs] at hw5
    have hs5 : Sm GG w w5 := by rw [hw5]; exact (hs.set (by unfold GG; omega)).set (by unfold GG; omega)
    have g69 : ∀ a q, ¬ (a = 0 ∧ q = c) → w5.1 69 a q = w'.1 69 a q := fun a q hn => by
      rw [hw5, setI_ne (by omega), setI_ne (by omega)]
    refine ih w5 hs5 ?_ ?_ (fun q hq => ?_) (fun a q hq => ?_)
    · rw [hw5, setI_ne (by omega), setI_eq]; rfl
    · rw [hw5, setI_ne (by omega), setI_ne (by omega)]; exact e34
    · by_cases h : q = c
      · rw [h, hw5, setI_eq]
      · rw [g69 _ q (by omega)]; exact en q (by omega)
    · rw [g69 a q (by omega)]; exact ej a q hq
  · rw [hw4, setI_ne (by omega), setI_eq]
  · rw [hw4, setI_eq]
end PB
