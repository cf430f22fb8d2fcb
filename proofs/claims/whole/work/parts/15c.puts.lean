/-! The reference: images put and taken back. -/
theorem setI_id {w : Wd} {κ j k : Nat} {v : Int32} (h : w.1 κ j k = v) : setI w κ j k v = w := by
  unfold setI
  refine Prod.ext ?_ rfl
  funext a b c
  show (if a = κ ∧ b = j ∧ c = k then v else w.1 a b c) = w.1 a b c
  by_cases hq : a = κ ∧ b = j ∧ c = k
  · rw [if_pos hq, hq.1, hq.2.1, hq.2.2, h]
  · rw [if_neg hq]
/-- all that an image holds, in a row -/
def fl (w : Wd) (q : Nat) : Int32 := if q = 0 then w.1 40 0 34 else if q < 58 then w.1 69 0 (q - 1) else w.1 69 (2 + (q - 58) / 57) ((q - 58) % 57)
def GP (j κ b k : Nat) : Prop := (κ = 72 ∧ b = j) ∨ (κ = 40 ∧ k = 37)
section PA
variable {l : Launch} {G : Gx} {w : Wd}
theorem m_put (hl : l.stackTraces = false) {j s : Nat} {v : Int32} (hj : j < 3) (hs : s < 970) (e : w.1 40 0 37 = nI s) : C_X10_puts l G w [.ref (G.2.1 40 0), .ref (G.2.1 72 j), .int v, .int 0] (fun r w' => r = some (.int v) ∧ w' = setI (setI w 72 j s v) 40 0 37 (nI (s + 1))) noX := by
  refine e_X10_puts hj hl (fun M kk hM hk F => ?_)
  rw [e, nI_clamp (by omega)]
  refine ⟨fun hc => absurd rfl hc, fun _ => ⟨vp_in_nI hs (by decide), ?_⟩⟩
  rintro _ rfl w3 hw3
  rw [setI_ne (by omega), e, ← nI_succ] at hw3
  have e3 : w3.1 40 0 37 = nI (s + 1) := by rw [hw3]; exact setI_eq _ _ _ _ _
  rw [e3, nI_pred, nI_clamp (by omega)]
  refine ⟨vp_in_nI hs (by decide), ?_, hw3⟩
  rw [hw3, setI_ne (by omega), setI_eq]
theorem m_get (hl : l.stackTraces = false) {j s : Nat} {v : Int32} (hj : j < 3) (hs : s < 970) (e : w.1 40 0 37 = nI s) : C_X10_puts l G w [.ref (G.2.1 40 0), .ref (G.2.1 72 j), .int v, .int 1] (fun r w' => r = some (.int (w.1 72 j s)) ∧ w' = setI w 40 0 37 (nI (s + 1))) noX := by
  refine e_X10_puts hj hl (fun M kk hM hk F => ?_)
  rw [e]
  refine ⟨fun _ w1 hw1 => ?_, fun hc => absurd (by decide) hc⟩
  rw [← nI_succ] at hw1
  have e1 : w1.1 40 0 37 = nI (s + 1) := by rw [hw1]; exact setI_eq _ _ _ _ _
  rw [e1, nI_pred, nI_clamp (by omega)]
  refine ⟨vp_in_nI hs (by decide), ?_, hw1⟩
  rw [hw1, setI_ne (by omega)]
theorem m_putsAll (hl : l.stackTraces = false) {j : Nat} (hj : j < 3) : C_X10_putsAll l G w [.ref (G.2.1 40 0), .ref (G.2.1 72 j), .int 0] (fun r w' => r = none ∧ (∀ q, q < 970 → w'.1 72 j q = fl w q) ∧ Sm (GP j) w w') noX := by
  refine e_X10_putsAll hj hl (fun M kk hM hk F => ?_)
  subst hM
  intro w1 hw1
  generalize hK : (fun r w' => r = none ∧ (∀ q, q < 970 → w'.1 72 j q = fl w q) ∧ Sm (GP j) w w' : Option Value → Wd → Prop) = K
  -- one put
  have step : ∀ s w', s < 970 → Sm (GP j) w w' → (∀ q, q < s → w'.1 72 j q = fl w q) → Sm (GP j) w (setI (setI w' 72 j s (fl w s)) 40 0 37 (nI (s + 1))) ∧ (setI (setI w' 72 j s (fl w s)) 40 0 37 (nI (s + 1))).1 40 0 37 = nI (s + 1) ∧ ∀ q, q < s + 1 → (setI (setI w' 72 j s (fl w s)) 40 0 37 (nI (s + 1))).1 72 j q = fl w q := by
    intro s w' _ hs hq
    refine ⟨(hs.set (by unfold GP; omega)).set (by unfold GP; omega), setI_eq _ _ _ _ _, fun q hq2 => ?_⟩
    rw [setI_ne (by omega)]
    by_cases h : q = s
    · rw [h, setI_eq]
    · rw [setI_ne (by omega)]
      exact hq q (by omega)
  have same : ∀ {w'}, Sm (GP j) w w' → (∀ b q, w'.1 69 b q = w.1 69 b q) ∧ w'.1 40 0 34 = w.1 40 0 34 := fun hs => ⟨fun b q => hs.1 69 b q (by unfold GP; omega), hs.1 40 0 34 (by unfold GP; omega)⟩
  have f62 : ∀ b c, b < 16 → c ≤ 57 → (∀ w', Sm (GP j) w w' → w'.1 40 0 37 = nI (58 + 57 * (b + 1)) → (∀ q, q < 58 + 57 * (b + 1) → w'.1 72 j q = fl w q) → Z M G 0 K noX w' 53 [some (.ref (G.2.1 40 0)), some (.ref (G.2.1 72 j)), some (.int 0), some (.int (nI (b + 1))), none] []) → ∀ w', Sm (GP j) w w' → w'.1 40 0 37 = nI (58 + 57 * b + c) → (∀ q, q < 58 + 57 * b + c → w'.1 72 j q = fl w q) → Z M G 0 K noX w' 62 [some (.ref (G.2.1 40 0)), some (.ref (G.2.1 72 j)), some (.int 0), some (.int (nI b)), some (.int (nI c))] [] := by
    intro b c hb hc hnext
    refine up_from (P := fun c => ∀ w', Sm (GP j) w w' → w'.1 40 0 37 = nI (58 + 57 * b + c) → (∀ q, q < 58 + 57 * b + c → w'.1 72 j q = fl w q) → Z M G 0 K noX w' 62 [some (.ref (G.2.1 40 0)), some (.ref (G.2.1 72 j)), some (.int 0), some (.int (nI b)), some (.int (nI c))] []) c 57 hc (fun c _ hc57 ih w' hs e37 hq => ?_) (fun w' hs e37 hq => ?_)
    · have h16 : vp_in (nI b) 16 := vp_in_nI hb (by decide)
      have h57 : vp_in (nI c) 57 := vp_in_nI hc57 (by decide)
      refine b_X10_putsAll_62 hj F hk ⟨fun hz => absurd hz (nI_ge hc57 (by decide)), fun _ => ⟨h16, h16, h57, ?_⟩⟩
      rw [nI_clamp (show b < 2 ^ 31 by omega), nI_clamp (show c < 2 ^ 31 by omega), ← nI_succ]
      have ev : w'.1 69 (2 + b) c = fl w (58 + 57 * b + c) := by
        rw [(same hs).1]
        unfold fl
        rw [if_neg (by omega), if_neg (by omega), show (58 + 57 * b + c - 58) / 57 = b by omega, show (58 + 57 * b + c - 58) % 57 = c by omega]
      rw [ev]
      obtain ⟨t1, t2, t3⟩ := step (58 + 57 * b + c) w' (by omega) hs hq
      refine con_i (m_put hl hj (by omega) e37) ⟨h57, fun w5 hw5 => ?_⟩
      have e5 : w5 = setI (setI w' 72 j (58 + 57 * b + c) (fl w (58 + 57 * b + c))) 40 0 37 (nI (58 + 57 * b + c + 1)) := by
        rw [hw5]
        refine setI_id ?_
        rw [setI_ne (by omega), setI_ne (by omega)]
        exact ev
      rw [e5]
      exact ih _ t1 t2 t3
    · refine b_X10_putsAll_62 hj F hk ⟨fun _ => ?_, fun hz => absurd (by decide) hz⟩
      rw [← nI_succ]
      exact hnext w' hs (by rw [e37, show 58 + 57 * b + 57 = 58 + 57 * (b + 1) by omega]) (fun q hq2 => hq q (by omega))
  have f53 : ∀ w', Sm (GP j) w w' → w'.1 40 0 37 = nI 58 → (∀ q, q < 58 → w'.1 72 j q = fl w q) → Z M G 0 K noX w' 53 [some (.ref (G.2.1 40 0)), some (.ref (G.2.1 72 j)), some (.int 0), some (.int (nI 0)), none] [] := by
    refine up_to (P := fun b => ∀ w', Sm (GP j) w w' → w'.1 40 0 37 = nI (58 + 57 * b) → (∀ q, q < 58 + 57 * b → w'.1 72 j q = fl w q) → Z M G 0 K noX w' 53 [some (.ref (G.2.1 40 0)), some (.ref (G.2.1 72 j)), some (.int 0), some (.int (nI b)), none] []) 16 (fun b hb ih w' hs e37 hq => ?_) (fun w' hs e37 hq => ?_)
    · exact b_X10_putsAll_53 hj F hk ⟨fun hz => absurd hz (nI_ge hb (by decide)), fun _ => f62 b 0 hb (by decide) ih w' hs e37 hq⟩
    · exact b_X10_putsAll_53 hj F hk ⟨fun _ => by rw [← hK]; exact ⟨rfl, hq, hs⟩, fun hz => absurd (by decide) hz⟩
  have hs1 : Sm (GP j) w w1 := by rw [hw1]; exact Sm.rf.set (by unfold GP; omega)
  have e1 : w1.1 40 0 37 = nI 0 := by rw [hw1]; exact setI_eq _ _ _ _ _
  have ev1 : w1.1 40 0 34 = fl w 0 := (same hs1).2
  rw [ev1]
  obtain ⟨t1, t2, t3⟩ := step 0 w1 (by decide) hs1 (fun q hq => absurd hq (Nat.not_lt_zero _))
  refine con_i (m_put hl hj (by decide) e1) (fun w4 hw4 => ?_)
  have e4 : w4 = setI (setI w1 72 j 0 (fl w 0)) 40 0 37 (nI (0 + 1)) := by
    rw [hw4]
    refine setI_id ?_
    rw [setI_ne (by omega), setI_ne (by omega)]
    exact ev1
  rw [e4]
  refine up_to (P := fun c => ∀ w', Sm (GP j) w w' → w'.1 40 0 37 = nI (1 + c) → (∀ q, q < 1 + c → w'.1 72 j q = fl w q) → Z M G 0 K noX w' 21 [some (.ref (G.2.1 40 0)), some (.ref (G.2.1 72 j)), some (.int 0), some (.int (nI c)), none] []) 57 (fun c hc ih w' hs e37 hq => ?_) (fun w' hs e37 hq => b_X10_putsAll_21 hj F hk ⟨fun _ => f53 w' hs e37 hq, fun hz => absurd (by decide) hz⟩) _ t1 t2 t3
  have h57 : vp_in (nI c) 57 := vp_in_nI hc (by decide)
  refine b_X10_putsAll_21 hj F hk ⟨fun hz => absurd hz (nI_ge hc (by decide)), fun _ => ⟨h57, ?_⟩⟩
  rw [nI_clamp (by omega), ← nI_succ]
  have ev : w'.1 69 0 c = fl w (1 + c) := by
    rw [(same hs).1]
    unfold fl
    rw [if_neg (by omega), if_pos (by omega), show 1 + c - 1 = c by omega]
  rw [ev]
  obtain ⟨u1, u2, u3⟩ := step (1 + c) w' (by omega) hs hq
  refine con_i (m_put hl hj (by omega) e37) ⟨h57, fun w5 hw5 => ?_⟩
  have e5 : w5 = setI (setI w' 72 j (1 + c) (fl w (1 + c))) 40 0 37 (nI (1 + c + 1)) := by
    rw [hw5]
    refine setI_id ?_
    rw [setI_ne (by omega), setI_ne (by omega)]
    exact ev
  rw [e5]
  exact ih _ u1 u2 u3
end PA
