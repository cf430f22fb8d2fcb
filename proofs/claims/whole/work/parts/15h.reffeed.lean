/-! The reference: feed. -/
section FC
variable {l : Launch} {G : Gx} {w : Wd} {a b c d e : Int32} {s : Nat}
def GE (κ _b k : Nat) : Prop := κ = 41 ∨ (κ = 40 ∧ (k = 0 ∨ k = 1))
theorem m_feed0 (hl : l.stackTraces = false) (h0 : w.1 40 0 1 = nI s) (h6 : s ≤ 600) (hs : 600 < s + 20) : C_X10_feed l G w [.ref (G.2.1 40 0), .int a, .int b, .int c, .int d, .int e] (fun r w' => r = some (.int (-1)) ∧ w' = cl0 w) noX := by
  refine e_X10_feed hl (fun M kk hM hk F => ?_)
  rintro _ rfl
  have e20 : (setI w 40 0 0 0).1 40 0 1 + (20 : Int32) = nI (s + 20) := by rw [setI_ne (by omega), h0]; exact nI_add s 20
  rw [e20]
  exact ⟨fun hc => absurd hc (nI_ge hs (by omega)), fun _ => ⟨rfl, rfl⟩⟩
theorem m_feed (hl : l.stackTraces = false) (h0 : w.1 40 0 1 = nI s) (hs : s + 20 ≤ 600) : C_X10_feed l G w [.ref (G.2.1 40 0), .int a, .int b, .int c, .int d, .int e] (fun r w' => r = some (.int (nI (s + 20))) ∧ w'.1 40 0 1 = nI (s + 20) ∧ (∀ k, k < 20 → w'.1 41 0 (s + k) = nI (fdF a b c d e k)) ∧ (∀ i, i < s → w'.1 41 0 i = w.1 41 0 i) ∧ w'.1 40 0 0 = 0 ∧ Sm GE w w') noX := by
  refine e_X10_feed hl (fun M kk hM hk F => ?_)
  rintro _ rfl
  have e1 : (setI w 40 0 0 0).1 40 0 1 = nI s := (setI_ne (by omega)).trans h0
  have e20 : (setI w 40 0 0 0).1 40 0 1 + (20 : Int32) = nI (s + 20) := by rw [e1]; exact nI_add s 20
  rw [e20]
  refine ⟨fun _ => ?_, fun hc => absurd (nI_le hs (by decide)) hc⟩
  generalize hK : (fun r w' => r = some (Value.int (nI (s + 20))) ∧ w'.1 40 0 1 = nI (s + 20) ∧ (∀ k, k < 20 → w'.1 41 0 (s + k) = nI (fdF a b c d e k)) ∧ (∀ i, i < s → w'.1 41 0 i = w.1 41 0 i) ∧ w'.1 40 0 0 = 0 ∧ Sm GE w w' : Option Value → Wd → Prop) = K
  refine up_to (P := fun k => ∀ w', Sm GE w w' → w'.1 40 0 1 = nI (s + k) → (∀ i, i < k → w'.1 41 0 (s + i) = nI (fdF a b c d e i)) → (∀ i, i < s → w'.1 41 0 i = w.1 41 0 i) → w'.1 40 0 0 = 0 → Z M G 0 K noX w' 23 [some (.ref (G.2.1 40 0)), some (.int a), some (.int b), some (.int c), some (.int d), some (.int e), some (.int (nI k)), none] []) 20 (fun k hk2 ih w' hs' e1 hb ho ez => ?_) (fun w' hs' e1 hb ho ez => ?_) _ (Sm.rf.set (by unfold GE; omega)) e1 (fun i hi => absurd hi (Nat.not_lt_zero _)) (fun i _ => setI_ne (by omega)) (setI_eq _ _ _ _ _)
  · have f76 : ∀ v, v = fdP a b c d e k → Z M G 0 K noX w' 76 [some (.ref (G.2.1 40 0)), some (.int a), some (.int b), some (.int c), some (.int d), some (.int e), some (.int (nI k)), none] [.int v] := by
      intro v hv
      refine b_X10_feed_76 F hk ?_
      rw [e1, nI_clamp (by omega)]
      refine ⟨vp_in_nI (by omega) (by decide), fun w1 hw1 w2 hw2 => ?_⟩
      have em : nI k - nI k / (4 : Int32) * (4 : Int32) = nI (k % 4) := nI_mod (b := 4) (by omega) (by decide) (by decide)
      have h4 := hz_f5 (k % 4) (Nat.mod_lt _ (by decide))
      rw [em, ar_byte h4 (by omega)] at hw1
      have e2 : w1.1 40 0 1 = nI (s + k) := by rw [hw1, setI_ne (by omega)]; exact e1
      rw [e2, ← nI_succ] at hw2
      rw [← nI_succ]
      refine ih w2 (by rw [hw2, hw1]; exact (hs'.set (by unfold GE; omega)).set (by unfold GE; omega)) (by rw [hw2]; exact setI_eq _ _ _ _ _) (fun i hi => ?_) (fun i hi => ?_) ?_
      · rw [hw2, setI_ne (by omega), hw1]
        by_cases hq : i = k
        · rw [hq, setI_eq, hv]; rfl
        · rw [setI_ne (by omega)]
          exact hb i (by omega)
      · rw [hw2, setI_ne (by omega), hw1, setI_ne (by omega)]
        exact ho i hi
      · rw [hw2, setI_ne (by omega), hw1, setI_ne (by omega)]
        exact ez
    have c4 : ((4 : Int32) ≤ nI k) ↔ 4 ≤ k := nI_leI (show 4 < 2 ^ 31 by decide) (by omega)
    have c8 : ((8 : Int32) ≤ nI k) ↔ 8 ≤ k := nI_leI (show 8 < 2 ^ 31 by decide) (by omega)
    have c12 : ((12 : Int32) ≤ nI k) ↔ 12 ≤ k := nI_leI (show 12 < 2 ^ 31 by decide) (by omega)
    have c16 : ((16 : Int32) ≤ nI k) ↔ 16 ≤ k := nI_leI (show 16 < 2 ^ 31 by decide) (by omega)
    refine b_X10_feed_23 F hk ⟨fun hc => absurd hc (nI_ge hk2 (by decide)), fun _ => ?_⟩
    rw [c4, c8, c12, c16]
    unfold fdP at f76
    refine ⟨fun h4 => ⟨fun h8 => ⟨fun h12 => ⟨fun h16 => f76 _ ?_, fun h16 => f76 _ ?_⟩, fun h12 => f76 _ ?_⟩, fun h8 => f76 _ ?_⟩, fun h4 => f76 _ ?_⟩
    · rw [if_neg (by omega), if_neg (by omega), if_neg (by omega), if_neg (by omega)]
    · rw [if_neg (by omega), if_neg (by omega), if_neg (by omega), if_pos (by omega)]
    · rw [if_neg (by omega), if_neg (by omega), if_pos (by omega)]
    · rw [if_neg (by omega), if_pos (by omega)]
    · rw [if_pos (by omega)]
  · refine b_X10_feed_23 F hk ⟨fun _ => ?_, fun hc => absurd (by decide) hc⟩
    rw [← hK]
    exact ⟨by rw [e1], e1, hb, ho, ez, hs'⟩
end FC
