/-! The class: the law is worked out, notes are sung. -/
/-- garbage of a law's working out -/
def G2 (κ _j _k : Nat) : Prop := κ = 33 ∨ κ = 37
/-- and the cells of scene j -/
def GJ (j κ b _k : Nat) : Prop := κ = 33 ∨ κ = 37 ∨ (b = j ∧ (κ = 5 ∨ (17 ≤ κ ∧ κ ≤ 21)))
theorem G2_GJ {j : Nat} : ∀ κ b k, G2 κ b k → GJ j κ b k := by
  intro κ b k h
  unfold G2 at h
  unfold GJ
  omega
section CS
variable {l : Launch} {G : Gx} {w : Wd}
theorem c_joined (hl : l.stackTraces = false) {a b c : Int32} : C_X2_joined l G w [.int a, .int b, .int c] (fun r w' => r = some (.int (jn a b c)) ∧ w' = w) noX := by
  refine e_X2_joined hl (fun M kk hM hk F => ⟨?_, ?_, ?_, ?_, ?_, ?_, ?_⟩)
  · rintro rfl
    refine ⟨fun h => ⟨?_, rfl⟩, fun h => ⟨?_, rfl⟩⟩
    · have h2 : ¬ b < c := Int32.not_lt.mpr h
      simp [jn, h2]
    · have h2 : b < c := Int32.not_le.mp h
      simp [jn, h2]
  · rintro rfl
    refine ⟨fun h => ⟨h, ?_, rfl⟩, fun h => ⟨?_, rfl⟩⟩
    · simp only [jn, h, if_false]; rfl
    · simp only [jn, Classical.not_not.mp h]; rfl
  · rintro rfl; exact ⟨rfl, rfl⟩
  · rintro rfl; exact ⟨rfl, rfl⟩
  · rintro rfl; exact ⟨rfl, rfl⟩
  · rintro rfl
    refine ⟨fun h => ⟨h, ?_, rfl⟩, fun h => ⟨?_, rfl⟩⟩
    · simp only [jn, h, if_false]; rfl
    · simp only [jn, Classical.not_not.mp h]; rfl
  · rintro ⟨h1, h2, h3, h4, h5, h6⟩
    refine ⟨fun h => ⟨?_, rfl⟩, fun h => ⟨?_, rfl⟩⟩
    · have h7 : ¬ c < b := Int32.not_lt.mpr h
      simp only [jn, h1, h2, h3, h4, h5, h6, h7, if_false]
    · have h7 : c < b := Int32.not_le.mp h
      simp only [jn, h1, h2, h3, h4, h5, h6, h7, if_false, if_true]
theorem c_weigh (hl : l.stackTraces = false) {r : Nat} (hr : r < 2) {E : Ex} (hE : LawC w r E) : C_X2_weigh l G w [.ref (G.2.1 8 r)] (fun v w' => v = some (.int (clampE (E (w.1 33 r)))) ∧ Sm (fun κ _ _ => κ = 37) w w') noX := by
  obtain ⟨n, h1, h2, h3, h4, h5⟩ := hE
  refine e_X2_weigh hr hl (fun M kk hM hk F => ?_)
  subst hM
  have key : ∀ i, i ≤ n → ∀ w' : Wd, Sm (fun κ _ _ => κ = 37) w w' → (∀ q, q < i → w'.1 37 r q = lvl (w.1 34 r) (w.1 35 r) (w.1 36 r) (w.1 33 r) i q) →
      Z M G 0 (fun v w' => v = some (.int (clampE (E (w.1 33 r)))) ∧ Sm (fun κ _ _ => κ = 37) w w') noX w' 4 [some (.ref (G.2.1 8 r)), some (.int (if i = 0 then 0 else lvl (w.1 34 r) (w.1 35 r) (w.1 36 r) (w.1 33 r) i (i - 1))), some (.int (nI i)), none] [] := by
    intro i hi
    refine up_from (P := fun i => ∀ w' : Wd, Sm (fun κ _ _ => κ = 37) w w' → (∀ q, q < i → w'.1 37 r q = lvl (w.1 34 r) (w.1 35 r) (w.1 36 r) (w.1 33 r) i q) →
      Z M G 0 (fun v w' => v = some (.int (clampE (E (w.1 33 r)))) ∧ Sm (fun κ _ _ => κ = 37) w w') noX w' 4 [some (.ref (G.2.1 8 r)), some (.int (if i = 0 then 0 else lvl (w.1 34 r) (w.1 35 r) (w.1 36 r) (w.1 33 r) i (i - 1))), some (.int (nI i)), none] []) i n hi ?_ ?_
    · intro i _ hin ih w' hs hv
      have e : ∀ κ k, κ ≠ 37 → w'.1 κ r k = w.1 κ r k := fun κ k q => hs.1 κ r k q
      have e34 := e 34 i (by decide)
      have e35 := e 35 i (by decide)
      have e36 := e 36 i (by decide)
      have fin : ∀ (w2 : Wd) (v : Int32), w2 = setI w' 37 r i v → v = lvl (w.1 34 r) (w.1 35 r) (w.1 36 r) (w.1 33 r) (i + 1) i →
          Z M G 0 (fun v w' => v = some (.int (clampE (E (w.1 33 r)))) ∧ Sm (fun κ _ _ => κ = 37) w w') noX w2 4 [some (.ref (G.2.1 8 r)), some (.int v), some (.int (nI i + 1)), none] [] := by
        intro w2 v hw2 hv2
        have h := ih w2 (by rw [hw2]; exact hs.set rfl) (fun q hq => ?_)
        · rw [if_neg (by omega), Nat.add_sub_cancel, ← hv2, nI_succ] at h
          exact h
        · rw [hw2, setI_1]
          by_cases hqi : q = i
          · rw [if_pos ⟨rfl, rfl, hqi⟩, hqi, hv2]
          · rw [if_neg (fun z => hqi z.2.2), hv q (by omega), lvl_lt (by omega)]
      refine b_X2_weigh_4 hr F hk ⟨fun hc => ?_, fun _ => ⟨vp_in_nI (show i < 150 by omega) (by decide), ?_⟩⟩
      · rw [e 8 5 (by decide), h3] at hc
        exact absurd hc (nI_ge hin (by omega))
      · rw [nI_clamp (by omega), e34, e35, e36]
        have hin2 : vp_in (nI i) 150 := vp_in_nI (show i < 150 by omega) (by decide)
        rcases h4 i hin with ⟨k, hk8, hkd⟩ | hkd | ⟨hkd, ⟨p, hp, ha⟩, q, hq, hb⟩
        · rw [hkd]
          have hlt : nI k < 8 := nI_lt (show k < 8 from hk8) (by decide)
          refine ⟨fun hc => absurd hc (Int32.not_le.mpr hlt), fun _ => ⟨vp_in_nI hk8 (by decide), hin2, fun w5 hw5 => ?_⟩⟩
          rw [nI_clamp (by omega), e 33 k (by decide)] at hw5 ⊢
          refine fin w5 _ hw5 ?_
          rw [lvl_at, hkd, if_pos hlt, nI_clamp (by omega)]
        · rw [hkd]
          refine ⟨fun _ => ⟨fun hc => absurd rfl hc, fun _ => ⟨hin2, hin2, fun w5 hw5 => ?_⟩⟩, fun hc => absurd (by decide) hc⟩
          refine fin w5 _ hw5 ?_
          rw [lvl_at, hkd]
          rfl
        · refine ⟨fun _ => ⟨fun hne => ⟨hin2, ?_, hin2, ?_, ?_⟩, fun hc => ?_⟩, fun hc => absurd (Int32.le_of_lt hkd) hc⟩
          · rw [ha]; exact vp_in_nI (show p < 150 by omega) (by decide)
          · rw [hb]; exact vp_in_nI (show q < 150 by omega) (by decide)
          · refine con_i (c_joined hl) ⟨hin2, fun w5 hw5 => fin w5 _ hw5 ?_⟩
            rw [lvl_at, if_neg (fun z => absurd (Int32.lt_trans hkd z) (by decide)), if_neg hne, ha, hb, nI_clamp (by omega), nI_clamp (by omega), hv p hp, hv q hq]
          · exact absurd (Classical.not_not.mp hc) (fun z => by rw [z] at hkd; exact absurd hkd (by decide))
    · intro w' hs hv
      refine b_X2_weigh_4 hr F hk ⟨fun _ => ?_, fun hc => ?_⟩
      · rw [if_neg (by omega), ← h5]
        refine ⟨fun h => ⟨fun h2 => ⟨?_, hs⟩, fun h2 => ⟨?_, hs⟩⟩, fun h => ⟨?_, hs⟩⟩
        · unfold clampE
          rw [if_neg (Int32.not_lt.mpr h), if_neg (Int32.not_lt.mpr h2)]
        · unfold clampE
          rw [if_neg (Int32.not_lt.mpr h), if_pos (Int32.not_le.mp h2)]
        · unfold clampE
          rw [if_pos (Int32.not_le.mp h)]
      · rw [hs.1 8 r 5 (by show ¬ 8 = 37; decide), h3] at hc
        exact absurd (nI_le (Nat.le_refl n) (by omega)) hc
  exact key 0 (Nat.zero_le _) w Sm.rf (fun q hq => absurd hq (Nat.not_lt_zero _))
/-- what the stage stands on: the roll and the law that are in use -/
def StC (w : Wd) (T : Tx) (E : Ex) : Prop := w.2.2 2 0 0 < 2 ∧ w.2.2 2 0 1 < 2 ∧ RollC w (w.2.2 2 0 0) T ∧ LawC w (w.2.2 2 0 1) E
theorem StC.mv {w w' : Wd} {T : Tx} {E : Ex} {S : Nat → Nat → Nat → Prop} (h : StC w T E) (hs : Sm S w w') (hn : ∀ κ b k, κ = 7 ∨ (25 ≤ κ ∧ κ ≤ 32) ∨ κ = 8 ∨ (34 ≤ κ ∧ κ ≤ 36) → ¬ S κ b k) : StC w' T E := by
  obtain ⟨h1, h2, h3, h4⟩ := h
  unfold StC
  rw [hs.2.2]
  exact ⟨h1, h2, h3.mv hs (fun κ k q => hn κ _ k (by omega)), h4.mv hs (fun κ k q => hn κ _ k (by omega))⟩
theorem c_breathFor (hl : l.stackTraces = false) {T : Tx} {E : Ex} {σ : Sg} {j n s : Nat} (hj : j < 69) (hT : Tok T) (hst : StC w T E) (hsc : SceneC w j σ (tN T)) (hn : n < tN T) (hs : s < tS T) :
    C_X7_breathFor l G w [.ref (G.2.1 2 0), .ref (G.2.1 5 j), .int (nI n), .int (nI s)] (fun r w' => r = some (.int (tk T E σ n s)) ∧ Sm G2 w w') noX := by
  obtain ⟨hr0, hr1, hR, hE⟩ := hst
  obtain ⟨s1, s2, s3, s4, s5⟩ := hsc
  have hS7 := hT.1
  have hN20 := hT.2.1
  have hin : vp_in (nI n) 20 := vp_in_nI (by omega) (by decide)
  have his : vp_in (nI s) 7 := vp_in_nI (by omega) (by decide)
  have cn : (nI n).toNatClampNeg = n := nI_clamp (by omega)
  have cs : (nI s).toNatClampNeg = s := nI_clamp (by omega)
  refine e_X7_breathFor hj hl (fun M kk hM hk F => ?_)
  subst hM
  refine ⟨hin, ?_⟩
  rintro _ rfl
  refine ⟨his, ?_⟩
  rintro _ rfl
  refine ⟨his, ?_⟩
  rintro _ rfl
  refine ⟨his, ?_⟩
  rintro _ rfl
  rintro _ rfl
  refine ⟨hin, ?_⟩
  rintro _ rfl
  rintro _ rfl
  intro w11 hw11
  have hsm : Sm (fun κ _ _ => κ = 33) w w11 := by
    rw [hw11]
    exact (((((((Sm.rf.set rfl).set rfl).set rfl).set rfl).set rfl).set rfl).set rfl).set rfl
  have h22 : w11.2.2 = w.2.2 := hsm.2.2
  have hE' : LawC w11 (w.2.2 2 0 1) E := hE.mv hsm (fun κ k q => by omega)
  have hf : ∀ k, k < 8 → w11.1 33 (w.2.2 2 0 1) k = fct T σ n s k := by
    intro k hk8
    rw [hw11]
    rw [cn, cs]
    rcases (show k = 0 ∨ k = 1 ∨ k = 2 ∨ k = 3 ∨ k = 4 ∨ k = 5 ∨ k = 6 ∨ k = 7 by omega) with rfl | rfl | rfl | rfl | rfl | rfl | rfl | rfl
    · simp only [setI_1, setI_2]; simp [fct, (hR.2.2.2.2.2.1 n hn).2.1]
    · simp only [setI_1, setI_2]; simp [fct, (hR.2.2.2.2.1 s hs).2.1]
    · simp only [setI_1, setI_2]; simp [fct, (s3 s (by omega)).1]
    · simp only [setI_1, setI_2]; simp [fct, (s3 s (by omega)).2.1]
    · simp only [setI_1, setI_2]; simp [fct]
    · simp only [setI_1, setI_2]; simp [fct, s4 n hn]
    · simp only [setI_1, setI_2]; simp [fct, s1]
    · simp only [setI_1, setI_2]; simp [fct]
  rw [h22]
  refine con_iP (c_weigh hl hr1 hE') (fun w' hw' => ⟨?_, ?_⟩)
  · rw [hE.ok _ _ hf]; rfl
  · exact (hsm.mono (fun κ b k q => Or.inl q)).tr (hw'.mono (fun κ b k q => Or.inr q))
end CS
