/-! The class: a text is opened; choir. -/
def okT (p0 : Int32) (most sz : Nat) : Bool := okB p0 0 (nI most) && decide (p0 ≤ nI sz)
theorem okT_of {p0 : Int32} {most sz : Nat} (h : okT p0 most sz = true) (hm : most ≤ 600) (hz : sz ≤ 600) : ∃ n, n ≤ most ∧ n ≤ sz ∧ p0 = nI n := by
  unfold okT okB at h
  simp only [Bool.and_eq_true, decide_eq_true_eq] at h
  obtain ⟨i, hi, rfl⟩ := nI_of (Int32.not_lt.mpr h.1.1)
  exact ⟨i, (nI_leI hi (by omega)).mp h.1.2, (nI_leI hi (by omega)).mp h.2, rfl⟩
theorem okT_n {n most sz : Nat} (hm : most ≤ 600) (hz : sz ≤ 600) (h1 : n ≤ most) (h2 : n ≤ sz) : okT (nI n) most sz = true := by
  unfold okT okB
  simp only [Bool.and_eq_true, decide_eq_true_eq]
  exact ⟨⟨nI_pos' (by omega), nI_le h1 (by omega)⟩, nI_le h2 (by omega)⟩
def G1 (κ _b _k : Nat) : Prop := κ = 1
theorem ob_congr_0 {p : Nat → Bool} (h : ∀ i, p i = false) {n : Nat} : ob p n = 0 := by
  induction n with
  | zero => rfl
  | succ n ih => rw [ob, h n, ih]; rfl
section YC
variable {l : Launch} {G : Gx} {w : Wd} {b : Nat → Nat} {n sz most : Nat} {p0 : Int32}
theorem c_open (hl : l.stackTraces = false) (hn : n ≤ 600) (hb : ∀ i, i < n → b i < 256) (h10 : ∀ i, i < n → w.1 10 0 i = sb8 (b i)) : C_X8_open l G w [.ref (G.2.1 1 0), .int (nI n)] (fun r w' => r = none ∧ RC w' b n (0, 0) ∧ w'.1 1 0 0 = 0 ∧ Sm G1 w w') noX := by
  refine e_X8_open hl (fun M kk hM hk F => ?_)
  intro w1 hw1 w2 hw2 w3 hw3 w4 hw4 w5 hw5 w6 hw6
  have hs : Sm G1 w w6 := by
    rw [hw6, hw5, hw4, hw3, hw2, hw1]
    exact (((((Sm.rf.set rfl).set rfl).set rfl).set rfl).set rfl).set rfl
  refine ⟨rfl, ⟨hn, hb, ?_, fun i hi => (hs.1 10 0 i (by unfold G1; omega)).trans (h10 i hi), ⟨by show (0 : Nat) ≤ 3; decide, by show 0 ≤ n; omega⟩, ?_, fun _ => ⟨?_, ?_⟩, fun z => absurd rfl z⟩, ?_, hs⟩
  · simp [hw6, hw5, hw4, hw3, hw2, hw1, setI_1]
  · simp [hw6, hw5, hw4, hw3, hw2, hw1, setI_1]; rfl
  · simp [hw6, hw5, hw4, hw3, hw2, hw1, setI_1]
  · simp [hw6, hw5, hw4, hw3, hw2, hw1, setI_1]; rfl
  · simp [hw6, hw5, hw4, hw3, hw2, hw1, setI_1]
theorem c_openX (hl : l.stackTraces = false) (h0 : w.1 1 0 0 = nI sz) (hx : okT p0 most sz = false) : C_X9_openText l G w [.ref (G.2.1 0 0), .int p0, .int (nI most)] (fun _ _ => False) (fun E w' => E = nIae ∧ w' = bumpT w) := by
  refine e_X9_openText hl (fun M kk hM hk F => ?_)
  subst hM
  have dem : ∀ {Fm : Wd → Prop}, C_X9_demand (mL M) G w [.ref (G.2.1 0 0), .int 0] (fun r w' => r = none ∧ Fm w') (fun E w' => E = nIae ∧ w' = bumpT w) := fun {Fm} => con_dem (b := false) hl (fun h => absurd h (by decide)) (fun _ => ⟨rfl, rfl⟩)
  refine con_i (c_within hl) ?_
  rw [bI_t, h0]
  have go : Z M G 0 (fun _ _ => False) (fun E w' => E = nIae ∧ w' = bumpT w) w 25 [some (.ref (G.2.1 0 0)), some (.int p0), none] [.ref (G.2.1 0 0)] := b_X9_openText_25 F hk (b_X9_openText_26 F hk dem)
  refine ⟨fun _ => go, fun h1 => ⟨fun _ => go, fun h2 => ?_⟩⟩
  exfalso
  have h1 : (decide (0 ≤ p0) && decide (p0 ≤ nI most)) = true := by
    cases hq : (decide (0 ≤ p0) && decide (p0 ≤ nI most)) with
    | false => exact absurd hq h1
    | true => rfl
  unfold okT okB at hx
  rw [h1, decide_eq_true (Int32.not_lt.mp h2)] at hx
  exact absurd hx (by decide)
theorem c_openT (hl : l.stackTraces = false) (h0 : w.1 1 0 0 = nI sz) (hm : most ≤ 600) (hz : sz ≤ 600) (h1 : n ≤ most) (h2 : n ≤ sz) (hb : ∀ i, i < n → b i < 256) (h10 : ∀ i, i < n → w.1 10 0 i = sb8 (b i)) : C_X9_openText l G w [.ref (G.2.1 0 0), .int (nI n), .int (nI most)] (fun r w' => r = none ∧ RC w' b n (0, 0) ∧ w'.1 1 0 0 = 0 ∧ Sm G1 w w') noX := by
  refine e_X9_openText hl (fun M kk hM hk F => ?_)
  subst hM
  refine con_i (c_within hl) ?_
  have e1 : (decide ((0 : Int32) ≤ nI n) && decide (nI n ≤ nI most)) = true := by
    rw [decide_eq_true (nI_pos' (by omega)), decide_eq_true (nI_le h1 (by omega))]; rfl
  rw [e1, h0]
  refine ⟨fun hc => absurd hc (by decide), fun _ => ⟨fun hc => absurd hc (nI_nlt h2 (by omega)), fun _ => ?_⟩⟩
  refine b_X9_openText_26 F hk ?_
  refine con_dem (b := true) hl (fun _ => ?_) (fun h => absurd h (by decide))
  exact con_vP (c_open hl (by omega) hb h10) (fun w4 k4 => ⟨rfl, k4⟩)
/-- what a new beginning writes: life 0, the rule r1's nodes, the book q, the counters -/
def GA (r1 q κ b k : Nat) : Prop := GL 0 κ b k ∨ (b = r1 ∧ (κ = 8 ∨ (34 ≤ κ ∧ κ ≤ 36))) ∨ (κ = 9 ∧ b = q) ∨ (κ = 0 ∧ (k = 12 ∨ k = 13))
theorem c_beginAnew (hl : l.stackTraces = false) {T : Tx} (hT : Tok T) (hr0 : w.2.2 2 0 0 < 2) (hr1 : w.2.2 2 0 1 < 2) (hq : w.2.2 0 0 10 < 2) (hR : RollC w (w.2.2 2 0 0) T) : C_X9_beginAnew l G w [.ref (G.2.1 0 0)] (fun r w' => r = none ∧ StC w' T E00 ∧ LifeC w' 0 (sg0 T) [] (tN T) ∧ BookC w' (w.2.2 0 0 10) [] ∧ w'.1 0 0 12 = 0 ∧ w'.1 0 0 13 = 0 ∧ Sm (GA (w.2.2 2 0 1) (w.2.2 0 0 10)) w w') noX := by
  refine e_X9_beginAnew hl (fun M kk hM hk F => ?_)
  subst hM
  refine con_vP (c_plain hl hr1) (fun w3 k3 => ?_)
  rw [k3.2.2.2]
  refine con_v (c_clear hl hq) ?_
  have e6 : (setI (setI w3 9 (w.2.2 0 0 10) 0 0) 9 (w.2.2 0 0 10) 1 0).2.2 = w.2.2 := k3.2.2.2
  rw [e6]
  generalize hw6 : setI (setI w3 9 (w.2.2 0 0 10) 0 0) 9 (w.2.2 0 0 10) 1 0 = w6 at *
  have hs36 : Sm (fun κ b _ => κ = 9 ∧ b = w.2.2 0 0 10) w3 w6 := by rw [← hw6]; exact (Sm.rf.set ⟨rfl, rfl⟩).set ⟨rfl, rfl⟩
  have R6 : RollC w6 (w.2.2 2 0 0) T := (hR.mv k3.2 (fun κ k q => by omega)).mv hs36 (fun κ k q => by omega)
  refine con_vP (c_lifeBegin hl hr0 (j := 0) (by decide) hT R6) (fun w9 k9 w10 hw10 w11 hw11 => ?_)
  have hs911 : Sm (fun κ _ k => κ = 0 ∧ (k = 12 ∨ k = 13)) w9 w11 := by rw [hw11, hw10]; exact (Sm.rf.set (by omega)).set (by omega)
  have hs69 := k9.2
  have s3 : Sm (GA (w.2.2 2 0 1) (w.2.2 0 0 10)) w w3 := k3.2.mono (fun κ b k q => Or.inr (Or.inl q))
  have s6 := s3.tr (hs36.mono (S' := GA (w.2.2 2 0 1) (w.2.2 0 0 10)) (fun κ b k q => Or.inr (Or.inr (Or.inl q))))
  have s9 := s6.tr (hs69.mono (S' := GA (w.2.2 2 0 1) (w.2.2 0 0 10)) (fun κ b k q => Or.inl q))
  have s11 := s9.tr (hs911.mono (S' := GA (w.2.2 2 0 1) (w.2.2 0 0 10)) (fun κ b k q => Or.inr (Or.inr (Or.inr q))))
  refine ⟨rfl, ⟨by rw [s11.2.2]; exact hr0, by rw [s11.2.2]; exact hr1, ?_, ?_⟩, ?_, ⟨?_, ?_⟩, ?_, ?_, s11⟩
  · rw [s11.2.2]
    exact (R6.mv hs69 (fun κ k q => by unfold GL; omega)).mv hs911 (fun κ k q => by omega)
  · rw [s11.2.2]
    exact ((k3.1.mv hs36 (fun κ k q => by omega)).mv hs69 (fun κ k q => by unfold GL; omega)).mv hs911 (fun κ k q => by omega)
  · exact k9.1.mv hs911 (fun k => by omega) (fun κ b k q1 q2 q3 => by omega)
  · rw [hs911.1 9 _ 0 (by omega), hs69.1 9 _ 0 (by unfold GL; omega), ← hw6, setI_ne (by omega), setI_eq]
    exact (ob_congr_0 (fun _ => rfl)).symm
  · rw [hs911.1 9 _ 1 (by omega), hs69.1 9 _ 1 (by unfold GL; omega), ← hw6, setI_eq]
    exact (ob_congr_0 (fun _ => rfl)).symm
  · rw [hw11, setI_ne (by omega), hw10]; exact setI_eq _ _ _ _ _
  · rw [hw11]; exact setI_eq _ _ _ _ _
theorem c_choirX (hl : l.stackTraces = false) (h0 : w.1 1 0 0 = nI sz) (hx : okT p0 600 sz = false) : C_X9_choir l G w [.ref (G.2.1 0 0), .int p0] (fun _ _ => False) (fun E w' => E = nIae ∧ w' = bumpT w) := by
  refine e_X9_choir hl (fun M kk hM hk F => ?_)
  subst hM
  exact con_mono (c_openX hl (most := 600) h0 hx) (fun _ _ h => h.elim) (fun _ _ h => h)
/-- ints and longs stay, but for S -/
def Sn (S : Nat → Nat → Nat → Prop) (w w' : Wd) : Prop := (∀ κ j k, ¬ S κ j k → w'.1 κ j k = w.1 κ j k) ∧ (∀ κ j k, κ ≠ 75 → w'.2.1 κ j k = w.2.1 κ j k)
theorem Sm.sn {S : Nat → Nat → Nat → Prop} {w w' : Wd} (h : Sm S w w') : Sn S w w' := ⟨h.1, h.2.1⟩
theorem Sn.mono {S S' : Nat → Nat → Nat → Prop} {w w1 : Wd} (h : Sn S w w1) (hs : ∀ κ j k, S κ j k → S' κ j k) : Sn S' w w1 := ⟨fun κ j k q => h.1 κ j k (fun z => q (hs κ j k z)), h.2⟩
theorem Sn.tr {S : Nat → Nat → Nat → Prop} {w w1 w2 : Wd} (h : Sn S w w1) (h2 : Sn S w1 w2) : Sn S w w2 := ⟨fun κ j k q => (h2.1 κ j k q).trans (h.1 κ j k q), fun κ j k q => (h2.2 κ j k q).trans (h.2 κ j k q)⟩
/-- all that choir may write -/
def GH (κ b k : Nat) : Prop := κ = 1 ∨ κ = 7 ∨ (25 ≤ κ ∧ κ ≤ 32) ∨ GL 0 κ b k ∨ (κ = 8 ∨ (34 ≤ κ ∧ κ ≤ 36)) ∨ κ = 9 ∨ (κ = 0 ∧ (k = 12 ∨ k = 13))
/-- two turning references change places -/
def swP (w : Wd) (κ j k κ' j' k' : Nat) : Nat → Nat → Nat → Nat := fun a b c => if a = κ' ∧ b = j' ∧ c = k' then w.2.2 κ j k else if a = κ ∧ b = j ∧ c = k then w.2.2 κ' j' k' else w.2.2 a b c
theorem c_choir (hl : l.stackTraces = false) (h0 : w.1 1 0 0 = nI sz) (hz : sz ≤ 600) (h2 : n ≤ sz) (hb : ∀ i, i < n → b i < 256) (h10 : ∀ i, i < n → w.1 10 0 i = sb8 (b i)) (p8 : w.2.2 0 0 8 < 2) (p0 : w.2.2 2 0 0 < 2) (p1 : w.2.2 2 0 1 < 2) (p10 : w.2.2 0 0 10 < 2) :
    C_X9_choir l G w [.ref (G.2.1 0 0), .int (nI n)] (fun r w' => w'.1 1 0 0 = 0 ∧
      ((chF b n).1.1 ≠ 0 → r = some (.int (nI (chF b n).1.1 - 10)) ∧ w'.1 1 0 2 = nI (chF b n).1.2 ∧ Sm (fun κ b _ => κ = 1 ∨ (b = w.2.2 0 0 8 ∧ (κ = 7 ∨ (25 ≤ κ ∧ κ ≤ 32)))) w w') ∧
      ((chF b n).1.1 = 0 → r = some (.int (nI (tS (chF b n).2))) ∧ w'.1 1 0 2 = -1 ∧ StC w' (chF b n).2 E00 ∧ LifeC w' 0 (sg0 (chF b n).2) [] (tN (chF b n).2) ∧ BookC w' (w.2.2 0 0 10) [] ∧ w'.1 0 0 12 = 0 ∧ w'.1 0 0 13 = 0 ∧ w'.2.2 = swP w 2 0 0 0 0 8 ∧ Sn GH w w')) noX := by
  refine e_X9_choir hl (fun M kk hM hk F => ?_)
  subst hM
  refine con_vP (c_openT hl (most := 600) h0 (by decide) hz (by omega) h2 hb h10) (fun w2 k2 => ?_)
  obtain ⟨k21, k22, k23⟩ := k2
  rw [k23.2.2]
  refine con_vP (c_rollRead hl p8 k21) (fun w5 k5 => ?_)
  obtain ⟨k51, k52, k53⟩ := k5
  have e22 : w5.2.2 = w.2.2 := k53.2.2.trans k23.2.2
  have e10 : w5.1 1 0 0 = 0 := (k53.1 1 0 0 (by unfold GY GT; omega)).trans k22
  refine con_i (c_fine hl k51) ?_
  rw [e22]
  refine ⟨fun hc w10 hw10 w11 hw11 => ?_, fun hc => ?_⟩
  · have hok : (chF b n).1.1 = 0 := by
      by_cases hq : (chF b n).1.1 = 0
      · exact hq
      · exact absurd (by rw [decide_eq_false hq]; rfl) hc
    have hT := chL_tok 62 0 T00 (0, 0) Tok00 hok
    have e11 : w11.1 = w5.1 := by rw [hw11, hw10]; rfl
    have e11' : w11.2.1 = w5.2.1 := by rw [hw11, hw10]; rfl
    have q11 : w11.2.2 = swP w 2 0 0 0 0 8 := by
      rw [hw11, hw10]
      funext x y z
      show (if x = 0 ∧ y = 0 ∧ z = 8 then w.2.2 2 0 0 else if x = 2 ∧ y = 0 ∧ z = 0 then w.2.2 0 0 8 else w5.2.2 x y z) = _
      rw [e22]
      rfl
    have a0 : w11.2.2 2 0 0 = w.2.2 0 0 8 := by rw [q11]; rfl
    have a1 : w11.2.2 2 0 1 = w.2.2 2 0 1 := by rw [q11]; rfl
    have a10 : w11.2.2 0 0 10 = w.2.2 0 0 10 := by rw [q11]; rfl
    have R11 : RollC w11 (w11.2.2 2 0 0) (chF b n).2 := by
      rw [a0]
      have := k52 hok
      unfold RollC at this ⊢
      rw [e11]
      exact this
    refine con_vP (c_beginAnew hl hT (by rw [a0]; exact p8) (by rw [a1]; exact p1) (by rw [a10]; exact p10) R11) (fun w13 k13 => ?_)
    obtain ⟨z1, z2, z3, z4, z5, z6⟩ := k13
    rw [a10] at z3
    have s13 : Sn GH w w13 := by
      have t1 : Sn GH w w5 := (k23.sn.mono (S' := GH) (fun κ b k q => Or.inl q)).tr (k53.sn.mono (fun κ b k q => by unfold GY GT at q; unfold GH; omega))
      have t2 : Sn GH w5 w11 := ⟨fun κ j k _ => by rw [e11], fun κ j k _ => by rw [e11']⟩
      have t3 : Sn GH w11 w13 := z6.sn.mono (fun κ b k q => by
        unfold GA at q
        unfold GH
        rcases q with q | q | q | q
        · exact Or.inr (Or.inr (Or.inr (Or.inl q)))
        · omega
        · omega
        · omega)
      exact (t1.tr t2).tr t3
    have hr13 : w13.1 7 (w13.2.2 2 0 0) 0 = nI (tS (chF b n).2) := z1.2.2.1.1
    refine ⟨?_, fun hq => absurd hok hq, fun _ => ⟨by rw [hr13], ?_, z1, z2, z3, z4, z5, z6.2.2.trans q11, s13⟩⟩
    · rw [z6.1 1 0 0 (by unfold GA GL; omega), e11]
      exact e10
    · rw [z6.1 1 0 2 (by unfold GA GL; omega), e11]
      exact (k51.2.2.2.2.2.2.1 hok).1
  · have hok : (chF b n).1.1 ≠ 0 := by
      intro hq
      exact absurd (Classical.not_not.mp hc) (by rw [decide_eq_true hq]; decide)
    refine ⟨e10, fun _ => ⟨by rw [k51.2.2.2.2.2.1], (k51.2.2.2.2.2.2.2 hok).1, ?_⟩, fun hq => absurd hq hok⟩
    exact (k23.mono (S' := fun κ b _ => κ = 1 ∨ (b = w.2.2 0 0 8 ∧ (κ = 7 ∨ (25 ≤ κ ∧ κ ≤ 32)))) (fun κ b k q => Or.inl q)).tr (k53.mono (fun κ b k q => by unfold GY GT at q; omega))
end YC
