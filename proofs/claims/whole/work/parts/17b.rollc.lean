/-! The class reads a roll. -/
def GY (r κ b k : Nat) : Prop := GT κ b k ∨ (b = r ∧ (κ = 7 ∨ (25 ≤ κ ∧ κ ≤ 32)))
theorem GT_GY {r : Nat} : ∀ κ b k, GT κ b k → GY r κ b k := fun _ _ _ h => Or.inl h
theorem GT3_GY {r : Nat} : ∀ κ b k, GT3 κ b k → GY r κ b k := fun _ _ _ h => Or.inl (GT3_GT _ _ _ h)
theorem Sm.oth {S : Nat → Nat → Nat → Prop} {w w' : Wd} (h : Sm S w w') (hS : ∀ κ b k, S κ b k → κ = 1) {κ b k : Nat} (hκ : κ ≠ 1) : w'.1 κ b k = w.1 κ b k := h.1 κ b k (fun z => hκ (hS _ _ _ z))
theorem GT_1 : ∀ κ b k, GT κ b k → κ = 1 := fun _ _ _ h => h.1
theorem GT3_1 : ∀ κ b k, GT3 κ b k → κ = 1 := fun _ _ _ h => h.1
theorem RC.row {w w' : Wd} {b : Nat → Nat} {n : Nat} {s : Rd} {κ j k : Nat} {v : Int32} (h : RC w b n s) (hw : w' = setI w κ j k v) (h1 : κ ≠ 1) (h10 : κ ≠ 10) : RC w' b n s :=
  h.mv (S := fun a _ _ => a = κ) (by rw [hw]; exact Sm.rf.set rfl) (fun _ _ _ z => h1 z.symm) (fun _ z => h10 z.symm)
theorem figC_ok {b : Nat → Nat} {n lo H : Nat} {s : Rd} (h : (figF b n lo H s).1.1 = 0) : figC b n lo H s = (figF b n lo H s).2 := if_pos h
section YA
variable {l : Launch} {G : Gx} {w : Wd} {b : Nat → Nat} {n a r : Nat} {s : Rd} {T : Tx} {room : Bool}
theorem c_readSinger (hl : l.stackTraces = false) (hr : r < 2) (h : RC w b n s) (ha : a ≤ n) (h4 : w.1 1 0 4 = nI a) (hT : Tok T) (hR : RollC w r T) : C_X5_readSinger l G w [.ref (G.2.1 7 r), .ref (G.2.1 1 0), .int (bI room)] (fun v w' => v = none ∧ RC w' b n (siF b n room T a s).1 ∧ ((siF b n room T a s).1.1 = 0 → s.1 = 0 → RollC w' r (siF b n room T a s).2) ∧ Sm (GY r) w w') noX := by
  have hS7 := hT.1
  have e7 := hR.1
  refine e_X5_readSinger hr hl (fun M kk hM hk F => ?_)
  subst hM
  have bad : (room = false ∨ 7 ≤ tS T) → Z M G 0 (fun v w' => v = none ∧ RC w' b n (siF b n room T a s).1 ∧ ((siF b n room T a s).1.1 = 0 → s.1 = 0 → RollC w' r (siF b n room T a s).2) ∧ Sm (GY r) w w') noX w 13 [none, some (.ref (G.2.1 1 0)), none] [] := by
    intro hc
    refine b_X5_readSinger_13 F hk ?_
    rw [h4]
    refine con_vP (c_fail hl h (f := 3) (by decide) (by decide) ha) (fun w2 k2 => ⟨rfl, ?_, fun ho h0 => ?_, k2.2.mono GT3_GY⟩)
    · rw [siF, if_pos hc]; exact k2.1
    · exfalso
      rw [siF, if_pos hc, flF, if_neg (fun z => z h0)] at ho
      exact absurd ho (by show ¬ (3 : Nat) = 0; decide)
  refine ⟨fun hc => bad (Or.inl (bI_t.mp hc)), fun hc => ?_⟩
  have hro : room ≠ false := fun z => hc (bI_t.mpr z)
  rw [e7]
  have c7 : (nI (tS T) < (7 : Int32)) ↔ tS T < 7 := nI_ltI (b := 7) (by omega) (by decide)
  rw [c7, nI_clamp (by omega)]
  refine ⟨fun hlt => ?_, fun hge => bad (Or.inr (by omega))⟩
  have hno : ¬ (room = false ∨ 7 ≤ tS T) := fun z => z.elim hro (fun q => by omega)
  have hvi : vp_in (nI (tS T)) 7 := vp_in_nI hlt (by decide)
  refine con_iP (c_figure hl (lo := 0) (H := 6) (by decide) (by decide) h) (fun w2 k2 => ⟨hvi, fun w3 hw3 => ?_⟩)
  obtain ⟨k21, -, k23⟩ := k2
  have R3 := k21.row hw3 (by decide) (by decide)
  have g3 : w3.1 7 r 0 = nI (tS T) := by rw [hw3, setI_ne (by omega), k23.oth GT_1 (by decide)]; exact e7
  rw [g3, nI_clamp (by omega)]
  refine con_iP (c_figure hl (lo := 0) (H := 61) (by decide) (by decide) R3) (fun w5 k5 => ⟨hvi, fun w6 hw6 => ?_⟩)
  obtain ⟨k51, -, k53⟩ := k5
  have R6 := k51.row hw6 (by decide) (by decide)
  have g6 : w6.1 7 r 0 = nI (tS T) := by rw [hw6, setI_ne (by omega), k53.oth GT_1 (by decide)]; exact g3
  rw [g6, nI_clamp (by omega)]
  refine con_iP (c_figure hl (lo := 1) (H := 31) (by decide) (by decide) R6) (fun w8 k8 => ⟨hvi, fun w9 hw9 w10 hw10 => ?_⟩)
  obtain ⟨k81, -, k83⟩ := k8
  have R9 := k81.row hw9 (by decide) (by decide)
  have g9 : w9.1 7 r 0 = nI (tS T) := by rw [hw9, setI_ne (by omega), k83.oth GT_1 (by decide)]; exact g6
  rw [g9, ← nI_succ] at hw10
  have R10 := R9.row hw10 (by decide) (by decide)
  have q : ∀ κ k, κ ≠ 1 → w10.1 κ r k = if κ = 7 ∧ k = 0 then nI (tS T + 1) else if κ = 27 ∧ k = tS T then nI (figC b n 1 31 (figF b n 0 61 (figF b n 0 6 s).1).1) else if κ = 26 ∧ k = tS T then nI (figC b n 0 61 (figF b n 0 6 s).1) else if κ = 25 ∧ k = tS T then nI (figC b n 0 6 s) else w.1 κ r k := by
    intro κ k hκ
    rw [hw10, setI_1, hw9, setI_1, k83.oth GT_1 hκ, hw6, setI_1, k53.oth GT_1 hκ, hw3, setI_1, k23.oth GT_1 hκ]
    simp only [true_and]
  refine ⟨rfl, ?_, fun ho h0 => ?_, ?_⟩
  · rw [siF, if_neg hno]
    exact R10
  · rw [siF, if_neg hno] at ho ⊢
    have o3 := figF_ok ho
    have o2 := figF_ok o3.1
    rw [figC_ok ho, figC_ok o3.1, figC_ok o2.1] at q
    obtain ⟨r1, r2, r3, r4, r5, r6, r7⟩ := hR
    refine ⟨by rw [q 7 0 (by decide), if_pos ⟨rfl, rfl⟩]; rfl, ?_, ?_, ?_, fun i hi => ?_, fun i hi => ?_, fun i hi => ?_⟩
    · rw [q 7 1 (by decide), if_neg (by omega), if_neg (by omega), if_neg (by omega), if_neg (by omega)]; exact r2
    · rw [q 7 2 (by decide), if_neg (by omega), if_neg (by omega), if_neg (by omega), if_neg (by omega)]; exact r3
    · rw [q 7 3 (by decide), if_neg (by omega), if_neg (by omega), if_neg (by omega), if_neg (by omega)]; exact r4
    · have hi : i < tS T + 1 := hi
      rw [q 25 i (by decide), q 26 i (by decide), q 27 i (by decide)]
      by_cases e : i = tS T
      · rw [if_neg (by omega), if_neg (by omega), if_neg (by omega), if_pos ⟨rfl, e⟩, if_neg (by omega), if_neg (by omega), if_pos ⟨rfl, e⟩, if_neg (by omega), if_pos ⟨rfl, e⟩, e]
        exact ⟨pk_us.symm, pk_us.symm, pk_us.symm⟩
      · rw [if_neg (by omega), if_neg (by omega), if_neg (by omega), if_neg (by omega), if_neg (by omega), if_neg (by omega), if_neg (by omega), if_neg (by omega), if_neg (by omega), if_neg (by omega), if_neg (by omega), if_neg (by omega)]
        obtain ⟨z1, z2, z3⟩ := r5 i (by omega)
        exact ⟨z1.trans (pk_un e).symm, z2.trans (pk_un e).symm, z3.trans (pk_un e).symm⟩
    · rw [q 28 i (by decide), q 29 i (by decide), q 30 i (by decide), if_neg (by omega), if_neg (by omega), if_neg (by omega), if_neg (by omega), if_neg (by omega), if_neg (by omega), if_neg (by omega), if_neg (by omega), if_neg (by omega), if_neg (by omega), if_neg (by omega), if_neg (by omega)]
      obtain ⟨z1, z2, z3⟩ := r6 i hi
      refine ⟨z1, z2, z3.trans ?_⟩
      exact (wf_congr (T := T) (T' := addS T _ _ _) rfl _ (fun _ _ => ⟨rfl, rfl⟩)).symm
    · rw [q 31 i (by decide), q 32 i (by decide), if_neg (by omega), if_neg (by omega), if_neg (by omega), if_neg (by omega), if_neg (by omega), if_neg (by omega), if_neg (by omega), if_neg (by omega)]
      exact r7 i hi
  · rw [hw10]
    refine Sm.set ?_ (by unfold GY; omega)
    rw [hw9]
    refine Sm.set (Sm.tr ?_ (k83.mono GT_GY)) (by unfold GY; omega)
    rw [hw6]
    refine Sm.set (Sm.tr ?_ (k53.mono GT_GY)) (by unfold GY; omega)
    rw [hw3]
    exact Sm.set (k23.mono GT_GY) (by unfold GY; omega)
theorem c_readNote (hl : l.stackTraces = false) (hr : r < 2) (h : RC w b n s) (ha : a ≤ n) (h4 : w.1 1 0 4 = nI a) (hT : Tok T) (hR : RollC w r T) : C_X5_readNote l G w [.ref (G.2.1 7 r), .ref (G.2.1 1 0), .int (bI room)] (fun v w' => v = none ∧ RC w' b n (noF b n room T a s).1 ∧ ((noF b n room T a s).1.1 = 0 → s.1 = 0 → RollC w' r (noF b n room T a s).2) ∧ Sm (GY r) w w') noX := by
  have hN20 := hT.2.1
  have e7 := hR.2.1
  refine e_X5_readNote hr hl (fun M kk hM hk F => ?_)
  subst hM
  have bad : (room = false ∨ 20 ≤ tN T) → Z M G 0 (fun v w' => v = none ∧ RC w' b n (noF b n room T a s).1 ∧ ((noF b n room T a s).1.1 = 0 → s.1 = 0 → RollC w' r (noF b n room T a s).2) ∧ Sm (GY r) w w') noX w 13 [none, some (.ref (G.2.1 1 0)), none] [] := by
    intro hc
    refine b_X5_readNote_13 F hk ?_
    rw [h4]
    refine con_vP (c_fail hl h (f := 3) (by decide) (by decide) ha) (fun w2 k2 => ⟨rfl, ?_, fun ho h0 => ?_, k2.2.mono GT3_GY⟩)
    · rw [noF, if_pos hc]; exact k2.1
    · exfalso
      rw [noF, if_pos hc, flF, if_neg (fun z => z h0)] at ho
      exact absurd ho (by show ¬ (3 : Nat) = 0; decide)
  refine ⟨fun hc => bad (Or.inl (bI_t.mp hc)), fun hc => ?_⟩
  have hro : room ≠ false := fun z => hc (bI_t.mpr z)
  rw [e7]
  have c7 : (nI (tN T) < (20 : Int32)) ↔ tN T < 20 := nI_ltI (b := 20) (by omega) (by decide)
  rw [c7, nI_clamp (by omega)]
  refine ⟨fun hlt => ?_, fun hge => bad (Or.inr (by omega))⟩
  have hno : ¬ (room = false ∨ 20 ≤ tN T) := fun z => z.elim hro (fun q => by omega)
  have hvi : vp_in (nI (tN T)) 20 := vp_in_nI hlt (by decide)
  refine con_iP (c_figure hl (lo := 0) (H := 6) (by decide) (by decide) h) (fun w2 k2 => ⟨hvi, fun w3 hw3 => ?_⟩)
  obtain ⟨k21, -, k23⟩ := k2
  have R3 := k21.row hw3 (by decide) (by decide)
  have g3 : w3.1 7 r 1 = nI (tN T) := by rw [hw3, setI_ne (by omega), k23.oth GT_1 (by decide)]; exact e7
  rw [g3, nI_clamp (by omega)]
  refine con_iP (c_figure hl (lo := 1) (H := 10) (by decide) (by decide) R3) (fun w5 k5 => ⟨hvi, fun w6 hw6 => ?_⟩)
  obtain ⟨k51, -, k53⟩ := k5
  have R6 := k51.row hw6 (by decide) (by decide)
  have g6 : w6.1 7 r 1 = nI (tN T) := by rw [hw6, setI_ne (by omega), k53.oth GT_1 (by decide)]; exact g3
  have g28 : w6.1 28 r (tN T) = nI (figC b n 0 6 s) := by rw [hw6, setI_ne (by omega), k53.oth GT_1 (by decide), hw3]; exact setI_eq _ _ _ _ _
  rw [g6, nI_clamp (by omega), g28]
  refine ⟨hvi, hvi, fun w7 hw7 w8 hw8 => ?_⟩
  have R7 := R6.row hw7 (by decide) (by decide)
  have g7 : w7.1 7 r 1 = nI (tN T) := by rw [hw7, setI_ne (by omega)]; exact g6
  rw [g7, ← nI_succ] at hw8
  have R8 := R7.row hw8 (by decide) (by decide)
  have q : ∀ κ k, κ ≠ 1 → w8.1 κ r k = if κ = 7 ∧ k = 1 then nI (tN T + 1) else if κ = 30 ∧ k = tN T then (1 : Int32) <<< (nI (figC b n 0 6 s) &&& 31) else if κ = 29 ∧ k = tN T then nI (figC b n 1 10 (figF b n 0 6 s).1) else if κ = 28 ∧ k = tN T then nI (figC b n 0 6 s) else w.1 κ r k := by
    intro κ k hκ
    rw [hw8, setI_1, hw7, setI_1, hw6, setI_1, k53.oth GT_1 hκ, hw3, setI_1, k23.oth GT_1 hκ]
    simp only [true_and]
  refine ⟨rfl, ?_, fun ho h0 => ?_, ?_⟩
  · rw [noF, if_neg hno]
    exact R8
  · rw [noF, if_neg hno] at ho ⊢
    have o2 := figF_ok ho
    rw [figC_ok ho, figC_ok o2.1] at q
    obtain ⟨r1, r2, r3, r4, r5, r6, r7⟩ := hR
    refine ⟨?_, by rw [q 7 1 (by decide), if_pos ⟨rfl, rfl⟩]; rfl, ?_, ?_, fun i hi => ?_, fun i hi => ?_, fun i hi => ?_⟩
    · rw [q 7 0 (by decide), if_neg (by omega), if_neg (by omega), if_neg (by omega), if_neg (by omega)]; exact r1
    · rw [q 7 2 (by decide), if_neg (by omega), if_neg (by omega), if_neg (by omega), if_neg (by omega)]; exact r3
    · rw [q 7 3 (by decide), if_neg (by omega), if_neg (by omega), if_neg (by omega), if_neg (by omega)]; exact r4
    · rw [q 25 i (by decide), q 26 i (by decide), q 27 i (by decide), if_neg (by omega), if_neg (by omega), if_neg (by omega), if_neg (by omega), if_neg (by omega), if_neg (by omega), if_neg (by omega), if_neg (by omega), if_neg (by omega), if_neg (by omega), if_neg (by omega), if_neg (by omega)]
      exact r5 i hi
    · have hi : i < tN T + 1 := hi
      rw [q 28 i (by decide), q 29 i (by decide), q 30 i (by decide)]
      by_cases e : i = tN T
      · rw [if_neg (by omega), if_neg (by omega), if_neg (by omega), if_pos ⟨rfl, e⟩, if_neg (by omega), if_neg (by omega), if_pos ⟨rfl, e⟩, if_neg (by omega), if_pos ⟨rfl, e⟩, e]
        refine ⟨pk_us.symm, pk_us.symm, ?_⟩
        have hT2 : Tok (addN T (figF b n 0 6 s).2 (figF b n 1 10 (figF b n 0 6 s).1).2) := by
          have := noF_tok (b := b) (n := n) (a := a) (room := room) (s := s) hT (by rw [noF, if_neg hno]; exact ho)
          rw [noF, if_neg hno] at this
          exact this
        have e1 : wf (addN T (figF b n 0 6 s).2 (figF b n 1 10 (figF b n 0 6 s).1).2) (tN T) (tL T) = (1 : Int32) <<< (nv (addN T (figF b n 0 6 s).2 (figF b n 1 10 (figF b n 0 6 s).1).2) (tN T) &&& 31) := by
          have key : ∀ k, k ≤ tL T → wf (addN T (figF b n 0 6 s).2 (figF b n 1 10 (figF b n 0 6 s).1).2) (tN T) k = (1 : Int32) <<< (nv (addN T (figF b n 0 6 s).2 (figF b n 1 10 (figF b n 0 6 s).1).2) (tN T) &&& 31) := by
            intro k
            induction k with
            | zero => intro _; rfl
            | succ k ih =>
              intro hk
              obtain ⟨⟨v, hv, he⟩, -⟩ := hT.2.2.2.2.2.1 k (by omega)
              rw [wf, if_neg, ih (by omega)]
              show ¬ kn T k = nI (tN T)
              rw [he, nI_eq (by omega) (by omega)]
              omega
          exact key _ (Nat.le_refl _)
        refine Eq.trans ?_ e1.symm
        have e2 : nv (addN T (figF b n 0 6 s).2 (figF b n 1 10 (figF b n 0 6 s).1).2) (tN T) = nI (figF b n 0 6 s).2 := pk_us
        rw [e2]
      · rw [if_neg (by omega), if_neg (by omega), if_neg (by omega), if_neg (by omega), if_neg (by omega), if_neg (by omega), if_neg (by omega), if_neg (by omega), if_neg (by omega), if_neg (by omega), if_neg (by omega), if_neg (by omega)]
        obtain ⟨z1, z2, z3⟩ := r6 i (by omega)
        refine ⟨z1.trans (pk_un e).symm, z2.trans (pk_un e).symm, z3.trans ?_⟩
        exact (wf_congr (T := T) (T' := addN T _ _) (pk_un e) _ (fun _ _ => ⟨rfl, rfl⟩)).symm
    · rw [q 31 i (by decide), q 32 i (by decide), if_neg (by omega), if_neg (by omega), if_neg (by omega), if_neg (by omega), if_neg (by omega), if_neg (by omega), if_neg (by omega), if_neg (by omega)]
      exact r7 i hi
  · rw [hw8]
    refine Sm.set ?_ (by unfold GY; omega)
    rw [hw7]
    refine Sm.set ?_ (by unfold GY; omega)
    rw [hw6]
    refine Sm.set (Sm.tr ?_ (k53.mono GT_GY)) (by unfold GY; omega)
    rw [hw3]
    exact Sm.set (k23.mono GT_GY) (by unfold GY; omega)
theorem c_readLike (hl : l.stackTraces = false) (hr : r < 2) (h : RC w b n s) (ha : a ≤ n) (h4 : w.1 1 0 4 = nI a) (hT : Tok T) (hR : RollC w r T) : C_X5_readLike l G w [.ref (G.2.1 7 r), .ref (G.2.1 1 0), .int (bI room)] (fun v w' => v = none ∧ RC w' b n (lkR b n room T a s).1 ∧ ((lkR b n room T a s).1.1 = 0 → s.1 = 0 → RollC w' r (lkR b n room T a s).2) ∧ Sm (GY r) w w') noX := by
  have hN20 := hT.2.1
  have hL12 := hT.2.2.1
  have e7 := hR.2.2.1
  refine e_X5_readLike hr hl (fun M kk hM hk F => ?_)
  subst hM
  have bad : (room = false ∨ 12 ≤ tL T) → Z M G 0 (fun v w' => v = none ∧ RC w' b n (lkR b n room T a s).1 ∧ ((lkR b n room T a s).1.1 = 0 → s.1 = 0 → RollC w' r (lkR b n room T a s).2) ∧ Sm (GY r) w w') noX w 13 [none, some (.ref (G.2.1 1 0)), none] [] := by
    intro hc
    refine b_X5_readLike_13 F hk ?_
    rw [h4]
    refine con_vP (c_fail hl h (f := 3) (by decide) (by decide) ha) (fun w2 k2 => ⟨rfl, ?_, fun ho h0 => ?_, k2.2.mono GT3_GY⟩)
    · rw [lkR, if_pos hc]; exact k2.1
    · exfalso
      rw [lkR, if_pos hc, flF, if_neg (fun z => z h0)] at ho
      exact absurd ho (by show ¬ (3 : Nat) = 0; decide)
  refine ⟨fun hc => bad (Or.inl (bI_t.mp hc)), fun hc => ?_⟩
  have hro : room ≠ false := fun z => hc (bI_t.mpr z)
  rw [e7, hR.2.1]
  have c7 : (nI (tL T) < (12 : Int32)) ↔ tL T < 12 := nI_ltI (b := 12) (by omega) (by decide)
  rw [c7, nI_clamp (n := tL T) (by omega)]
  refine ⟨fun hlt => ?_, fun hge => bad (Or.inr (by omega))⟩
  have hno : ¬ (room = false ∨ 12 ≤ tL T) := fun z => z.elim hro (fun q => by omega)
  have hvi : vp_in (nI (tL T)) 12 := vp_in_nI hlt (by decide)
  have hc20 : figC b n 0 (tN T) s < 20 := by
    unfold figC
    split
    · rename_i hq
      have := figF_ok hq
      omega
    · decide
  refine con_iP (c_figure hl (lo := 0) (H := tN T) (by decide) (by omega) h) (fun w2 k2 => ⟨hvi, fun w3 hw3 => ?_⟩)
  obtain ⟨k21, -, k23⟩ := k2
  have R3 := k21.row hw3 (by decide) (by decide)
  have g3 : w3.1 7 r 2 = nI (tL T) := by rw [hw3, setI_ne (by omega), k23.oth GT_1 (by decide)]; exact e7
  rw [g3, nI_clamp (n := tL T) (by omega)]
  refine con_iP (c_figure hl (lo := 0) (H := 6) (by decide) (by decide) R3) (fun w5 k5 => ⟨hvi, fun w6 hw6 => ?_⟩)
  obtain ⟨k51, -, k53⟩ := k5
  have R6 := k51.row hw6 (by decide) (by decide)
  have g6 : w6.1 7 r 2 = nI (tL T) := by rw [hw6, setI_ne (by omega), k53.oth GT_1 (by decide)]; exact g3
  have g31 : w6.1 31 r (tL T) = nI (figC b n 0 (tN T) s) := by rw [hw6, setI_ne (by omega), k53.oth GT_1 (by decide), hw3]; exact setI_eq _ _ _ _ _
  have g32 : w6.1 32 r (tL T) = nI (figC b n 0 6 (figF b n 0 (tN T) s).1) := by rw [hw6]; exact setI_eq _ _ _ _ _
  have g30 : w6.1 30 r (figC b n 0 (tN T) s) = w.1 30 r (figC b n 0 (tN T) s) := by rw [hw6, setI_ne (by omega), k53.oth GT_1 (by decide), hw3, setI_ne (by omega), k23.oth GT_1 (by decide)]
  rw [g6, nI_clamp (n := tL T) (by omega), g31, g32, nI_clamp (by omega), g30]
  have hvi2 : vp_in (nI (figC b n 0 (tN T) s)) 20 := vp_in_nI hc20 (by decide)
  refine ⟨hvi, hvi2, hvi, hvi2, fun w7 hw7 w8 hw8 => ?_⟩
  have R7 := R6.row hw7 (by decide) (by decide)
  have g7 : w7.1 7 r 2 = nI (tL T) := by rw [hw7, setI_ne (by omega)]; exact g6
  rw [g7, ← nI_succ] at hw8
  have R8 := R7.row hw8 (by decide) (by decide)
  have q : ∀ κ k, κ ≠ 1 → w8.1 κ r k = if κ = 7 ∧ k = 2 then nI (tL T + 1) else if κ = 30 ∧ k = figC b n 0 (tN T) s then w.1 30 r (figC b n 0 (tN T) s) ||| (1 : Int32) <<< (nI (figC b n 0 6 (figF b n 0 (tN T) s).1) &&& 31) else if κ = 32 ∧ k = tL T then nI (figC b n 0 6 (figF b n 0 (tN T) s).1) else if κ = 31 ∧ k = tL T then nI (figC b n 0 (tN T) s) else w.1 κ r k := by
    intro κ k hκ
    rw [hw8, setI_1, hw7, setI_1, hw6, setI_1, k53.oth GT_1 hκ, hw3, setI_1, k23.oth GT_1 hκ]
    simp only [true_and]
  refine ⟨rfl, ?_, fun ho h0 => ?_, ?_⟩
  · rw [lkR, if_neg hno]
    exact R8
  · rw [lkR, if_neg hno] at ho ⊢
    have o2 := figF_ok ho
    have o1 := figF_ok o2.1
    rw [figC_ok ho, figC_ok o2.1] at q
    obtain ⟨r1, r2, r3, r4, r5, r6, r7⟩ := hR
    refine ⟨?_, ?_, by rw [q 7 2 (by decide), if_pos ⟨rfl, rfl⟩]; rfl, ?_, fun i hi => ?_, fun i hi => ?_, fun i hi => ?_⟩
    · rw [q 7 0 (by decide), if_neg (by omega), if_neg (by omega), if_neg (by omega), if_neg (by omega)]; exact r1
    · rw [q 7 1 (by decide), if_neg (by omega), if_neg (by omega), if_neg (by omega), if_neg (by omega)]; exact r2
    · rw [q 7 3 (by decide), if_neg (by omega), if_neg (by omega), if_neg (by omega), if_neg (by omega)]; exact r4
    · rw [q 25 i (by decide), q 26 i (by decide), q 27 i (by decide), if_neg (by omega), if_neg (by omega), if_neg (by omega), if_neg (by omega), if_neg (by omega), if_neg (by omega), if_neg (by omega), if_neg (by omega), if_neg (by omega), if_neg (by omega), if_neg (by omega), if_neg (by omega)]
      exact r5 i hi
    · have hi : i < tN T := hi
      obtain ⟨z1, z2, z3⟩ := r6 i hi
      rw [q 28 i (by decide), q 29 i (by decide), q 30 i (by decide), if_neg (by omega), if_neg (by omega), if_neg (by omega), if_neg (by omega), if_neg (by omega), if_neg (by omega), if_neg (by omega), if_neg (by omega), if_neg (by omega)]
      refine ⟨z1, z2, ?_⟩
      have e1 : wf (addL T (figF b n 0 (tN T) s).2 (figF b n 0 6 (figF b n 0 (tN T) s).1).2) i (tL T) = wf T i (tL T) := by
        refine wf_congr (T := T) (T' := addL T _ _) rfl (tL T) (fun k hk => ?_)
        have hne : k ≠ tL T := by omega
        exact ⟨pk_un hne, pk_un hne⟩
      have e2 : kn (addL T (figF b n 0 (tN T) s).2 (figF b n 0 6 (figF b n 0 (tN T) s).1).2) (tL T) = nI (figF b n 0 (tN T) s).2 := pk_us
      have e3 : kv (addL T (figF b n 0 (tN T) s).2 (figF b n 0 6 (figF b n 0 (tN T) s).1).2) (tL T) = nI (figF b n 0 6 (figF b n 0 (tN T) s).1).2 := pk_us
      show _ = wf (addL T (figF b n 0 (tN T) s).2 (figF b n 0 6 (figF b n 0 (tN T) s).1).2) i (tL T + 1)
      rw [wf, e1, e2, e3]
      by_cases e : i = (figF b n 0 (tN T) s).2
      · rw [if_pos ⟨rfl, e⟩, ← e, if_pos rfl, z3]
      · rw [if_neg (by omega), if_neg (by omega), if_neg (by omega), if_neg (fun z => e ((nI_eq (by omega) (by omega)).mp z).symm)]
        exact z3
    · have hi : i < tL T + 1 := hi
      rw [q 31 i (by decide), q 32 i (by decide)]
      by_cases e : i = tL T
      · rw [if_neg (by omega), if_neg (by omega), if_neg (by omega), if_pos ⟨rfl, e⟩, if_neg (by omega), if_neg (by omega), if_pos ⟨rfl, e⟩, e]
        exact ⟨pk_us.symm, pk_us.symm⟩
      · rw [if_neg (by omega), if_neg (by omega), if_neg (by omega), if_neg (by omega), if_neg (by omega), if_neg (by omega), if_neg (by omega), if_neg (by omega)]
        obtain ⟨z1, z2⟩ := r7 i (by omega)
        exact ⟨z1.trans (pk_un e).symm, z2.trans (pk_un e).symm⟩
  · rw [hw8]
    refine Sm.set ?_ (by unfold GY; omega)
    rw [hw7]
    refine Sm.set ?_ (by unfold GY; omega)
    rw [hw6]
    refine Sm.set (Sm.tr ?_ (k53.mono GT_GY)) (by unfold GY; omega)
    rw [hw3]
    exact Sm.set (k23.mono GT_GY) (by unfold GY; omega)
theorem c_readRest (hl : l.stackTraces = false) (hr : r < 2) (h : RC w b n s) (ha : a ≤ n) (h4 : w.1 1 0 4 = nI a) (hT : Tok T) (hR : RollC w r T) : C_X5_readRest l G w [.ref (G.2.1 7 r), .ref (G.2.1 1 0), .int (bI room)] (fun v w' => v = none ∧ RC w' b n (reF b n room T a s).1 ∧ ((reF b n room T a s).1.1 = 0 → s.1 = 0 → RollC w' r (reF b n room T a s).2) ∧ Sm (GY r) w w') noX := by
  refine e_X5_readRest hr hl (fun M kk hM hk F => ?_)
  subst hM
  refine ⟨fun hc => ?_, fun hc => ?_⟩
  · have hro : ¬ room = false := fun z => hc (bI_t.mpr z)
    refine con_iP (c_figure hl (lo := 0) (H := 31) (by decide) (by decide) h) (fun w2 k2 w3 hw3 => ?_)
    obtain ⟨k21, -, k23⟩ := k2
    have R3 := k21.row hw3 (by decide) (by decide)
    have q : ∀ κ k, κ ≠ 1 → w3.1 κ r k = if κ = 7 ∧ k = 3 then nI (figC b n 0 31 s) else w.1 κ r k := by
      intro κ k hκ
      rw [hw3, setI_1, k23.oth GT_1 hκ]
      simp only [true_and]
    refine ⟨rfl, by rw [reF, if_neg hro]; exact R3, fun ho h0 => ?_, by rw [hw3]; exact Sm.set (k23.mono GT_GY) (by unfold GY; omega)⟩
    rw [reF, if_neg hro] at ho ⊢
    rw [figC_ok ho] at q
    obtain ⟨r1, r2, r3, r4, r5, r6, r7⟩ := hR
    refine ⟨?_, ?_, ?_, by rw [q 7 3 (by decide), if_pos ⟨rfl, rfl⟩]; rfl, fun i hi => ?_, fun i hi => ?_, fun i hi => ?_⟩
    · rw [q 7 0 (by decide), if_neg (by omega)]; exact r1
    · rw [q 7 1 (by decide), if_neg (by omega)]; exact r2
    · rw [q 7 2 (by decide), if_neg (by omega)]; exact r3
    · rw [q 25 i (by decide), q 26 i (by decide), q 27 i (by decide), if_neg (by omega), if_neg (by omega), if_neg (by omega)]; exact r5 i hi
    · rw [q 28 i (by decide), q 29 i (by decide), q 30 i (by decide), if_neg (by omega), if_neg (by omega), if_neg (by omega)]
      obtain ⟨z1, z2, z3⟩ := r6 i hi
      exact ⟨z1, z2, z3.trans (wf_congr (T := T) (T' := setB T _) rfl _ (fun _ _ => ⟨rfl, rfl⟩)).symm⟩
    · rw [q 31 i (by decide), q 32 i (by decide), if_neg (by omega), if_neg (by omega)]; exact r7 i hi
  · have hro : room = false := bI_t.mp (Classical.not_not.mp hc)
    rw [h4]
    refine con_vP (c_fail hl h (f := 3) (by decide) (by decide) ha) (fun w2 k2 => ⟨rfl, ?_, fun ho h0 => ?_, k2.2.mono GT3_GY⟩)
    · rw [reF, if_pos hro]; exact k2.1
    · exfalso
      rw [reF, if_pos hro, flF, if_neg (fun z => z h0)] at ho
      exact absurd ho (by show ¬ (3 : Nat) = 0; decide)
end YA
