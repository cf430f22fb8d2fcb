/-! The reference: a clause. -/
theorem RollR.cg {w w' : Wd} {T : Tx} (h : RollR w T) (e : ∀ κ b k, κ = 43 ∨ κ = 46 ∨ κ = 50 ∨ κ = 54 → w'.1 κ b k = w.1 κ b k) : RollR w' T := by
  obtain ⟨h1, h2, h3, h4, h5, h6, h7⟩ := h
  refine ⟨(e 43 0 0 (by omega)).trans h1, (e 43 0 1 (by omega)).trans h2, (e 43 0 2 (by omega)).trans h3, (e 43 0 3 (by omega)).trans h4, fun s q => ?_, fun n q => ?_, fun k q => ?_⟩
  · obtain ⟨a, b, c⟩ := h5 s q
    exact ⟨(e 46 s 0 (by omega)).trans a, (e 46 s 1 (by omega)).trans b, (e 46 s 2 (by omega)).trans c⟩
  · obtain ⟨a, b⟩ := h6 n q
    exact ⟨(e 50 n 0 (by omega)).trans a, (e 50 n 1 (by omega)).trans b⟩
  · obtain ⟨a, b⟩ := h7 k q
    exact ⟨(e 54 k 0 (by omega)).trans a, (e 54 k 1 (by omega)).trans b⟩
section YE
variable {l : Launch} {G : Gx} {w : Wd} {b : Nat → Nat} {n a k : Nat} {T : Tx}
theorem m_clause (hl : l.stackTraces = false) (h : RM w b n (0, a)) (ha : sk b n a = a) (hk60 : k ≤ 60) (h7 : w.1 40 0 7 = nI k) (hT : Tok T) (hR : RollR w T) : C_X10_clause l G w [.ref (G.2.1 40 0)] (fun r w' => r = none ∧ RM w' b n (clF b n (decide (k < 60)) T a).1 ∧ ((clF b n (decide (k < 60)) T a).1.1 = 0 → RollR w' (clF b n (decide (k < 60)) T a).2 ∧ w'.1 40 0 7 = nI (k + 1)) ∧ Sm GQ w w') noX := by
  have han : a ≤ n := h.2.2.2.2.1.2
  have hn6 := h.1
  have hS7 := hT.1
  have hN20 := hT.2.1
  have hL12 := hT.2.2.1
  refine e_X10_clause hl (fun M kk hM hk F => ?_)
  generalize hK : (fun r w' => r = none ∧ RM w' b n (clF b n (decide (k < 60)) T a).1 ∧ ((clF b n (decide (k < 60)) T a).1.1 = 0 → RollR w' (clF b n (decide (k < 60)) T a).2 ∧ w'.1 40 0 7 = nI (k + 1)) ∧ Sm GQ w w' : Option Value → Wd → Prop) = K
  subst hM
  have hj5 := kdC_lt b a (we b n a)
  generalize hj : kdC b a (we b n a) = j at hj5
  have ecl : clF b n (decide (k < 60)) T a = (sgnF b n 59 (cl1 b n (decide (k < 60)) T a (0, we b n a) j).1, (cl1 b n (decide (k < 60)) T a (0, we b n a) j).2) := by
    unfold clF
    rw [hj]
  -- a fault: nothing more
  have fail58 : ∀ (w' : Wd) (f : Nat) (x : Int32), f ≠ 0 → RM w' b n (f, a) → (cl1 b n (decide (k < 60)) T a (0, we b n a) j).1 = (f, a) → Sm GQ w w' → Z M G 0 K noX w' 58 [some (.ref (G.2.1 40 0)), some (.int x), none, none] [] := by
    intro w' f x hf hRm hc hs
    refine b_X10_clause_58 F hk ?_
    rw [hRm.zero]
    refine ⟨fun z => absurd z hf, fun _ => ?_⟩
    have e1 : (clF b n (decide (k < 60)) T a).1 = (f, a) := by
      rw [ecl]
      show sgnF b n 59 _ = _
      rw [hc, sgnF_x hf]
    rw [← hK]
    exact ⟨rfl, by rw [e1]; exact hRm, fun z => absurd (by rw [e1] at z; exact z) hf, hs⟩
  -- the sign at its end
  have fin : ∀ (w' : Wd) (st : Rd) (c : Nat), j < 3 → c ≤ 20 → RM w' b n st → w'.1 43 0 j = nI c → (cl1 b n (decide (k < 60)) T a (0, we b n a) j).1 = st → (st.1 = 0 → RollR (setI w' 43 0 j (nI (c + 1))) (cl1 b n (decide (k < 60)) T a (0, we b n a) j).2) → w'.1 40 0 7 = nI (k + 1) → Sm GQ w w' → Z M G 0 K noX w' 266 [some (.ref (G.2.1 40 0)), some (.int (nI j)), none, none] [] := by
    intro w' st c hj3 hc20 hRm e43 hst hro e7 hs
    refine b_X10_clause_266 F hk ?_
    refine con_vP (m_sign hl (c := 59) (by decide) hRm) (fun w2 k2 => ?_)
    have c3 : ((3 : Int32) ≤ nI j) ↔ 3 ≤ j := nI_leI (a := 3) (by decide) (by omega)
    have hvi : vp_in (nI j) 4 := vp_in_nI (by omega) (by decide)
    have g43 : w2.1 43 0 j = nI c := (k2.2.oth40 GR_40 (by decide)).trans e43
    have s2 := hs.tr (k2.2.mono GR_GQ)
    rw [c3, nI_clamp (by omega), g43, k2.1.zero]
    refine ⟨fun z => absurd z (by omega), fun _ => ⟨hvi, fun hf => ⟨hvi, fun w3 hw3 => ?_⟩, fun hf => ⟨hvi, fun w4 hw4 => ?_⟩⟩⟩
    · rw [← hK, ecl, hst]
      refine ⟨rfl, k2.1.row hw3 (by decide) (by decide), fun z => absurd z hf, ?_⟩
      rw [hw3]
      exact s2.set (by unfold GQ; omega)
    · have hf := Classical.not_not.mp hf
      have h0 := (sgnF_ok hf).1
      rw [← nI_succ] at hw4
      rw [← hK, ecl, hst]
      refine ⟨rfl, k2.1.row hw4 (by decide) (by decide), fun _ => ⟨?_, ?_⟩, ?_⟩
      · refine (hro h0).cg (fun κ x y q => ?_)
        rw [hw4, setI_1, setI_1, k2.2.oth40 GR_40 (by omega)]
      · rw [hw4, setI_ne (by omega), k2.2.1 40 0 7 (by unfold GR; omega)]
        exact e7
      · rw [hw4]
        exact s2.set (by unfold GQ; omega)
  -- a clause of kind j, its room seen
  have go : ∀ (w' : Wd), j < 4 → (j < 3 → w.1 43 0 j ≠ nI (if j = 0 then 7 else if j = 1 then 20 else 12)) → k < 60 → RM w' b n (0, a) → Sm GR4 w w' → Z M G 0 K noX w' 58 [some (.ref (G.2.1 40 0)), some (.int (nI j)), none, none] [] := by
    intro w' hj4 hroom hk' hRm hs
    refine b_X10_clause_58 F hk ?_
    rw [hRm.zero]
    refine ⟨fun _ => ?_, fun z => absurd rfl z⟩
    refine con_vP (m_skipWord hl hRm) (fun w2 k2 w3 hw3 => ?_)
    have c3 : ((3 : Int32) ≤ nI j) ↔ 3 ≤ j := nI_leI (a := 3) (by decide) (by omega)
    have e7 : w2.1 40 0 7 = nI k := by rw [k2.2.1 40 0 7 (by unfold GR4; omega), hs.1 40 0 7 (by unfold GR4; omega)]; exact h7
    rw [e7, ← nI_succ] at hw3
    have s2 : Sm GQ w w2 := (hs.mono GR4_GQ).tr (k2.2.mono GR4_GQ)
    have s3 : Sm GQ w w3 := by rw [hw3]; exact s2.set (by unfold GQ; omega)
    have R3 : RM w3 b n (0, we b n a) := k2.1.mv (S := fun κ _ k => κ = 40 ∧ k = 7) (by rw [hw3]; exact Sm.rf.set ⟨rfl, rfl⟩) (fun k q z => by omega) (fun k z => by omega)
    have g7 : w3.1 40 0 7 = nI (k + 1) := by rw [hw3]; exact setI_eq _ _ _ _ _
    have oth : ∀ κ x y, κ ≠ 40 → w3.1 κ x y = w.1 κ x y := fun κ x y hκ => by
      rw [hw3, setI_ne (by omega), k2.2.oth40 (fun _ _ _ q => q.1) hκ, hs.oth40 (fun _ _ _ q => q.1) hκ]
    have dk : decide (k < 60) = true := decide_eq_true hk'
    have Q3 : RollR w3 T := hR.cg (fun κ x y q => oth κ x y (by omega))
    rw [c3, nI_clamp (by omega)]
    refine ⟨fun h3 => ?_, fun h3 => ⟨vp_in_nI (by omega) (by decide), ?_⟩⟩
    · -- rest
      have ej : j = 3 := by omega
      subst ej
      refine b_X10_clause_95 F hk ⟨fun z => absurd z (by decide), fun z => absurd z (by decide), fun z => absurd z (by decide), fun _ => ?_⟩
      refine con_iP (m_number hl (lo := 0) (H := 31) (by decide) (by decide) R3) (fun w5 k5 => ?_)
      have s5 := s3.tr (k5.2.mono GR_GQ)
      have e5 : cl1 b n (decide (k < 60)) T a (0, we b n a) 3 = ((figF b n 0 31 (0, we b n a)).1, setB T (figF b n 0 31 (0, we b n a)).2) := by
        show reF b n _ T a _ = _
        rw [reF, if_neg (by rw [dk]; decide)]
      have fin3 : ∀ w6 : Wd, RM w6 b n (figF b n 0 31 (0, we b n a)).1 → ((figF b n 0 31 (0, we b n a)).1.1 = 0 → RollR w6 (setB T (figF b n 0 31 (0, we b n a)).2)) → w6.1 40 0 7 = nI (k + 1) → Sm GQ w w6 → Z M G 0 K noX w6 266 [some (.ref (G.2.1 40 0)), some (.int (nI 3)), none, none] [] := by
        intro w6 q1 q2 q3 q4
        refine b_X10_clause_266 F hk ?_
        refine con_vP (m_sign hl (c := 59) (by decide) q1) (fun w7 k7 => ⟨fun _ => ?_, fun z => absurd (by decide) z⟩)
        rw [← hK, ecl, e5]
        refine ⟨rfl, k7.1, fun z => ⟨?_, ?_⟩, q4.tr (k7.2.mono GR_GQ)⟩
        · exact (q2 (sgnF_ok z).1).cg (fun κ x y q => k7.2.oth40 GR_40 (by omega))
        · rw [k7.2.1 40 0 7 (by unfold GR; omega)]
          exact q3
      rw [k5.1.zero]
      refine ⟨fun hf => fin3 w5 k5.1 (fun z => absurd z hf) ?_ s5, fun hf w6 hw6 => fin3 w6 (k5.1.row hw6 (by decide) (by decide)) (fun _ => ?_) ?_ ?_⟩
      · rw [k5.2.1 40 0 7 (by unfold GR; omega)]
        exact g7
      · have q : ∀ κ x y, κ ≠ 40 → w6.1 κ x y = if κ = 43 ∧ x = 0 ∧ y = 3 then nI (figF b n 0 31 (0, we b n a)).2 else w.1 κ x y := fun κ x y hκ => by
          rw [hw6, setI_1, k5.2.oth40 GR_40 hκ, oth κ x y hκ]
        obtain ⟨r1, r2, r3, r4, r5, r6, r7⟩ := hR
        refine ⟨?_, ?_, ?_, ?_, fun i hi => ?_, fun i hi => ?_, fun i hi => ?_⟩
        · rw [q 43 0 0 (by decide), if_neg (by omega)]; exact r1
        · rw [q 43 0 1 (by decide), if_neg (by omega)]; exact r2
        · rw [q 43 0 2 (by decide), if_neg (by omega)]; exact r3
        · rw [q 43 0 3 (by decide), if_pos ⟨rfl, rfl, rfl⟩]; rfl
        · rw [q 46 i 0 (by decide), q 46 i 1 (by decide), q 46 i 2 (by decide), if_neg (by omega), if_neg (by omega), if_neg (by omega)]; exact r5 i hi
        · rw [q 50 i 0 (by decide), q 50 i 1 (by decide), if_neg (by omega), if_neg (by omega)]; exact r6 i hi
        · rw [q 54 i 0 (by decide), q 54 i 1 (by decide), if_neg (by omega), if_neg (by omega)]; exact r7 i hi
      · rw [hw6, setI_ne (by omega), k5.2.1 40 0 7 (by unfold GR; omega)]
        exact g7
      · rw [hw6]
        exact s5.set (by unfold GQ; omega)
    · have hroom := hroom (by omega)
      rcases (show j = 0 ∨ j = 1 ∨ j = 2 by omega) with ej | ej | ej
      · -- singer
        subst ej
        have hS : tS T < 7 := by
          have : tS T ≠ 7 := fun z => hroom (by rw [hR.1, z]; rfl)
          omega
        have hvi : vp_in (nI (tS T)) 7 := vp_in_nI hS (by decide)
        rw [Q3.1]
        refine b_X10_clause_95 F hk ⟨fun _ => ⟨hvi, ?_⟩, fun z => absurd z (by decide), fun z => absurd z (by decide), fun z => absurd rfl z.1⟩
        rw [nI_clamp (by omega)]
        refine con_iP (m_number hl (lo := 0) (H := 6) (by decide) (by decide) R3) (fun w5 k5 w6 hw6 => ⟨hvi, ?_⟩)
        have R6 := k5.1.row hw6 (by decide) (by decide)
        refine con_iP (m_number hl (lo := 0) (H := 61) (by decide) (by decide) R6) (fun w7 k7 w8 hw8 => ⟨hvi, ?_⟩)
        have R8 := k7.1.row hw8 (by decide) (by decide)
        refine con_iP (m_number hl (lo := 1) (H := 31) (by decide) (by decide) R8) (fun w9 k9 w10 hw10 => ?_)
        have R10 := k9.1.row hw10 (by decide) (by decide)
        generalize hf1 : figF b n 0 6 (0, we b n a) = f1 at *
        generalize hf2 : figF b n 0 61 f1.1 = f2 at *
        generalize hf3 : figF b n 1 31 f2.1 = f3 at *
        have q : ∀ κ x y, κ ≠ 40 → w10.1 κ x y = if κ = 46 ∧ x = tS T ∧ y = 2 then nI f3.2 else if κ = 46 ∧ x = tS T ∧ y = 1 then nI f2.2 else if κ = 46 ∧ x = tS T ∧ y = 0 then nI f1.2 else w.1 κ x y := fun κ x y hκ => by
          rw [hw10, setI_1, k9.2.oth40 GR_40 hκ, hw8, setI_1, k7.2.oth40 GR_40 hκ, hw6, setI_1, k5.2.oth40 GR_40 hκ, oth κ x y hκ]
        have e5 : cl1 b n (decide (k < 60)) T a (0, we b n a) 0 = (f3.1, addS T f1.2 f2.2 f3.2) := by
          show siF b n _ T a _ = _
          rw [siF, if_neg (by rw [dk]; intro z; rcases z with z | z; exact absurd z (by decide); omega), hf1, hf2, hf3]
        refine fin w10 f3.1 (tS T) (by decide) (by omega) R10 ?_ (by rw [e5]) (fun h0 => ?_) ?_ ?_
        · rw [q 43 0 0 (by decide), if_neg (by omega), if_neg (by omega), if_neg (by omega)]; exact hR.1
        · rw [e5]
          obtain ⟨r1, r2, r3, r4, r5, r6, r7⟩ := hR
          refine ⟨by rw [setI_eq]; rfl, ?_, ?_, ?_, fun i hi => ?_, fun i hi => ?_, fun i hi => ?_⟩
          · rw [setI_ne (by omega), q 43 0 1 (by decide), if_neg (by omega), if_neg (by omega), if_neg (by omega)]; exact r2
          · rw [setI_ne (by omega), q 43 0 2 (by decide), if_neg (by omega), if_neg (by omega), if_neg (by omega)]; exact r3
          · rw [setI_ne (by omega), q 43 0 3 (by decide), if_neg (by omega), if_neg (by omega), if_neg (by omega)]; exact r4
          · have hi : i < tS T + 1 := hi
            rw [setI_ne (by omega), setI_ne (by omega), setI_ne (by omega), q 46 i 0 (by decide), q 46 i 1 (by decide), q 46 i 2 (by decide)]
            by_cases e : i = tS T
            · rw [if_neg (by omega), if_neg (by omega), if_pos ⟨rfl, e, rfl⟩, if_neg (by omega), if_pos ⟨rfl, e, rfl⟩, if_pos ⟨rfl, e, rfl⟩, e]
              exact ⟨pk_us.symm, pk_us.symm, pk_us.symm⟩
            · rw [if_neg (by omega), if_neg (by omega), if_neg (by omega), if_neg (by omega), if_neg (by omega), if_neg (by omega), if_neg (by omega), if_neg (by omega), if_neg (by omega)]
              obtain ⟨z1, z2, z3⟩ := r5 i (by omega)
              exact ⟨z1.trans (pk_un e).symm, z2.trans (pk_un e).symm, z3.trans (pk_un e).symm⟩
          · rw [setI_ne (by omega), setI_ne (by omega), q 50 i 0 (by decide), q 50 i 1 (by decide), if_neg (by omega), if_neg (by omega), if_neg (by omega), if_neg (by omega), if_neg (by omega), if_neg (by omega)]; exact r6 i hi
          · rw [setI_ne (by omega), setI_ne (by omega), q 54 i 0 (by decide), q 54 i 1 (by decide), if_neg (by omega), if_neg (by omega), if_neg (by omega), if_neg (by omega), if_neg (by omega), if_neg (by omega)]; exact r7 i hi
        · rw [hw10, setI_ne (by omega), k9.2.1 40 0 7 (by unfold GR; omega), hw8, setI_ne (by omega), k7.2.1 40 0 7 (by unfold GR; omega), hw6, setI_ne (by omega), k5.2.1 40 0 7 (by unfold GR; omega)]
          exact g7
        · rw [hw10]
          refine Sm.set (Sm.tr ?_ (k9.2.mono GR_GQ)) (by unfold GQ; omega)
          rw [hw8]
          refine Sm.set (Sm.tr ?_ (k7.2.mono GR_GQ)) (by unfold GQ; omega)
          rw [hw6]
          exact Sm.set (s3.tr (k5.2.mono GR_GQ)) (by unfold GQ; omega)
      · -- note
        subst ej
        have hS : tN T < 20 := by
          have : tN T ≠ 20 := fun z => hroom (by rw [hR.2.1, z]; rfl)
          omega
        have hvi : vp_in (nI (tN T)) 20 := vp_in_nI hS (by decide)
        rw [Q3.2.1]
        refine b_X10_clause_95 F hk ⟨fun z => absurd z (by decide), fun _ => ⟨hvi, ?_⟩, fun z => absurd z (by decide), fun z => absurd rfl z.2.1⟩
        rw [nI_clamp (by omega)]
        refine con_iP (m_number hl (lo := 0) (H := 6) (by decide) (by decide) R3) (fun w5 k5 w6 hw6 => ⟨hvi, ?_⟩)
        have R6 := k5.1.row hw6 (by decide) (by decide)
        refine con_iP (m_number hl (lo := 1) (H := 10) (by decide) (by decide) R6) (fun w7 k7 w8 hw8 => ?_)
        have R8 := k7.1.row hw8 (by decide) (by decide)
        generalize hf1 : figF b n 0 6 (0, we b n a) = f1 at *
        generalize hf2 : figF b n 1 10 f1.1 = f2 at *
        have q : ∀ κ x y, κ ≠ 40 → w8.1 κ x y = if κ = 50 ∧ x = tN T ∧ y = 1 then nI f2.2 else if κ = 50 ∧ x = tN T ∧ y = 0 then nI f1.2 else w.1 κ x y := fun κ x y hκ => by
          rw [hw8, setI_1, k7.2.oth40 GR_40 hκ, hw6, setI_1, k5.2.oth40 GR_40 hκ, oth κ x y hκ]
        have e5 : cl1 b n (decide (k < 60)) T a (0, we b n a) 1 = (f2.1, addN T f1.2 f2.2) := by
          show noF b n _ T a _ = _
          rw [noF, if_neg (by rw [dk]; intro z; rcases z with z | z; exact absurd z (by decide); omega), hf1, hf2]
        refine fin w8 f2.1 (tN T) (by decide) (by omega) R8 ?_ (by rw [e5]) (fun h0 => ?_) ?_ ?_
        · rw [q 43 0 1 (by decide), if_neg (by omega), if_neg (by omega)]; exact hR.2.1
        · rw [e5]
          obtain ⟨r1, r2, r3, r4, r5, r6, r7⟩ := hR
          refine ⟨?_, by rw [setI_eq]; rfl, ?_, ?_, fun i hi => ?_, fun i hi => ?_, fun i hi => ?_⟩
          · rw [setI_ne (by omega), q 43 0 0 (by decide), if_neg (by omega), if_neg (by omega)]; exact r1
          · rw [setI_ne (by omega), q 43 0 2 (by decide), if_neg (by omega), if_neg (by omega)]; exact r3
          · rw [setI_ne (by omega), q 43 0 3 (by decide), if_neg (by omega), if_neg (by omega)]; exact r4
          · rw [setI_ne (by omega), setI_ne (by omega), setI_ne (by omega), q 46 i 0 (by decide), q 46 i 1 (by decide), q 46 i 2 (by decide), if_neg (by omega), if_neg (by omega), if_neg (by omega), if_neg (by omega), if_neg (by omega), if_neg (by omega)]; exact r5 i hi
          · have hi : i < tN T + 1 := hi
            rw [setI_ne (by omega), setI_ne (by omega), q 50 i 0 (by decide), q 50 i 1 (by decide)]
            by_cases e : i = tN T
            · rw [if_neg (by omega), if_pos ⟨rfl, e, rfl⟩, if_pos ⟨rfl, e, rfl⟩, e]
              exact ⟨pk_us.symm, pk_us.symm⟩
            · rw [if_neg (by omega), if_neg (by omega), if_neg (by omega), if_neg (by omega)]
              obtain ⟨z1, z2⟩ := r6 i (by omega)
              exact ⟨z1.trans (pk_un e).symm, z2.trans (pk_un e).symm⟩
          · rw [setI_ne (by omega), setI_ne (by omega), q 54 i 0 (by decide), q 54 i 1 (by decide), if_neg (by omega), if_neg (by omega), if_neg (by omega), if_neg (by omega)]; exact r7 i hi
        · rw [hw8, setI_ne (by omega), k7.2.1 40 0 7 (by unfold GR; omega), hw6, setI_ne (by omega), k5.2.1 40 0 7 (by unfold GR; omega)]
          exact g7
        · rw [hw8]
          refine Sm.set (Sm.tr ?_ (k7.2.mono GR_GQ)) (by unfold GQ; omega)
          rw [hw6]
          exact Sm.set (s3.tr (k5.2.mono GR_GQ)) (by unfold GQ; omega)
      · -- like
        subst ej
        have hS : tL T < 12 := by
          have : tL T ≠ 12 := fun z => hroom (by rw [hR.2.2.1, z]; rfl)
          omega
        have hvi : vp_in (nI (tL T)) 12 := vp_in_nI hS (by decide)
        rw [Q3.2.2.1]
        refine b_X10_clause_95 F hk ⟨fun z => absurd z (by decide), fun z => absurd z (by decide), fun _ => ⟨hvi, ?_⟩, fun z => absurd rfl z.2.2⟩
        rw [nI_clamp (by omega), Q3.2.1]
        refine con_iP (m_number hl (lo := 0) (H := tN T) (by decide) (by omega) R3) (fun w5 k5 w6 hw6 => ⟨hvi, ?_⟩)
        have R6 := k5.1.row hw6 (by decide) (by decide)
        refine con_iP (m_number hl (lo := 0) (H := 6) (by decide) (by decide) R6) (fun w7 k7 w8 hw8 => ?_)
        have R8 := k7.1.row hw8 (by decide) (by decide)
        generalize hf1 : figF b n 0 (tN T) (0, we b n a) = f1 at *
        generalize hf2 : figF b n 0 6 f1.1 = f2 at *
        have q : ∀ κ x y, κ ≠ 40 → w8.1 κ x y = if κ = 54 ∧ x = tL T ∧ y = 1 then nI f2.2 else if κ = 54 ∧ x = tL T ∧ y = 0 then nI f1.2 else w.1 κ x y := fun κ x y hκ => by
          rw [hw8, setI_1, k7.2.oth40 GR_40 hκ, hw6, setI_1, k5.2.oth40 GR_40 hκ, oth κ x y hκ]
        have e5 : cl1 b n (decide (k < 60)) T a (0, we b n a) 2 = (f2.1, addL T f1.2 f2.2) := by
          show lkR b n _ T a _ = _
          rw [lkR, if_neg (by rw [dk]; intro z; rcases z with z | z; exact absurd z (by decide); omega), hf1, hf2]
        refine fin w8 f2.1 (tL T) (by decide) (by omega) R8 ?_ (by rw [e5]) (fun h0 => ?_) ?_ ?_
        · rw [q 43 0 2 (by decide), if_neg (by omega), if_neg (by omega)]; exact hR.2.2.1
        · rw [e5]
          obtain ⟨r1, r2, r3, r4, r5, r6, r7⟩ := hR
          refine ⟨?_, ?_, by rw [setI_eq]; rfl, ?_, fun i hi => ?_, fun i hi => ?_, fun i hi => ?_⟩
          · rw [setI_ne (by omega), q 43 0 0 (by decide), if_neg (by omega), if_neg (by omega)]; exact r1
          · rw [setI_ne (by omega), q 43 0 1 (by decide), if_neg (by omega), if_neg (by omega)]; exact r2
          · rw [setI_ne (by omega), q 43 0 3 (by decide), if_neg (by omega), if_neg (by omega)]; exact r4
          · rw [setI_ne (by omega), setI_ne (by omega), setI_ne (by omega), q 46 i 0 (by decide), q 46 i 1 (by decide), q 46 i 2 (by decide), if_neg (by omega), if_neg (by omega), if_neg (by omega), if_neg (by omega), if_neg (by omega), if_neg (by omega)]; exact r5 i hi
          · rw [setI_ne (by omega), setI_ne (by omega), q 50 i 0 (by decide), q 50 i 1 (by decide), if_neg (by omega), if_neg (by omega), if_neg (by omega), if_neg (by omega)]; exact r6 i hi
          · have hi : i < tL T + 1 := hi
            rw [setI_ne (by omega), setI_ne (by omega), q 54 i 0 (by decide), q 54 i 1 (by decide)]
            by_cases e : i = tL T
            · rw [if_neg (by omega), if_pos ⟨rfl, e, rfl⟩, if_pos ⟨rfl, e, rfl⟩, e]
              exact ⟨pk_us.symm, pk_us.symm⟩
            · rw [if_neg (by omega), if_neg (by omega), if_neg (by omega), if_neg (by omega)]
              obtain ⟨z1, z2⟩ := r7 i (by omega)
              exact ⟨z1.trans (pk_un e).symm, z2.trans (pk_un e).symm⟩
        · rw [hw8, setI_ne (by omega), k7.2.1 40 0 7 (by unfold GR; omega), hw6, setI_ne (by omega), k5.2.1 40 0 7 (by unfold GR; omega)]
          exact g7
        · rw [hw8]
          refine Sm.set (Sm.tr ?_ (k7.2.mono GR_GQ)) (by unfold GQ; omega)
          rw [hw6]
          exact Sm.set (s3.tr (k5.2.mono GR_GQ)) (by unfold GQ; omega)
  -- too many
  have many : ∀ (w' : Wd) (x : Int32), (cl1 b n (decide (k < 60)) T a (0, we b n a) j).1 = (3, a) → RM w' b n (0, a) → Sm GR4 w w' → Z M G 0 K noX w' 49 [some (.ref (G.2.1 40 0)), some (.int x), none, none] [] := by
    intro w' x hc hRm hs
    have e4 : w'.1 40 0 4 = nI a := (hRm.2.2.2.2.2.2.1 rfl).2
    refine b_X10_clause_49 F hk ?_
    rw [e4]
    refine con_vP (m_wrong hl hRm (f := 3) (by decide) (by decide) han) (fun w2 k2 => ?_)
    rw [flF, if_neg (fun z => z rfl)] at k2
    exact fail58 w2 3 x (by decide) k2.1 hc ((hs.mono GR4_GQ).tr (k2.2.1.mono GR_GQ))
  refine con_iP (m_kindHere hl h ha) (fun w2 k2 => ?_)
  rw [hj]
  have g7 : w2.1 40 0 7 = nI k := (k2.2.1 40 0 7 (by unfold GR4; omega)).trans h7
  have e4 : w2.1 40 0 4 = nI a := (k2.1.2.2.2.2.2.2.1 rfl).2
  rw [g7, e4]
  have c60 : (nI k = (60 : Int32)) ↔ k = 60 := nI_eq (b := 60) (by omega) (by decide)
  rw [c60]
  by_cases h4 : j = 4
  · rw [if_pos h4]
    refine ⟨fun z => absurd rfl z, fun _ => ?_⟩
    refine con_vP (m_wrong hl k2.1 (f := 1) (by decide) (by decide) han) (fun w6 k6 => ?_)
    rw [flF, if_neg (fun z => z rfl)] at k6
    exact fail58 w6 1 (-1) (by decide) k6.1 (by rw [h4]; rfl) ((k2.2.mono GR4_GQ).tr (k6.2.1.mono GR_GQ))
  · rw [if_neg h4]
    have c3 : ((3 : Int32) ≤ nI j) ↔ 3 ≤ j := nI_leI (a := 3) (by decide) (by omega)
    rw [c3, nI_clamp (by omega)]
    refine ⟨fun _ => ⟨fun hq => ?_, fun hq => ⟨fun h3 => ?_, fun h3 => ⟨vp_in_nI (by omega) (by decide), ?_⟩⟩⟩, fun z => absurd (Classical.not_not.mp z) (nI_neg1 (by omega))⟩
    · refine many w2 _ ?_ k2.1 k2.2
      have dk : decide (k < 60) = false := decide_eq_false (by omega)
      rw [dk]
      rcases (show j = 0 ∨ j = 1 ∨ j = 2 ∨ j = 3 by omega) with e | e | e | e
      · subst e; show (siF b n false T a (0, we b n a)).1 = _; rw [siF, if_pos (Or.inl rfl)]; rfl
      · subst e; show (noF b n false T a (0, we b n a)).1 = _; rw [noF, if_pos (Or.inl rfl)]; rfl
      · subst e; show (lkR b n false T a (0, we b n a)).1 = _; rw [lkR, if_pos (Or.inl rfl)]; rfl
      · subst e; show (reF b n false T a (0, we b n a)).1 = _; rw [reF, if_pos rfl]; rfl
    · exact go w2 (by omega) (fun z => absurd z (by omega)) (by omega) k2.1 k2.2
    · refine con_i (m_mostOf hl (k := j) (by omega)) ?_
      have e43 : w2.1 43 0 j = w.1 43 0 j := k2.2.oth40 (fun _ _ _ q => q.1) (by decide)
      rw [e43]
      refine ⟨fun hne => go w2 (by omega) (fun _ => hne) (by omega) k2.1 k2.2, fun heq => ?_⟩
      have heq := Classical.not_not.mp heq
      refine many w2 _ ?_ k2.1 k2.2
      rcases (show j = 0 ∨ j = 1 ∨ j = 2 by omega) with e | e | e
      · subst e
        rw [hR.1] at heq
        have : tS T = 7 := (nI_eq (b := 7) (by omega) (by decide)).mp heq
        show (siF b n _ T a (0, we b n a)).1 = _
        rw [siF, if_pos (Or.inr (by omega))]; rfl
      · subst e
        rw [hR.2.1] at heq
        have : tN T = 20 := (nI_eq (b := 20) (by omega) (by decide)).mp heq
        show (noF b n _ T a (0, we b n a)).1 = _
        rw [noF, if_pos (Or.inr (by omega))]; rfl
      · subst e
        rw [hR.2.2.1] at heq
        have : tL T = 12 := (nI_eq (b := 12) (by omega) (by decide)).mp heq
        show (lkR b n _ T a (0, we b n a)).1 = _
        rw [lkR, if_pos (Or.inr (by omega))]; rfl
end YE
