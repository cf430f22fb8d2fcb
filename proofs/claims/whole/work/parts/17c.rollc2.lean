/-! The class: a clause, a choir's text; a new beginning. -/
section YB
variable {l : Launch} {G : Gx} {w : Wd} {b : Nat → Nat} {n a r : Nat} {s : Rd} {T : Tx} {room : Bool}
theorem c_readClause (hl : l.stackTraces = false) (hr : r < 2) (h : RC w b n (0, a)) (ha : sk b n a = a) (hT : Tok T) (hR : RollC w r T) : C_X5_readClause l G w [.ref (G.2.1 7 r), .ref (G.2.1 1 0), .int (bI room)] (fun v w' => v = none ∧ RC w' b n (clF b n room T a).1 ∧ ((clF b n room T a).1.1 = 0 → RollC w' r (clF b n room T a).2) ∧ Sm (GY r) w w') noX := by
  have han := h.2.2.2.2.1.2
  have han : a ≤ n := han
  refine e_X5_readClause hr hl (fun M kk hM hk F => ?_)
  subst hM
  refine con_vP (c_word hl h) (fun w2 k2 => ?_)
  obtain ⟨k21, k22, k23, k24⟩ := k2
  rw [wdS, if_neg (fun z => z rfl), ha] at k21
  rw [wdA, if_neg (fun z => z rfl), ha] at k22
  rw [wdE, if_neg (fun z => z rfl), ha] at k23
  have he := we_ge b n a
  have hen := we_le (b := b) han
  have R2 : RollC w2 r T := hR.mv k24 (fun κ k q => by unfold GT; omega)
  have hs2 : Sm (GY r) w w2 := k24.mono GT_GY
  have fin : ∀ (w' : Wd) (j : Nat), kdC b a (we b n a) = j → RC w' b n (cl1 b n room T a (0, we b n a) j).1 → ((cl1 b n room T a (0, we b n a) j).1.1 = 0 → RollC w' r (cl1 b n room T a (0, we b n a) j).2) → Sm (GY r) w w' → Z M G 0 (fun v w' => v = none ∧ RC w' b n (clF b n room T a).1 ∧ ((clF b n room T a).1.1 = 0 → RollC w' r (clF b n room T a).2) ∧ Sm (GY r) w w') noX w' 85 [none, some (.ref (G.2.1 1 0)), none] [] := by
    intro w' j hj hRc hro hs
    refine b_X5_readClause_85 F hk ?_
    refine con_vP (c_sign hl (c := 59) (by decide) hRc) (fun w4 k4 => ⟨rfl, ?_, fun ho => ?_, hs.tr (k4.2.mono GT3_GY)⟩)
    · unfold clF
      rw [hj]
      exact k4.1
    · unfold clF at ho ⊢
      rw [hj] at ho ⊢
      exact (hro (sgnF_ok ho).1).mv k4.2 (fun κ k q => by unfold GT3; omega)
  refine con_i (c_says hl (t := 0) (by decide) k21 he hen k22 k23) ?_
  rw [bI_t]
  refine ⟨fun c0 => ?_, fun c0 => ?_⟩
  · refine con_i (c_says hl (t := 1) (by decide) k21 he hen k22 k23) ?_
    rw [bI_t]
    refine ⟨fun c1 => ?_, fun c1 => ?_⟩
    · refine con_i (c_says hl (t := 2) (by decide) k21 he hen k22 k23) ?_
      rw [bI_t]
      refine ⟨fun c2 => ?_, fun c2 => ?_⟩
      · refine con_i (c_says hl (t := 3) (by decide) k21 he hen k22 k23) ?_
        rw [bI_t]
        refine ⟨fun c3 => ?_, fun c3 => ?_⟩
        · rw [k22]
          refine con_vP (c_fail hl k21 (f := 1) (by decide) (by decide) han) (fun w12 k12 => ?_)
          refine fin w12 4 ?_ k12.1 (fun z => absurd z (by show ¬ (1 : Nat) = 0; decide)) (hs2.tr (k12.2.mono GT3_GY))
          unfold kdC
          rw [c0, c1, c2, c3]
          rfl
        · have c3 : isW b a (we b n a) (wT 3) = true := by
            cases hq : isW b a (we b n a) (wT 3) with
            | false => exact absurd hq c3
            | true => rfl
          refine con_vP (c_readRest hl hr k21 han k22 hT R2) (fun w12 k12 => ?_)
          refine fin w12 3 ?_ k12.1 (fun z => k12.2.1 z rfl) (hs2.tr k12.2.2)
          unfold kdC
          rw [c0, c1, c2, c3]
          rfl
      · have c2 : isW b a (we b n a) (wT 2) = true := by
          cases hq : isW b a (we b n a) (wT 2) with
          | false => exact absurd hq c2
          | true => rfl
        refine con_vP (c_readLike hl hr k21 han k22 hT R2) (fun w12 k12 => ?_)
        refine fin w12 2 ?_ k12.1 (fun z => k12.2.1 z rfl) (hs2.tr k12.2.2)
        unfold kdC
        rw [c0, c1, c2]
        rfl
    · have c1 : isW b a (we b n a) (wT 1) = true := by
        cases hq : isW b a (we b n a) (wT 1) with
        | false => exact absurd hq c1
        | true => rfl
      refine con_vP (c_readNote hl hr k21 han k22 hT R2) (fun w12 k12 => ?_)
      refine fin w12 1 ?_ k12.1 (fun z => k12.2.1 z rfl) (hs2.tr k12.2.2)
      unfold kdC
      rw [c0, c1]
      rfl
  · have c0 : isW b a (we b n a) (wT 0) = true := by
      cases hq : isW b a (we b n a) (wT 0) with
      | false => exact absurd hq c0
      | true => rfl
    refine con_vP (c_readSinger hl hr k21 han k22 hT R2) (fun w12 k12 => ?_)
    refine fin w12 0 ?_ k12.1 (fun z => k12.2.1 z rfl) (hs2.tr k12.2.2)
    unfold kdC
    rw [c0]
    rfl
theorem chL_x {f k : Nat} (hs : s.1 ≠ 0) : chL b n f k T s = (s, T) := by
  cases f with
  | zero => rfl
  | succ f => rw [chL, if_neg (fun z => hs z.1), pkS_x hs]
theorem c_rollRead (hl : l.stackTraces = false) (hr : r < 2) (h : RC w b n (0, 0)) : C_X5_read l G w [.ref (G.2.1 7 r), .ref (G.2.1 1 0)] (fun v w' => v = none ∧ RC w' b n (chF b n).1 ∧ ((chF b n).1.1 = 0 → RollC w' r (chF b n).2) ∧ Sm (GY r) w w') noX := by
  have hn := h.1
  refine e_X5_read hr hl (fun M kk hM hk F => ?_)
  generalize hK : (fun v w' => v = none ∧ RC w' b n (chF b n).1 ∧ ((chF b n).1.1 = 0 → RollC w' r (chF b n).2) ∧ Sm (GY r) w w' : Option Value → Wd → Prop) = K
  subst hM
  intro w1 hw1 w2 hw2 w3 hw3 w4 hw4
  have R4 : RC w4 b n (0, 0) := (((h.row hw1 (by decide) (by decide)).row hw2 (by decide) (by decide)).row hw3 (by decide) (by decide)).row hw4 (by decide) (by decide)
  have hs4 : Sm (GY r) w w4 := by
    rw [hw4, hw3, hw2, hw1]
    exact (((Sm.rf.set (by unfold GY; omega)).set (by unfold GY; omega)).set (by unfold GY; omega)).set (by unfold GY; omega)
  have Q4 : RollC w4 r T00 := by
    refine ⟨?_, ?_, ?_, ?_, fun s hs => absurd hs (Nat.not_lt_zero _), fun s hs => absurd hs (Nat.not_lt_zero _), fun s hs => absurd hs (Nat.not_lt_zero _)⟩
    · simp [hw4, hw3, hw2, hw1, setI_1]; rfl
    · simp [hw4, hw3, hw2, hw1, setI_1]; rfl
    · simp [hw4, hw3, hw2, hw1, setI_1]; rfl
    · simp [hw4, hw3, hw2, hw1, setI_1]; rfl
  have key : ∀ f k (T : Tx) (s : Rd) (w' : Wd), f + k = 62 → (s.1 = 0 → k ≤ 60) → (s.1 = 0 → Tok T) → chL b n f k T s = chF b n → RC w' b n s → (s.1 = 0 → RollC w' r T) → Sm (GY r) w w' → Z M G 0 K noX w' 22 [some (.ref (G.2.1 7 r)), some (.ref (G.2.1 1 0)), some (.int (nI k))] [] := by
    intro f
    induction f with
    | zero =>
      intro k T s w' hfk hk60 hTk hch hRc hro hs
      have hne : s.1 ≠ 0 := fun z => by have := hk60 z; omega
      refine b_X5_read_22 hr F hk ?_
      have c60 : ((60 : Int32) < nI k) ↔ 60 < k := nI_ltI (a := 60) (by decide) (by omega)
      rw [c60]
      refine ⟨fun _ => ?_, fun hc => absurd (by omega) hc⟩
      rw [← hK, ← hch]
      exact ⟨rfl, hRc, fun z => absurd z hne, hs⟩
    | succ f ih =>
      intro k T s w' hfk hk60 hTk hch hRc hro hs
      refine b_X5_read_22 hr F hk ?_
      have c60 : ((60 : Int32) < nI k) ↔ 60 < k := nI_ltI (a := 60) (by decide) (by omega)
      have c60' : ((60 : Int32) ≤ nI k) ↔ 60 ≤ k := nI_leI (a := 60) (by decide) (by omega)
      rw [c60, c60']
      refine ⟨fun hc => ?_, fun _ => ?_⟩
      · have hne : s.1 ≠ 0 := fun z => by have := hk60 z; omega
        rw [chL_x hne] at hch
        rw [← hK, ← hch]
        exact ⟨rfl, hRc, fun z => absurd z hne, hs⟩
      · refine con_iP (c_more hl hRc) (fun w5 k5 => ?_)
        have hs5 := hs.tr (k5.2.mono (GT3_GY (r := r)))
        rw [bI_t]
        refine ⟨fun hm => ?_, fun hm => ?_⟩
        · have hm : ¬ (s.1 = 0 ∧ sk b n s.2 < n) := of_decide_eq_false hm
          rw [chL, if_neg hm] at hch
          rw [← hK, ← hch]
          refine ⟨rfl, k5.1, fun z => ?_, hs5⟩
          have h0 : s.1 = 0 := by
            by_cases h0 : s.1 = 0
            · exact h0
            · rw [pkS_x h0] at z; exact z
          exact (hro h0).mv k5.2 (fun κ k q => by unfold GT3; omega)
        · have hm : s.1 = 0 ∧ sk b n s.2 < n := by
            by_cases hq : s.1 = 0 ∧ sk b n s.2 < n
            · exact hq
            · exact absurd (decide_eq_false hq) hm
          have k51 := k5.1
          rw [pkS, if_neg (fun z => z hm.1)] at k51
          have R5 : RollC w5 r T := (hro hm.1).mv k5.2 (fun κ k q => by unfold GT3; omega)
          rw [chL, if_pos hm] at hch
          have go : ∀ room : Bool, room = decide (k < 60) → Z M G 0 K noX w5 48 [some (.ref (G.2.1 7 r)), some (.ref (G.2.1 1 0)), some (.int (nI k))] [.int (bI room), .ref (G.2.1 1 0), .ref (G.2.1 7 r)] := by
            intro room hroom
            refine b_X5_read_48 hr F hk ?_
            refine con_vP (c_readClause hl hr k51 (sk_idem b n s.2) (hTk hm.1) R5) (fun w6 k6 => ?_)
            rw [hroom] at k6
            rw [← nI_succ]
            refine ih (k + 1) _ _ w6 (by omega) (fun z => ?_) (fun z => clF_tok (hTk hm.1) z) hch k6.1 k6.2.1 (hs5.tr k6.2.2)
            have := clF_lt z
            omega
          refine ⟨fun hq => go false (decide_eq_false (by omega)).symm, fun hq => go true (decide_eq_true (by omega)).symm⟩
  exact key 62 0 T00 (0, 0) w4 rfl (fun _ => by decide) (fun _ => Tok00) rfl R4 (fun _ => Q4) hs4
/-- what the law is from the start: the length -/
def E00 : Ex := fun f => f 0
theorem c_lawAdd (hl : l.stackTraces = false) {c : Nat} {p0 p1 p2 : Int32} (hr : r < 2) (hc : c < 150) (h : w.1 8 r 5 = nI c) : C_X2_add l G w [.ref (G.2.1 8 r), .int p0, .int p1, .int p2] (fun v w' => v = some (.int (nI c)) ∧ w' = setI (setI (setI (setI w 34 r c p0) 35 r c p1) 36 r c p2) 8 r 5 (nI (c + 1))) noX := by
  refine e_X2_add hr hl (fun M kk hM hk F => ?_)
  rw [h, nI_clamp (by omega)]
  have hvi : vp_in (nI c) 150 := vp_in_nI hc (by decide)
  refine ⟨fun _ => ⟨hvi, fun w1 hw1 => ?_⟩, fun hq => absurd (nI_lt hc (by decide)) hq⟩
  have e1 : w1.1 8 r 5 = nI c := by rw [hw1, setI_ne (by omega)]; exact h
  rw [e1, nI_clamp (by omega)]
  refine ⟨hvi, fun w2 hw2 => ?_⟩
  have e2 : w2.1 8 r 5 = nI c := by rw [hw2, setI_ne (by omega)]; exact e1
  rw [e2, nI_clamp (by omega)]
  refine ⟨hvi, fun w3 hw3 w4 hw4 => ?_⟩
  have e3 : w3.1 8 r 5 = nI c := by rw [hw3, setI_ne (by omega)]; exact e2
  rw [e3, ← nI_succ] at hw4
  refine ⟨?_, by rw [hw4, hw3, hw2, hw1]⟩
  rw [hw4, setI_eq, nI_pred]
theorem c_plain (hl : l.stackTraces = false) (hr : r < 2) : C_X2_plain l G w [.ref (G.2.1 8 r)] (fun v w' => v = none ∧ LawC w' r E00 ∧ Sm (fun κ b _ => b = r ∧ (κ = 8 ∨ (34 ≤ κ ∧ κ ≤ 36))) w w') noX := by
  refine e_X2_plain hr hl (fun M kk hM hk F => ?_)
  subst hM
  intro w1 hw1
  have e1 : w1.1 8 r 5 = nI 0 := by rw [hw1]; exact setI_eq _ _ _ _ _
  refine con_i (c_lawAdd hl hr (c := 0) (by decide) e1) ⟨rfl, ⟨1, by decide, by decide, ?_, fun i hi => ?_, fun f => ?_⟩, ?_⟩
  · exact setI_eq _ _ _ _ _
  · have hi0 : i = 0 := by omega
    subst hi0
    refine Or.inl ⟨0, by decide, ?_⟩
    rw [setI_ne (by omega), setI_ne (by omega), setI_ne (by omega), setI_eq]
    rfl
  · have e34 : (setI (setI (setI (setI w1 34 r 0 0) 35 r 0 0) 36 r 0 0) 8 r 5 (nI (0 + 1))).1 34 r 0 = 0 := by
      rw [setI_ne (by omega), setI_ne (by omega), setI_ne (by omega), setI_eq]
    show f 0 = lvl _ _ _ f (0 + 1) 0
    rw [lvl_at, e34, if_pos (by decide)]
    rfl
  · rw [hw1]
    exact ((((Sm.rf.set (by omega)).set (by omega)).set (by omega)).set (by omega)).set (by omega)
theorem c_clear (hl : l.stackTraces = false) {q : Nat} (hq : q < 2) : C_X1_clear l G w [.ref (G.2.1 9 q)] (fun v w' => v = none ∧ w' = setI (setI w 9 q 0 0) 9 q 1 0) noX := by
  refine e_X1_clear hq hl (fun M kk hM hk F => ?_)
  intro w1 hw1 w2 hw2
  exact ⟨rfl, by rw [hw2, hw1]⟩
/-- the state of a new beginning -/
def sg0 (T : Tx) : Sg := fun q => if q < tS T then sb T q else if 35 ≤ q ∧ q < 35 + tN T then nv T (q - 35) else 0
theorem c_sceneBegin (hl : l.stackTraces = false) {j : Nat} (hr : r < 2) (hj : j < 69) (hT : Tok T) (hR : RollC w r T) : C_X6_begin l G w [.ref (G.2.1 5 j), .ref (G.2.1 7 r)] (fun v w' => v = none ∧ SceneC w' j (sg0 T) (tN T) ∧ Sm (GJ j) w w') noX := by
  have hS7 := hT.1
  have hN20 := hT.2.1
  refine e_X6_begin hj hr hl (fun M kk hM hk F => ?_)
  intro w1 hw1 w2 hw2 w3 hw3
  have hs3 : Sm (GJ j) w w3 := by
    rw [hw3, hw2, hw1]
    exact ((Sm.rf.set (by unfold GJ; omega)).set (by unfold GJ; omega)).set (by unfold GJ; omega)
  have f0 : w3.1 5 j 0 = 0 := by rw [hw3, setI_ne (by omega), hw2, setI_ne (by omega), hw1]; exact setI_eq _ _ _ _ _
  have f1 : w3.1 5 j 1 = 0 := by rw [hw3, setI_ne (by omega), hw2]; exact setI_eq _ _ _ _ _
  have f2 : w3.1 5 j 2 = 0 := by rw [hw3]; exact setI_eq _ _ _ _ _
  refine up_to (P := fun i => ∀ w', Sm (GJ j) w w' → w'.1 5 j 0 = 0 → w'.1 5 j 1 = 0 → w'.1 5 j 2 = 0 → (∀ k, k < i → w'.1 17 j k = (if k < tS T then sb T k else 0) ∧ w'.1 18 j k = 0 ∧ w'.1 19 j k = 0 ∧ w'.1 20 j k = 0) → Z M G 0 (fun v w' => v = none ∧ SceneC w' j (sg0 T) (tN T) ∧ Sm (GJ j) w w') noX w' 17 [some (.ref (G.2.1 5 j)), some (.ref (G.2.1 7 r)), some (.int (nI i))] []) 7 (fun i hi ih w' hs g0 g1 g2 hrow => ?_) (fun w' hs g0 g1 g2 hrow => ?_) w3 hs3 f0 f1 f2 (fun k hk => absurd hk (Nat.not_lt_zero _))
  · have Rr : RollC w' r T := hR.mv hs (fun κ k q => by unfold GJ; omega)
    have hvi : vp_in (nI i) 7 := vp_in_nI hi (by decide)
    have c7 : ((7 : Int32) ≤ nI i) ↔ 7 ≤ i := nI_leI (a := 7) (by decide) (by omega)
    have fin : ∀ v : Int32, v = (if i < tS T then sb T i else 0) → Z M G 0 (fun v w' => v = none ∧ SceneC w' j (sg0 T) (tN T) ∧ Sm (GJ j) w w') noX w' 46 [some (.ref (G.2.1 5 j)), some (.ref (G.2.1 7 r)), some (.int (nI i))] [.int v, .int (nI i), .ref (G.2.1 17 j)] := by
      intro v hv
      refine b_X6_begin_46 hj hr F hk ?_
      rw [nI_clamp (by omega)]
      refine ⟨hvi, fun w4 hw4 => ⟨hvi, fun w5 hw5 => ⟨hvi, fun w6 hw6 => ⟨hvi, fun w7 hw7 => ?_⟩⟩⟩⟩
      rw [← nI_succ]
      have q : ∀ κ k, w7.1 κ j k = if κ = 20 ∧ k = i then 0 else if κ = 19 ∧ k = i then 0 else if κ = 18 ∧ k = i then 0 else if κ = 17 ∧ k = i then v else w'.1 κ j k := by
        intro κ k
        rw [hw7, setI_1, hw6, setI_1, hw5, setI_1, hw4, setI_1]
        simp only [true_and]
      refine ih w7 ?_ ?_ ?_ ?_ (fun k hk => ?_)
      · rw [hw7, hw6, hw5, hw4]
        exact (((hs.set (by unfold GJ; omega)).set (by unfold GJ; omega)).set (by unfold GJ; omega)).set (by unfold GJ; omega)
      · rw [q, if_neg (by omega), if_neg (by omega), if_neg (by omega), if_neg (by omega)]; exact g0
      · rw [q, if_neg (by omega), if_neg (by omega), if_neg (by omega), if_neg (by omega)]; exact g1
      · rw [q, if_neg (by omega), if_neg (by omega), if_neg (by omega), if_neg (by omega)]; exact g2
      · rw [q, q, q, q]
        by_cases e : k = i
        · subst e
          simp [hv]
        · obtain ⟨z1, z2, z3, z4⟩ := hrow k (by omega)
          simp [e, z1, z2, z3, z4]
    refine b_X6_begin_17 hj hr F hk ?_
    rw [c7, Rr.1, nI_leI (by omega) (by omega)]
    refine ⟨fun hc => absurd hc (by omega), fun _ => ⟨fun hq => fin 0 (if_neg (by omega)).symm, fun hq => ⟨hvi, ?_⟩⟩⟩
    rw [nI_clamp (by omega), (Rr.2.2.2.2.1 i (by omega)).2.2]
    exact fin _ (if_pos (by omega)).symm
  · have Rr : RollC w' r T := hR.mv hs (fun κ k q => by unfold GJ; omega)
    refine b_X6_begin_17 hj hr F hk ⟨fun _ w4 hw4 => ⟨rfl, ?_, by rw [hw4]; exact hs.setR (fun k => by unfold GJ; omega)⟩, fun hc => absurd (by decide) hc⟩
    have q : ∀ κ k, κ ≠ 21 → w4.1 κ j k = w'.1 κ j k := fun κ k hκ => by rw [hw4, setR_1, if_neg (fun z => hκ z.1)]
    refine ⟨?_, ?_, fun k hk => ?_, fun k hk => ?_, 0, by decide, ?_, fun k hk => ?_⟩
    · rw [q 5 0 (by decide), g0]
      show 0 = sg0 T 56
      unfold sg0
      rw [if_neg (by omega), if_neg (by omega)]
    · rw [q 5 2 (by decide), g2]
      show 0 = sg0 T 55
      unfold sg0
      rw [if_neg (by omega), if_neg (by omega)]
    · obtain ⟨z1, z2, z3, z4⟩ := hrow k hk
      rw [q 17 k (by decide), q 18 k (by decide), q 19 k (by decide), q 20 k (by decide), z1, z2, z3, z4]
      unfold sg0
      refine ⟨?_, ?_, ?_, ?_⟩
      · by_cases e : k < tS T
        · rw [if_pos e, if_pos e]
        · rw [if_neg e, if_neg e, if_neg (by omega)]
      · rw [if_neg (by omega), if_neg (by omega)]
      · rw [if_neg (by omega), if_neg (by omega)]
      · rw [if_neg (by omega), if_neg (by omega)]
    · rw [hw4, setR_1, if_pos ⟨rfl, rfl⟩]
      have e1 : va_cpy (w'.1 28 r) (w'.1 21 j) 0 0 20 k = w'.1 28 r k := by
        unfold va_cpy
        rw [if_pos (by omega), show 0 + (k - 0) = k by omega]
      rw [e1, (Rr.2.2.2.2.2.1 k hk).1]
      unfold sg0
      rw [if_neg (by omega), if_pos (by omega), show 35 + k - 35 = k by omega]
    · rw [q 5 1 (by decide), g1]; rfl
    · unfold sg0
      rw [if_neg (by omega), if_neg (by omega), Nat.zero_div]
      rfl
theorem c_lifeBegin (hl : l.stackTraces = false) {j : Nat} (hr : r < 2) (hj : j < 4) (hT : Tok T) (hR : RollC w r T) : C_X3_begin l G w [.ref (G.2.1 4 j), .ref (G.2.1 7 r)] (fun v w' => v = none ∧ LifeC w' j (sg0 T) [] (tN T) ∧ Sm (GL j) w w') noX := by
  refine e_X3_begin hj hr hl (fun M kk hM hk F => ?_)
  subst hM
  intro w1 hw1
  have hs1 : Sm (GL j) w w1 := by rw [hw1]; exact Sm.rf.set (by unfold GL; omega)
  have R1 : RollC w1 r T := hR.mv (S := fun κ _ _ => κ = 4) (by rw [hw1]; exact Sm.rf.set rfl) (fun κ k q => by omega)
  refine con_vP (c_sceneBegin hl hr (j := 17 * j) (by omega) hT R1) (fun w3 k3 => ⟨rfl, ⟨?_, by decide, k3.1, fun i τ hi => by cases hi⟩, hs1.tr (k3.2.mono (GJ_GL (j := j) (by omega) (by omega)))⟩)
  rw [k3.2.1 4 j 0 (by unfold GJ; omega), hw1]
  exact setI_eq _ _ _ _ _
end YB
