/-! The class reads a work. -/
def segC (w : Wd) (c : Nat) (L : List En) : Prop := ∀ i e, L[i]? = some e → w.1 11 0 (c + i) = nI e.1 ∧ w.1 12 0 (c + i) = nI e.2.1 ∧ w.1 13 0 (c + i) = nI e.2.2.1 ∧ w.1 14 0 (c + i) = nI e.2.2.2
def GPl (κ b k : Nat) : Prop := GT κ b k ∨ (κ = 3 ∧ k = 0) ∨ (11 ≤ κ ∧ κ ≤ 14)
theorem GT_GPl : ∀ κ b k, GT κ b k → GPl κ b k := fun _ _ _ h => Or.inl h
theorem GT3_GPl : ∀ κ b k, GT3 κ b k → GPl κ b k := fun _ _ _ h => Or.inl (GT3_GT _ _ _ h)
def WF (b : Nat → Nat) (n : Nat) (w : Wd) (s : Rd) (c : Nat) (R : Rd × List En) (w' : Wd) : Prop := RC w' b n R.1 ∧ (R.1.1 = 0 → w'.1 3 0 0 = nI (c + R.2.length) ∧ (∀ κ i, 11 ≤ κ → κ ≤ 14 → i < c → w'.1 κ 0 i = w.1 κ 0 i) ∧ segC w' c R.2) ∧ Sm GPl w w'
def WlH (l : Launch) (G : Gx) (b : Nat → Nat) (n : Nat) (T : Tx) (r lev op : Nat) (P : Wq) : Prop :=
  ∀ (w : Wd) (s : Rd) (c : Nat), RC w b n s → RollC w r T → (s.1 = 0 → w.1 3 0 0 = nI c ∧ 4 * c ≤ s.2) → Con l G lev 0 yX4_readSteps cX4_readSteps 5 none w [.ref (G.2.1 3 0), .ref (G.2.1 1 0), .ref (G.2.1 7 r), .int (nI op)] (fun v w' => v = none ∧ WF b n w s c (P c s) w') noX
section WA
variable {l : Launch} {G : Gx} {w : Wd} {b : Nat → Nat} {n r : Nat} {s : Rd} {c : Nat} {T : Tx}
theorem c_stepNamed (hl : l.stackTraces = false) {a e : Nat} (h : RC w b n s) (hae : a ≤ e) (hen : e ≤ n) (h4 : w.1 1 0 4 = nI a) (h3 : w.1 1 0 3 = nI e) : C_X4_stepNamed l G w [.ref (G.2.1 1 0)] (fun v w' => v = some (.int (if sdK b a e < 8 then nI (sdK b a e) else -1)) ∧ w' = w) noX := by
  have tt : ∀ {x : Bool}, ¬ x = false → x = true := fun {x} q => by cases x; exact absurd rfl q; rfl
  refine e_X4_stepNamed hl (fun M kk hM hk F => ?_)
  subst hM
  refine con_i (c_says hl (t := 12) (by decide) h hae hen h4 h3) ?_
  rw [bI_t]
  refine ⟨fun c0 => con_i (c_says hl (t := 13) (by decide) h hae hen h4 h3) ?_, fun c0 => ⟨by unfold sdK; rw [tt c0]; rfl, rfl⟩⟩
  rw [bI_t]
  refine ⟨fun c1 => con_i (c_says hl (t := 3) (by decide) h hae hen h4 h3) ?_, fun c1 => ⟨by unfold sdK; rw [c0, tt c1]; rfl, rfl⟩⟩
  rw [bI_t]
  refine ⟨fun c2 => con_i (c_says hl (t := 14) (by decide) h hae hen h4 h3) ?_, fun c2 => ⟨by unfold sdK; rw [c0, c1, tt c2]; rfl, rfl⟩⟩
  rw [bI_t]
  refine ⟨fun c3 => con_i (c_says hl (t := 15) (by decide) h hae hen h4 h3) ?_, fun c3 => ⟨by unfold sdK; rw [c0, c1, c2, tt c3]; rfl, rfl⟩⟩
  rw [bI_t]
  refine ⟨fun c4 => con_i (c_says hl (t := 16) (by decide) h hae hen h4 h3) ?_, fun c4 => ⟨by unfold sdK; rw [c0, c1, c2, c3, tt c4]; rfl, rfl⟩⟩
  rw [bI_t]
  refine ⟨fun c5 => con_i (c_says hl (t := 11) (by decide) h hae hen h4 h3) ?_, fun c5 => ⟨by unfold sdK; rw [c0, c1, c2, c3, c4, tt c5]; rfl, rfl⟩⟩
  rw [bI_t]
  refine ⟨fun c6 => con_i (c_says hl (t := 17) (by decide) h hae hen h4 h3) ?_, fun c6 => ⟨by unfold sdK; rw [c0, c1, c2, c3, c4, c5, tt c6]; rfl, rfl⟩⟩
  rw [bI_t]
  exact ⟨fun c7 => ⟨by unfold sdK; rw [c0, c1, c2, c3, c4, c5, c6, c7]; rfl, rfl⟩, fun c7 => ⟨by unfold sdK; rw [c0, c1, c2, c3, c4, c5, c6, tt c7]; rfl, rfl⟩⟩
theorem c_stepMost (hl : l.stackTraces = false) {k : Nat} (hr : r < 2) (hk8 : k < 8) (hR : RollC w r T) : C_X4_mostOf l G w [.int (nI k), .ref (G.2.1 7 r)] (fun v w' => v = some (.int (nI (moH T k) - 1)) ∧ w' = w) noX := by
  refine e_X4_mostOf hr hl (fun M kk hM hk F => ?_)
  have z0 : (nI k = 0) ↔ k = 0 := nI_eq (b := 0) (by omega) (by decide)
  have z5 : (nI k = 5) ↔ k = 5 := nI_eq (b := 5) (by omega) (by decide)
  have z7 : (nI k = 7) ↔ k = 7 := nI_eq (b := 7) (by omega) (by decide)
  rw [z0, z5, z7, hR.1, hR.2.1]
  unfold moH
  refine ⟨fun h7 => ⟨fun h0 => ⟨by rw [if_neg h7, if_pos (Or.inl h0)], rfl⟩, fun h0 => ⟨fun h5 => ⟨by rw [if_neg h7, if_neg (by omega)], rfl⟩, fun h5 => ⟨by rw [if_neg h7, if_pos (Or.inr (Classical.not_not.mp h5))], rfl⟩⟩⟩, fun h7 => ⟨by rw [if_pos (Classical.not_not.mp h7)]; rfl, rfl⟩⟩
theorem figC_0 {H : Nat} : figC b n 0 H s = (figF b n 0 H s).2 := by
  unfold figC
  by_cases h : (figF b n 0 H s).1.1 = 0
  · rw [if_pos h]
  · rw [if_neg h]
    unfold figF at h ⊢
    by_cases h0 : s.1 ≠ 0
    · rw [if_pos h0]
    · rw [if_neg h0] at h ⊢
      by_cases h1 : rn (isD b) n (sk b n s.2) = sk b n s.2
      · rw [if_pos h1]
      · rw [if_neg h1] at h ⊢
        by_cases h2 : 0 ≤ dv b n (sk b n s.2) 0 ∧ dv b n (sk b n s.2) 0 < H
        · rw [if_pos h2] at h
          exact absurd rfl h
        · rw [if_neg h2]
variable {lev op : Nat} {S : Wq}
theorem c_readStep (hl : l.stackTraces = false) {a : Nat} (hr : r < 2) (hn150 : n ≤ 150) (hop : op ≤ 6) (hlev : 9 ≤ lev) (hT : Tok T) (hS : op < 6 → WlH l G b n T r lev (op + 1) S) (hSk : WqOk T S) (h : RC w b n (0, a)) (ha : sk b n a = a) (hR : RollC w r T) (h30 : w.1 3 0 0 = nI c) (hca : 4 * c ≤ a) :
    C_X4_readStep l G lev w [.ref (G.2.1 3 0), .ref (G.2.1 1 0), .ref (G.2.1 7 r), .int (nI op)] (fun v w' => v = none ∧ WF b n w (0, a) c (stF b n T (decide (op < 6)) S c a) w') noX := by
  have han : a ≤ n := h.2.2.2.2.1.2
  have hS7 := hT.1
  have hN20 := hT.2.1
  refine e_X4_readStep hr hlev hl (fun M kk hM hk F => ?_)
  generalize hK : (fun v w' => v = none ∧ WF b n w (0, a) c (stF b n T (decide (op < 6)) S c a) w' : Option Value → Wd → Prop) = K
  subst hM
  refine con_vP (c_word hl h) (fun w2 k2 => ?_)
  obtain ⟨k21, k22, k23, k24⟩ := k2
  rw [wdS, if_neg (fun z => z rfl), ha] at k21
  rw [wdA, if_neg (fun z => z rfl), ha] at k22
  rw [wdE, if_neg (fun z => z rfl), ha] at k23
  have he := we_ge b n a
  have hen := we_le (b := b) han
  have g30 : w2.1 3 0 0 = nI c := (k24.oth GT_1 (by decide)).trans h30
  refine con_i (c_stepNamed hl k21 he hen k22 k23) ?_
  have hk8 := sdK_le b a (we b n a)
  have hlt3 : sdK b a (we b n a) < 8 → a + 3 ≤ we b n a := fun z => (sdK_lt z).1
  generalize hkk : sdK b a (we b n a) = k at *
  have fail : ∀ f, 1 ≤ f → f ≤ 3 → stF b n T (decide (op < 6)) S c a = ((f, a), []) → Con (mL M) G 1 0 yX8_fail cX8_fail 3 none w2 [.ref (G.2.1 1 0), .int (nI f), .int (w2.1 1 0 4)] (fun r w6 => r = none ∧ K none w6) noX := by
    intro f f1 f3 hst
    rw [k22]
    refine con_vP (c_fail hl k21 f1 f3 han) (fun w3 k3 => ?_)
    rw [flF, if_neg (fun z => z rfl)] at k3
    rw [← hK, hst]
    exact ⟨rfl, k3.1, fun z => absurd z (by show ¬ f = 0; omega), (k24.mono GT_GPl).tr (k3.2.mono GT3_GPl)⟩
  by_cases h8 : k < 8
  · rw [if_pos h8]
    have h3 := hlt3 h8
    have hc150 : c < 150 := by omega
    rw [g30]
    have c150 : (nI c < (150 : Int32)) ↔ c < 150 := nI_ltI (b := 150) (by omega) (by decide)
    have z7 : (nI k = 7) ↔ k = 7 := nI_eq (b := 7) (by omega) (by decide)
    have c6 : (nI op < (6 : Int32)) ↔ op < 6 := nI_ltI (b := 6) (by omega) (by decide)
    rw [c150, z7, c6]
    -- the step itself
    have at59 : ¬ (k = 7 ∧ decide (op < 6) = false) → Z M G 0 K noX w2 59 [some (.ref (G.2.1 3 0)), some (.ref (G.2.1 1 0)), some (.ref (G.2.1 7 r)), some (.int (nI op)), some (.int (nI k)), none] [] := by
      intro hroom
      have est : stF b n T (decide (op < 6)) S c a = (sgnF b n 59 (sf3 b n T S c k (we b n a)).1, (k, (sf1 b n T k (we b n a)).2, (sf2 b n T k (we b n a)).2, c + 1 + (sf3 b n T S c k (we b n a)).2.length) :: (sf3 b n T S c k (we b n a)).2) := by
        unfold stF
        rw [hkk, if_neg (by omega), if_neg hroom]
      refine b_X4_readStep_59 hr hlev F hk ?_
      rw [g30, ← nI_succ, nI_clamp (by omega)]
      intro w3 hw3
      have hvi : vp_in (nI c) 150 := vp_in_nI hc150 (by decide)
      refine ⟨hvi, fun w4 hw4 => ?_⟩
      have R4 : RC w4 b n (0, we b n a) := (k21.row hw3 (by decide) (by decide)).row hw4 (by decide) (by decide)
      have s4 : Sm GPl w w4 := by rw [hw4, hw3]; exact ((k24.mono GT_GPl).set (by unfold GPl; omega)).set (by unfold GPl; omega)
      have o4 : ∀ κ i, κ ≠ 1 → w4.1 κ 0 i = if κ = 11 ∧ i = c then nI k else if κ = 3 ∧ i = 0 then nI (c + 1) else w.1 κ 0 i := fun κ i hκ => by
        rw [hw4, setI_1, hw3, setI_1, k24.oth GT_1 hκ]
        simp only [true_and]
      have Ro4 : RollC w4 r T := hR.mv s4 (fun κ k q => by unfold GPl GT; omega)
      -- behind first and second
      have at176 : ∀ w7, RC w7 b n (sf3 b n T S c k (we b n a)).1 → Sm GPl w w7 → ((sf3 b n T S c k (we b n a)).1.1 = 0 → w7.1 3 0 0 = nI (c + 1 + (sf3 b n T S c k (we b n a)).2.length) ∧ (∀ κ i, 11 ≤ κ → κ ≤ 14 → i < c → w7.1 κ 0 i = w.1 κ 0 i) ∧ w7.1 11 0 c = nI k ∧ w7.1 12 0 c = nI (sf1 b n T k (we b n a)).2 ∧ w7.1 13 0 c = nI (sf2 b n T k (we b n a)).2 ∧ segC w7 (c + 1) (sf3 b n T S c k (we b n a)).2) → Z M G 0 K noX w7 176 [some (.ref (G.2.1 3 0)), some (.ref (G.2.1 1 0)), none, none, none, some (.int (nI c))] [] := by
        intro w7 R7 s7 hok
        refine b_X4_readStep_176 hlev F hk ⟨hvi, fun w8 hw8 => ?_⟩
        rw [nI_clamp (by omega)] at hw8
        have R8 := R7.row hw8 (by decide) (by decide)
        refine con_vP (c_sign hl (c := 59) (by decide) R8) (fun w9 k9 => ?_)
        rw [← hK, est]
        refine ⟨rfl, k9.1, fun z => ?_, (by rw [hw8]; exact s7.set (by unfold GPl; omega) : Sm GPl w w8).tr (k9.2.mono GT3_GPl)⟩
        obtain ⟨q1, q2, q3, q4, q5, q6⟩ := hok (sgnF_ok z).1
        have o9 : ∀ κ i, κ ≠ 1 → w9.1 κ 0 i = if κ = 14 ∧ i = c then w7.1 3 0 0 else w7.1 κ 0 i := fun κ i hκ => by
          rw [k9.2.oth GT3_1 hκ, hw8, setI_1]
          simp only [true_and]
        refine ⟨?_, fun κ i k1 k2 hi => ?_, fun i e hi => ?_⟩
        · rw [o9 3 0 (by decide), if_neg (by omega), q1]
          show nI _ = nI (c + ((sf3 b n T S c k (we b n a)).2.length + 1))
          congr 1
          omega
        · rw [o9 κ i (by omega), if_neg (by omega)]
          exact q2 κ i k1 k2 hi
        · cases i with
          | zero =>
            cases hi
            rw [o9 11 _ (by decide), o9 12 _ (by decide), o9 13 _ (by decide), o9 14 _ (by decide), if_neg (by omega), if_neg (by omega), if_neg (by omega), if_pos ⟨rfl, rfl⟩]
            exact ⟨q3, q4, q5, q1⟩
          | succ i =>
            have hi : (sf3 b n T S c k (we b n a)).2[i]? = some e := hi
            have := q6 i e hi
            rw [show c + (i + 1) = c + 1 + i by omega, o9 11 _ (by decide), o9 12 _ (by decide), o9 13 _ (by decide), o9 14 _ (by decide), if_neg (by omega), if_neg (by omega), if_neg (by omega), if_neg (by omega)]
            exact this
      have at147 : ∀ w6, RC w6 b n (sf2 b n T k (we b n a)).1 → Sm GPl w w6 → (∀ κ i, κ ≠ 1 → w6.1 κ 0 i = if κ = 12 ∧ i = c then nI (sf1 b n T k (we b n a)).2 else w4.1 κ 0 i) → Z M G 0 K noX w6 147 [some (.ref (G.2.1 3 0)), some (.ref (G.2.1 1 0)), some (.ref (G.2.1 7 r)), some (.int (nI op)), some (.int (nI k)), some (.int (nI c))] [.int (nI (sf2 b n T k (we b n a)).2), .int (nI c), .ref (G.2.1 13 0)] := by
        intro w6 R6 s6 o6
        refine b_X4_readStep_147 hr hlev F hk ⟨hvi, fun w7 hw7 => ?_⟩
        rw [nI_clamp (by omega)] at hw7
        rw [z7]
        have R7 := R6.row hw7 (by decide) (by decide)
        have s7 : Sm GPl w w7 := by rw [hw7]; exact s6.set (by unfold GPl; omega)
        have o7 : ∀ κ i, κ ≠ 1 → w7.1 κ 0 i = if κ = 13 ∧ i = c then nI (sf2 b n T k (we b n a)).2 else if κ = 12 ∧ i = c then nI (sf1 b n T k (we b n a)).2 else if κ = 11 ∧ i = c then nI k else if κ = 3 ∧ i = 0 then nI (c + 1) else w.1 κ 0 i := fun κ i hκ => by
          rw [hw7, setI_1, o6 κ i hκ, o4 κ i hκ]
          simp only [true_and]
        refine ⟨fun hn7 => ?_, fun h7 => ?_⟩
        · have e3 : sf3 b n T S c k (we b n a) = ((sf2 b n T k (we b n a)).1, []) := by unfold sf3; rw [if_neg hn7]
          refine at176 w7 (by rw [e3]; exact R7) s7 (fun _ => ?_)
          rw [e3]
          refine ⟨?_, fun κ i k1 k2 hi => ?_, ?_, ?_, ?_, fun i e hi => by cases hi⟩
          · rw [o7 3 0 (by decide), if_neg (by omega), if_neg (by omega), if_neg (by omega), if_pos ⟨rfl, rfl⟩]; rfl
          · rw [o7 κ i (by omega), if_neg (by omega), if_neg (by omega), if_neg (by omega), if_neg (by omega)]
          · rw [o7 11 c (by decide), if_neg (by omega), if_neg (by omega), if_pos ⟨rfl, rfl⟩]
          · rw [o7 12 c (by decide), if_neg (by omega), if_pos ⟨rfl, rfl⟩]
          · rw [o7 13 c (by decide), if_pos ⟨rfl, rfl⟩]
        · have h7 := Classical.not_not.mp h7
          have hop6 : op < 6 := by
            by_cases z : op < 6
            · exact z
            · exact absurd ⟨h7, decide_eq_false z⟩ hroom
          have e3 : sf3 b n T S c k (we b n a) = (sgnF b n 93 (S (c + 1) (sgnF b n 91 (sf2 b n T k (we b n a)).1)).1, (S (c + 1) (sgnF b n 91 (sf2 b n T k (we b n a)).1)).2) := by unfold sf3; rw [if_pos h7]
          refine con_vP (c_sign hl (c := 91) (by decide) R7) (fun w8 k8 => ?_)
          have s8 := s7.tr (k8.2.mono GT3_GPl)
          have Ro8 : RollC w8 r T := hR.mv s8 (fun κ k q => by unfold GPl GT; omega)
          have o8 : ∀ κ i, κ ≠ 1 → w8.1 κ 0 i = w7.1 κ 0 i := fun κ i hκ => k8.2.oth GT3_1 hκ
          rw [← nI_succ]
          refine con_mono (hS hop6 w8 _ (c + 1) k8.1 Ro8 (fun z => ⟨?_, ?_⟩)) ?_ (fun _ _ q => q.elim)
          · rw [o8 3 0 (by decide), o7 3 0 (by decide), if_neg (by omega), if_neg (by omega), if_neg (by omega), if_pos ⟨rfl, rfl⟩]
          · have q := sgnF_ok z
            have q2 := sf2_ok q.1
            have := q.2.1
            omega
          · rintro _ w9 ⟨rfl, k9⟩
            refine ⟨rfl, ?_⟩
            refine con_vP (c_sign hl (c := 93) (by decide) k9.1) (fun w10 k10 => ?_)
            have s10 := (s8.tr k9.2.2).tr (k10.2.mono GT3_GPl)
            refine at176 w10 (by rw [e3]; exact k10.1) s10 (fun z => ?_)
            rw [e3] at z ⊢
            obtain ⟨q1, q2, q3⟩ := k9.2.1 (sgnF_ok z).1
            have o10 : ∀ κ i, κ ≠ 1 → w10.1 κ 0 i = w9.1 κ 0 i := fun κ i hκ => k10.2.oth GT3_1 hκ
            refine ⟨by rw [o10 3 0 (by decide)]; exact q1, fun κ i k1 k2 hi => ?_, ?_, ?_, ?_, fun i e hi => ?_⟩
            · rw [o10 κ i (by omega), q2 κ i k1 k2 (by omega), o8 κ i (by omega), o7 κ i (by omega), if_neg (by omega), if_neg (by omega), if_neg (by omega), if_neg (by omega)]
            · rw [o10 11 c (by decide), q2 11 c (by decide) (by decide) (by omega), o8 11 c (by decide), o7 11 c (by decide), if_neg (by omega), if_neg (by omega), if_pos ⟨rfl, rfl⟩]
            · rw [o10 12 c (by decide), q2 12 c (by decide) (by decide) (by omega), o8 12 c (by decide), o7 12 c (by decide), if_neg (by omega), if_pos ⟨rfl, rfl⟩]
            · rw [o10 13 c (by decide), q2 13 c (by decide) (by decide) (by omega), o8 13 c (by decide), o7 13 c (by decide), if_pos ⟨rfl, rfl⟩]
            · rw [o10 11 _ (by decide), o10 12 _ (by decide), o10 13 _ (by decide), o10 14 _ (by decide)]
              exact q3 i e hi
      have at124 : ∀ w5, RC w5 b n (sf1 b n T k (we b n a)).1 → Sm GPl w w5 → (∀ κ i, κ ≠ 1 → w5.1 κ 0 i = w4.1 κ 0 i) → Z M G 0 K noX w5 124 [some (.ref (G.2.1 3 0)), some (.ref (G.2.1 1 0)), some (.ref (G.2.1 7 r)), some (.int (nI op)), some (.int (nI k)), some (.int (nI c))] [.int (nI (sf1 b n T k (we b n a)).2), .int (nI c), .ref (G.2.1 12 0)] := by
        intro w5 R5 s5 o5
        refine b_X4_readStep_124 hr hlev F hk ⟨hvi, fun w6 hw6 => ?_⟩
        rw [nI_clamp (by omega)] at hw6
        have R6 := R5.row hw6 (by decide) (by decide)
        have s6 : Sm GPl w w6 := by rw [hw6]; exact s5.set (by unfold GPl; omega)
        have o6 : ∀ κ i, κ ≠ 1 → w6.1 κ 0 i = if κ = 12 ∧ i = c then nI (sf1 b n T k (we b n a)).2 else w4.1 κ 0 i := fun κ i hκ => by
          rw [hw6, setI_1, o5 κ i hκ]
          simp only [true_and]
        have z5 : (nI k = 5) ↔ k = 5 := nI_eq (b := 5) (by omega) (by decide)
        rw [z5]
        refine ⟨fun h5 => ?_, fun h5 => ?_⟩
        · have e2 : sf2 b n T k (we b n a) = ((sf1 b n T k (we b n a)).1, 0) := by unfold sf2; rw [if_neg h5]
          have := at147 w6 (by rw [e2]; exact R6) s6 o6
          rw [e2] at this
          exact this
        · have h5 := Classical.not_not.mp h5
          have e2 : sf2 b n T k (we b n a) = figF b n 0 6 (sf1 b n T k (we b n a)).1 := by unfold sf2; rw [if_pos h5]
          refine con_iP (c_figure hl (lo := 0) (H := 6) (by decide) (by decide) R6) (fun w7 k7 => ?_)
          rw [figC_0, ← e2]
          exact at147 w7 (by rw [e2]; exact k7.1) (s6.tr (k7.2.2.mono GT_GPl)) (fun κ i hκ => by rw [k7.2.2.oth GT_1 hκ, o6 κ i hκ])
      have z1 : (nI k = 1) ↔ k = 1 := nI_eq (b := 1) (by omega) (by decide)
      have z2 : (nI k = 2) ↔ k = 2 := nI_eq (b := 2) (by omega) (by decide)
      have z6 : (nI k = 6) ↔ k = 6 := nI_eq (b := 6) (by omega) (by decide)
      rw [z1, z2, z6]
      have zero : (k = 1 ∨ k = 2 ∨ k = 6) → Z M G 0 K noX w4 109 [some (.ref (G.2.1 3 0)), some (.ref (G.2.1 1 0)), some (.ref (G.2.1 7 r)), some (.int (nI op)), some (.int (nI k)), some (.int (nI c))] [.int (nI c), .ref (G.2.1 12 0)] := by
        intro hq
        have e1 : sf1 b n T k (we b n a) = ((0, we b n a), 0) := by unfold sf1; rw [if_pos hq]
        refine b_X4_readStep_109 hr hlev F hk ?_
        have := at124 w4 (by rw [e1]; exact R4) s4 (fun _ _ _ => rfl)
        rw [e1] at this
        exact this
      refine ⟨fun q => zero (Or.inl q), fun q1 => ⟨fun q => zero (Or.inr (Or.inl q)), fun q2 => ⟨fun q6 => ?_, fun q => zero (Or.inr (Or.inr (Classical.not_not.mp q)))⟩⟩⟩
      have e1 : sf1 b n T k (we b n a) = figF b n 0 (moH T k) (0, we b n a) := by unfold sf1; rw [if_neg (by omega)]
      have hmo : moH T k ≤ 1000 := by
        unfold moH
        split
        · decide
        · split <;> omega
      refine con_i (c_stepMost hl hr h8 Ro4) ?_
      refine con_iP (c_figure hl (lo := 0) (H := moH T k) (by decide) hmo R4) (fun w6 k6 => ?_)
      rw [figC_0, ← e1]
      exact at124 w6 (by rw [e1]; exact k6.1) (s4.tr (k6.2.2.mono GT_GPl)) (fun κ i hκ => k6.2.2.oth GT_1 hκ)
    refine ⟨fun z => absurd z (nI_neg1 (by omega)), fun _ => ⟨fun _ => ⟨fun q => at59 (fun z => q z.1), fun q => ⟨fun q6 => at59 (fun z => by rw [decide_eq_true q6] at z; exact absurd z.2 (by decide)), fun q6 => ?_⟩⟩, fun q => absurd hc150 q⟩⟩
    subst hK
    refine fail 3 (by decide) (by decide) ?_
    unfold stF
    rw [hkk, if_neg (by omega), if_pos ⟨Classical.not_not.mp q, decide_eq_false q6⟩]
  · rw [if_neg h8]
    refine ⟨fun _ => b_X4_readStep_26 hlev F hk (fail 1 (by decide) (by decide) ?_), fun q => absurd rfl q⟩
    unfold stF
    rw [hkk, if_pos (by omega)]
theorem c_readSteps (hl : l.stackTraces = false) (hr : r < 2) (hn150 : n ≤ 150) (hop : op ≤ 6) (hlev : 9 ≤ lev) (hT : Tok T) (hS : op < 6 → WlH l G b n T r lev (op + 1) S) (hSk : WqOk T S) : WlH l G b n T r (lev + 2) op (wsL b n (stF b n T (decide (op < 6)) S) 150) := by
  intro w s c h hR h30
  refine e_X4_readSteps hr (kr := lev + 1) (by omega) hl (fun M kk hM hk F => ?_)
  generalize hK : (fun v w' => v = none ∧ WF b n w s c (wsL b n (stF b n T (decide (op < 6)) S) 150 c s) w' : Option Value → Wd → Prop) = K
  generalize hW : wsL b n (stF b n T (decide (op < 6)) S) 150 c s = W at hK
  subst hM
  have key : ∀ f k c' (L : List En) (s' : Rd) (w' : Wd), f + k = 150 → (s'.1 = 0 → k ≤ s'.2 ∧ 4 * c' ≤ s'.2 ∧ c' = c + L.length) → W.1 = (wsL b n (stF b n T (decide (op < 6)) S) f c' s').1 → (W.1.1 = 0 → W.2 = L ++ (wsL b n (stF b n T (decide (op < 6)) S) f c' s').2) → WF b n w s c (s', L) w' → Z M G 0 K noX w' 3 [some (.ref (G.2.1 3 0)), some (.ref (G.2.1 1 0)), some (.ref (G.2.1 7 r)), some (.int (nI op)), some (.int (nI k))] [] := by
    intro f
    induction f with
    | zero =>
      intro k c' L s' w' hfk hpos h1 h2 hF
      refine b_X4_readSteps_3 hr (by omega) F hk ⟨fun _ => ?_, fun q => absurd (by rw [show k = 150 by omega]; decide) q⟩
      rw [← hK]
      refine ⟨rfl, by rw [h1]; exact hF.1, fun z => ?_, hF.2.2⟩
      have e2 := h2 z
      have e2' : (wsL b n (stF b n T (decide (op < 6)) S) 0 c' s').2 = [] := rfl
      rw [e2', List.append_nil] at e2
      rw [h1] at z
      rw [e2]
      exact hF.2.1 z
    | succ f ih =>
      intro k c' L s' w' hfk hpos h1 h2 hF
      refine b_X4_readSteps_3 hr (by omega) F hk ⟨fun q => absurd q (nI_ge (show k < 150 by omega) (by decide)), fun _ => ?_⟩
      have stop : ∀ w5, ¬ (s'.1 = 0 ∧ sk b n s'.2 < n ∧ b (sk b n s'.2) ≠ 93) → RC w5 b n (pkS b n s') → Sm GT3 w' w5 → K none w5 := by
        intro w5 hq R5 s5
        rw [wsL, if_neg hq] at h1
        rw [← hK]
        refine ⟨rfl, by rw [h1]; exact R5, fun z => ?_, hF.2.2.tr (s5.mono GT3_GPl)⟩
        have e2 := h2 z
        rw [wsL, if_neg hq] at e2
        have e2 : _ = L ++ [] := e2
        rw [List.append_nil] at e2
        have z0 : s'.1 = 0 := by
          rw [h1] at z
          by_cases q : s'.1 = 0
          · exact q
          · have z : (pkS b n s').1 = 0 := z
            rw [pkS_x q] at z; exact z
        rw [e2]
        obtain ⟨y1, y2, y3⟩ := hF.2.1 z0
        refine ⟨(s5.oth GT3_1 (by decide)).trans y1, fun κ i k1 k2 hi => (s5.oth GT3_1 (by omega)).trans (y2 κ i k1 k2 hi), fun i e hi => ?_⟩
        obtain ⟨x1, x2, x3, x4⟩ := y3 i e hi
        exact ⟨(s5.oth GT3_1 (by decide)).trans x1, (s5.oth GT3_1 (by decide)).trans x2, (s5.oth GT3_1 (by decide)).trans x3, (s5.oth GT3_1 (by decide)).trans x4⟩
      refine con_iP (c_more hl hF.1) (fun w2 k2 => ?_)
      rw [bI_t]
      refine ⟨fun hm => ?_, fun hm => ?_⟩
      · have hm : ¬ (s'.1 = 0 ∧ sk b n s'.2 < n) := of_decide_eq_false hm
        exact stop w2 (fun z => hm ⟨z.1, z.2.1⟩) k2.1 k2.2
      · have hm : s'.1 = 0 ∧ sk b n s'.2 < n := by
          by_cases hq : s'.1 = 0 ∧ sk b n s'.2 < n
          · exact hq
          · exact absurd (decide_eq_false hq) hm
        have k21 := k2.1
        rw [pkS, if_neg (fun z => z hm.1)] at k21
        refine con_iP (c_peek hl k21) (fun w4 k4 => ?_)
        have s4 : Sm GT3 w' w4 := k2.2.tr (k4.2.mono (fun κ b k q => by unfold GT3; omega))
        have k41 := k4.1
        rw [pkS_0 (sk_idem b n _)] at k41
        have k41 : RC w4 b n (0, sk b n s'.2) := k41
        have g93 : (pkV b n (0, sk b n s'.2) = (93 : Int32)) ↔ (sk b n s'.2 < n ∧ b (sk b n s'.2) = 93) := by
          have := pk_sign (b := b) (n := n) (w := w) (w2 := w) (s := (0, sk b n s'.2)) (c := 93) hF.1.2.1 (by decide) rfl
          rw [show sk b n ((0, sk b n s'.2) : Rd).2 = sk b n s'.2 from sk_idem b n s'.2] at this
          exact this
        rw [g93]
        refine ⟨fun h93 => ?_, fun h93 => ?_⟩
        · refine stop w4 (fun z => z.2.2 h93.2) ?_ s4
          rw [pkS, if_neg (fun z => z hm.1)]
          exact k41
        · have hq : s'.1 = 0 ∧ sk b n s'.2 < n ∧ b (sk b n s'.2) ≠ 93 := ⟨hm.1, hm.2, fun z => h93 ⟨hm.2, z⟩⟩
          rw [wsL, if_pos hq] at h1 h2
          obtain ⟨p1, p2, p3⟩ := hpos hm.1
          obtain ⟨y1, y2, y3⟩ := hF.2.1 hm.1
          have hge := sk_ge b n s'.2
          have s04 := hF.2.2.tr (s4.mono GT3_GPl)
          have Ro4 : RollC w4 r T := hR.mv s04 (fun κ k q => by unfold GPl GT; omega)
          have e30 : w4.1 3 0 0 = nI c' := by rw [s4.oth GT3_1 (by decide), y1, p3]
          refine con_mono (c_readStep hl hr hn150 hop hlev hT hS hSk k41 (sk_idem b n _) Ro4 e30 (by omega)) ?_ (fun _ _ q => q.elim)
          rintro _ w6 ⟨rfl, k6⟩
          refine ⟨rfl, ?_⟩
          rw [← nI_succ]
          generalize hst : stF b n T (decide (op < 6)) S c' (sk b n s'.2) = R at *
          have hRk : R.1.1 = 0 → sk b n s'.2 + 4 * R.2.length ≤ R.1.2 ∧ 1 ≤ R.2.length := fun z => by
            have := stF_ok (b := b) (n := n) (room := decide (op < 6)) (c := c') (a := sk b n s'.2) hSk (by rw [hst]; exact z)
            rw [hst] at this
            exact ⟨this.1, this.2.1⟩
          refine ih (k + 1) (c' + R.2.length) (L ++ R.2) R.1 w6 (by omega) (fun z => ?_) h1 (fun z => ?_) ?_
          · have := hRk z
            rw [List.length_append]
            omega
          · rw [h2 z, List.append_assoc]
          · refine ⟨k6.1, fun z => ?_, s04.tr k6.2.2⟩
            obtain ⟨x1, x2, x3⟩ := k6.2.1 z
            refine ⟨?_, fun κ i k1 k2 hi => ?_, fun i e hi => ?_⟩
            · rw [x1]
              show nI _ = nI (c + (L ++ R.2).length)
              rw [List.length_append]
              congr 1
              omega
            · rw [x2 κ i k1 k2 (by omega), s4.oth GT3_1 (by omega)]
              exact y2 κ i k1 k2 hi
            · by_cases hl : i < L.length
              · have hi : (L ++ R.2)[i]? = some e := hi
                rw [List.getElem?_append_left hl] at hi
                obtain ⟨u1, u2, u3, u4⟩ := y3 i e hi
                rw [x2 11 _ (by decide) (by decide) (by omega), x2 12 _ (by decide) (by decide) (by omega), x2 13 _ (by decide) (by decide) (by omega), x2 14 _ (by decide) (by decide) (by omega), s4.oth GT3_1 (by decide), s4.oth GT3_1 (by decide), s4.oth GT3_1 (by decide), s4.oth GT3_1 (by decide)]
                exact ⟨u1, u2, u3, u4⟩
              · have hi : (L ++ R.2)[i]? = some e := hi
                rw [List.getElem?_append_right (by omega)] at hi
                have := x3 _ e hi
                rw [show c' + (i - L.length) = c + i by omega] at this
                exact this
  refine key 150 0 c [] s w rfl (fun z => ⟨Nat.zero_le _, (h30 z).2, rfl⟩) (by rw [hW]) (fun _ => by rw [hW]; rfl) ⟨h, fun z => ⟨(h30 z).1, fun _ _ _ _ _ => rfl, fun i e hi => by cases hi⟩, Sm.rf⟩
theorem c_stepss (hl : l.stackTraces = false) (hr : r < 2) (hn150 : n ≤ 150) (hT : Tok T) : ∀ d, d ≤ 6 → WlH l G b n T r (11 + 2 * d) (6 - d) (wsF b n T d)
  | 0, _ => by
    have hu := c_readSteps (G := G) (b := b) (n := n) (r := r) (T := T) (lev := 9) (op := 6) (S := fun _ s => (s, [])) hl hr hn150 (by decide) (by decide) hT (fun h => absurd h (by decide)) (fun c s => ⟨fun _ => rfl, fun h => ⟨h, by show s.2 + 4 * 0 ≤ s.2; omega, SgOk.nil⟩⟩)
    rw [decide_eq_false (by decide)] at hu
    exact hu
  | d + 1, hd => by
    have hs := c_stepss hl hr hn150 hT d (by omega)
    have hu := c_readSteps (G := G) (b := b) (n := n) (r := r) (T := T) (lev := 11 + 2 * d) (op := 6 - (d + 1)) (S := wsF b n T d) hl hr hn150 (by omega) (by omega) hT (fun _ => by rw [show 6 - (d + 1) + 1 = 6 - d by omega]; exact hs) (wsF_ok d)
    rw [decide_eq_true (by omega)] at hu
    exact fun w s c h h2 h3 => con_lev (hu w s c h h2 h3) (by omega)
def GPr (κ b k : Nat) : Prop := GPl κ b k ∨ κ = 3
theorem c_planRead (hl : l.stackTraces = false) (hr : r < 2) (hn150 : n ≤ 150) (hT : Tok T) (h : RC w b n (0, 0)) (hR : RollC w r T) : C_X4_read l G w [.ref (G.2.1 3 0), .ref (G.2.1 1 0), .ref (G.2.1 7 r)] (fun v w' => v = none ∧ RC w' b n (wkF b n T).1 ∧ ((wkF b n T).1.1 = 0 → w'.1 3 0 0 = nI (wkF b n T).2.length ∧ w'.1 3 0 1 = 0 ∧ w'.1 3 0 2 = 0 ∧ w'.1 3 0 3 = 0 ∧ segC w' 0 (wkF b n T).2) ∧ Sm GPr w w') noX := by
  refine e_X4_read hr hl (fun M kk hM hk F => ?_)
  subst hM
  intro w1 hw1 w2 hw2 w3 hw3 w4 hw4
  have R4 : RC w4 b n (0, 0) := (((h.row hw1 (by decide) (by decide)).row hw2 (by decide) (by decide)).row hw3 (by decide) (by decide)).row hw4 (by decide) (by decide)
  have s4 : Sm GPr w w4 := by
    rw [hw4, hw3, hw2, hw1]
    exact (((Sm.rf.set (Or.inr rfl)).set (Or.inr rfl)).set (Or.inr rfl)).set (Or.inr rfl)
  have Ro4 : RollC w4 r T := hR.mv s4 (fun κ k q => by unfold GPr GPl GT; omega)
  have f0 : w4.1 3 0 0 = nI 0 := by simp [hw4, hw3, hw2, hw1, setI_1]; rfl
  have f1 : w4.1 3 0 1 = 0 := by simp [hw4, hw3, hw2, hw1, setI_1]
  have f2 : w4.1 3 0 2 = 0 := by simp [hw4, hw3, hw2, hw1, setI_1]
  have f3 : w4.1 3 0 3 = 0 := by simp [hw4, hw3, hw2, hw1, setI_1]
  refine con_mono (con_lev (c_stepss hl hr hn150 hT 6 (by decide) w4 (0, 0) 0 R4 Ro4 (fun _ => ⟨f0, Nat.zero_le _⟩)) (by decide)) ?_ (fun _ _ q => q.elim)
  rintro _ w6 ⟨rfl, k6⟩
  refine ⟨rfl, ?_⟩
  generalize hRR : wsF b n T 6 0 (0, 0) = R at k6
  have ewk : wkF b n T = if R.1.1 = 0 ∧ sk b n R.1.2 < n then ((1, sk b n R.1.2), []) else (pkS b n R.1, R.2) := by unfold wkF; rw [hRR]
  have hle := sk_le (b := b) k6.1.2.2.2.2.1.2
  refine con_iP (c_more hl k6.1) (fun w8 k8 => ?_)
  have s8 : Sm GPr w w8 := (s4.tr (k6.2.2.mono (S' := GPr) (fun κ b k q => Or.inl q))).tr (k8.2.mono (fun κ b k q => Or.inl (GT3_GPl κ b k q)))
  rw [bI_t]
  refine ⟨fun hm => ?_, fun hm => ?_⟩
  · have hm : ¬ (R.1.1 = 0 ∧ sk b n R.1.2 < n) := of_decide_eq_false hm
    rw [if_neg hm] at ewk
    rw [ewk]
    refine ⟨rfl, k8.1, fun z => ?_, s8⟩
    have z0 : R.1.1 = 0 := by
      by_cases q : R.1.1 = 0
      · exact q
      · have z : (pkS b n R.1).1 = 0 := z
        rw [pkS_x q] at z; exact z
    obtain ⟨y1, y2, y3⟩ := k6.2.1 z0
    have o8 : ∀ κ i, κ ≠ 1 → w8.1 κ 0 i = w6.1 κ 0 i := fun κ i hκ => k8.2.oth GT3_1 hκ
    have o6 : ∀ i, i ≠ 0 → w6.1 3 0 i = w4.1 3 0 i := fun i hi => k6.2.2.1 3 0 i (by unfold GPl GT; omega)
    refine ⟨?_, ?_, ?_, ?_, fun i e hi => ?_⟩
    · rw [o8 3 0 (by decide), y1, Nat.zero_add]
    · rw [o8 3 1 (by decide), o6 1 (by decide)]; exact f1
    · rw [o8 3 2 (by decide), o6 2 (by decide)]; exact f2
    · rw [o8 3 3 (by decide), o6 3 (by decide)]; exact f3
    · rw [o8 11 _ (by decide), o8 12 _ (by decide), o8 13 _ (by decide), o8 14 _ (by decide)]
      exact y3 i e hi
  · have hm : R.1.1 = 0 ∧ sk b n R.1.2 < n := by
      by_cases hq : R.1.1 = 0 ∧ sk b n R.1.2 < n
      · exact hq
      · exact absurd (decide_eq_false hq) hm
    rw [if_pos hm] at ewk
    have k81 := k8.1
    rw [pkS, if_neg (fun z => z hm.1)] at k81
    rw [(k81.2.2.2.2.2.2.1 rfl).2, ewk]
    refine con_vP (c_fail hl k81 (f := 1) (x := sk b n R.1.2) (by decide) (by decide) hle) (fun w9 k9 => ?_)
    rw [flF, if_neg (fun z => z rfl)] at k9
    exact ⟨rfl, k9.1, fun z => absurd z (by show ¬ (1 : Nat) = 0; decide), s8.tr (k9.2.mono (fun κ b k q => Or.inl (GT3_GPl κ b k q)))⟩
end WA
