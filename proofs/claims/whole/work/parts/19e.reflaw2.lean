/-! The reference: units, products, sums; law. -/
section LE
variable {l : Launch} {G : Gx} {b : Nat → Nat} {n lev op : Nat} {S : Pq}
theorem RM.g8 {w w' : Wd} {st : Rd} {v : Int32} (h : RM w b n st) (hw : w' = setI w 40 0 8 v) : RM w' b n st := h.mv (S := fun κ _ k => κ = 40 ∧ k = 8) (by rw [hw]; exact Sm.rf.set ⟨rfl, rfl⟩) (fun k q z => by omega) (fun k z => by omega)
theorem m_one (hl : l.stackTraces = false) (hn150 : n ≤ 150) (hop : op ≤ 6) (hlev : 7 ≤ lev) (hS : op < 6 → MH l G b n lev yX10_sum cX10_sum 2 (op + 1) S) (hSf : Pf S) : MH l G b n (lev + 1) yX10_one cX10_one 3 op (unF b n (decide (op < 6)) S) := by
  intro w s m h hN h8
  have tt : ∀ {x : Bool}, ¬ x = false → x = true := fun {x} q => by cases x; exact absurd rfl q; rfl
  have hb := h.2.1
  refine e_X10_one hlev hl (fun M kk hM hk F => ?_)
  generalize hK : (fun v w' => v = none ∧ ∃ m', MF b n op w s m (unF b n (decide (op < 6)) S s) m' w' : Option Value → Wd → Prop) = K
  subst hM
  rw [h.zero]
  refine ⟨fun h0 => ?_, fun h0 => ?_⟩
  rotate_left
  · have eR : unF b n (decide (op < 6)) S s = (s, zE) := by unfold unF; rw [if_pos h0]
    rw [eR]
    exact ⟨rfl, m, h, hN, fun z => absurd z h0, Sm.rf⟩
  have h8 := h8 h0
  have eR : unF b n (decide (op < 6)) S s = un1 b n (decide (op < 6)) S (sk b n s.2) := by unfold unF; rw [if_neg (fun z => z h0)]
  rw [eR] at hK
  refine con_vP (m_blanks hl h) (fun w2 k2 => ?_)
  obtain ⟨hR2, hs2⟩ := k2
  rw [pkS, if_neg (fun z => z h0)] at hR2
  have hsa := sk_ge b n s.2
  have ha := sk_idem b n s.2
  have hle := sk_le (b := b) h.2.2.2.2.1.2
  have hN2 : ∀ w', Sm G8 w w' → CdM w' (0, sk b n s.2) m := fun w' hs => hN.t hs (fun _ => ⟨h0, hsa⟩)
  generalize sk b n s.2 = a at *
  have hwe := we_ge b n a
  have hwn := we_le (b := b) hle
  -- least, most
  have pair56 : ∀ (w' : Wd) (k c : Nat), k < 100 → RM w' b n (0, a) → w'.1 40 0 8 = nI op → Sm G8 w w' → un1 b n (decide (op < 6)) S a = paF b n (decide (op < 6)) S a (we b n a) c → (2 : Int32) ≤ nI k → (∀ u v, jb (nI k) u v = jn (nI c) u v) → a + 3 ≤ we b n a → Z M G 0 K noX w' 56 [some (.ref (G.2.1 40 0)), none, none] [.int (nI k)] := by
    intro w' k c hk100 R0 e8 s0 eu ho hj h3
    refine b_X10_one_56 hlev F hk ⟨fun z => absurd z (nI_neg1 (by omega)), fun _ => ?_⟩
    refine con_iP (m_opensOne hl R0 hop e8) (fun w3 k3 => ?_)
    obtain ⟨k31, k32, k33⟩ := k3
    have s3 := s0.tr k33
    rw [bI_t]
    refine ⟨fun hq => ?_, fun hq => ?_⟩
    · have hq : op < 6 := by
        by_cases z : op < 6
        · exact z
        · exact absurd (decide_eq_false z) hq
      rw [if_pos hq] at k31
      have o3 := k32 hq
      have ein : paF b n (decide (op < 6)) S a (we b n a) c = (sgnF b n 93 (S (sgnF b n 44 (S (sgnF b n 91 (0, we b n a))).1)).1, fun f => jn (nI c) ((S (sgnF b n 91 (0, we b n a))).2 f) ((S (sgnF b n 44 (S (sgnF b n 91 (0, we b n a))).1)).2 f)) := by unfold paF; rw [decide_eq_true hq, if_pos rfl]
      rw [eu, ein] at hK
      refine con_vP (m_skipWord hl k31) (fun w4 k4 => ?_)
      have s4 := s3.tr (k4.2.mono GR4_G8)
      have o4 : w4.1 40 0 8 = nI (op + 1) := (k4.2.1 40 0 8 (by unfold GR4; omega)).trans o3
      refine con_vP (m_sign hl (c := 91) (by decide) k4.1) (fun w5 k5 => ?_)
      have s5 := s4.tr (k5.2.mono GR_G8)
      have o5 : w5.1 40 0 8 = nI (op + 1) := (k5.2.1 40 0 8 (by unfold GR; omega)).trans o4
      have sg1 : (sgnF b n 91 (0, we b n a)).1 = 0 → we b n a < (sgnF b n 91 (0, we b n a)).2 := fun z => (sgnF_ok z).2.1
      refine con_mono (hS hq w5 _ m k5.1 (hN.t s5 (fun z => ⟨h0, by have := sg1 z; omega⟩)) (fun _ => o5)) ?_ (fun _ _ q => q.elim)
      rintro _ w6 ⟨rfl, m1, k6⟩
      refine ⟨rfl, ?_⟩
      refine con_vP (m_sign hl (c := 44) (by decide) k6.1) (fun w7 k7 => ?_)
      have sg2 : (sgnF b n 44 (S (sgnF b n 91 (0, we b n a))).1).1 = 0 → (S (sgnF b n 91 (0, we b n a))).1.1 = 0 ∧ (S (sgnF b n 91 (0, we b n a))).1.2 < (sgnF b n 44 (S (sgnF b n 91 (0, we b n a))).1).2 := fun z => ⟨(sgnF_ok z).1, (sgnF_ok z).2.1⟩
      have o7 : (sgnF b n 44 (S (sgnF b n 91 (0, we b n a))).1).1 = 0 → w7.1 40 0 8 = nI (op + 1) := fun z => (k7.2.1 40 0 8 (by unfold GR; omega)).trans (k6.2.2.1 (sg2 z).1).2.2.1
      refine con_mono (hS hq w7 _ m1 k7.1 (k6.2.1.t (k7.2.mono GR_G8) (fun z => ⟨(sg2 z).1, Nat.le_of_lt (sg2 z).2⟩)) o7) ?_ (fun _ _ q => q.elim)
      rintro _ w8 ⟨rfl, m2, k8⟩
      refine ⟨rfl, ?_⟩
      refine con_vP (m_sign hl (c := 93) (by decide) k8.1) (fun w9 k9 => ?_)
      have K6 : MF b n (op + 1) w s m (S (sgnF b n 91 (0, we b n a))) m1 w6 := by
        by_cases z : (sgnF b n 91 (0, we b n a)).1 = 0
        · exact MF.wrap (st := (S (sgnF b n 91 (0, we b n a))).1) k6 s5 (by have := sg1 z; omega) Sm.rf k6.1 (fun q => ⟨q, Nat.le_refl _⟩) (fun q => (k6.2.2.1 q).2.2.1)
        · have hf : (S (sgnF b n 91 (0, we b n a))).1.1 ≠ 0 := by rw [hSf _ z]; exact z
          exact ⟨k6.1, k6.2.1, fun q => absurd q hf, (s5.mono G8_GV).tr k6.2.2.2⟩
      have o9 : (sgnF b n 93 (S (sgnF b n 44 (S (sgnF b n 91 (0, we b n a))).1)).1).1 = 0 → w9.1 40 0 8 = nI (op + 1) := fun z => (k9.2.1 40 0 8 (by unfold GR; omega)).trans (k8.2.2.1 (sgnF_ok z).1).2.2.1
      refine con_mono (m_njoin hl (op := op + 1) (st := sgnF b n 93 (S (sgnF b n 44 (S (sgnF b n 91 (0, we b n a))).1)).1) hn150 K6 (k7.2.mono GR_G8) k8 (k9.2.mono GR_G8) k9.1 (fun z => ?_) ho hj o9) ?_ (fun _ _ q => q.elim)
      · have z1 := sgnF_ok z
        have z2 : (sgnF b n 44 (S (sgnF b n 91 (0, we b n a))).1).1 = 0 := by
          by_cases q : (sgnF b n 44 (S (sgnF b n 91 (0, we b n a))).1).1 = 0
          · exact q
          · have := z1.1
            rw [hSf _ q] at this
            exact this
        exact ⟨(sg2 z2).1, (sg2 z2).2, z1.1, Nat.le_of_lt z1.2.1⟩
      · rintro _ w10 ⟨rfl, m3, k10⟩
        refine ⟨rfl, fun w11 hw11 => ?_⟩
        rw [← hK]
        refine ⟨rfl, m3, ?_⟩
        exact MF.wrap (st := sgnF b n 93 (S (sgnF b n 44 (S (sgnF b n 91 (0, we b n a))).1)).1) k10 Sm.rf (Nat.le_refl _) (by rw [hw11]; exact Sm.rf.set (by unfold G8; omega)) (k10.1.g8 hw11) (fun q => ⟨q, Nat.le_refl _⟩) (fun q => by rw [hw11, setI_eq, (k10.2.2.1 q).2.2.1, nI_pred])
    · have hq : ¬ op < 6 := fun z => hq (fun y => by rw [decide_eq_true z] at y; exact absurd y (by decide))
      have ein : paF b n (decide (op < 6)) S a (we b n a) c = ((3, a), zE) := by unfold paF; rw [decide_eq_false hq]; rfl
      rw [if_neg hq] at k31
      rw [← hK, eu, ein]
      have h3 : ¬ ((3, a) : Rd).1 = 0 := by show ¬ (3 : Nat) = 0; decide
      exact ⟨rfl, m, k31, hN.t s3 (fun z => absurd z h3), fun z => absurd z h3, s3.mono G8_GV⟩
  -- no least, no most
  have rest56 : ∀ (w' : Wd), RM w' b n (0, a) → w'.1 40 0 8 = nI op → Sm G8 w w' → isW b a (we b n a) (wT 4) = false → isW b a (we b n a) (wT 5) = false → Z M G 0 K noX w' 56 [some (.ref (G.2.1 40 0)), none, none] [.int (-1)] := by
    intro w' R0 e8 s0 c4 c5
    refine b_X10_one_56 hlev F hk ⟨fun _ => ?_, fun z => absurd rfl z⟩
    rw [(R0.2.2.2.2.2.2.1 rfl).2]
    refine con_i (m_byteAt hl (by have := R0.1; omega) R0) ?_
    have c40 : (btI b n a = (40 : Int32)) ↔ a < n ∧ b a = 40 := btI_c hb a (c := 40) (by decide)
    rw [c40]
    refine ⟨fun h40 => ?_, fun h40 => ?_⟩
    · refine con_iP (m_knownHere hl R0 ha) (fun w3 k3 => ?_)
      have s3 := s0.tr (k3.2.mono GR4_G8)
      have o3 : w3.1 40 0 8 = nI op := (k3.2.1 40 0 8 (by unfold GR4; omega)).trans e8
      by_cases hf : faF b a (we b n a) < 8
      · have k31 := k3.1
        rw [if_pos hf] at k31
        rw [if_pos hf]
        refine ⟨fun z => absurd z (nI_neg1 (by omega)), fun _ => ?_⟩
        have h3 := faF_lt hf
        have hnd : ¬ (a < n ∧ isD b a = true) := by
          rintro ⟨q1, q2⟩
          have hD := isD_iff.mp q2
          have hlt : a < rn (isL b) n a := by show a < we b n a; omega
          have hL := isL_iff.mp (rn_in (P := isL b) (n := n) (Nat.le_refl a) hlt)
          omega
        have eu : un1 b n (decide (op < 6)) S a = ((0, we b n a), fun f => f (faF b a (we b n a))) := by
          unfold un1
          rw [if_neg hnd, if_neg h40, if_neg (by rw [c4]; decide), if_neg (by rw [c5]; decide), if_pos hf]
        refine con_mono (m_leaf hl (op := op) (p0 := 1) (p1 := nI (faF b a (we b n a))) (E := fun f => f (faF b a (we b n a))) (s := (0, a)) (st := (0, we b n a)) hn150 k31 (hN2 w3 s3) rfl (fun _ => by show a < we b n a; omega) (fun _ => Or.inr ⟨rfl, _, hf, rfl⟩) (fun _ f => ?_) (fun _ => o3)) ?_ (fun _ _ q => q.elim)
        · rw [if_neg (by decide), nI_clamp (by omega)]
        · rintro _ w6 ⟨rfl, m', k6⟩
          refine ⟨rfl, ?_⟩
          rw [← hK, eu]
          exact ⟨rfl, m', MF.wrap k6 s3 hsa Sm.rf k6.1 (fun q => ⟨q, Nat.le_refl _⟩) (fun q => (k6.2.2.1 q).2.2.1)⟩
      · have k31 := k3.1
        rw [if_neg hf] at k31
        rw [if_neg hf]
        refine ⟨fun _ => ?_, fun z => absurd rfl z⟩
        refine con_iP (m_number hl (lo := 0) (H := 1000) (by decide) (by decide) k31) (fun w5 k5 => ?_)
        have s5 := s3.tr (k5.2.mono GR_G8)
        have o5 : w5.1 40 0 8 = nI op := (k5.2.1 40 0 8 (by unfold GR; omega)).trans o3
        have eu : un1 b n (decide (op < 6)) S a = ((figF b n 0 1000 (0, a)).1, (un1 b n (decide (op < 6)) S a).2) ∧ ((figF b n 0 1000 (0, a)).1.1 = 0 → ∀ f, (un1 b n (decide (op < 6)) S a).2 f = nI (figF b n 0 1000 (0, a)).2) := by
          by_cases hd : a < n ∧ isD b a = true
          · have e1 : un1 b n (decide (op < 6)) S a = ((figF b n 0 1000 (0, a)).1, fun _ => nI (figF b n 0 1000 (0, a)).2) := by unfold un1; rw [if_pos hd]
            rw [e1]
            exact ⟨rfl, fun _ _ => rfl⟩
          · have e1 : un1 b n (decide (op < 6)) S a = ((1, a), zE) := by
              unfold un1
              rw [if_neg hd, if_neg h40, if_neg (by rw [c4]; decide), if_neg (by rw [c5]; decide), if_neg hf]
            have e2 : figF b n 0 1000 (0, a) = ((1, a), 0) := by
              rw [figF_0, ha, if_pos (rn_n hd)]
            rw [e1, e2]
            exact ⟨rfl, fun z => absurd z (by show ¬ (1 : Nat) = 0; decide)⟩
        refine con_mono (m_leaf hl (op := op) (p0 := 0) (p1 := nI (figF b n 0 1000 (0, a)).2) (E := (un1 b n (decide (op < 6)) S a).2) (s := (0, a)) (st := (figF b n 0 1000 (0, a)).1) hn150 k5.1 (hN2 w5 s5) rfl (fun z => (figF_ok z).2.2.2.1) (fun _ => Or.inl rfl) (fun z f => ?_) (fun _ => o5)) ?_ (fun _ _ q => q.elim)
        · rw [if_pos rfl, eu.2 z f]
        · rintro _ w6 ⟨rfl, m', k6⟩
          refine ⟨rfl, ?_⟩
          rw [← hK, eu.1]
          exact ⟨rfl, m', MF.wrap (R := ((figF b n 0 1000 (0, a)).1, (un1 b n (decide (op < 6)) S a).2)) k6 s5 hsa Sm.rf k6.1 (fun q => ⟨q, Nat.le_refl _⟩) (fun q => (k6.2.2.1 q).2.2.1)⟩
    · have h40 := Classical.not_not.mp h40
      have hnd : ¬ (a < n ∧ isD b a = true) := by
        rintro ⟨q1, q2⟩
        have hD := isD_iff.mp q2
        omega
      have eu : un1 b n (decide (op < 6)) S a = inF b n (decide (op < 6)) S a := by
        unfold un1
        rw [if_neg hnd, if_pos h40]
      rw [eu] at hK
      refine con_iP (m_opensOne hl R0 hop e8) (fun w3 k3 => ?_)
      obtain ⟨k31, k32, k33⟩ := k3
      have s3 := s0.tr k33
      rw [bI_t]
      refine ⟨fun hq => ?_, fun hq => ?_⟩
      · have hq : op < 6 := by
          by_cases z : op < 6
          · exact z
          · exact absurd (decide_eq_false z) hq
        rw [if_pos hq] at k31
        have o3 := k32 hq
        have ein : inF b n (decide (op < 6)) S a = (sgnF b n 41 (S (0, a + 1)).1, (S (0, a + 1)).2) := by unfold inF; rw [decide_eq_true hq, if_pos rfl]
        rw [ein] at hK
        intro w4 hw4
        rw [(k31.2.2.2.2.2.2.1 rfl).2] at hw4
        have R4 : RM w4 b n (0, a + 1) := k31.to hw4 (nI_succ a).symm h40.1
        have s4 : Sm G8 w w4 := by rw [hw4]; exact s3.set (by unfold G8; omega)
        have o4 : w4.1 40 0 8 = nI (op + 1) := by rw [hw4, setI_ne (by omega)]; exact o3
        refine con_mono (hS hq w4 (0, a + 1) m R4 (hN.t s4 (fun _ => ⟨h0, by show s.2 ≤ a + 1; omega⟩)) (fun _ => o4)) ?_ (fun _ _ q => q.elim)
        rintro _ w6 ⟨rfl, m1, k6⟩
        refine ⟨rfl, ?_⟩
        refine con_vP (m_sign hl (c := 41) (by decide) k6.1) (fun w7 k7 w8 hw8 => ?_)
        rw [← hK]
        refine ⟨rfl, m1, ?_⟩
        exact MF.wrap (op := op) (st := sgnF b n 41 (S (0, a + 1)).1) k6 s4 (by show s.2 ≤ a + 1; omega) (by rw [hw8]; exact (k7.2.mono GR_G8).set (by unfold G8; omega)) (k7.1.g8 hw8) (fun q => by
          have := sgnF_ok q
          exact ⟨this.1, Nat.le_of_lt this.2.1⟩) (fun q => by
          rw [hw8, setI_eq, k7.2.1 40 0 8 (by unfold GR; omega), (k6.2.2.1 (sgnF_ok q).1).2.2.1, nI_pred])
      · have hq : ¬ op < 6 := fun z => hq (fun y => by rw [decide_eq_true z] at y; exact absurd y (by decide))
        have ein : inF b n (decide (op < 6)) S a = ((3, a), zE) := by unfold inF; rw [decide_eq_false hq]; rfl
        rw [if_neg hq] at k31
        rw [← hK, ein]
        have h3 : ¬ ((3, a) : Rd).1 = 0 := by show ¬ (3 : Nat) = 0; decide
        exact ⟨rfl, m, k31, hN.t s3 (fun z => absurd z h3), fun z => absurd z h3, s3.mono G8_GV⟩
  refine con_iP (m_isWord hl ok_w4 hR2) (fun w3 k3 => ?_)
  rw [nxW_0 ha, bI_t]
  rw [pkS_0 ha] at k3
  have s3 : Sm G8 w w3 := (hs2.mono GR4_G8).tr (k3.2.mono GR4_G8)
  have o3 : w3.1 40 0 8 = nI op := by rw [k3.2.1 40 0 8 (by unfold GR4; omega), hs2.1 40 0 8 (by unfold GR4; omega)]; exact h8
  have nd : ∀ {t : Nat}, t < 18 → isW b a (we b n a) (wT t) = true → ¬ (a < n ∧ isD b a = true) ∧ ¬ (a < n ∧ b a = 40) := fun {t} ht hw => by
    have hL := isW_let ht hw
    refine ⟨fun z => ?_, fun z => by omega⟩
    have hD := isD_iff.mp z.2
    omega
  refine ⟨fun c4 => ?_, fun c4 => ?_⟩
  · refine con_iP (m_isWord hl ok_w5 k3.1) (fun w4 k4 => ?_)
    rw [nxW_0 ha, bI_t]
    rw [pkS_0 ha] at k4
    have s4 : Sm G8 w w4 := s3.tr (k4.2.mono GR4_G8)
    have o4 : w4.1 40 0 8 = nI op := by rw [k4.2.1 40 0 8 (by unfold GR4; omega)]; exact o3
    refine ⟨fun c5 => rest56 w4 k4.1 o4 s4 c4 c5, fun c5 => ?_⟩
    have c5 := tt c5
    obtain ⟨d1, d2⟩ := nd (by decide) c5
    exact pair56 w4 8 10 (by decide) k4.1 o4 s4 (by unfold un1; rw [if_neg d1, if_neg d2, if_neg (by rw [c4]; decide), if_pos c5]) (by decide) jb_8 (isW_let (by decide) c5).2.2.2
  · have c4 := tt c4
    obtain ⟨d1, d2⟩ := nd (by decide) c4
    exact pair56 w3 7 9 (by decide) k3.1 o3 s3 (by unfold un1; rw [if_neg d1, if_neg d2, if_pos c4]) (by decide) jb_7 (isW_let (by decide) c4).2.2.2
theorem tkB_is {s : Rd} {c : Nat} (h0 : s.1 = 0) : tkB b n c s = true ↔ sk b n s.2 < n ∧ b (sk b n s.2) = c := by
  unfold tkB
  rw [decide_eq_true_iff]
  exact ⟨fun h => h.2, fun h => ⟨h0, h⟩⟩
theorem tkB_sk {p c : Nat} : tkB b n c (0, sk b n p) = tkB b n c (0, p) := by
  unfold tkB
  show decide ((0 : Nat) = 0 ∧ sk b n (sk b n p) < n ∧ b (sk b n (sk b n p)) = c) = decide ((0 : Nat) = 0 ∧ sk b n p < n ∧ b (sk b n p) = c)
  rw [sk_idem]
theorem tkS_no {p c : Nat} (h : tkB b n c (0, p) = false) : tkS b n c (0, p) = (0, sk b n p) := by
  unfold tkS
  rw [h]
  show pkS b n (0, p) = _
  rw [pkS, if_neg (fun z => z rfl)]
theorem tkS_yes {p c : Nat} (h : tkB b n c (0, p) = true) : tkS b n c (0, p) = (0, sk b n p + 1) := by
  unfold tkS
  rw [h, if_pos rfl]
/-- one more member of a product or a sum: what both loops do -/
theorem m_product (hl : l.stackTraces = false) {U : Pq} (hn150 : n ≤ 150) (hlev : 7 ≤ lev) (hU : MH l G b n lev yX10_one cX10_one 3 op U) (hUf : Pf U) : MH l G b n (lev + 1) yX10_product cX10_product 2 op (prF b n U) := by
  intro w s m h hN h8
  refine e_X10_product hlev hl (fun M kk hM hk F => ?_)
  generalize hK : (fun v w' => v = none ∧ ∃ m', MF b n op w s m (prF b n U s) m' w' : Option Value → Wd → Prop) = K
  subst hM
  refine con_mono (hU w s m h hN h8) ?_ (fun _ _ q => q.elim)
  rintro _ w1 ⟨rfl, m0, k0'⟩
  refine ⟨rfl, ?_⟩
  have key : ∀ f (R : Rd × Ex) (m' : Nat) (w' : Wd), (R.1.1 = 0 → n ≤ R.1.2 + f) → loF b n isS1 U f R = prF b n U s → MF b n op w s m R m' w' → Z M G 0 K noX w' 4 [some (.ref (G.2.1 40 0)), none] [] := by
    intro f
    induction f with
    | zero =>
      intro R m' w' hkR hlo hF
      have hlo : R = prF b n U s := hlo
      refine b_X10_product_4 hlev F hk ?_
      rw [hF.1.zero]
      refine ⟨fun hz => ?_, fun hz => ?_⟩
      · rw [← hK, ← hlo]
        exact ⟨rfl, m', hF⟩
      · have hz := Classical.not_not.mp hz
        have hn : R.1.2 = n := by have := hkR hz; have := hF.1.2.2.2.2.1.2; omega
        have es : R.1 = (0, R.1.2) := by rw [← hz]
        have esk : sk b n R.1.2 = R.1.2 := rn_n (fun q => by omega)
        have hno : ∀ c, tkB b n c (0, R.1.2) = false := fun c => Bool.eq_false_iff.mpr (fun q => by
          have := (tkB_is (s := (0, R.1.2)) rfl).mp q
          have h1 : sk b n R.1.2 < n := this.1
          omega)
        have RR := hF.1
        rw [es] at RR
        refine con_iP (m_takesSign hl (c := 42) (by decide) RR) (fun w2 k2 => ?_)
        rw [hno, tkS_no (hno _)] at *
        refine ⟨fun _ => ?_, fun q => absurd rfl q⟩
        refine con_iP (m_takesSign hl (c := 47) (by decide) k2.1) (fun w4 k4 => ?_)
        rw [tkB_sk, hno, tkS_no (by rw [tkB_sk]; exact hno _)] at *
        refine ⟨fun _ => ?_, fun q => absurd rfl q⟩
        refine con_iP (m_takesSign hl (c := 37) (by decide) k4.1) (fun w6 k6 => ?_)
        rw [tkB_sk, tkB_sk, hno, tkS_no (by rw [tkB_sk, tkB_sk]; exact hno _)] at *
        refine ⟨fun _ => b_X10_product_52 hlev F hk ⟨fun q => absurd rfl q, fun _ => ?_⟩, fun q => absurd rfl q⟩
        have k61 := k6.1
        rw [sk_idem, sk_idem, esk] at k61
        rw [← hK, ← hlo]
        refine ⟨rfl, m', ?_⟩
        have s6 : Sm G8 w' w6 := ((k2.2.tr k4.2).tr k6.2).mono GR4_G8
        have := MF.wrap (st := (0, R.1.2)) hF Sm.rf (Nat.le_refl _) s6 k61 (fun _ => ⟨hz, Nat.le_refl _⟩) (fun _ => by
          rw [k6.2.1 40 0 8 (by unfold GR4; omega), k4.2.1 40 0 8 (by unfold GR4; omega), k2.2.1 40 0 8 (by unfold GR4; omega)]
          exact (hF.2.2.1 hz).2.2.1)
        rw [← es] at this
        exact this
    | succ f ih =>
      intro R m' w' hkR hlo hF
      refine b_X10_product_4 hlev F hk ?_
      rw [hF.1.zero]
      refine ⟨fun hz => ?_, fun hz => ?_⟩
      · rw [loF_f _ _ hz] at hlo
        rw [← hK, ← hlo]
        exact ⟨rfl, m', hF⟩
      · have hz := Classical.not_not.mp hz
        have es : R.1 = (0, R.1.2) := by rw [← hz]
        have hge := sk_ge b n R.1.2
        have RR := hF.1
        rw [es] at RR
        have o0 : w'.1 40 0 8 = nI op := (hF.2.2.1 hz).2.2.1
        -- a member more
        have go : ∀ (w2 : Wd) (o : Int32) (c : Nat), isS1 c = true → tkB b n c (0, R.1.2) = true → RM w2 b n (0, sk b n R.1.2 + 1) → Sm GR4 w' w2 → (¬ o = -1) → (2 : Int32) ≤ o → (∀ u v, jb o u v = jn (nI c) u v) → Z M G 0 K noX w2 52 [some (.ref (G.2.1 40 0)), none] [.int o] := by
          intro w2 o c hc htk R2 s2 hom ho hj
          obtain ⟨t1, t2⟩ := (tkB_is (s := (0, R.1.2)) rfl).mp htk
          have t1 : sk b n R.1.2 < n := t1
          have t2 : b (sk b n R.1.2) = c := t2
          rw [loF, if_neg (fun q => q hz), if_pos ⟨t1, by rw [t2]; exact hc⟩, t2] at hlo
          refine b_X10_product_52 hlev F hk ⟨fun _ => ?_, fun q => absurd (Classical.not_not.mp q) hom⟩
          have o2 : w2.1 40 0 8 = nI op := (s2.1 40 0 8 (by unfold GR4; omega)).trans o0
          refine con_mono (hU w2 (0, sk b n R.1.2 + 1) m' R2 (hF.2.1.t (s2.mono GR4_G8) (fun _ => ⟨hz, by show R.1.2 ≤ sk b n R.1.2 + 1; omega⟩)) (fun _ => o2)) ?_ (fun _ _ q => q.elim)
          rintro _ w4 ⟨rfl, m2, k4⟩
          refine ⟨rfl, ?_⟩
          refine con_mono (m_njoin hl (op := op) (c := nI c) (st := (U (0, sk b n R.1.2 + 1)).1) hn150 hF (s2.mono GR4_G8) k4 Sm.rf k4.1 (fun z => ⟨hz, by show R.1.2 < sk b n R.1.2 + 1; omega, z, Nat.le_refl _⟩) ho hj (fun z => (k4.2.2.1 z).2.2.1)) ?_ (fun _ _ q => q.elim)
          rintro _ w6 ⟨rfl, m3, k6⟩
          refine ⟨rfl, ih _ m3 w6 (fun z => ?_) hlo k6⟩
          have q2 : m2 + (sk b n R.1.2 + 1) ≤ m' + (U (0, sk b n R.1.2 + 1)).1.2 := (k4.2.2.1 z).2.1
          have q1 := (k4.2.2.1 z).1
          have := hkR hz
          show n ≤ (U (0, sk b n R.1.2 + 1)).1.2 + f
          omega
        refine con_iP (m_takesSign hl (c := 42) (by decide) RR) (fun w2 k2 => ?_)
        rw [bI_t]
        refine ⟨fun t0 => ?_, fun t0 => ?_⟩
        rotate_left
        · have t0 : tkB b n 42 (0, R.1.2) = true := by
            cases hq : tkB b n 42 (0, R.1.2) with
            | false => exact absurd hq t0
            | true => rfl
          rw [tkS_yes t0] at k2
          exact go w2 4 42 (by decide) t0 k2.1 k2.2 (by decide) (by decide) jb_4
        rw [tkS_no t0] at k2
        refine con_iP (m_takesSign hl (c := 47) (by decide) k2.1) (fun w4 k4 => ?_)
        rw [bI_t, tkB_sk]
        have s4 := k2.2.tr k4.2
        refine ⟨fun t1 => ?_, fun t1 => ?_⟩
        rotate_left
        · have t1 : tkB b n 47 (0, R.1.2) = true := by
            cases hq : tkB b n 47 (0, R.1.2) with
            | false => exact absurd hq t1
            | true => rfl
          rw [tkS_yes (by rw [tkB_sk]; exact t1), sk_idem] at k4
          exact go w4 5 47 (by decide) t1 k4.1 s4 (by decide) (by decide) jb_5
        rw [tkS_no (by rw [tkB_sk]; exact t1), sk_idem] at k4
        refine con_iP (m_takesSign hl (c := 37) (by decide) k4.1) (fun w6 k6 => ?_)
        rw [bI_t, tkB_sk]
        have s6 := s4.tr k6.2
        refine ⟨fun t2 => ?_, fun t2 => ?_⟩
        rotate_left
        · have t2 : tkB b n 37 (0, R.1.2) = true := by
            cases hq : tkB b n 37 (0, R.1.2) with
            | false => exact absurd hq t2
            | true => rfl
          rw [tkS_yes (by rw [tkB_sk]; exact t2), sk_idem] at k6
          exact go w6 6 37 (by decide) t2 k6.1 s6 (by decide) (by decide) jb_6
        rw [tkS_no (by rw [tkB_sk]; exact t2), sk_idem] at k6
        refine b_X10_product_52 hlev F hk ⟨fun q => absurd rfl q, fun _ => ?_⟩
        have hns : ¬ (sk b n R.1.2 < n ∧ isS1 (b (sk b n R.1.2)) = true) := by
          rintro ⟨z1, z2⟩
          unfold isS1 at z2
          simp only [Bool.or_eq_true, beq_iff_eq] at z2
          rcases z2 with (z2 | z2) | z2
          · rw [(tkB_is (s := (0, R.1.2)) rfl).mpr ⟨z1, z2⟩] at t0; exact absurd t0 (by decide)
          · rw [(tkB_is (s := (0, R.1.2)) rfl).mpr ⟨z1, z2⟩] at t1; exact absurd t1 (by decide)
          · rw [(tkB_is (s := (0, R.1.2)) rfl).mpr ⟨z1, z2⟩] at t2; exact absurd t2 (by decide)
        rw [loF, if_neg (fun q => q hz), if_neg hns] at hlo
        rw [← hK, ← hlo]
        exact ⟨rfl, m', MF.wrap (st := (0, sk b n R.1.2)) hF Sm.rf (Nat.le_refl _) (s6.mono GR4_G8) k6.1 (fun _ => ⟨hz, hge⟩) (fun _ => (s6.1 40 0 8 (by unfold GR4; omega)).trans o0)⟩
  exact key 150 (U s) m0 w1 (fun _ => by omega) rfl k0'
theorem m_sum (hl : l.stackTraces = false) {U : Pq} (hn150 : n ≤ 150) (hlev : 7 ≤ lev) (hU : MH l G b n lev yX10_product cX10_product 2 op U) (hUf : Pf U) : MH l G b n (lev + 1) yX10_sum cX10_sum 2 op (suG b n U) := by
  intro w s m h hN h8
  refine e_X10_sum hlev hl (fun M kk hM hk F => ?_)
  generalize hK : (fun v w' => v = none ∧ ∃ m', MF b n op w s m (suG b n U s) m' w' : Option Value → Wd → Prop) = K
  subst hM
  refine con_mono (hU w s m h hN h8) ?_ (fun _ _ q => q.elim)
  rintro _ w1 ⟨rfl, m0, k0'⟩
  refine ⟨rfl, ?_⟩
  have key : ∀ f (R : Rd × Ex) (m' : Nat) (w' : Wd), (R.1.1 = 0 → n < R.1.2 + f) → loF b n isS2 U f R = suG b n U s → MF b n op w s m R m' w' → Z M G 0 K noX w' 4 [some (.ref (G.2.1 40 0)), none] [] := by
    intro f
    induction f with
    | zero =>
      intro R m' w' hkR hlo hF
      have hlo : R = suG b n U s := hlo
      refine b_X10_sum_4 hlev F hk ?_
      rw [hF.1.zero]
      refine ⟨fun hz => ?_, fun hz => ?_⟩
      · rw [← hK, ← hlo]
        exact ⟨rfl, m', hF⟩
      · exfalso
        have hz := Classical.not_not.mp hz
        have := hkR hz
        have := hF.1.2.2.2.2.1.2
        omega
    | succ f ih =>
      intro R m' w' hkR hlo hF
      refine b_X10_sum_4 hlev F hk ?_
      rw [hF.1.zero]
      refine ⟨fun hz => ?_, fun hz => ?_⟩
      · rw [loF_f _ _ hz] at hlo
        rw [← hK, ← hlo]
        exact ⟨rfl, m', hF⟩
      · have hz := Classical.not_not.mp hz
        have es : R.1 = (0, R.1.2) := by rw [← hz]
        have hge := sk_ge b n R.1.2
        have RR := hF.1
        rw [es] at RR
        have o0 : w'.1 40 0 8 = nI op := (hF.2.2.1 hz).2.2.1
        have go : ∀ (w2 : Wd) (o : Int32) (c : Nat), isS2 c = true → tkB b n c (0, R.1.2) = true → RM w2 b n (0, sk b n R.1.2 + 1) → Sm GR4 w' w2 → (¬ o = -1) → (2 : Int32) ≤ o → (∀ u v, jb o u v = jn (nI c) u v) → Z M G 0 K noX w2 38 [some (.ref (G.2.1 40 0)), none] [.int o] := by
          intro w2 o c hc htk R2 s2 hom ho hj
          obtain ⟨t1, t2⟩ := (tkB_is (s := (0, R.1.2)) rfl).mp htk
          have t1 : sk b n R.1.2 < n := t1
          have t2 : b (sk b n R.1.2) = c := t2
          rw [loF, if_neg (fun q => q hz), if_pos ⟨t1, by rw [t2]; exact hc⟩, t2] at hlo
          refine b_X10_sum_38 hlev F hk ⟨fun _ => ?_, fun q => absurd (Classical.not_not.mp q) hom⟩
          have o2 : w2.1 40 0 8 = nI op := (s2.1 40 0 8 (by unfold GR4; omega)).trans o0
          refine con_mono (hU w2 (0, sk b n R.1.2 + 1) m' R2 (hF.2.1.t (s2.mono GR4_G8) (fun _ => ⟨hz, by show R.1.2 ≤ sk b n R.1.2 + 1; omega⟩)) (fun _ => o2)) ?_ (fun _ _ q => q.elim)
          rintro _ w4 ⟨rfl, m2, k4⟩
          refine ⟨rfl, ?_⟩
          refine con_mono (m_njoin hl (op := op) (c := nI c) (st := (U (0, sk b n R.1.2 + 1)).1) hn150 hF (s2.mono GR4_G8) k4 Sm.rf k4.1 (fun z => ⟨hz, by show R.1.2 < sk b n R.1.2 + 1; omega, z, Nat.le_refl _⟩) ho hj (fun z => (k4.2.2.1 z).2.2.1)) ?_ (fun _ _ q => q.elim)
          rintro _ w6 ⟨rfl, m3, k6⟩
          refine ⟨rfl, ih _ m3 w6 (fun z => ?_) hlo k6⟩
          have q2 : m2 + (sk b n R.1.2 + 1) ≤ m' + (U (0, sk b n R.1.2 + 1)).1.2 := (k4.2.2.1 z).2.1
          have q1 := (k4.2.2.1 z).1
          have := hkR hz
          show n < (U (0, sk b n R.1.2 + 1)).1.2 + f
          omega
        refine con_iP (m_takesSign hl (c := 43) (by decide) RR) (fun w2 k2 => ?_)
        rw [bI_t]
        refine ⟨fun t0 => ?_, fun t0 => ?_⟩
        rotate_left
        · have t0 : tkB b n 43 (0, R.1.2) = true := by
            cases hq : tkB b n 43 (0, R.1.2) with
            | false => exact absurd hq t0
            | true => rfl
          rw [tkS_yes t0] at k2
          exact go w2 2 43 (by decide) t0 k2.1 k2.2 (by decide) (by decide) jb_2
        rw [tkS_no t0] at k2
        refine con_iP (m_takesSign hl (c := 45) (by decide) k2.1) (fun w4 k4 => ?_)
        rw [bI_t, tkB_sk]
        have s4 := k2.2.tr k4.2
        refine ⟨fun t1 => ?_, fun t1 => ?_⟩
        rotate_left
        · have t1 : tkB b n 45 (0, R.1.2) = true := by
            cases hq : tkB b n 45 (0, R.1.2) with
            | false => exact absurd hq t1
            | true => rfl
          rw [tkS_yes (by rw [tkB_sk]; exact t1), sk_idem] at k4
          exact go w4 3 45 (by decide) t1 k4.1 s4 (by decide) (by decide) jb_3
        rw [tkS_no (by rw [tkB_sk]; exact t1), sk_idem] at k4
        refine b_X10_sum_38 hlev F hk ⟨fun q => absurd rfl q, fun _ => ?_⟩
        have hns : ¬ (sk b n R.1.2 < n ∧ isS2 (b (sk b n R.1.2)) = true) := by
          rintro ⟨z1, z2⟩
          unfold isS2 at z2
          simp only [Bool.or_eq_true, beq_iff_eq] at z2
          rcases z2 with z2 | z2
          · rw [(tkB_is (s := (0, R.1.2)) rfl).mpr ⟨z1, z2⟩] at t0; exact absurd t0 (by decide)
          · rw [(tkB_is (s := (0, R.1.2)) rfl).mpr ⟨z1, z2⟩] at t1; exact absurd t1 (by decide)
        rw [loF, if_neg (fun q => q hz), if_neg hns] at hlo
        rw [← hK, ← hlo]
        exact ⟨rfl, m', MF.wrap (st := (0, sk b n R.1.2)) hF Sm.rf (Nat.le_refl _) (s4.mono GR4_G8) k4.1 (fun _ => ⟨hz, hge⟩) (fun _ => (s4.1 40 0 8 (by unfold GR4; omega)).trans o0)⟩
  refine key 150 (U s) m0 w1 (fun z => ?_) rfl k0'
  have q1 := (k0'.2.2.1 z).1
  have q2 := (k0'.2.2.1 z).2.1
  omega
theorem m_sums (hl : l.stackTraces = false) (hn150 : n ≤ 150) : ∀ d, d ≤ 6 → MH l G b n (10 + 3 * d) yX10_sum cX10_sum 2 (6 - d) (smF b n d)
  | 0, _ => by
    have hu := m_one (G := G) (b := b) (n := n) (lev := 7) (op := 6) (S := fun s => (s, zE)) hl hn150 (by decide) (by decide) (fun h => absurd h (by decide)) (fun s _ => rfl)
    rw [decide_eq_false (by decide)] at hu
    exact m_sum hl hn150 (by decide) (m_product hl hn150 (by decide) hu unF_f) (prF_f unF_f)
  | d + 1, hd => by
    have hs := m_sums hl hn150 d (by omega)
    have hu := m_one (G := G) (b := b) (n := n) (lev := 10 + 3 * d) (op := 6 - (d + 1)) (S := smF b n d) hl hn150 (by omega) (by omega) (fun _ => by rw [show 6 - (d + 1) + 1 = 6 - d by omega]; exact hs) (smF_f d)
    rw [decide_eq_true (by omega)] at hu
    exact fun w s m h hN h8 => con_lev (m_sum hl hn150 (by omega) (m_product hl hn150 (by omega) hu unF_f) (prF_f unF_f) w s m h hN h8) (by omega)
variable {w : Wd} {sz : Nat} {p0 : Int32}
theorem m_lawX (hl : l.stackTraces = false) (h1 : w.1 40 0 1 = nI sz) (hx : okT p0 150 sz = false) : C_X10_law l G w [.ref (G.2.1 40 0), .int p0] (fun r w' => (∃ v : Int32, r = some (.int v)) ∧ w' = bpM (cl0 w) 1 1) noX := by
  refine e_X10_law hl (fun M kk hM hk F => ?_)
  subst hM
  rintro _ rfl
  have e1 : (setI w 40 0 0 0).1 40 0 1 = nI sz := (setI_ne (by omega)).trans h1
  rw [e1]
  refine con_i (m_in hl) ?_
  have go : Z M G 0 (fun r w' => (∃ v : Int32, r = some (Value.int v)) ∧ w' = bpM (cl0 w) 1 1) noX (setI w 40 0 0 0) 25 [some (.ref (G.2.1 40 0)), some (.int p0)] [.ref (G.2.1 40 0)] := by
    refine b_X10_law_25 F hk (b_X10_law_30 F hk (con_bad hl (b := true) (rs := 1) (setI_eq _ _ _ _ _) (by decide) (by decide) (fun h => absurd h (by decide)) (fun _ => ⟨fun h => absurd h (by decide), fun _ => ⟨⟨0, rfl⟩, rfl⟩⟩)))
  rw [bI_t]
  refine ⟨fun _ => go, fun hc => ⟨fun hc2 => ?_, fun _ => go⟩⟩
  rcases (bad_T2 (most := 150) p0).mp hx with q | q
  · exact absurd q hc
  · exact absurd hc2 q
/-- what reading a law may write in the reference -/
def GLw (κ b k : Nat) : Prop := GS κ b k ∨ (κ = 40 ∧ (k = 0 ∨ k = 3 ∨ k = 20)) ∨ κ = 60
theorem m_law (hl : l.stackTraces = false) (h1 : w.1 40 0 1 = nI sz) (hz : sz ≤ 600) (hn150 : n ≤ 150) (h2 : n ≤ sz) (hb : ∀ i, i < n → b i < 256) (h41 : ∀ i, i < n → w.1 41 0 i = nI (b i)) :
    C_X10_law l G w [.ref (G.2.1 40 0), .int (nI n)] (fun r w' => w'.1 40 0 0 = 0 ∧ w'.1 40 0 1 = 0 ∧
      ((laF b n).1.1 ≠ 0 → r = some (.int (nI (laF b n).1.1 - 10)) ∧ w'.1 40 0 3 = nI (laF b n).1.2 ∧ Sm GLw w w') ∧
      ((laF b n).1.1 = 0 → r = some (.int 1) ∧ w'.1 40 0 3 = -1 ∧ LawM w' (laF b n).2 ∧ Sm (fun κ b k => GLw κ b k ∨ κ = 58 ∨ (κ = 40 ∧ k = 19)) w w')) noX := by
  refine e_X10_law hl (fun M kk hM hk F => ?_)
  generalize hK : (fun r w' => w'.1 40 0 0 = 0 ∧ w'.1 40 0 1 = 0 ∧
      ((laF b n).1.1 ≠ 0 → r = some (Value.int (nI (laF b n).1.1 - 10)) ∧ w'.1 40 0 3 = nI (laF b n).1.2 ∧ Sm GLw w w') ∧
      ((laF b n).1.1 = 0 → r = some (Value.int 1) ∧ w'.1 40 0 3 = -1 ∧ LawM w' (laF b n).2 ∧ Sm (fun κ b k => GLw κ b k ∨ κ = 58 ∨ (κ = 40 ∧ k = 19)) w w') : Option Value → Wd → Prop) = K
  subst hM
  rintro w0 rfl
  have e1 : (setI w 40 0 0 0).1 40 0 1 = nI sz := (setI_ne (by omega)).trans h1
  rw [e1]
  refine con_i (m_in hl) ?_
  have eb : (decide ((0 : Int32) ≤ nI n) && decide (nI n ≤ nI sz)) = true := by
    rw [decide_eq_true (nI_pos' (by omega)), decide_eq_true (nI_le h2 (by omega))]; rfl
  rw [eb]
  have c150 : (nI n ≤ (150 : Int32)) := nI_le (b := 150) hn150 (by decide)
  refine ⟨fun h => absurd h (by decide), fun _ => ⟨fun _ => ?_, fun h => absurd c150 h⟩⟩
  have hs0 : Sm GLw w (setI w 40 0 0 0) := Sm.rf.set (by unfold GLw; omega)
  have z0 : (setI w 40 0 0 0).1 40 0 0 = 0 := setI_eq _ _ _ _ _
  refine b_X10_law_30 F hk (con_bad hl (b := false) (rs := 1) z0 (by decide) (by decide) (fun _ => ⟨fun _ => ?_, fun h => absurd rfl h⟩) (fun h => absurd h (by decide)))
  refine con_vP (m_starts hl (by omega) hb (fun i hi => (setI_ne (by omega)).trans (h41 i hi))) (fun w4 k4 w5 hw5 => ?_)
  obtain ⟨k41, k42, k43, k44, k45⟩ := k4
  have hs4 : Sm GLw w w4 := hs0.tr (k45.mono (fun κ b k q => Or.inl q))
  have s5 : Sm GLw w w5 := by rw [hw5]; exact hs4.set (by unfold GLw; omega)
  have R5 : RM w5 b n (0, sk b n 0) := k41.mv (S := fun κ _ k => κ = 40 ∧ k = 20) (by rw [hw5]; exact Sm.rf.set ⟨rfl, rfl⟩) (fun k q z => by omega) (fun k z => by omega)
  have C5 : CdM w5 (0, sk b n 0) 0 := ⟨by rw [hw5, setI_eq]; rfl, by decide, fun _ => ⟨Nat.zero_le _, fun k hk => absurd hk (Nat.not_lt_zero _)⟩⟩
  have y0 : w5.1 40 0 0 = 0 := by rw [hw5, setI_ne (by omega), k45.1 40 0 0 (by unfold GS; omega)]; exact z0
  have y1 : w5.1 40 0 1 = 0 := by rw [hw5, setI_ne (by omega)]; exact k42
  have y8 : w5.1 40 0 8 = nI 0 := by rw [hw5, setI_ne (by omega)]; exact k44
  refine con_mono (con_lev (m_sums hl hn150 6 (by decide) w5 (0, sk b n 0) 0 R5 C5 (fun _ => y8)) (by decide)) ?_ (fun _ _ q => q.elim)
  rintro _ w7 ⟨rfl, m', k7⟩
  refine ⟨rfl, ?_⟩
  -- blanks at the beginning change nothing
  have eS : smF b n 6 (0, sk b n 0) = smF b n 6 (0, 0) := by
    have eu : ∀ (room : Bool) (S : Pq), unF b n room S (0, sk b n 0) = unF b n room S (0, 0) := fun room S => by
      unfold unF
      show (if ¬ (0 : Nat) = 0 then _ else un1 b n room S (sk b n (sk b n 0))) = (if ¬ (0 : Nat) = 0 then _ else un1 b n room S (sk b n 0))
      rw [sk_idem, if_neg (fun z => z rfl), if_neg (fun z => z rfl)]
    show suG b n (prF b n (unF b n true (smF b n 5))) (0, sk b n 0) = suG b n (prF b n (unF b n true (smF b n 5))) (0, 0)
    unfold suG prF
    rw [eu]
  rw [eS] at k7
  generalize hR : smF b n 6 (0, 0) = R at k7
  have ela : laF b n = if R.1.1 = 0 ∧ sk b n R.1.2 < n then ((1, sk b n R.1.2), zE) else (pkS b n R.1, R.2) := by unfold laF; rw [hR]
  have hle := sk_le (b := b) k7.1.2.2.2.2.1.2
  have s7 : Sm GLw w w7 := s5.tr (k7.2.2.2.mono (fun κ b k q => by unfold GV at q; unfold GLw GS; omega))
  refine con_vP (m_blanks hl k7.1) (fun w9 k9 => ?_)
  have s9 : Sm GLw w w9 := s7.tr (k9.2.mono (fun κ b k q => by unfold GR4 at q; unfold GLw GS; omega))
  have x0 : w9.1 40 0 0 = 0 := by rw [k9.2.1 40 0 0 (by unfold GR4; omega), k7.2.2.2.1 40 0 0 (by unfold GV; omega)]; exact y0
  have x1 : w9.1 40 0 1 = 0 := by rw [k9.2.1 40 0 1 (by unfold GR4; omega), k7.2.2.2.1 40 0 1 (by unfold GV; omega)]; exact y1
  have bad : ∀ (w' : Wd) (st : Rd) (E : Ex), st.1 ≠ 0 → laF b n = (st, E) → RM w' b n st → w'.1 40 0 0 = 0 → w'.1 40 0 1 = 0 → Sm GLw w w' → Z M G 0 K noX w' 85 [some (.ref (G.2.1 40 0)), none] [] := by
    intro w' st E hne hl2 hRm g0 g1 hs
    refine b_X10_law_85 F hk ?_
    rw [hRm.zero]
    refine ⟨fun z => absurd z hne, fun _ => ?_⟩
    refine con_i (m_ends hl hRm hne) ?_
    rw [← hK, hl2]
    refine ⟨?_, ?_, fun _ => ⟨rfl, setI_eq _ _ _ _ _, hs.set (by unfold GLw; omega)⟩, fun z => absurd z hne⟩
    · rw [setI_ne (by omega)]; exact g0
    · rw [setI_ne (by omega)]; exact g1
  rw [k9.1.zero]
  refine ⟨fun hq => ?_, fun hq => ?_⟩
  · have hne : R.1.1 ≠ 0 := by
      intro z
      rw [pkS, if_neg (fun y => y z)] at hq
      exact hq rfl
    rw [if_neg (fun z => hne z.1), pkS_x hne] at ela
    have k91 := k9.1
    rw [pkS_x hne] at k91
    exact bad w9 R.1 R.2 hne ela k91 x0 x1 s9
  · have hq := Classical.not_not.mp hq
    have h0 : R.1.1 = 0 := by
      by_cases z : R.1.1 = 0
      · exact z
      · rw [pkS_x z] at hq; exact hq
    have k91 := k9.1
    rw [pkS, if_neg (fun z => z h0)] at k91
    have e4 : w9.1 40 0 4 = nI (sk b n R.1.2) := (k91.2.2.2.2.2.2.1 rfl).2
    rw [k91.2.2.1, e4, nI_leI (by omega) (by omega)]
    refine ⟨fun hc => b_X10_law_85 F hk ?_, fun hc => ?_⟩
    · rw [if_neg (by omega), pkS, if_neg (fun z => z h0)] at ela
      rw [k91.zero]
      refine ⟨fun _ w10 hw10 w11 hw11 => ?_, fun z => absurd rfl z⟩
      obtain ⟨q1, q2, q3, q4, q5, q6, q7⟩ := k7.2.2.1 h0
      obtain ⟨n1, n2, n3⟩ := k7.2.1
      have e20 : w10.1 40 0 20 = nI m' := by rw [hw10, setI_ne (by omega), k9.2.1 40 0 20 (by unfold GR4; omega)]; exact n1
      rw [e20] at hw11
      have e19 : w11.1 40 0 19 = nI m' := by rw [hw11]; exact setI_eq _ _ _ _ _
      rw [e19]
      refine con_vP (m_lays hl (κe0 := 60) (κe1 := 58) (m0 := 160) (m1 := 160) (me0 := 2) (me1 := 2) rfl (by decide) rfl (fun _ => rfl) rfl rfl (by decide) rfl (fun _ => rfl) rfl (by decide) (by decide) (by decide) (by omega) (by omega) (by decide) (by decide)) (fun w12 k12 => ?_)
      have o12 : ∀ κ x y, κ ≠ 58 → w12.1 κ x y = w11.1 κ x y := fun κ x y hκ => k12.2.1 κ x y hκ
      have r60 : ∀ x y, w11.1 60 x y = w7.1 60 x y := fun x y => by rw [hw11, setI_ne (by omega), hw10, setI_ne (by omega), k9.2.1 60 x y (by unfold GR4; omega)]
      have r0 : ∀ i, i < m' → w12.1 58 i 0 = k0 w7 i := fun i hi => by rw [k12.1 i 0 hi (by decide), r60]
      have r1 : ∀ i, i < m' → w12.1 58 i 1 = k1 w7 i := fun i hi => by rw [k12.1 i 1 hi (by decide), r60]
      have s12 : Sm (fun κ b k => GLw κ b k ∨ κ = 58 ∨ (κ = 40 ∧ k = 19)) w w12 := by
        refine Sm.tr ?_ (k12.2.mono (fun κ b k q => Or.inr (Or.inl q)))
        rw [hw11, hw10]
        exact ((s9.mono (fun κ b k q => Or.inl q)).set (by unfold GLw; omega)).set (by omega)
      rw [← hK, ela]
      refine ⟨?_, ?_, fun z => absurd rfl z, fun _ => ⟨rfl, ?_, ⟨m', by omega, ?_, fun k hk => ?_, fun _ => ?_, fun f => ?_⟩, s12⟩⟩
      · rw [o12 _ _ _ (by decide), hw11, setI_ne (by omega), hw10, setI_ne (by omega)]; exact x0
      · rw [o12 _ _ _ (by decide), hw11, setI_ne (by omega), hw10, setI_ne (by omega)]; exact x1
      · rw [o12 _ _ _ (by decide), hw11, setI_ne (by omega), hw10, setI_eq]
      · rw [o12 _ _ _ (by decide)]; exact e19
      · have eh : hgt (fun i => w12.1 58 i 0) k = hgt (k0 w7) k := hgt_cg k (fun i hi => r0 i (by omega))
        rw [r0 k hk, r1 k hk, eh]
        exact (n3 h0).2 k hk
      · have eh : hgt (fun i => w12.1 58 i 0) m' = hgt (k0 w7) m' := hgt_cg m' (fun i hi => r0 i hi)
        rw [eh, q5]
        omega
      · have est : stk (fun i => w12.1 58 i 0) (fun i => w12.1 58 i 1) f m' = stk (k0 w7) (k1 w7) f m' := stk_cg m' (fun i hi => ⟨r0 i hi, r1 i hi⟩)
        rw [est]
        exact (q6 f).symm
    · rw [if_pos ⟨h0, by omega⟩] at ela
      refine con_vP (m_wrong hl k91 (f := 1) (x := sk b n R.1.2) (by decide) (by decide) hle) (fun w11 k11 => ?_)
      have k111 := k11.1
      rw [flF, if_neg (fun z => z rfl)] at k111
      refine bad w11 _ _ (by show ¬ (1 : Nat) = 0; decide) ela k111 ?_ ?_ (s9.tr (k11.2.1.mono (fun κ b k q => by unfold GR at q; unfold GLw GS; omega)))
      · rw [k11.2.1.1 40 0 0 (by unfold GR; omega)]; exact x0
      · rw [k11.2.1.1 40 0 1 (by unfold GR; omega)]; exact x1
end LE
