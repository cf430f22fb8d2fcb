/-! The class: units, products, sums; law. -/
theorem faF_lt {b : Nat → Nat} {n a : Nat} (h : faF b a (we b n a) < 8) : a + 3 ≤ we b n a := by
  have key : ∃ t, t < 18 ∧ isW b a (we b n a) (wT t) = true := by
    unfold faF at h
    by_cases c0 : isW b a (we b n a) (wT 6) = true
    · exact ⟨6, by decide, c0⟩
    by_cases c1 : isW b a (we b n a) (wT 7) = true
    · exact ⟨7, by decide, c1⟩
    by_cases c2 : isW b a (we b n a) (wT 8) = true
    · exact ⟨8, by decide, c2⟩
    by_cases c3 : isW b a (we b n a) (wT 9) = true
    · exact ⟨9, by decide, c3⟩
    by_cases c4 : isW b a (we b n a) (wT 1) = true
    · exact ⟨1, by decide, c4⟩
    by_cases c5 : isW b a (we b n a) (wT 10) = true
    · exact ⟨10, by decide, c5⟩
    by_cases c6 : isW b a (we b n a) (wT 11) = true
    · exact ⟨11, by decide, c6⟩
    by_cases c7 : isW b a (we b n a) (wT 0) = true
    · exact ⟨0, by decide, c7⟩
    rw [if_neg c0, if_neg c1, if_neg c2, if_neg c3, if_neg c4, if_neg c5, if_neg c6, if_neg c7] at h
    omega
  obtain ⟨t, ht, hw⟩ := key
  exact (isW_let ht hw).2.2.2
theorem faF_nn {b : Nat → Nat} {n : Nat} : faF b n n = 8 := by
  unfold faF
  rw [isW_nn (by decide), isW_nn (by decide), isW_nn (by decide), isW_nn (by decide), isW_nn (by decide), isW_nn (by decide), isW_nn (by decide), isW_nn (by decide)]
  rfl
section LC
variable {l : Launch} {G : Gx} {b : Nat → Nat} {n r lev op : Nat} {S : Pq}
theorem c_unit (hl : l.stackTraces = false) (hr : r < 2) (hn150 : n ≤ 150) (hop : op ≤ 6) (hlev : 9 ≤ lev) (hS : op < 6 → LwH l G b n r lev yX2_sum cX2_sum 6 (op + 1) S) (hSf : Pf S) : LwH l G b n r (lev + 2) yX2_unit cX2_unit 5 op (unF b n (decide (op < 6)) S) := by
  intro w s c h hN
  have tt : ∀ {x : Bool}, ¬ x = false → x = true := fun {x} q => by cases x; exact absurd rfl q; rfl
  have hb := h.2.1
  refine e_X2_unit hr (kr := lev + 1) (by omega) hl (fun M kk hM hk F => ?_)
  subst hM
  refine con_iP (c_peek hl h) (fun w2 k2 => ?_)
  obtain ⟨hR2, hs2'⟩ := k2
  have hs2 : Sm GT w w2 := hs2'.mono (fun κ b k q => by unfold GT; omega)
  by_cases h0 : s.1 ≠ 0
  · rw [pkS_x h0] at hR2
    rw [pkV, if_pos h0]
    have eR : unF b n (decide (op < 6)) S s = (s, zE) := by unfold unF; rw [if_pos h0]
    rw [eR]
    refine ⟨fun _ => b_X2_unit_33 hr (by omega) F hk ⟨fun _ => ?_, fun q => absurd (Classical.not_not.mp q) (by decide)⟩, fun q => absurd (by decide) q⟩
    refine con_vP (c_word hl hR2) (fun w3 k3 => ?_)
    obtain ⟨k31, k32, k33, k34⟩ := k3
    rw [wdS, if_pos h0] at k31
    rw [wdA, if_pos h0] at k32
    rw [wdE, if_pos h0] at k33
    refine con_i (c_says hl (t := 4) (by decide) k31 (Nat.le_refl n) (Nat.le_refl n) k32 k33) ?_
    rw [isW_nn (by decide)]
    refine ⟨fun _ => ?_, fun q => absurd rfl q⟩
    refine con_i (c_says hl (t := 5) (by decide) k31 (Nat.le_refl n) (Nat.le_refl n) k32 k33) ?_
    rw [isW_nn (by decide)]
    refine ⟨fun _ => ?_, fun q => absurd rfl q⟩
    refine con_i (c_factNamed hl k31 (Nat.le_refl n) (Nat.le_refl n) k32 k33) ?_
    rw [faF_nn, if_neg (by decide), k32]
    refine ⟨fun q => absurd rfl q, fun _ => ?_⟩
    refine con_vP (c_fail hl k31 (f := 1) (by decide) (by decide) (Nat.le_refl n)) (fun w4 k4 => ?_)
    rw [flF_x h0] at k4
    have sm : Sm GT w w4 := (hs2.tr k34).tr (k4.2.mono GT3_GT)
    exact ⟨0, c, rfl, k4.1, hN.t sm GT_1 (fun z => absurd z h0), fun z => absurd z h0, sm.mono GT_GN⟩
  · have h0' : s.1 = 0 := Classical.not_not.mp h0
    rw [pkS, if_neg h0] at hR2
    have epv : pkV b n s = btI b n (sk b n s.2) := by unfold pkV btI; rw [if_neg h0]
    rw [epv]
    have eR : unF b n (decide (op < 6)) S s = un1 b n (decide (op < 6)) S (sk b n s.2) := by unfold unF; rw [if_neg h0]
    rw [eR]
    have hsa := sk_ge b n s.2
    have hska := sk_idem b n s.2
    have hle := sk_le (b := b) h.2.2.2.2.1.2
    have hN2 : NdC w2 r (0, sk b n s.2) c := hN.t hs2 GT_1 (fun _ => ⟨h0', hsa⟩)
    generalize sk b n s.2 = a at *
    have hdig := btI_d hb a
    by_cases hd : a < n ∧ isD b a = true
    · rw [decide_eq_true hd, Bool.and_eq_true, decide_eq_true_iff, decide_eq_true_iff] at hdig
      refine ⟨fun q => absurd hdig.1 (Int32.not_le.mpr q), fun _ => ⟨fun q => absurd hdig.2 (Int32.not_le.mpr q), fun _ => ?_⟩⟩
      have eu : un1 b n (decide (op < 6)) S a = ((figF b n 0 1000 (0, a)).1, fun _ => nI (figF b n 0 1000 (0, a)).2) := by unfold un1; rw [if_pos hd]
      rw [eu]
      refine con_iP (c_figure hl (lo := 0) (H := 1000) (by decide) (by decide) hR2) (fun w4 k4 => ?_)
      obtain ⟨k41, -, k43⟩ := k4
      refine con_mono (c_leaf hl (p0 := 8) (p1 := nI (figC b n 0 1000 (0, a))) (E := fun _ => nI (figF b n 0 1000 (0, a)).2) (s := (0, a)) (st := (figF b n 0 1000 (0, a)).1) hr hn150 k41 (hN2.t k43 GT_1 (fun _ => ⟨rfl, Nat.le_refl _⟩)) rfl (fun z => (figF_ok z).2.2.2.1) (fun z => ⟨Or.inr (Or.inl rfl), by decide⟩) (fun z f => ?_) (fun _ => rfl)) ?_ (fun _ _ q => q.elim)
      · rw [if_neg (by decide), figC_ok z]
      · rintro _ w6 ⟨x, c', rfl, k6⟩
        exact ⟨x, rfl, x, c', rfl, NF.wrap k6 (hs2.tr k43) hsa Sm.rf k6.1 (fun q => ⟨q, Nat.le_refl _⟩)⟩
    · have go33 : Z M G 0 (NP b n r w s c (un1 b n (decide (op < 6)) S a)) noX w2 33 [some (.ref (G.2.1 8 r)), some (.ref (G.2.1 1 0)), some (.int (nI op)), some (.int (btI b n a)), none] [] := by
        refine b_X2_unit_33 hr (by omega) F hk ?_
        have c40 : (btI b n a = (40 : Int32)) ↔ a < n ∧ b a = 40 := btI_c hb a (c := 40) (by decide)
        rw [c40]
        refine ⟨fun h40 => ?_, fun h40 => ?_⟩
        · have hwe := we_ge b n a
          have hwn := we_le (b := b) hle
          refine con_vP (c_word hl hR2) (fun w3 k3 => ?_)
          obtain ⟨k31, k32, k33, k34⟩ := k3
          rw [wdS, if_neg (fun z => z rfl), hska] at k31
          rw [wdA, if_neg (fun z => z rfl), hska] at k32
          rw [wdE, if_neg (fun z => z rfl), hska] at k33
          have s3 := hs2.tr k34
          have hN3 : NdC w3 r (0, a) c := hN2.t k34 GT_1 (fun _ => ⟨rfl, Nat.le_refl _⟩)
          refine con_i (c_says hl (t := 4) (by decide) k31 hwe hwn k32 k33) ?_
          rw [bI_t]
          refine ⟨fun c4 => ?_, fun c4 => ?_⟩
          · refine con_i (c_says hl (t := 5) (by decide) k31 hwe hwn k32 k33) ?_
            rw [bI_t]
            refine ⟨fun c5 => ?_, fun c5 => ?_⟩
            · refine con_i (c_factNamed hl k31 hwe hwn k32 k33) ?_
              have hf8 := faF_le b a (we b n a)
              by_cases hf : faF b a (we b n a) < 8
              · rw [if_pos hf]
                refine ⟨fun _ => ?_, fun q => absurd (Classical.not_not.mp q) (nI_neg1 (by omega))⟩
                have eu : un1 b n (decide (op < 6)) S a = ((0, we b n a), fun f => f (faF b a (we b n a))) := by
                  unfold un1
                  rw [if_neg hd, if_neg h40, if_neg (by rw [c4]; decide), if_neg (by rw [c5]; decide), if_pos hf]
                rw [eu]
                have h3 := faF_lt hf
                refine con_mono (c_leaf hl (p0 := nI (faF b a (we b n a))) (p1 := 0) (E := fun f => f (faF b a (we b n a))) (s := (0, a)) (st := (0, we b n a)) hr hn150 k31 hN3 rfl (fun _ => by show a < we b n a; omega) (fun _ => ⟨Or.inl ⟨_, hf, rfl⟩, ?_⟩) (fun _ f => ?_) (fun q => ?_)) ?_ (fun _ _ q => q.elim)
                · exact Int32.not_lt.mpr (Int32.le_of_lt (nI_lt (b := 8) hf (by decide)))
                · rw [if_pos (show nI (faF b a (we b n a)) < (8 : Int32) from nI_lt (b := 8) hf (by decide)), nI_clamp (by omega)]
                · exact absurd (nI_lt (b := 8) hf (by decide)) q
                · rintro _ w6 ⟨x, c', rfl, k6⟩
                  exact ⟨x, rfl, x, c', rfl, NF.wrap k6 s3 hsa Sm.rf k6.1 (fun q => ⟨q, Nat.le_refl _⟩)⟩
              · rw [if_neg hf, k32]
                refine ⟨fun q => absurd rfl q, fun _ => ?_⟩
                have eu : un1 b n (decide (op < 6)) S a = ((1, a), zE) := by
                  unfold un1
                  rw [if_neg hd, if_neg h40, if_neg (by rw [c4]; decide), if_neg (by rw [c5]; decide), if_neg hf]
                rw [eu]
                refine con_vP (c_fail hl k31 (f := 1) (by decide) (by decide) hle) (fun w4 k4 => ?_)
                rw [flF, if_neg (fun z => z rfl)] at k4
                have sm : Sm GT w w4 := s3.tr (k4.2.mono GT3_GT)
                have h1 : ¬ ((1, a) : Rd).1 = 0 := by show ¬ (1 : Nat) = 0; decide
                exact ⟨0, c, rfl, k4.1, hN.t sm GT_1 (fun z => absurd z h1), fun z => absurd z h1, sm.mono GT_GN⟩
            · have c5 := tt c5
              have eu : un1 b n (decide (op < 6)) S a = paF b n (decide (op < 6)) S a (we b n a) 10 := by
                unfold un1
                rw [if_neg hd, if_neg h40, if_neg (by rw [c4]; decide), if_pos c5]
              rw [eu]
              have h3 := (isW_let (by decide) c5).2.2.2
              refine con_mono (c_pair hl (k := 10) (a := a) hr hn150 hop hlev hS hSf k31 (by omega) k32 (by decide) hN3) ?_ (fun _ _ q => q.elim)
              rintro _ w6 ⟨x, c', rfl, k6⟩
              exact ⟨x, rfl, x, c', rfl, NF.wrap k6 s3 hsa Sm.rf k6.1 (fun q => ⟨q, Nat.le_refl _⟩)⟩
          · have c4 := tt c4
            have eu : un1 b n (decide (op < 6)) S a = paF b n (decide (op < 6)) S a (we b n a) 9 := by
              unfold un1
              rw [if_neg hd, if_neg h40, if_pos c4]
            rw [eu]
            have h3 := (isW_let (by decide) c4).2.2.2
            refine con_mono (c_pair hl (k := 9) (a := a) hr hn150 hop hlev hS hSf k31 (by omega) k32 (by decide) hN3) ?_ (fun _ _ q => q.elim)
            rintro _ w6 ⟨x, c', rfl, k6⟩
            exact ⟨x, rfl, x, c', rfl, NF.wrap k6 s3 hsa Sm.rf k6.1 (fun q => ⟨q, Nat.le_refl _⟩)⟩
        · have h40 := Classical.not_not.mp h40
          have eu : un1 b n (decide (op < 6)) S a = inF b n (decide (op < 6)) S a := by
            unfold un1
            rw [if_neg hd, if_pos h40]
          rw [eu]
          refine con_mono (c_inner hl hr hop hlev hS hR2 hska h40.1 h40.2 hN2) ?_ (fun _ _ q => q.elim)
          rintro _ w6 ⟨x, c', rfl, k6⟩
          exact ⟨x, rfl, x, c', rfl, NF.wrap k6 hs2 hsa Sm.rf k6.1 (fun q => ⟨q, Nat.le_refl _⟩)⟩
      refine ⟨fun _ => go33, fun h1 => ⟨fun _ => go33, fun h2 => ?_⟩⟩
      exfalso
      rw [decide_eq_false hd, decide_eq_true (Int32.not_lt.mp h1), decide_eq_true (Int32.not_lt.mp h2)] at hdig
      exact absurd hdig (by decide)
/-- the sign that stands next -/
theorem pk_sign {w w2 : Wd} {s : Rd} {c : Nat} (hb : ∀ i, i < n → b i < 256) (hc : c < 256) (h0 : s.1 = 0) : (pkV b n s = nI c) ↔ (sk b n s.2 < n ∧ b (sk b n s.2) = c) := by
  have epv : pkV b n s = btI b n (sk b n s.2) := by unfold pkV btI; rw [if_neg (fun z => z h0)]
  rw [epv]
  exact btI_c hb _ hc
theorem c_product (hl : l.stackTraces = false) {U : Pq} (hr : r < 2) (hn150 : n ≤ 150) (hlev : 9 ≤ lev) (hU : LwH l G b n r lev yX2_unit cX2_unit 5 op U) (hUf : Pf U) : LwH l G b n r (lev + 1) yX2_product cX2_product 6 op (prF b n U) := by
  intro w s c h hN
  refine e_X2_product hr (kr := lev) hlev hl (fun M kk hM hk F => ?_)
  generalize hK : NP b n r w s c (prF b n U s) = K
  subst hM
  refine con_mono (hU w s c h hN) ?_ (fun _ _ q => q.elim)
  rintro _ w1 ⟨x0, c0, rfl, k0⟩
  refine ⟨x0, rfl, ?_⟩
  have key : ∀ f k (R : Rd × Ex) (x : Int32) (c' : Nat) (w' : Wd), f + k = 150 → (R.1.1 = 0 → k ≤ R.1.2) → loF b n isS1 U f R = prF b n U s → NF b n r w s c R x c' w' → Z M G 0 K noX w' 10 [some (.ref (G.2.1 8 r)), some (.ref (G.2.1 1 0)), some (.int (nI op)), some (.int x), some (.int (nI k)), none] [] := by
    intro f
    induction f with
    | zero =>
      intro k R x c' w' hfk hkR hlo hF
      refine b_X2_product_10 hr hlev F hk ⟨fun _ => ?_, fun q => absurd (by rw [show k = 150 by omega]; decide) q⟩
      have hlo : R = prF b n U s := hlo
      rw [← hK, ← hlo]
      exact NP.of hF
    | succ f ih =>
      intro k R x c' w' hfk hkR hlo hF
      have hb := hF.1.2.1
      refine b_X2_product_10 hr hlev F hk ⟨fun q => absurd q (nI_ge (show k < 150 by omega) (by decide)), fun _ => ?_⟩
      refine con_iP (c_peek hl hF.1) (fun w2 k2 => ?_)
      have s2 : Sm GT w' w2 := k2.2.mono (fun κ b k q => by unfold GT; omega)
      by_cases h0 : R.1.1 ≠ 0
      · rw [pkV, if_pos h0]
        rw [loF_f _ _ h0] at hlo
        refine ⟨fun q => absurd q (by decide), fun _ => ⟨fun q => absurd q (by decide), fun _ => ⟨fun q => absurd q (by decide), fun _ => ?_⟩⟩⟩
        have k21 := k2.1
        rw [pkS_x h0] at k21
        rw [← hK, ← hlo]
        exact NP.of (NF.wrap (st := R.1) hF Sm.rf (Nat.le_refl _) s2 k21 (fun q => ⟨q, Nat.le_refl _⟩))
      · have h0' : R.1.1 = 0 := Classical.not_not.mp h0
        have k21 := k2.1
        rw [pkS, if_neg h0] at k21
        have hge := sk_ge b n R.1.2
        have g42 : (pkV b n R.1 = (42 : Int32)) ↔ _ := pk_sign (w := w) (w2 := w) hb (c := 42) (by decide) h0'
        have g47 : (pkV b n R.1 = (47 : Int32)) ↔ _ := pk_sign (w := w) (w2 := w) hb (c := 47) (by decide) h0'
        have g37 : (pkV b n R.1 = (37 : Int32)) ↔ _ := pk_sign (w := w) (w2 := w) hb (c := 37) (by decide) h0'
        have go : sk b n R.1.2 < n → isS1 (b (sk b n R.1.2)) = true → Z M G 0 K noX w2 48 [some (.ref (G.2.1 8 r)), some (.ref (G.2.1 1 0)), some (.int (nI op)), some (.int x), some (.int (nI k)), some (.int (pkV b n R.1))] [] := by
          intro hlt hsg
          have ev : pkV b n R.1 = nI (b (sk b n R.1.2)) := by unfold pkV; rw [if_neg h0, if_pos hlt]
          rw [loF, if_neg h0, if_pos ⟨hlt, hsg⟩] at hlo
          rw [ev]
          have hb256 := hb _ hlt
          have hop8 : (8 : Int32) < nI (b (sk b n R.1.2)) := by
            unfold isS1 at hsg
            simp only [Bool.or_eq_true, beq_iff_eq] at hsg
            exact nI_lt (a := 8) (by omega) (by omega)
          refine b_X2_product_48 hr hlev F hk ?_
          refine con_vP (c_sign hl hb256 k21) (fun w4 k4 => ?_)
          rw [sgnF_at (sk_idem b n _) hlt rfl] at k4
          have hN4 : NdC w4 r (0, sk b n R.1.2 + 1) c' := (hF.2.1.t s2 GT_1 (s' := (0, sk b n R.1.2)) (fun _ => ⟨h0', hge⟩)).t k4.2 GT3_1 (fun _ => ⟨rfl, Nat.le_succ _⟩)
          refine con_mono (hU w4 (0, sk b n R.1.2 + 1) c' k4.1 hN4) ?_ (fun _ _ q => q.elim)
          rintro _ w6 ⟨x2, c2, rfl, k6⟩
          refine ⟨x2, rfl, ?_⟩
          refine con_mono (c_join hl (st := (U (0, sk b n R.1.2 + 1)).1) hr hn150 hF (s2.tr (k4.2.mono GT3_GT)) k6 Sm.rf k6.1 (fun z => ⟨h0', by show R.1.2 < sk b n R.1.2 + 1; omega, z, Nat.le_refl _⟩) hop8) ?_ (fun _ _ q => q.elim)
          rintro _ w8 ⟨x6, c6, rfl, k8⟩
          refine ⟨x6, rfl, ?_⟩
          rw [← nI_succ]
          refine ih (k + 1) _ x6 c6 w8 (by omega) (fun z => ?_) hlo k8
          have q1 := k6.2.2.1 z
          have q2 : c2 + (sk b n R.1.2 + 1) ≤ c' + (U (0, sk b n R.1.2 + 1)).1.2 := q1.2.1
          have := hkR h0'
          show k + 1 ≤ (U (0, sk b n R.1.2 + 1)).1.2
          omega
        refine ⟨fun q => ?_, fun q1 => ⟨fun q => ?_, fun q2 => ⟨fun q => ?_, fun q3 => ?_⟩⟩⟩
        · obtain ⟨z1, z2⟩ := g42.mp q
          exact go z1 (by rw [z2]; decide)
        · obtain ⟨z1, z2⟩ := g47.mp q
          exact go z1 (by rw [z2]; decide)
        · obtain ⟨z1, z2⟩ := g37.mp q
          exact go z1 (by rw [z2]; decide)
        · have hns : ¬ (sk b n R.1.2 < n ∧ isS1 (b (sk b n R.1.2)) = true) := by
            rintro ⟨z1, z2⟩
            unfold isS1 at z2
            simp only [Bool.or_eq_true, beq_iff_eq] at z2
            rcases z2 with (z2 | z2) | z2
            · exact q1 (g42.mpr ⟨z1, z2⟩)
            · exact q2 (g47.mpr ⟨z1, z2⟩)
            · exact q3 (g37.mpr ⟨z1, z2⟩)
          rw [loF, if_neg h0, if_neg hns] at hlo
          rw [← hK, ← hlo]
          exact NP.of (NF.wrap (st := (0, sk b n R.1.2)) hF Sm.rf (Nat.le_refl _) s2 k21 (fun _ => ⟨h0', hge⟩))
  exact key 150 0 (U s) x0 c0 w1 rfl (fun _ => Nat.zero_le _) rfl k0
theorem c_sum (hl : l.stackTraces = false) {U : Pq} (hr : r < 2) (hn150 : n ≤ 150) (hlev : 9 ≤ lev) (hU : LwH l G b n r lev yX2_product cX2_product 6 op U) (hUf : Pf U) : LwH l G b n r (lev + 1) yX2_sum cX2_sum 6 op (suG b n U) := by
  intro w s c h hN
  refine e_X2_sum hr (kr := lev) hlev hl (fun M kk hM hk F => ?_)
  generalize hK : NP b n r w s c (suG b n U s) = K
  subst hM
  refine con_mono (hU w s c h hN) ?_ (fun _ _ q => q.elim)
  rintro _ w1 ⟨x0, c0, rfl, k0⟩
  refine ⟨x0, rfl, ?_⟩
  have key : ∀ f k (R : Rd × Ex) (x : Int32) (c' : Nat) (w' : Wd), f + k = 150 → (R.1.1 = 0 → k ≤ R.1.2) → loF b n isS2 U f R = suG b n U s → NF b n r w s c R x c' w' → Z M G 0 K noX w' 10 [some (.ref (G.2.1 8 r)), some (.ref (G.2.1 1 0)), some (.int (nI op)), some (.int x), some (.int (nI k)), none] [] := by
    intro f
    induction f with
    | zero =>
      intro k R x c' w' hfk hkR hlo hF
      refine b_X2_sum_10 hr hlev F hk ⟨fun _ => ?_, fun q => absurd (by rw [show k = 150 by omega]; decide) q⟩
      have hlo : R = suG b n U s := hlo
      rw [← hK, ← hlo]
      exact NP.of hF
    | succ f ih =>
      intro k R x c' w' hfk hkR hlo hF
      have hb := hF.1.2.1
      refine b_X2_sum_10 hr hlev F hk ⟨fun q => absurd q (nI_ge (show k < 150 by omega) (by decide)), fun _ => ?_⟩
      refine con_iP (c_peek hl hF.1) (fun w2 k2 => ?_)
      have s2 : Sm GT w' w2 := k2.2.mono (fun κ b k q => by unfold GT; omega)
      by_cases h0 : R.1.1 ≠ 0
      · rw [pkV, if_pos h0]
        rw [loF_f _ _ h0] at hlo
        refine ⟨fun q => absurd q (by decide), fun _ => ⟨fun q => absurd q (by decide), fun _ => ?_⟩⟩
        have k21 := k2.1
        rw [pkS_x h0] at k21
        rw [← hK, ← hlo]
        exact NP.of (NF.wrap (st := R.1) hF Sm.rf (Nat.le_refl _) s2 k21 (fun q => ⟨q, Nat.le_refl _⟩))
      · have h0' : R.1.1 = 0 := Classical.not_not.mp h0
        have k21 := k2.1
        rw [pkS, if_neg h0] at k21
        have hge := sk_ge b n R.1.2
        have g43 : (pkV b n R.1 = (43 : Int32)) ↔ _ := pk_sign (w := w) (w2 := w) hb (c := 43) (by decide) h0'
        have g45 : (pkV b n R.1 = (45 : Int32)) ↔ _ := pk_sign (w := w) (w2 := w) hb (c := 45) (by decide) h0'
        have go : sk b n R.1.2 < n → isS2 (b (sk b n R.1.2)) = true → Z M G 0 K noX w2 41 [some (.ref (G.2.1 8 r)), some (.ref (G.2.1 1 0)), some (.int (nI op)), some (.int x), some (.int (nI k)), some (.int (pkV b n R.1))] [] := by
          intro hlt hsg
          have ev : pkV b n R.1 = nI (b (sk b n R.1.2)) := by unfold pkV; rw [if_neg h0, if_pos hlt]
          rw [loF, if_neg h0, if_pos ⟨hlt, hsg⟩] at hlo
          rw [ev]
          have hb256 := hb _ hlt
          have hop8 : (8 : Int32) < nI (b (sk b n R.1.2)) := by
            unfold isS2 at hsg
            simp only [Bool.or_eq_true, beq_iff_eq] at hsg
            exact nI_lt (a := 8) (by omega) (by omega)
          refine b_X2_sum_41 hr hlev F hk ?_
          refine con_vP (c_sign hl hb256 k21) (fun w4 k4 => ?_)
          rw [sgnF_at (sk_idem b n _) hlt rfl] at k4
          have hN4 : NdC w4 r (0, sk b n R.1.2 + 1) c' := (hF.2.1.t s2 GT_1 (s' := (0, sk b n R.1.2)) (fun _ => ⟨h0', hge⟩)).t k4.2 GT3_1 (fun _ => ⟨rfl, Nat.le_succ _⟩)
          refine con_mono (hU w4 (0, sk b n R.1.2 + 1) c' k4.1 hN4) ?_ (fun _ _ q => q.elim)
          rintro _ w6 ⟨x2, c2, rfl, k6⟩
          refine ⟨x2, rfl, ?_⟩
          refine con_mono (c_join hl (st := (U (0, sk b n R.1.2 + 1)).1) hr hn150 hF (s2.tr (k4.2.mono GT3_GT)) k6 Sm.rf k6.1 (fun z => ⟨h0', by show R.1.2 < sk b n R.1.2 + 1; omega, z, Nat.le_refl _⟩) hop8) ?_ (fun _ _ q => q.elim)
          rintro _ w8 ⟨x6, c6, rfl, k8⟩
          refine ⟨x6, rfl, ?_⟩
          rw [← nI_succ]
          refine ih (k + 1) _ x6 c6 w8 (by omega) (fun z => ?_) hlo k8
          have q1 := k6.2.2.1 z
          have q2 : c2 + (sk b n R.1.2 + 1) ≤ c' + (U (0, sk b n R.1.2 + 1)).1.2 := q1.2.1
          have := hkR h0'
          show k + 1 ≤ (U (0, sk b n R.1.2 + 1)).1.2
          omega
        refine ⟨fun q => ?_, fun q1 => ⟨fun q => ?_, fun q2 => ?_⟩⟩
        · obtain ⟨z1, z2⟩ := g43.mp q
          exact go z1 (by rw [z2]; decide)
        · obtain ⟨z1, z2⟩ := g45.mp q
          exact go z1 (by rw [z2]; decide)
        · have hns : ¬ (sk b n R.1.2 < n ∧ isS2 (b (sk b n R.1.2)) = true) := by
            rintro ⟨z1, z2⟩
            unfold isS2 at z2
            simp only [Bool.or_eq_true, beq_iff_eq] at z2
            rcases z2 with z2 | z2
            · exact q1 (g43.mpr ⟨z1, z2⟩)
            · exact q2 (g45.mpr ⟨z1, z2⟩)
          rw [loF, if_neg h0, if_neg hns] at hlo
          rw [← hK, ← hlo]
          exact NP.of (NF.wrap (st := (0, sk b n R.1.2)) hF Sm.rf (Nat.le_refl _) s2 k21 (fun _ => ⟨h0', hge⟩))
  exact key 150 0 (U s) x0 c0 w1 rfl (fun _ => Nat.zero_le _) rfl k0
theorem c_sums (hl : l.stackTraces = false) (hr : r < 2) (hn150 : n ≤ 150) : ∀ d, d ≤ 6 → LwH l G b n r (13 + 4 * d) yX2_sum cX2_sum 6 (6 - d) (smF b n d)
  | 0, _ => by
    have hu := c_unit (G := G) (b := b) (n := n) (lev := 9) (op := 6) (S := fun s => (s, zE)) hl hr hn150 (by decide) (by decide) (fun h => absurd h (by decide)) (fun s _ => rfl)
    rw [decide_eq_false (by decide)] at hu
    exact fun w s c h hN => con_lev (c_sum hl hr hn150 (by decide) (c_product hl hr hn150 (by decide) hu unF_f) (prF_f unF_f) w s c h hN) (by decide)
  | d + 1, hd => by
    have hs := c_sums hl hr hn150 d (by omega)
    have hu := c_unit (G := G) (b := b) (n := n) (lev := 13 + 4 * d) (op := 6 - (d + 1)) (S := smF b n d) hl hr hn150 (by omega) (by omega) (fun _ => by rw [show 6 - (d + 1) + 1 = 6 - d by omega]; exact hs) (smF_f d)
    rw [decide_eq_true (by omega)] at hu
    exact fun w s c h hN => con_lev (c_sum hl hr hn150 (by omega) (c_product hl hr hn150 (by omega) hu unF_f) (prF_f unF_f) w s c h hN) (by omega)
theorem c_lawRead (hl : l.stackTraces = false) {w : Wd} (hr : r < 2) (hn150 : n ≤ 150) (h : RC w b n (0, 0)) : C_X2_read l G w [.ref (G.2.1 8 r), .ref (G.2.1 1 0)] (fun v w' => v = none ∧ RC w' b n (laF b n).1 ∧ ((laF b n).1.1 = 0 → LawC w' r (laF b n).2) ∧ Sm (GN r) w w') noX := by
  refine e_X2_read hr hl (fun M kk hM hk F => ?_)
  subst hM
  intro w1 hw1
  have R1 := h.row hw1 (by decide) (by decide)
  have N1 : NdC w1 r (0, 0) 0 := ⟨by rw [hw1, setI_eq]; rfl, by decide, fun _ => ⟨Nat.le_refl _, fun i hi => absurd hi (Nat.not_lt_zero _)⟩⟩
  have s1 : Sm (GN r) w w1 := by rw [hw1]; exact Sm.rf.set (by unfold GN; omega)
  refine con_mono (con_lev (c_sums hl hr hn150 6 (by decide) w1 (0, 0) 0 R1 N1) (by decide)) ?_ (fun _ _ q => q.elim)
  rintro _ w3 ⟨x, c', rfl, k3⟩
  refine ⟨x, rfl, ?_⟩
  generalize hR : smF b n 6 (0, 0) = R at k3
  have ela : laF b n = if R.1.1 = 0 ∧ sk b n R.1.2 < n then ((1, sk b n R.1.2), zE) else (pkS b n R.1, R.2) := by unfold laF; rw [hR]
  have hle := sk_le (b := b) k3.1.2.2.2.2.1.2
  refine con_iP (c_more hl k3.1) (fun w5 k5 => ?_)
  have s5 := (s1.tr k3.2.2.2).tr (k5.2.mono (GT3_GN (r := r)))
  rw [bI_t]
  refine ⟨fun hm => ?_, fun hm => ?_⟩
  · have hm : ¬ (R.1.1 = 0 ∧ sk b n R.1.2 < n) := of_decide_eq_false hm
    rw [if_neg hm] at ela
    rw [ela]
    refine ⟨rfl, k5.1, fun z => ?_, s5⟩
    have h0 : R.1.1 = 0 := by
      by_cases q : R.1.1 = 0
      · exact q
      · have z : (pkS b n R.1).1 = 0 := z
        rw [pkS_x q] at z; exact z
    obtain ⟨q1, q2, q3, q4, q5⟩ := k3.2.2.1 h0
    obtain ⟨n1, n2, n3⟩ := k3.2.1
    have row : ∀ κ, κ ≠ 1 → w5.1 κ r = w3.1 κ r := fun κ hκ => funext fun _ => k5.2.oth GT3_1 hκ
    refine ⟨c', by omega, n2, by rw [row 8 (by decide)]; exact n1, ?_, fun f => ?_⟩
    · rw [row 34 (by decide), row 35 (by decide), row 36 (by decide)]
      exact (n3 h0).2
    · rw [row 34 (by decide), row 35 (by decide), row 36 (by decide)]
      exact (q5 f).symm
  · have hm : R.1.1 = 0 ∧ sk b n R.1.2 < n := by
      by_cases hq : R.1.1 = 0 ∧ sk b n R.1.2 < n
      · exact hq
      · exact absurd (decide_eq_false hq) hm
    rw [if_pos hm] at ela
    have k51 := k5.1
    rw [pkS, if_neg (fun z => z hm.1)] at k51
    rw [(k51.2.2.2.2.2.2.1 rfl).2, ela]
    refine con_vP (c_fail hl k51 (f := 1) (x := sk b n R.1.2) (by decide) (by decide) hle) (fun w7 k7 => ?_)
    rw [flF, if_neg (fun z => z rfl)] at k7
    exact ⟨rfl, k7.1, fun z => absurd z (by show ¬ (1 : Nat) = 0; decide), s5.tr (k7.2.mono GT3_GN)⟩
variable {w : Wd} {sz : Nat} {p0 : Int32}
theorem c_lawX (hl : l.stackTraces = false) (h0 : w.1 1 0 0 = nI sz) (hx : okT p0 150 sz = false) : C_X9_law l G w [.ref (G.2.1 0 0), .int p0] (fun _ _ => False) (fun E w' => E = nIae ∧ w' = bumpT w) := by
  refine e_X9_law hl (fun M kk hM hk F => ?_)
  subst hM
  exact con_mono (c_openX hl (most := 150) h0 hx) (fun _ _ h => h.elim) (fun _ _ h => h)
theorem c_law (hl : l.stackTraces = false) (h0 : w.1 1 0 0 = nI sz) (hz : sz ≤ 600) (h1 : n ≤ 150) (h2 : n ≤ sz) (hb : ∀ i, i < n → b i < 256) (h10 : ∀ i, i < n → w.1 10 0 i = sb8 (b i)) (p9 : w.2.2 0 0 9 < 2) :
    C_X9_law l G w [.ref (G.2.1 0 0), .int (nI n)] (fun r w' => w'.1 1 0 0 = 0 ∧
      ((laF b n).1.1 ≠ 0 → r = some (.int (nI (laF b n).1.1 - 10)) ∧ w'.1 1 0 2 = nI (laF b n).1.2 ∧ Sm (fun κ b _ => κ = 1 ∨ (b = w.2.2 0 0 9 ∧ (κ = 8 ∨ (34 ≤ κ ∧ κ ≤ 36)))) w w') ∧
      ((laF b n).1.1 = 0 → r = some (.int 1) ∧ w'.1 1 0 2 = -1 ∧ LawC w' (w.2.2 0 0 9) (laF b n).2 ∧ w'.2.2 = swP w 2 0 1 0 0 9 ∧ Sn (fun κ b _ => κ = 1 ∨ (b = w.2.2 0 0 9 ∧ (κ = 8 ∨ (34 ≤ κ ∧ κ ≤ 36)))) w w')) noX := by
  refine e_X9_law hl (fun M kk hM hk F => ?_)
  subst hM
  refine con_vP (c_openT hl (most := 150) h0 (by decide) hz h1 h2 hb h10) (fun w2 k2 => ?_)
  obtain ⟨k21, k22, k23⟩ := k2
  rw [k23.2.2]
  refine con_vP (c_lawRead hl p9 h1 k21) (fun w5 k5 => ?_)
  obtain ⟨k51, k52, k53⟩ := k5
  have e22 : w5.2.2 = w.2.2 := k53.2.2.trans k23.2.2
  have e10 : w5.1 1 0 0 = 0 := (k53.1 1 0 0 (by unfold GN GT; omega)).trans k22
  have s5 : Sm (fun κ b _ => κ = 1 ∨ (b = w.2.2 0 0 9 ∧ (κ = 8 ∨ (34 ≤ κ ∧ κ ≤ 36)))) w w5 := (k23.mono (S' := fun κ b _ => κ = 1 ∨ (b = w.2.2 0 0 9 ∧ (κ = 8 ∨ (34 ≤ κ ∧ κ ≤ 36)))) (fun κ b k q => Or.inl q)).tr (k53.mono (fun κ b k q => by unfold GN GT at q; omega))
  refine con_i (c_fine hl k51) ?_
  rw [e22]
  refine ⟨fun hc w10 hw10 w11 hw11 => ?_, fun hc => ?_⟩
  · have hok : (laF b n).1.1 = 0 := by
      by_cases hq : (laF b n).1.1 = 0
      · exact hq
      · exact absurd (by rw [decide_eq_false hq]; rfl) hc
    have e11 : w11.1 = w5.1 := by rw [hw11, hw10]; rfl
    have e11' : w11.2.1 = w5.2.1 := by rw [hw11, hw10]; rfl
    have q11 : w11.2.2 = swP w 2 0 1 0 0 9 := by
      rw [hw11, hw10]
      funext x y z
      show (if x = 0 ∧ y = 0 ∧ z = 9 then w.2.2 2 0 1 else if x = 2 ∧ y = 0 ∧ z = 1 then w.2.2 0 0 9 else w5.2.2 x y z) = _
      rw [e22]
      rfl
    refine ⟨by rw [e11]; exact e10, fun z => absurd hok z, fun _ => ⟨rfl, by rw [e11]; exact (k51.2.2.2.2.2.2.1 hok).1, ?_, q11, ⟨fun κ j k q => by rw [e11]; exact s5.1 κ j k q, fun κ j k q => by rw [e11']; exact s5.2.1 κ j k q⟩⟩⟩
    have := k52 hok
    unfold LawC at this ⊢
    rw [e11]
    exact this
  · have hok : (laF b n).1.1 ≠ 0 := by
      intro hq
      exact absurd (Classical.not_not.mp hc) (by rw [decide_eq_true hq]; decide)
    exact ⟨e10, fun _ => ⟨by rw [k51.2.2.2.2.2.1], (k51.2.2.2.2.2.2.2 hok).1, s5⟩, fun hq => absurd hq hok⟩
end LC
