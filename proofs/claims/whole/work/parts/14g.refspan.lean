/-! The reference: Sundays lived and asked; counts. -/
section RG
variable {l : Launch} {G : Gx} {w w0 : Wd} {X : String → Wd → Prop} {T : Tx} {E : Ex} {σ τ : Sg} {L : Bk}
theorem TR.lot {w w' : Wd} {τ : Sg} {v : Int32} (t : TR w w' τ) : TR w (setI w' 40 0 45 v) τ :=
  ⟨t.1.set (by unfold GM; omega), (setI_ne (by omega)).trans t.2.1, (setI_row (by omega)).trans t.2.2⟩
theorem m_sundayBy (hl : l.stackTraces = false) {seed q : Int32} {d : Nat} (h : RQ w0 T E σ) (hp : Pd T σ) (hd : d ≤ 48) (hj : Jk τ) (t : TR w0 w τ) : C_X10_sundayBy l G w [.ref (G.2.1 40 0), .int seed, .int (nI d), .int q] (fun r w' => r = none ∧ TR w0 w' (sdS T E q σ seed d).1) noX := by
  have hS := h.1.1
  refine e_X10_sundayBy hl (fun M kk hM hk F => ?_)
  subst hM
  have q0 := t.rq h hj
  refine con_vP (m_cp hl q0) (fun w1 h1 => ?_)
  have t1 := t.nr h1.2 h1.1
  intro w2 hw2
  have t2 : TR w0 w2 σ := by rw [hw2]; exact t1.lot
  have l2 : w2.1 40 0 45 = seed := by rw [hw2]; exact setI_eq _ _ _ _ _
  generalize hK : (fun r w' => r = none ∧ TR w0 w' (sdS T E q σ seed d).1 : Option Value → Wd → Prop) = K
  refine up_to (P := fun i => ∀ w', TR w0 w' (sdS T E q σ seed i).1 → w'.1 40 0 45 = (sdS T E q σ seed i).2 → Z M G 0 K noX w' 19 [some (.ref (G.2.1 40 0)), none, some (.int (nI d)), some (.int q), some (.int (nI i)), none] []) d (fun i hi ih w' t' hlt => ?_) (fun w' t' hlt => b_X10_sundayBy_19 F hk ⟨fun _ => by rw [← hK]; exact ⟨rfl, t'⟩, fun hc => absurd (nI_le (Nat.le_refl _) (by omega)) hc⟩) w2 t2 l2
  have ji := h.2.2.2.2.1.sds (E := E) (q := q) (x := seed) h.1 i
  have pi := Pd.sds (E := E) (q := q) (x := seed) h.1 hp i
  have q' := t'.rq h ji
  have es : sdS T E q σ seed (i + 1) = sdF T E q (sdS T E q σ seed i) := rfl
  have f129 : ∀ (w3 : Wd) (ρ : Sg), TR w0 w3 ρ → Jk ρ → dayF T ρ = (sdS T E q σ seed (i + 1)).1 → w3.1 40 0 45 = (sdS T E q σ seed (i + 1)).2 → Z M G 0 K noX w3 129 [some (.ref (G.2.1 40 0)), none, some (.int (nI d)), some (.int q), some (.int (nI i)), none] [] := by
    intro w3 ρ t3 j3 e1 e2
    have q3 := t3.rq h j3
    refine b_X10_sundayBy_129 F hk (con_vP (m_dayEnds hl (by decide) h.1 q3.2.1.1 t3.2.2) (fun w4 h4 => ?_))
    rw [← nI_succ]
    refine ih w4 (t3.nr h4.2 (h4.1.trans e1)) ?_
    rw [← e2]
    exact h4.2.1 40 0 45 (by unfold NR; omega)
  refine b_X10_sundayBy_19 F hk ⟨fun hc => absurd hc (nI_ge hi (by omega)), fun _ => ?_⟩
  rw [q'.2.1.1.1]
  by_cases hz : tS T = 0
  · have ez : sdF T E q (sdS T E q σ seed i) = (dayF T (hymF T E (sdS T E q σ seed i).1 (tN T)).1, (sdS T E q σ seed i).2) := if_pos hz
    rw [hz]
    refine ⟨fun _ => b_X10_sundayBy_48 F hk ?_, fun hc => absurd (by decide) hc⟩
    rw [q'.2.1.1.1, hz]
    refine ⟨fun _ => b_X10_sundayBy_84 F hk ⟨vp_in_nI (show 7 < 57 by decide) (by decide), fun w3 hw3 => ?_⟩, fun hc => absurd (by decide) hc⟩
    have e7 : (sdS T E q σ seed i).1 7 = 0 := (pi 0 (by omega) (by decide)).2.1
    have t3 : TR w0 w3 (sdS T E q σ seed i).1 := by
      rw [hw3]
      refine ⟨t'.1.set (by unfold GM; omega), (setI_ne (by omega)).trans t'.2.1, ?_⟩
      rw [setI_69 t'.2.2]
      exact setS_id e7
    have l3 : w3.1 40 0 45 = (sdS T E q σ seed i).2 := by rw [hw3, setI_ne (by omega)]; exact hlt
    have q3 := t3.rq h ji
    refine con_vP (m_hymns hl (by decide) h.1 q3.2.1 h.2.2.1 t3.2.2) (fun w4 h4 => ?_)
    have t4 := t3.nj h4.2.2 h4.1
    have j4 := ji.hym (E := E) h.1 (tN T)
    have q4 := t4.rq h j4
    rw [q4.2.1.1.1, hz]
    refine ⟨fun _ => f129 w4 _ t4 j4 (by rw [es, ez]) ?_, fun hc => absurd (by decide) hc⟩
    rw [es, ez, ← l3]
    exact h4.2.2.1 40 0 45 (by unfold NJ; omega)
  · have ez : sdF T E q (sdS T E q σ seed i) = _ := if_neg hz
    rw [← es] at ez
    have hpos : 0 < tS T := by omega
    have hsd : drN (lotN (sdS T E q σ seed i).2) % tS T < tS T := Nat.mod_lt _ hpos
    refine ⟨fun hc => absurd hc (nI_nle hpos (by omega)), fun _ => con_i (m_draw hl hpos (by omega)) (b_X10_sundayBy_48 F hk ?_)⟩
    rw [hlt]
    have tA := t'.lot (v := lotN (sdS T E q σ seed i).2)
    have lA : (setI w' 40 0 45 (lotN (sdS T E q σ seed i).2)).1 40 0 45 = lotN (sdS T E q σ seed i).2 := setI_eq _ _ _ _ _
    generalize setI w' 40 0 45 (lotN (sdS T E q σ seed i).2) = wA at *
    have qA := tA.rq h ji
    rw [qA.2.1.1.1]
    have jB := ji.turn (s := drN (lotN (sdS T E q σ seed i).2) % tS T) (by omega)
    have eB := turn_set (sdS T E q σ seed i).1 (drN (lotN (sdS T E q σ seed i).2) % tS T)
    generalize drN (lotN (sdS T E q σ seed i).2) % tS T = s at *
    have i7 := ix7 s (by omega)
    refine ⟨fun hc => absurd hc (nI_nle hpos (by omega)), fun _ => ⟨i7.1, b_X10_sundayBy_84 F hk ⟨i7.1, fun w3 hw3 => ?_⟩⟩⟩
    rw [i7.2, tA.2.2] at hw3
    have t3 : TR w0 w3 (turnF (sdS T E q σ seed i).1 s) := by
      rw [hw3]
      refine ⟨tA.1.set (by unfold GM; omega), (setI_ne (by omega)).trans tA.2.1, ?_⟩
      rw [setI_69 tA.2.2]
      exact eB
    have l3 : w3.1 40 0 45 = lotN (sdS T E q σ seed i).2 := by rw [hw3, setI_ne (by omega)]; exact lA
    have q3 := t3.rq h jB
    refine con_vP (m_hymns hl (by decide) h.1 q3.2.1 h.2.2.1 t3.2.2) (fun w4 h4 => ?_)
    have t4 := t3.nj h4.2.2 h4.1
    have j4 := jB.hym (E := E) h.1 (tN T)
    have q4 := t4.rq h j4
    have l4 : w4.1 40 0 45 = lotN (sdS T E q σ seed i).2 := (h4.2.2.1 40 0 45 (by unfold NJ; omega)).trans l3
    rw [q4.2.1.1.1]
    refine ⟨fun hc => absurd hc (nI_nle hpos (by omega)), fun _ => con_i (m_draw hl (S := 16) (by decide) (by decide)) ?_⟩
    rw [l4]
    have t5 := t4.lot (v := lotN (lotN (sdS T E q σ seed i).2))
    have l5 : (setI w4 40 0 45 (lotN (lotN (sdS T E q σ seed i).2))).1 40 0 45 = lotN (lotN (sdS T E q σ seed i).2) := setI_eq _ _ _ _ _
    generalize setI w4 40 0 45 (lotN (lotN (sdS T E q σ seed i).2)) = w5 at *
    have q5 := t5.rq h j4
    refine ⟨fun hc => ?_, fun hc => ?_⟩
    · rw [if_neg (Int32.not_lt.mpr hc)] at ez
      exact f129 w5 _ t5 j4 (by rw [ez]) (by rw [ez]; exact l5)
    · rw [if_pos (Int32.not_le.mp hc)] at ez
      refine con_iP (m_rests hl (by decide) h.1 q5.2.1.1 t5.2.2) (fun w6 h6 => ?_)
      have t6 := t5.nr h6.2 h6.1
      have j6 := j4.rest h.1
      have q6 := t6.rq h j6
      refine con_vP (m_hymns hl (by decide) h.1 q6.2.1 h.2.2.1 t6.2.2) (fun w7 h7 => ?_)
      refine f129 w7 _ (t6.nj h7.2.2 h7.1) (j6.hym h.1 _) (by rw [ez]) ?_
      rw [ez]
      exact ((h7.2.2.1 40 0 45 (by unfold NJ; omega)).trans (h6.2.1 40 0 45 (by unfold NR; omega))).trans l5
theorem m_isSunday (hl : l.stackTraces = false) {d q : Int32} : C_X10_isSunday l G w [.int d, .int q] (fun r w' => r = some (.int (bI (okB d 1 48 && okB q 0 16))) ∧ w' = w) noX := by
  refine e_X10_isSunday hl (fun M kk hM hk F => ?_)
  subst hM
  refine con_i (m_in hl) ⟨fun h1 => ⟨?_, rfl⟩, fun h1 => con_i (m_in hl) ⟨fun h2 => ⟨?_, rfl⟩, fun h2 => ⟨?_, rfl⟩⟩⟩
  · rw [show okB d 1 48 = false from bI_0 h1]; rfl
  · rw [show okB q 0 16 = false from bI_0 h2, Bool.and_false]; rfl
  · rw [show okB d 1 48 = true from bI_not.mp h1, show okB q 0 16 = true from bI_not.mp h2]; rfl
theorem m_sunday (hl : l.stackTraces = false) {seed d q o : Int32} (h : RQ w T E σ) (hp : Pd T σ) : C_X10_sunday l G w [.ref (G.2.1 40 0), .int seed, .int d, .int q, .int o] (KM w (okB d 1 48 && okB q 0 16 && okB o 0 3) 1 1 (suF T E σ seed d.toNatClampNeg q o)) noX := by
  refine e_X10_sunday hl (fun M kk hM hk F => ?_)
  subst hM
  rintro _ rfl
  have f29 : ∀ b : Bool, (okB d 1 48 && okB q 0 16 && okB o 0 3) = !b → Z M G 0 (KM w (okB d 1 48 && okB q 0 16 && okB o 0 3) 1 1 (suF T E σ seed d.toNatClampNeg q o)) noX (cl0 w) 29 [some (.ref (G.2.1 40 0)), some (.int seed), some (.int d), some (.int q), some (.int o)] [.int (bI b), .ref (G.2.1 40 0)] := by
    intro b hb
    refine b_X10_sunday_29 F hk (con_q hl (rs := 1) (by decide) (by decide) hb (fun hok => ?_))
    have hb2 := hok
    rw [Bool.and_eq_true, Bool.and_eq_true] at hb2
    obtain ⟨i, hi1, hi2, rfl⟩ := okB_of (a := 1) (b := 48) hb2.1.1 (by decide) (by decide)
    rw [nI_clamp (by omega)]
    refine con_vP (m_sundayBy hl h hp hi2 h.2.2.2.2.2 ⟨cl0_sm, cl0_0, cl0_69⟩) (fun w2 t2 => ?_)
    have j2 := h.2.2.2.2.1.sds (E := E) (q := q) (x := seed) h.1 i
    have q2 := t2.rq h j2
    refine ⟨fun h0 => ⟨fun h1 => ⟨fun h2 => con_i (m_all hl (a := 14) (by decide) h.1 q2.2.1.1 t2.2.2 (by decide)) (con_i (m_all hl (a := 14) (by decide) h.1 q2.2.1.1 q2.2.2.2.1 (by decide)) ?_), fun h2 => con_i (m_all hl (a := 21) (by decide) h.1 q2.2.1.1 t2.2.2 (by decide)) ?_⟩, fun h1 => con_i (m_hoarse hl (by decide) h.1 q2.2.1.1 t2.2.2) ?_⟩, fun h0 => ?_⟩
    · unfold suF
      rw [if_neg h0, if_neg h1, if_neg h2]
      exact t2.km j2 hok
    · unfold suF
      rw [if_neg h0, if_neg h1, if_pos (Classical.not_not.mp h2)]
      exact t2.km j2 hok
    · unfold suF
      rw [if_neg h0, if_pos (Classical.not_not.mp h1)]
      exact t2.km j2 hok
    · unfold suF
      rw [if_pos (Classical.not_not.mp h0), t2.2.2, q2.2.2.2.1]
      exact t2.km j2 hok
  refine con_i (m_isSunday hl) ⟨fun h1 => b_X10_sunday_24 F hk (f29 true ?_), fun h1 => con_i (m_in hl) ⟨fun h2 => f29 false ?_, fun h2 => b_X10_sunday_24 F hk (f29 true ?_)⟩⟩
  · rw [bI_0 h1]; rfl
  · rw [bI_not.mp h1, show okB o 0 3 = true from bI_not.mp h2]; rfl
  · rw [show okB o 0 3 = false from bI_0 (Classical.not_not.mp h2), Bool.and_false]; rfl
theorem m_span (hl : l.stackTraces = false) {seed n d q o u : Int32} (h : RQ w T E σ) (hp : Pd T σ) : C_X10_span l G w [.ref (G.2.1 40 0), .int seed, .int n, .int d, .int q, .int o, .int u] (KM w (okB n 1 10 && okB d 1 48 && okB q 0 16 && (okB o 0 2 && okI u (tS T))) 1 1 (if o = 0 then (spF T E σ seed d.toNatClampNeg q u.toNatClampNeg n.toNatClampNeg).1 else if o = 1 then (spF T E σ seed d.toNatClampNeg q u.toNatClampNeg n.toNatClampNeg).2.1 else (spF T E σ seed d.toNatClampNeg q u.toNatClampNeg n.toNatClampNeg).2.2)) noX := by
  have hS := h.1.1
  refine e_X10_span hl (fun M kk hM hk F => ?_)
  subst hM
  rintro _ rfl
  have q0 := h.cl
  generalize hK : KM w (okB n 1 10 && okB d 1 48 && okB q 0 16 && (okB o 0 2 && okI u (tS T))) 1 1 (if o = 0 then (spF T E σ seed d.toNatClampNeg q u.toNatClampNeg n.toNatClampNeg).1 else if o = 1 then (spF T E σ seed d.toNatClampNeg q u.toNatClampNeg n.toNatClampNeg).2.1 else (spF T E σ seed d.toNatClampNeg q u.toNatClampNeg n.toNatClampNeg).2.2) = K
  have f49 : ∀ b : Bool, (okB n 1 10 && okB d 1 48 && okB q 0 16 && (okB o 0 2 && okI u (tS T))) = !b → Z M G 0 K noX (cl0 w) 49 [some (.ref (G.2.1 40 0)), some (.int seed), some (.int n), some (.int d), some (.int q), some (.int o), some (.int u), none, none, none, none, none] [.int (bI b), .ref (G.2.1 40 0)] := by
    intro b hb
    refine b_X10_span_49 F hk ?_
    rw [← hK]
    refine con_q hl (rs := 1) (by decide) (by decide) hb (fun hok => ?_)
    have hb2 := hok
    rw [Bool.and_eq_true, Bool.and_eq_true, Bool.and_eq_true, Bool.and_eq_true] at hb2
    obtain ⟨n, hn1, hn2, rfl⟩ := okB_of (a := 1) (b := 10) hb2.1.1.1 (by decide) (by decide)
    obtain ⟨d, hd1, hd2, rfl⟩ := okB_of (a := 1) (b := 48) hb2.1.1.2 (by decide) (by decide)
    obtain ⟨s, hs, rfl⟩ := okI_of hb2.2.2 (by omega)
    rw [nI_clamp (show s < 2 ^ 31 by omega), nI_clamp (show n < 2 ^ 31 by omega), nI_clamp (show d < 2 ^ 31 by omega)] at hK ⊢
    rw [hK]
    have e7 := ix7 s (by omega)
    refine up_to (P := fun k => ∀ w' τ, Jk τ → TR w w' τ → Z M G 0 K noX w' 71 [some (.ref (G.2.1 40 0)), some (.int seed), some (.int (nI n)), some (.int (nI d)), some (.int q), some (.int o), some (.int (nI s)), some (.int (if k = 0 then -1 else (spF T E σ seed d q s k).1)), some (.int (spF T E σ seed d q s k).2.1), some (.int (spF T E σ seed d q s k).2.2), some (.int (nI k)), none] []) n (fun k hk2 ih w' τ hj t => ?_) (fun w' τ hj t => ?_) (cl0 w) (w.1 69 1) h.2.2.2.2.2 ⟨cl0_sm, cl0_0, cl0_69⟩
    · refine b_X10_span_71 F hk ⟨fun hc => absurd hc (nI_ge hk2 (by omega)), fun _ => con_vP (m_sundayBy hl h hp hd2 hj t) (fun w2 t2 => ?_)⟩
      have j2 := h.2.2.2.2.1.sds (E := E) (q := q) (x := seed + nI k) h.1 d
      have q2 := t2.rq h j2
      have e1 : w2.1 69 1 55 - w2.1 69 0 55 = drp T E σ (seed + nI k) d q := by
        rw [t2.2.2, q2.2.2.2.1]; rfl
      have ih := ih w2 _ j2 t2
      have es : spF T E σ seed d q s (k + 1) = ((if k = 0 then drp T E σ (seed + nI k) d q else mnI (drp T E σ (seed + nI k) d q) (spF T E σ seed d q s k).1), (if (spF T E σ seed d q s k).2.1 < drp T E σ (seed + nI k) d q then drp T E σ (seed + nI k) d q else (spF T E σ seed d q s k).2.1), (spF T E σ seed d q s k).2.2 + (sdS T E q σ (seed + nI k) d).1 (7 + s)) := rfl
      rw [if_neg (by omega), es] at ih
      rw [e1]
      have f123 : ∀ x, x = (if k = 0 then drp T E σ (seed + nI k) d q else mnI (drp T E σ (seed + nI k) d q) (spF T E σ seed d q s k).1) → Z M G 0 K noX w2 123 [some (.ref (G.2.1 40 0)), some (.int seed), some (.int (nI n)), some (.int (nI d)), some (.int q), some (.int o), some (.int (nI s)), none, some (.int (spF T E σ seed d q s k).2.1), some (.int (spF T E σ seed d q s k).2.2), some (.int (nI k)), some (.int (drp T E σ (seed + nI k) d q))] [.int x] := by
        intro x hx
        refine b_X10_span_123 F hk (con_i (m_more hl) ⟨e7.1, ?_⟩)
        rw [mxI_sw, e7.2, t2.2.2, ← nI_succ, hx]
        exact ih
      by_cases hk0 : k = 0
      · rw [if_pos hk0]
        refine ⟨fun hc => absurd rfl hc, fun _ => f123 _ (by rw [if_pos hk0])⟩
      · obtain ⟨c, hc1, hc2⟩ := spF_nI h.1 (E := E) (q := q) (σ := σ) (x := seed) (d := d) (s := s) k
        rw [if_neg hk0]
        refine ⟨fun _ => con_i (m_less hl) (f123 _ (by rw [if_neg hk0, mnI_sw])), fun hc => absurd (Classical.not_not.mp hc) (by rw [hc2]; exact nI_neg1 (by omega))⟩
    · refine b_X10_span_71 F hk ⟨fun _ => ⟨fun h2 => ⟨fun h3 => ?_, fun h3 => ?_⟩, fun h2 => ?_⟩, fun hc => absurd (nI_le (Nat.le_refl _) (by omega)) hc⟩
      · rw [← hK, if_neg h2, if_neg h3]
        exact t.km hj hok
      · rw [← hK, if_neg h2, if_pos (Classical.not_not.mp h3)]
        exact t.km hj hok
      · rw [← hK, if_pos (Classical.not_not.mp h2), if_neg (by omega)]
        exact t.km hj hok
  refine con_i (m_in hl) ⟨fun h1 => b_X10_span_44 F hk (f49 true ?_), fun h1 => con_i (m_isSunday hl) ⟨fun h2 => b_X10_span_44 F hk (f49 true ?_), fun h2 => con_i (m_in hl) ⟨fun h3 => b_X10_span_44 F hk (f49 true ?_), fun h3 => con_i (m_isSinger hl) ?_⟩⟩⟩
  · rw [show okB n 1 10 = false from bI_0 h1]; rfl
  · have := bI_0 h2
    rw [Bool.and_assoc (okB n 1 10), this, Bool.and_false]; rfl
  · rw [show okB o 0 2 = false from bI_0 h3, Bool.false_and, Bool.and_false]; rfl
  · rw [show (setI w 40 0 0 0).1 44 0 0 = nI (tS T) from q0.2.1.1.1, okI_le (by omega)]
    refine ⟨fun h4 => f49 false ?_, fun h4 => b_X10_span_44 F hk (f49 true ?_)⟩
    · rw [Bool.and_assoc (okB n 1 10), bI_not.mp h2, show okB n 1 10 = true from bI_not.mp h1, show okB o 0 2 = true from bI_not.mp h3, bI_not.mp h4]; rfl
    · rw [bI_0 (Classical.not_not.mp h4), Bool.and_false, Bool.and_false]; rfl
theorem m_status (hl : l.stackTraces = false) {v : Int32} : C_X10_status l G w [.ref (G.2.1 40 0), .int v] (fun r w' => r = some (.int (if v = 0 then w.1 42 0 0 else if v = 1 then w.1 42 0 1 else -1)) ∧ w' = cl0 w) noX := by
  refine e_X10_status hl (fun M kk hM hk F => ?_)
  subst hM
  rintro _ rfl
  refine con_i (m_in hl) ⟨fun h1 => ⟨?_, rfl⟩, fun h1 => ?_⟩
  · have h2 : okB v 0 1 = false := bI_0 h1
    rw [if_neg (fun z => by rw [z] at h2; exact absurd h2 (by decide)), if_neg (fun z => by rw [z] at h2; exact absurd h2 (by decide))]
  · have h2 : okB v 0 1 = true := bI_not.mp h1
    obtain ⟨i, -, hi, rfl⟩ := okB_of (a := 0) (b := 1) h2 (by decide) (by decide)
    refine ⟨vp_in_nI (by omega) (by decide), ?_, rfl⟩
    rcases (show i = 0 ∨ i = 1 by omega) with rfl | rfl
    · rw [if_pos (show nI 0 = 0 from rfl)]
      exact congrArg (fun x => some (Value.int x)) (setI_ne (w := w) (by omega))
    · rw [if_neg (by decide), if_pos (show nI 1 = 1 from rfl)]
      exact congrArg (fun x => some (Value.int x)) (setI_ne (w := w) (by omega))
theorem m_count (hl : l.stackTraces = false) {v : Int32} : C_X10_count l G w [.ref (G.2.1 40 0), .int v] (fun r w' => r = some (.int (if v = 0 then w.1 40 0 36 else if v = 1 then w.1 40 0 1 else if v = 2 then w.1 40 0 34 else -1)) ∧ w' = cl0 w) noX := by
  refine e_X10_count hl (fun M kk hM hk F => ?_)
  rintro _ rfl
  refine ⟨fun h0 => ⟨fun h1 => ⟨fun h2 => ⟨?_, rfl⟩, fun h2 => ⟨?_, rfl⟩⟩, fun h1 => ⟨?_, rfl⟩⟩, fun h0 => ⟨?_, rfl⟩⟩
  · rw [if_neg h0, if_neg h1, if_neg h2]
  · rw [if_neg h0, if_neg h1, if_pos (Classical.not_not.mp h2), setI_ne (by omega)]
  · rw [if_neg h0, if_pos (Classical.not_not.mp h1), setI_ne (by omega)]
  · rw [if_pos (Classical.not_not.mp h0), setI_ne (by omega)]
theorem m_fault (hl : l.stackTraces = false) : C_X10_fault l G w [.ref (G.2.1 40 0)] (fun r w' => r = some (.int (w.1 40 0 3)) ∧ w' = cl0 w) noX := by
  refine e_X10_fault hl (fun M kk hM hk F => ?_)
  rintro _ rfl
  exact ⟨by rw [setI_ne (by omega)], rfl⟩
theorem m_thrown (hl : l.stackTraces = false) : C_X10_thrown l G w [.ref (G.2.1 40 0)] (fun r w' => r = some (.int (w.1 40 0 0)) ∧ w' = w) noX :=
  e_X10_thrown hl (fun M kk hM hk F => ⟨rfl, rfl⟩)
end RG
