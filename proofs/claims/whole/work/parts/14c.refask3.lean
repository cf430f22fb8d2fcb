/-! The reference: what would be needed, hymns ahead, duty, range, told, counts. -/
section RC
variable {l : Launch} {G : Gx} {w : Wd} {X : String → Wd → Prop} {T : Tx} {E : Ex} {σ : Sg} {L : Bk}
theorem m_ahead (hl : l.stackTraces = false) {v u : Int32} (h : RQ w T E σ) : C_X10_ahead l G w [.ref (G.2.1 40 0), .int v, .int u] (KM w (okB v 0 20 && okB u 0 2) 1 1 (if u = 0 then ahS T E σ v.toNatClampNeg 55 - σ 55 else if u = 1 then sm (ahS T E σ v.toNatClampNeg) (tS T) else ob (fun s => ahS T E σ v.toNatClampNeg s == 0) (tS T))) noX := by
  have hS := h.1.1
  refine e_X10_ahead hl (fun M kk hM hk F => ?_)
  subst hM
  rintro _ rfl
  generalize hK : KM w (okB v 0 20 && okB u 0 2) 1 1 (if u = 0 then ahS T E σ v.toNatClampNeg 55 - σ 55 else if u = 1 then sm (ahS T E σ v.toNatClampNeg) (tS T) else ob (fun s => ahS T E σ v.toNatClampNeg s == 0) (tS T)) = K
  have f30 : ∀ b : Bool, (okB v 0 20 && okB u 0 2) = !b → Z M G 0 K noX (cl0 w) 30 [some (.ref (G.2.1 40 0)), some (.int v), some (.int u), none, none] [.int (bI b), .ref (G.2.1 40 0)] := by
    intro b hb
    refine b_X10_ahead_30 F hk ?_
    rw [← hK]
    refine con_q hl (rs := 1) (by decide) (by decide) hb (fun hok => ?_)
    rw [hK]
    have hok2 := hok
    rw [Bool.and_eq_true] at hok2
    obtain ⟨n, -, hn, rfl⟩ := okB_of (a := 0) (b := 20) hok2.1 (by decide) (by decide)
    rw [nI_clamp (by omega)] at hK
    refine m_cpT hl h (fun w1 t1 => ?_)
    refine up_to (P := fun i => ∀ w', TR w w' (ahS T E σ i) → Z M G 0 K noX w' 53 [some (.ref (G.2.1 40 0)), some (.int (nI n)), some (.int u), some (.int (nI i)), none] []) n (fun i hi ih w' t => ?_) (fun w' t => ?_) w1 t1
    · have ji := h.2.2.2.2.1.ah (E := E) h.1 i
      have q := t.rq h ji
      refine b_X10_ahead_53 F hk ⟨fun hc => absurd hc (nI_ge hi (by omega)), fun _ => con_vP (m_hymns hl (by decide) h.1 q.2.1 h.2.2.1 t.2.2) (fun w2 h2 => ?_)⟩
      rw [← nI_succ]
      exact ih w2 (t.nj h2.2.2 h2.1)
    · have ji := h.2.2.2.2.1.ah (E := E) h.1 n
      have q := t.rq h ji
      refine b_X10_ahead_53 F hk ⟨fun _ => ?_, fun hc => absurd (nI_le (Nat.le_refl _) (by omega)) hc⟩
      refine up_to (P := fun i => Z M G 0 K noX w' 77 [some (.ref (G.2.1 40 0)), none, some (.int u), some (.int (ob (fun s => ahS T E σ n s == 0) i)), some (.int (nI i))] []) (tS T) (fun i hi ih => ?_) ?_
      · have e := ix0 i (by omega)
        refine b_X10_ahead_77 F hk ⟨fun hc => ?_, fun _ => ⟨e.1, ?_⟩⟩
        · rw [q.2.1.1.1] at hc
          exact absurd hc (nI_ge hi (by omega))
        · rw [← nI_succ, Int32.or_zero, e.2, t.2.2]
          rw [ob] at ih
          refine ⟨fun hc => ?_, fun hc => ?_⟩
          · rw [if_neg (fun z => hc (beq_iff_eq.mp z))] at ih
            exact ih
          · rw [if_pos (beq_iff_eq.mpr (Classical.not_not.mp hc))] at ih
            exact ih
      · refine b_X10_ahead_77 F hk ⟨fun _ => ⟨fun h0 => ⟨fun h1 => ?_, fun h1 => con_i (m_all hl (by decide) h.1 q.2.1.1 t.2.2 (Nat.zero_le _)) ?_⟩, fun h0 => ?_⟩, fun hc => ?_⟩
        · rw [← hK, if_neg h0, if_neg h1]
          exact t.km ji hok
        · rw [← hK, if_neg h0, if_pos (Classical.not_not.mp h1)]
          have e : (fun s => ahS T E σ n (0 + s)) = ahS T E σ n := by funext s; rw [Nat.zero_add]
          rw [e]
          exact t.km ji hok
        · rw [← hK, if_pos (Classical.not_not.mp h0), t.2.2, q.2.2.2.1]
          exact t.km ji hok
        · rw [q.2.1.1.1] at hc
          exact absurd (nI_le (Nat.le_refl _) (by omega)) hc
  refine con_i (m_in hl) ⟨fun h1 => b_X10_ahead_25 F hk (f30 true ?_), fun h1 => con_i (m_in hl) ⟨fun h2 => f30 false ?_, fun h2 => b_X10_ahead_25 F hk (f30 true ?_)⟩⟩
  · rw [show okB v 0 20 = false from bI_0 h1]; rfl
  · rw [show okB v 0 20 = true from bI_not.mp h1, show okB u 0 2 = true from bI_not.mp h2]; rfl
  · rw [show okB u 0 2 = false from bI_0 (Classical.not_not.mp h2), Bool.and_false]; rfl
theorem m_duty (hl : l.stackTraces = false) {v : Int32} (h : RQ w T E σ) : C_X10_duty l G w [.ref (G.2.1 40 0), .int v] (KM w (okI v (tS T)) 1 0 (ob (fun n => sbI T E (dtS T E σ n) n == v) (tN T))) noX := by
  have hS := h.1.1
  have hN := h.1.2.1
  refine e_X10_duty hl (fun M kk hM hk F => ?_)
  subst hM
  rintro _ rfl
  have q0 := h.cl
  generalize hK : KM w (okI v (tS T)) 1 0 (ob (fun n => sbI T E (dtS T E σ n) n == v) (tN T)) = K
  have f19 : ∀ b : Bool, okI v (tS T) = !b → Z M G 0 K noX (cl0 w) 19 [some (.ref (G.2.1 40 0)), some (.int v), none, none] [.int (bI b), .ref (G.2.1 40 0)] := by
    intro b hb
    refine b_X10_duty_19 F hk ?_
    rw [← hK]
    refine con_q hl (rs := 0) (by decide) (by decide) hb (fun hok => ?_)
    rw [hK]
    refine m_cpT hl h (fun w1 t1 => ?_)
    refine up_to (P := fun i => ∀ w', TR w w' (dtS T E σ i) → Z M G 0 K noX w' 44 [some (.ref (G.2.1 40 0)), some (.int v), some (.int (ob (fun n => sbI T E (dtS T E σ n) n == v) i)), some (.int (nI i))] []) (tN T) (fun i hi ih w' t => ?_) (fun w' t => ?_) w1 t1
    · have ji := h.2.2.2.2.1.dt (E := E) h.1 i
      have q := t.rq h ji
      have f75 : ∀ (w2 : Wd) (x : Int32), TR w w2 (dtS T E σ i) → ob (fun n => sbI T E (dtS T E σ n) n == v) i ||| x = ob (fun n => sbI T E (dtS T E σ n) n == v) (i + 1) → Z M G 0 K noX w2 75 [some (.ref (G.2.1 40 0)), some (.int v), none, some (.int (nI i))] [.int x, .int (ob (fun n => sbI T E (dtS T E σ n) n == v) i)] := by
        intro w2 x t2 hx
        have q2 := t2.rq h ji
        refine b_X10_duty_75 F hk (con_iP (m_sings hl (by decide) h.1 q2.2.1 h.2.2.1 t2.2.2 hi) (fun w3 h3 => ?_))
        rw [hx, ← nI_succ]
        exact ih w3 (t2.nj (h3.2.mono (fun κ b k z => by unfold N2 at z; unfold NJ; omega)) h3.1)
      refine b_X10_duty_44 F hk ⟨fun hc => ?_, fun _ => con_iP (m_sungBy hl (by decide) h.1 q.2.1 h.2.2.1 t.2.2 hi) (fun w2 h2 => ⟨fun hc => f75 w2 0 (t.n2 h2) ?_, fun hc => f75 w2 _ (t.n2 h2) ?_⟩)⟩
      · rw [q.2.1.1.2.1] at hc
        exact absurd hc (nI_ge hi (by omega))
      · rw [ob, if_neg (fun z => hc (beq_iff_eq.mp z)), Int32.or_zero]
      · rw [ob, if_pos (beq_iff_eq.mpr (Classical.not_not.mp hc))]
        rfl
    · have ji := h.2.2.2.2.1.dt (E := E) h.1 (tN T)
      have q := t.rq h ji
      refine b_X10_duty_44 F hk ⟨fun _ => by rw [← hK]; exact t.km ji hok, fun hc => ?_⟩
      rw [q.2.1.1.2.1] at hc
      exact absurd (nI_le (Nat.le_refl _) (by omega)) hc
  refine con_i (m_isSinger hl) ?_
  rw [show (setI w 40 0 0 0).1 44 0 0 = nI (tS T) from q0.2.1.1.1, okI_le (by omega)]
  exact ⟨fun h1 => f19 false (bI_not.mp h1), fun h1 => f19 true (bI_0 (Classical.not_not.mp h1))⟩
theorem m_range (hl : l.stackTraces = false) {v : Int32} (h : RQ w T E σ) : C_X10_range l G w [.ref (G.2.1 40 0), .int v] (KM w (okI v (tS T)) 1 0 (rgF T E σ v.toNatClampNeg 20)) noX := by
  have hS := h.1.1
  refine e_X10_range hl (fun M kk hM hk F => ?_)
  subst hM
  rintro _ rfl
  have q0 := h.cl
  generalize hK : KM w (okI v (tS T)) 1 0 (rgF T E σ v.toNatClampNeg 20) = K
  have f19 : ∀ b : Bool, okI v (tS T) = !b → Z M G 0 K noX (cl0 w) 19 [some (.ref (G.2.1 40 0)), some (.int v), none, none, none] [.int (bI b), .ref (G.2.1 40 0)] := by
    intro b hb
    refine b_X10_range_19 F hk ?_
    rw [← hK]
    refine con_q hl (rs := 0) (by decide) (by decide) hb (fun hok => ?_)
    rw [hK]
    have hok2 := hok
    obtain ⟨s, hs, rfl⟩ := okI_of hok2 (by omega)
    rw [nI_clamp (by omega)] at hK
    refine m_cpT hl h (fun w1 t1 => ?_)
    have e14 := ix14 s (by omega)
    refine up_to (P := fun i => ∀ w', TR w w' (ahS T E σ i) → Z M G 0 K noX w' 44 [some (.ref (G.2.1 40 0)), some (.int (nI s)), some (.int (rgF T E σ s i)), some (.int (nI (i + 1))), none] []) 20 (fun i hi ih w' t => ?_) (fun w' t => ?_) w1 t1
    · have ji := h.2.2.2.2.1.ah (E := E) h.1 i
      have q := t.rq h ji
      refine b_X10_range_44 F hk ⟨fun hc => absurd hc (nI_nlt (show i + 1 ≤ 20 by omega) (by decide)), fun _ => ⟨e14.1, con_vP (m_hymns hl (by decide) h.1 q.2.1 h.2.2.1 t.2.2) (fun w2 h2 => ⟨e14.1, ?_⟩)⟩⟩
      have e2 : nI (i + 1) + 1 = nI (i + 1 + 1) := by rw [← nI_succ]
      rw [e14.2, e2, h2.1, t.2.2]
      have ih := ih w2 (t.nj h2.2.2 h2.1)
      have er : rgF T E σ s (i + 1) = if ahS T E σ (i + 1) (14 + s) ≤ ahS T E σ i (14 + s) then rgF T E σ s i else nI (i + 1) := rfl
      rw [er] at ih
      refine ⟨fun hc => ?_, fun hc => ?_⟩
      · rw [if_pos (show ahS T E σ (i + 1) (14 + s) ≤ ahS T E σ i (14 + s) from hc)] at ih
        exact ih
      · rw [if_neg (show ¬ ahS T E σ (i + 1) (14 + s) ≤ ahS T E σ i (14 + s) from hc)] at ih
        exact ih
    · exact b_X10_range_44 F hk ⟨fun _ => by rw [← hK]; exact t.km (h.2.2.2.2.1.ah h.1 20) hok, fun hc => absurd (by decide) hc⟩
  refine con_i (m_isSinger hl) ?_
  rw [show (setI w 40 0 0 0).1 44 0 0 = nI (tS T) from q0.2.1.1.1, okI_le (by omega)]
  exact ⟨fun h1 => f19 false (bI_not.mp h1), fun h1 => f19 true (bI_0 (Classical.not_not.mp h1))⟩
theorem m_told (hl : l.stackTraces = false) {o : Int32} (h : RQ w T E σ) (hl33 : w.1 40 0 33 = nI L.length) : C_X10_told l G w [.ref (G.2.1 40 0), .int o] (KM w (okB o 0 11) 1 1 (tdF T σ L (w.1 40 0 35) o)) noX := by
  have hN := h.1.2.1
  refine e_X10_told hl (fun M kk hM hk F => ?_)
  subst hM
  rintro _ rfl
  have q := h.cl
  have f21 : ∀ b : Bool, okB o 0 11 = !b → Z M G 0 (KM w (okB o 0 11) 1 1 (tdF T σ L (w.1 40 0 35) o)) noX (cl0 w) 21 [some (.ref (G.2.1 40 0)), some (.int o), none, none] [.int (bI b), .ref (G.2.1 40 0)] := by
    intro b hb
    refine b_X10_told_21 F hk (con_q hl (rs := 1) (by decide) (by decide) hb (fun hok => ?_))
    refine up_to (P := fun i => Z M G 0 (KM w (okB o 0 11) 1 1 (tdF T σ L (w.1 40 0 35) o)) noX (cl0 w) 35 [some (.ref (G.2.1 40 0)), some (.int o), some (.int (ob (fun n => !(σ (35 + n) == nv T n)) i)), some (.int (nI i))] []) (tN T) (fun i hi ih => ?_) ?_
    · have e := ix35 i (by omega)
      refine b_X10_told_35 F hk ⟨fun hc => ?_, fun _ => ⟨e.1, vp_in_nI (by omega) (by decide), ?_⟩⟩
      · rw [q.2.1.1.2.1] at hc
        exact absurd hc (nI_ge hi (by omega))
      · rw [e.2, q.2.2.2.1, nI_clamp (by omega), (q.2.1.1.2.2.2.2.2.1 i hi).1, ← nI_succ, Int32.or_zero]
        rw [ob] at ih
        refine ⟨fun hc => ?_, fun hc => ?_⟩
        · rw [beq_eq_false_iff_ne.mpr hc] at ih
          exact ih
        · rw [beq_iff_eq.mpr (Classical.not_not.mp hc)] at ih
          exact ih
    · have fin : ∀ v, tdF T σ L (w.1 40 0 35) o = v → KM w (okB o 0 11) 1 1 (tdF T σ L (w.1 40 0 35) o) (some (.int v)) (cl0 w) := by
        intro v hv
        rw [hv]
        exact km_cl h hok
      have e33 : (cl0 w).1 40 0 33 = nI L.length := (setI_ne (by omega)).trans hl33
      have e35 : (cl0 w).1 40 0 35 = w.1 40 0 35 := setI_ne (by omega)
      refine b_X10_told_35 F hk ⟨fun _ => ⟨fun c => ⟨by rw [c]; exact vp_in_nI (show 0 < 4 by decide) (by decide), fin _ ?_⟩, fun c => ⟨by rw [c]; exact vp_in_nI (show 1 < 4 by decide) (by decide), fin _ ?_⟩, fun c => ⟨by rw [c]; exact vp_in_nI (show 2 < 4 by decide) (by decide), fin _ ?_⟩, fun c => fin _ ?_, fun c => con_i (m_hoarse hl (by decide) h.1 q.2.1.1 q.2.2.2.1) (fin _ ?_), fun c => fin _ ?_, fun c => con_i (m_all hl (a := 14) (by decide) h.1 q.2.1.1 q.2.2.2.1 (by decide)) (fin _ ?_), fun c => con_i (m_all hl (a := 21) (by decide) h.1 q.2.1.1 q.2.2.2.1 (by decide)) (fin _ ?_), fun c => con_i (m_all hl (a := 0) (by decide) h.1 q.2.1.1 q.2.2.2.1 (by decide)) (fin _ ?_), fun c => fin _ ?_, fun c => fin _ ?_, fun c => fin _ ?_⟩, fun hc => ?_⟩
      · rw [c]; exact q.2.1.1.1.symm
      · rw [c]; exact q.2.1.1.2.1.symm
      · rw [c]; exact q.2.1.1.2.2.1.symm
      · rw [c, q.2.2.2.1]; rfl
      · rw [c]; rfl
      · rw [c, q.2.2.2.1]; rfl
      · rw [c]; rfl
      · rw [c]; rfl
      · have e : (fun s => σ (0 + s)) = σ := by funext s; rw [Nat.zero_add]
        rw [c, e]; rfl
      · rw [c, e33]; rfl
      · rw [c, e35]; rfl
      · obtain ⟨q0, q1, q2, q3, q4, q5, q6, q7, q8, q9, q10⟩ := c
        unfold tdF
        rw [if_neg q0, if_neg q1, if_neg q2, if_neg q3, if_neg q4, if_neg q5, if_neg q6, if_neg q7, if_neg q8, if_neg q9, if_neg q10]
      · rw [q.2.1.1.2.1] at hc
        exact absurd (nI_le (Nat.le_refl _) (by omega)) hc
  exact con_i (m_in hl) ⟨fun h1 => f21 false (bI_not.mp h1), fun h1 => f21 true (bI_0 (Classical.not_not.mp h1))⟩
theorem m_ones (hl : l.stackTraces = false) {m : Nat} (hm : m < 128) : C_X10_ones l G w [.int (nI m)] (fun r w' => r = some (.int (nI (popN m 7))) ∧ w' = w) noX := by
  refine e_X10_ones hl (fun M kk hM hk F => ?_)
  refine up_to (P := fun i => Z M G 0 (fun r w' => r = some (.int (nI (popN m 7))) ∧ w' = w) noX w 4 [some (.int (nI m)), some (.int (nI (popN m i))), some (.int (nI i))] []) 7 (fun i hi ih => ?_) ?_
  · refine b_X10_ones_4 F hk ⟨fun hc => absurd hc (nI_ge hi (by decide)), fun _ => ?_⟩
    rw [hz_bit m hm i hi, nI_add, ← nI_succ]
    rw [popN] at ih
    exact ih
  · exact b_X10_ones_4 F hk ⟨fun _ => ⟨rfl, rfl⟩, fun hc => absurd (by decide) hc⟩
end RC
