/-! More of the reference's questions. -/
theorem Jk.sing {T : Tx} {E : Ex} {σ : Sg} {n : Nat} (hT : Tok T) (h : Jk σ) : Jk (singF T E σ n) := by
  have hS := hT.1
  intro q hq
  unfold singF
  split
  · rw [sung1_off (by omega) (by omega) (by omega)]
    exact h q hq
  · exact h q hq
theorem Jk.hym {T : Tx} {E : Ex} {σ : Sg} (hT : Tok T) (h : Jk σ) : ∀ k, Jk (hymF T E σ k).1 := by
  intro k
  induction k with
  | zero => exact h
  | succ k ih =>
    rw [hymF]
    split
    · exact ih.sing hT
    · intro q hq
      show (if q = 55 then _ else _) = _
      rw [if_neg (by omega)]
      exact ih q hq
theorem Jk.ah {T : Tx} {E : Ex} {σ : Sg} (hT : Tok T) (h : Jk σ) : ∀ k, Jk (ahS T E σ k) := by
  intro k
  induction k with
  | zero => exact h
  | succ k ih => exact ih.hym hT _
theorem Jk.dt {T : Tx} {E : Ex} {σ : Sg} (hT : Tok T) (h : Jk σ) : ∀ k, Jk (dtS T E σ k) := by
  intro k
  induction k with
  | zero => exact h
  | succ k ih => exact ih.sing hT
/-- a trial is under way -/
def TR (w w' : Wd) (τ : Sg) : Prop := Sm GM w w' ∧ w'.1 40 0 0 = 0 ∧ w'.1 69 1 = τ
theorem TR.rq {w w' : Wd} {T : Tx} {E : Ex} {σ τ : Sg} (h : RQ w T E σ) (ht : TR w w' τ) (hj : Jk τ) : RQ w' T E σ := h.mv ht.1 (fun _ _ _ q => q) (by rw [ht.2.2]; exact hj)
theorem TR.nj {w w' w2 : Wd} {τ τ2 : Sg} (ht : TR w w' τ) (hs : Sm (NJ 1) w' w2) (h : w2.1 69 1 = τ2) : TR w w2 τ2 :=
  ⟨ht.1.tr (hs.mono NJ_GM), (hs.1 40 0 0 (by unfold NJ; omega)).trans ht.2.1, h⟩
theorem TR.n2 {w w' w2 : Wd} {τ : Sg} (ht : TR w w' τ) (hs : Sm N2 w' w2) : TR w w2 τ :=
  ⟨ht.1.tr (hs.mono N2_GM), (hs.1 40 0 0 (by unfold N2; omega)).trans ht.2.1, (hs.row (fun k => by unfold N2; omega)).trans ht.2.2⟩
theorem TR.nr {w w' w2 : Wd} {τ τ2 : Sg} (ht : TR w w' τ) (hs : Sm (NR 1) w' w2) (h : w2.1 69 1 = τ2) : TR w w2 τ2 :=
  ⟨ht.1.tr (hs.mono NR_GM), (hs.1 40 0 0 (by unfold NR; omega)).trans ht.2.1, h⟩
theorem TR.km {w w' : Wd} {τ : Sg} {ok : Bool} {what v : Int32} {rs : Nat} (ht : TR w w' τ) (hj : Jk τ) (hok : ok = true) : KM w ok what rs v (some (.int v)) w' := km_ok hok ht.2.1 ht.1 (by rw [ht.2.2]; exact hj)
section RB
variable {l : Launch} {G : Gx} {w w0 : Wd} {X : String → Wd → Prop} {T : Tx} {E : Ex} {σ : Sg}
theorem m_cp (hl : l.stackTraces = false) (h : RQ w T E σ) : C_X10_copies l G w [.ref (G.2.1 69 0), .ref (G.2.1 69 1)] (fun r w' => r = none ∧ w'.1 69 1 = σ ∧ Sm (NR 1) w w') noX := by
  refine con_mono (m_copies hl (by decide) (by decide) (by decide)) ?_ (fun _ _ q => q)
  rintro r w' ⟨h1, h2, h3, h4⟩
  refine ⟨h1, ?_, h4⟩
  funext q
  by_cases hq : q < 57
  · rw [h2 q hq, h.2.2.2.1]
  · rw [h3 q (by omega), h.2.2.2.2.2 q (by omega), h.2.2.2.2.1 q (by omega)]
theorem m_cpT (hl : l.stackTraces = false) (h : RQ w T E σ) {Fm : Wd → Prop} (hk : ∀ w', TR w w' σ → Fm w') : C_X10_copies l G (cl0 w) [.ref (G.2.1 69 0), .ref (G.2.1 69 1)] (fun r w' => r = none ∧ Fm w') X :=
  con_vP (m_cp hl h.cl) (fun w' h' => hk w' (TR.nr ⟨cl0_sm, cl0_0, rfl⟩ h'.2 h'.1))
theorem m_handedOf (hl : l.stackTraces = false) {v u : Int32} (h : RQ w T E σ) : C_X10_handedOf l G w [.ref (G.2.1 40 0), .int v, .int u] (fun r w' => r = some (.int (hdO T σ v u)) ∧ w' = w) noX := by
  have hN := h.1.2.1
  refine e_X10_handedOf hl (fun M kk hM hk F => ?_)
  by_cases hvu : v = u
  · refine b_X10_handedOf_5 F hk ⟨fun _ => ⟨by unfold hdO; rw [if_pos hvu], rfl⟩, fun _ => ⟨fun _ => ⟨by unfold hdO; rw [if_pos hvu], rfl⟩, fun hc => absurd hvu hc⟩⟩
  · refine up_to (P := fun i => Z M G 0 (fun r w' => r = some (.int (hdO T σ v u)) ∧ w' = w) noX w 5 [some (.ref (G.2.1 40 0)), some (.int v), some (.int u), some (.int (hdF σ v u i)), some (.int (nI i)), none, none] []) (tN T - 1) (fun i hi ih => ?_) ?_
    · have e1 := ix35 i (by omega)
      have e2 := ix35 (i + 1) (by omega)
      have e3 : (35 : Int32) + nI i + 1 = (35 : Int32) + nI (i + 1) := by rw [nI_succ, Int32.add_assoc]
      have e4 : w.1 69 0 (35 + (i + 1)) = σ (36 + i) := by rw [h.2.2.2.1, show 35 + (i + 1) = 36 + i by omega]
      rw [hdF, nI_succ] at ih
      have f62 : ¬ (σ (35 + i) = v ∧ σ (36 + i) = u) → Z M G 0 (fun r w' => r = some (.int (hdO T σ v u)) ∧ w' = w) noX w 62 [some (.ref (G.2.1 40 0)), some (.int v), some (.int u), none, some (.int (nI i)), some (.int (σ (35 + i))), some (.int (σ (36 + i)))] [.int (hdF σ v u i)] := by
        intro hno
        have hf : (σ (35 + i) == v && σ (36 + i) == u) = false := by
          cases hq : (σ (35 + i) == v && σ (36 + i) == u) with
          | false => rfl
          | true =>
            rw [Bool.and_eq_true] at hq
            exact absurd ⟨beq_iff_eq.mp hq.1, beq_iff_eq.mp hq.2⟩ hno
        unfold hdm at ih
        rw [hf, Bool.false_or] at ih
        refine b_X10_handedOf_62 F hk ⟨fun hc => ?_, fun hc => ⟨fun hc2 => ?_, fun hc2 => ?_⟩⟩
        · rw [beq_eq_false_iff_ne.mpr hc, Bool.false_and] at ih
          exact ih
        · rw [beq_eq_false_iff_ne.mpr hc2, Bool.and_false] at ih
          exact ih
        · rw [beq_iff_eq.mpr (Classical.not_not.mp hc), beq_iff_eq.mpr (Classical.not_not.mp hc2)] at ih
          exact ih
      refine b_X10_handedOf_5 F hk ⟨fun hc => ?_, fun _ => ⟨fun hc => absurd hc hvu, fun _ => ?_⟩⟩
      · rw [h.2.1.1.2.1, ← nI_succ] at hc
        exact absurd hc (nI_ge (by omega) (by omega))
      · rw [e3, e1.2, e2.2, e4, h.2.2.2.1]
        refine ⟨e1.1, e2.1, fun hc => f62 (fun z => hc z.1), fun hc => ⟨fun hc2 => ?_, fun hc2 => f62 (fun z => hc2 z.2)⟩⟩
        unfold hdm at ih
        rw [beq_iff_eq.mpr (Classical.not_not.mp hc), beq_iff_eq.mpr hc2] at ih
        exact ih
    · refine b_X10_handedOf_5 F hk ⟨fun _ => ⟨by unfold hdO; rw [if_neg hvu], rfl⟩, fun hc => ?_⟩
      rw [h.2.1.1.2.1, ← nI_succ] at hc
      exact absurd (nI_le (by omega) (by omega)) hc
theorem m_handed (hl : l.stackTraces = false) {v u : Int32} (h : RQ w T E σ) : C_X10_handed l G w [.ref (G.2.1 40 0), .int v, .int u] (KM w (okV v && okV u) 1 1 (hdO T σ v u)) noX := by
  refine e_X10_handed hl (fun M kk hM hk F => ?_)
  subst hM
  rintro _ rfl
  have f25 : ∀ b : Bool, (okV v && okV u) = !b → Z M G 0 (KM w (okV v && okV u) 1 1 (hdO T σ v u)) noX (cl0 w) 25 [some (.ref (G.2.1 40 0)), some (.int v), some (.int u)] [.int (bI b), .ref (G.2.1 40 0)] := by
    intro b hb
    exact b_X10_handed_25 F hk (con_q hl (rs := 1) (by decide) (by decide) hb (fun hok => con_i (m_handedOf hl h.cl) (km_cl h hok)))
  refine con_i (m_isVowel hl) ⟨fun h1 => b_X10_handed_20 F hk (f25 true ?_), fun h1 => con_i (m_isVowel hl) ⟨fun h2 => f25 false ?_, fun h2 => b_X10_handed_20 F hk (f25 true ?_)⟩⟩
  · rw [show okV v = false from bI_0 h1]; rfl
  · rw [show okV v = true from bI_not.mp h1, show okV u = true from bI_not.mp h2]; rfl
  · rw [show okV u = false from bI_0 (Classical.not_not.mp h2), Bool.and_false]; rfl
theorem m_mute (hl : l.stackTraces = false) (h : RQ w T E σ) : C_X10_mute l G w [.ref (G.2.1 40 0)] (KM w true 1 1 (ob (fun n => sbI T E σ n == -1) (tN T))) noX := by
  have hN := h.1.2.1
  refine e_X10_mute hl (fun M kk hM hk F => ?_)
  subst hM
  rintro _ rfl
  refine up_to (P := fun i => ∀ w', TR w w' (w.1 69 1) → Z M G 0 _ _ w' 9 [some (.ref (G.2.1 40 0)), some (.int (ob (fun n => sbI T E σ n == -1) i)), some (.int (nI i))] []) (tN T) (fun i hi ih w' ht => ?_) (fun w' ht => ?_) (cl0 w) ⟨cl0_sm, cl0_0, cl0_69⟩
  · have q := ht.rq h h.2.2.2.2.2
    refine b_X10_mute_9 F hk ⟨fun hc => ?_, fun _ => con_iP (m_sungBy hl (by decide) h.1 q.2.1 q.2.2.1 q.2.2.2.1 hi) (fun w2 h2 => ?_)⟩
    · rw [q.2.1.1.2.1] at hc
      exact absurd hc (nI_ge hi (by omega))
    · rw [← nI_succ, Int32.or_zero]
      rw [ob] at ih
      have ih := ih w2 (ht.n2 h2)
      refine ⟨fun hc => ?_, fun hc => ?_⟩
      · rw [if_neg (fun z => hc (beq_iff_eq.mp z))] at ih
        exact ih
      · rw [if_pos (beq_iff_eq.mpr (Classical.not_not.mp hc))] at ih
        exact ih
  · have q := ht.rq h h.2.2.2.2.2
    refine b_X10_mute_9 F hk ⟨fun _ => ht.km h.2.2.2.2.2 rfl, fun hc => ?_⟩
    rw [q.2.1.1.2.1] at hc
    exact absurd (nI_le (Nat.le_refl _) (by omega)) hc
theorem m_idle (hl : l.stackTraces = false) (h : RQ w T E σ) : C_X10_idle l G w [.ref (G.2.1 40 0)] (KM w true 1 1 (ob (fun s => (hymF T E σ (tN T)).1 (14 + s) == σ (14 + s)) (tS T))) noX := by
  have hS := h.1.1
  refine e_X10_idle hl (fun M kk hM hk F => ?_)
  subst hM
  rintro _ rfl
  refine m_cpT hl h (fun w1 t1 => ?_)
  have q1 := t1.rq h h.2.2.2.2.1
  refine con_vP (m_hymns hl (by decide) h.1 q1.2.1 h.2.2.1 t1.2.2) (fun w2 h2 => ?_)
  have t2 := t1.nj h2.2.2 h2.1
  have j2 := h.2.2.2.2.1.hym (E := E) h.1 (tN T)
  have q2 := t2.rq h j2
  refine up_to (P := fun i => Z M G 0 _ _ w2 28 [some (.ref (G.2.1 40 0)), some (.int (ob (fun s => (hymF T E σ (tN T)).1 (14 + s) == σ (14 + s)) i)), some (.int (nI i))] []) (tS T) (fun i hi ih => ?_) ?_
  · have e := ix14 i (by omega)
    refine b_X10_idle_28 F hk ⟨fun hc => ?_, fun _ => ⟨e.1, e.1, ?_⟩⟩
    · rw [q2.2.1.1.1] at hc
      exact absurd hc (nI_ge hi (by omega))
    · rw [← nI_succ, Int32.or_zero, e.2, t2.2.2, q2.2.2.2.1]
      rw [ob] at ih
      refine ⟨fun hc => ?_, fun hc => ?_⟩
      · rw [if_neg (fun z => hc (beq_iff_eq.mp z))] at ih
        exact ih
      · rw [if_pos (beq_iff_eq.mpr (Classical.not_not.mp hc))] at ih
        exact ih
  · refine b_X10_idle_28 F hk ⟨fun _ => t2.km j2 rfl, fun hc => ?_⟩
    rw [q2.2.1.1.1] at hc
    exact absurd (nI_le (Nat.le_refl _) (by omega)) hc
theorem m_takes (hl : l.stackTraces = false) {v u : Int32} (h : RQ w T E σ) : C_X10_takes l G w [.ref (G.2.1 40 0), .int v, .int u] (KM w (okI v (tN T) && okI u (tS T)) 1 0 (tk T E σ v.toNatClampNeg u.toNatClampNeg)) noX := by
  have hN := h.1.2.1
  have hS := h.1.1
  refine e_X10_takes hl (fun M kk hM hk F => ?_)
  subst hM
  rintro _ rfl
  have q := h.cl
  have f27 : ∀ b : Bool, (okI v (tN T) && okI u (tS T)) = !b → Z M G 0 (KM w (okI v (tN T) && okI u (tS T)) 1 0 (tk T E σ v.toNatClampNeg u.toNatClampNeg)) noX (cl0 w) 27 [some (.ref (G.2.1 40 0)), some (.int v), some (.int u)] [.int (bI b), .ref (G.2.1 40 0)] := by
    intro b hb
    refine b_X10_takes_27 F hk (con_q hl (rs := 0) (by decide) (by decide) hb (fun hok => ?_))
    have hok2 := hok
    rw [Bool.and_eq_true] at hok2
    obtain ⟨n, hn, rfl⟩ := okI_of hok2.1 (by omega)
    obtain ⟨s, hs, rfl⟩ := okI_of hok2.2 (by omega)
    rw [nI_clamp (show n < 2 ^ 31 by omega), nI_clamp (show s < 2 ^ 31 by omega)]
    exact con_iP (m_breathOf hl (by decide) h.1 q.2.1 q.2.2.1 q.2.2.2.1 hn hs) (fun w2 h2 => km_n2 h hok h2)
  refine con_i (m_isNote hl) ?_
  rw [show (setI w 40 0 0 0).1 44 0 1 = nI (tN T) from q.2.1.1.2.1, okI_le (by omega)]
  refine ⟨fun h1 => b_X10_takes_22 F hk (f27 true ?_), fun h1 => con_i (m_isSinger hl) ?_⟩
  · rw [show okI v (tN T) = false from bI_0 h1]; rfl
  rw [show (setI w 40 0 0 0).1 44 0 0 = nI (tS T) from q.2.1.1.1, okI_le (by omega)]
  refine ⟨fun h2 => f27 false ?_, fun h2 => b_X10_takes_22 F hk (f27 true ?_)⟩
  · rw [show okI v (tN T) = true from bI_not.mp h1, show okI u (tS T) = true from bI_not.mp h2]; rfl
  · rw [show okI u (tS T) = false from bI_0 (Classical.not_not.mp h2), Bool.and_false]; rfl
theorem m_singer (hl : l.stackTraces = false) {v u : Int32} (h : RQ w T E σ) : C_X10_singer l G w [.ref (G.2.1 40 0), .int v, .int u] (KM2 w (okI v (tS T)) (okB u 0 7) (sgF T σ v.toNatClampNeg u)) noX := by
  have hS := h.1.1
  refine e_X10_singer hl (fun M kk hM hk F => ?_)
  subst hM
  rintro _ rfl
  have q := h.cl
  have f43 : okI v (tS T) = true → ∀ b : Bool, okB u 0 7 = !b → Z M G 0 (KM2 w (okI v (tS T)) (okB u 0 7) (sgF T σ v.toNatClampNeg u)) noX (cl0 w) 43 [some (.ref (G.2.1 40 0)), some (.int v), some (.int u)] [.int (bI b), .ref (G.2.1 40 0)] := by
    intro hf b hb
    refine b_X10_singer_43 F hk (con_q2 hl hf hb (fun ht => ?_))
    have hf2 := hf
    obtain ⟨s, hs, rfl⟩ := okI_of hf2 (by omega)
    have r := q.2.1.1.2.2.2.2.1 s hs
    have hii : vp_in (nI s) 7 := vp_in_nI (by omega) (by decide)
    have e0 := ix0 s (by omega)
    have e7 := ix7 s (by omega)
    have e14 := ix14 s (by omega)
    have e21 := ix21 s (by omega)
    have e28 := ix28 s (by omega)
    rw [e0.2, e7.2, e14.2, e21.2, e28.2, nI_clamp (show s < 2 ^ 31 by omega), q.2.2.2.1]
    refine ⟨fun c => ⟨hii, by rw [c]; exact vp_in_nI (show 0 < 3 by decide) (by decide), ?_⟩, fun c => ⟨hii, by rw [c]; exact vp_in_nI (show 1 < 3 by decide) (by decide), ?_⟩, fun c => ⟨hii, by rw [c]; exact vp_in_nI (show 2 < 3 by decide) (by decide), ?_⟩, fun c => ⟨e0.1, ?_⟩, fun c => ⟨e7.1, ?_⟩, fun c => ⟨e14.1, ?_⟩, fun c => ⟨e21.1, ?_⟩, fun c => ⟨e28.1, ?_⟩⟩
    · rw [c] at ht ⊢
      rw [show (cl0 w).1 48 s (0 : Int32).toNatClampNeg = sv T s from r.1]
      exact km2_cl h hf ht
    · rw [c] at ht ⊢
      rw [show (cl0 w).1 48 s (1 : Int32).toNatClampNeg = sp T s from r.2.1]
      exact km2_cl h hf ht
    · rw [c] at ht ⊢
      rw [show (cl0 w).1 48 s (2 : Int32).toNatClampNeg = sb T s from r.2.2]
      exact km2_cl h hf ht
    · rw [c] at ht ⊢; exact km2_cl h hf ht
    · rw [c] at ht ⊢; exact km2_cl h hf ht
    · rw [c] at ht ⊢; exact km2_cl h hf ht
    · rw [c] at ht ⊢; exact km2_cl h hf ht
    · have e : sgF T σ s u = σ (28 + s) := by
        unfold sgF
        rw [if_neg c.1, if_neg c.2.1, if_neg c.2.2.1, if_neg c.2.2.2.1, if_neg c.2.2.2.2.1, if_neg c.2.2.2.2.2.1, if_neg c.2.2.2.2.2.2]
      rw [e]
      exact km2_cl h hf ht
  have f19 : ∀ b : Bool, okI v (tS T) = !b → Z M G 0 (KM2 w (okI v (tS T)) (okB u 0 7) (sgF T σ v.toNatClampNeg u)) noX (cl0 w) 19 [some (.ref (G.2.1 40 0)), some (.int v), some (.int u)] [.int (bI b), .ref (G.2.1 40 0)] := by
    intro b hb
    exact b_X10_singer_19 F hk (con_q1 hl hb (fun hf => con_i (m_in hl) ⟨fun h1 => f43 hf false (bI_not.mp h1), fun h1 => f43 hf true (bI_0 (Classical.not_not.mp h1))⟩))
  refine con_i (m_isSinger hl) ?_
  rw [show (setI w 40 0 0 0).1 44 0 0 = nI (tS T) from q.2.1.1.1, okI_le (by omega)]
  exact ⟨fun h1 => f19 false (bI_not.mp h1), fun h1 => f19 true (bI_0 (Classical.not_not.mp h1))⟩
theorem m_note (hl : l.stackTraces = false) {v u : Int32} (h : RQ w T E σ) : C_X10_note l G w [.ref (G.2.1 40 0), .int v, .int u] (KM2 w (okI v (tN T)) (okB u 0 3) (ntF T E σ v.toNatClampNeg u)) noX := by
  have hN := h.1.2.1
  refine e_X10_note hl (fun M kk hM hk F => ?_)
  subst hM
  rintro _ rfl
  have q := h.cl
  have f42 : okI v (tN T) = true → ∀ b : Bool, okB u 0 3 = !b → Z M G 0 (KM2 w (okI v (tN T)) (okB u 0 3) (ntF T E σ v.toNatClampNeg u)) noX (cl0 w) 42 [some (.ref (G.2.1 40 0)), some (.int v), some (.int u)] [.int (bI b), .ref (G.2.1 40 0)] := by
    intro hf b hb
    refine b_X10_note_42 F hk (con_q2 hl hf hb (fun ht => ?_))
    have hf2 := hf
    obtain ⟨n, hn, rfl⟩ := okI_of hf2 (by omega)
    have r := q.2.1.1.2.2.2.2.2.1 n hn
    have hii : vp_in (nI n) 20 := vp_in_nI (by omega) (by decide)
    have e35 := ix35 n (by omega)
    rw [e35.2, nI_clamp (show n < 2 ^ 31 by omega), q.2.2.2.1]
    obtain ⟨o, -, ho, rfl⟩ := okB_of (a := 0) (b := 3) ht (by decide) (by decide)
    rcases (show o = 0 ∨ o = 1 ∨ o = 2 ∨ o = 3 by omega) with rfl | rfl | rfl | rfl
    · exact ⟨fun c => absurd rfl c, fun _ => ⟨e35.1, km2_cl h hf ht⟩⟩
    · refine ⟨fun _ => ⟨fun c => absurd c (by decide), fun _ => ⟨hii, by rw [show nI 1 - (1 : Int32) = nI 0 from nI_pred 0]; exact vp_in_nI (show 0 < 2 by decide) (by decide), ?_⟩⟩, fun c => absurd (by decide) c⟩
      rw [show (cl0 w).1 52 n (nI 1 - 1 : Int32).toNatClampNeg = nv T n from r.1]
      exact km2_cl h hf ht
    · refine ⟨fun _ => ⟨fun c => absurd c (by decide), fun _ => ⟨hii, by rw [show nI 2 - (1 : Int32) = nI 1 from nI_pred 1]; exact vp_in_nI (show 1 < 2 by decide) (by decide), ?_⟩⟩, fun c => absurd (by decide) c⟩
      rw [show (cl0 w).1 52 n (nI 2 - 1 : Int32).toNatClampNeg = nl T n from r.2]
      exact km2_cl h hf ht
    · refine ⟨fun _ => ⟨fun _ => con_iP (m_sungBy hl (by decide) h.1 q.2.1 q.2.2.1 q.2.2.2.1 hn) (fun w2 h2 => ?_), fun c => absurd (by decide) c⟩, fun c => absurd (by decide) c⟩
      refine ⟨_, rfl, fun _ _ => ⟨rfl, (h2.1 40 0 0 (by unfold N2; omega)).trans cl0_0, cl0_sm.tr (h2.mono N2_GM), ?_⟩, (fun z => by rw [hf] at z; cases z), (fun _ z => by rw [ht] at z; cases z)⟩
      rw [h2.row (fun k => by unfold N2; omega), cl0_69]
      exact h.2.2.2.2.2
  have f19 : ∀ b : Bool, okI v (tN T) = !b → Z M G 0 (KM2 w (okI v (tN T)) (okB u 0 3) (ntF T E σ v.toNatClampNeg u)) noX (cl0 w) 19 [some (.ref (G.2.1 40 0)), some (.int v), some (.int u)] [.int (bI b), .ref (G.2.1 40 0)] := by
    intro b hb
    exact b_X10_note_19 F hk (con_q1 hl hb (fun hf => con_i (m_in hl) ⟨fun h1 => f42 hf false (bI_not.mp h1), fun h1 => f42 hf true (bI_0 (Classical.not_not.mp h1))⟩))
  refine con_i (m_isNote hl) ?_
  rw [show (setI w 40 0 0 0).1 44 0 1 = nI (tN T) from q.2.1.1.2.1, okI_le (by omega)]
  exact ⟨fun h1 => f19 false (bI_not.mp h1), fun h1 => f19 true (bI_0 (Classical.not_not.mp h1))⟩
theorem m_like (hl : l.stackTraces = false) {v u : Int32} (h : RQ w T E σ) : C_X10_like l G w [.ref (G.2.1 40 0), .int v, .int u] (KM2 w (okI v (tL T)) (okB u 0 1) (lkF T v.toNatClampNeg u)) noX := by
  have hL := h.1.2.2.1
  refine e_X10_like hl (fun M kk hM hk F => ?_)
  subst hM
  rintro _ rfl
  have q := h.cl
  have f50 : okI v (tL T) = true → ∀ b : Bool, okB u 0 1 = !b → Z M G 0 (KM2 w (okI v (tL T)) (okB u 0 1) (lkF T v.toNatClampNeg u)) noX (cl0 w) 50 [some (.ref (G.2.1 40 0)), some (.int v), some (.int u)] [.int (bI b), .ref (G.2.1 40 0)] := by
    intro hf b hb
    refine b_X10_like_50 F hk (con_q2 hl hf hb (fun ht => ?_))
    have hf2 := hf
    obtain ⟨n, hn, rfl⟩ := okI_of hf2 (by omega)
    have r := q.2.1.1.2.2.2.2.2.2 n hn
    rw [nI_clamp (show n < 2 ^ 31 by omega)]
    obtain ⟨o, -, ho, rfl⟩ := okB_of (a := 0) (b := 1) ht (by decide) (by decide)
    refine ⟨vp_in_nI (by omega) (by decide), vp_in_nI (by omega) (by decide), ?_⟩
    rcases (show o = 0 ∨ o = 1 by omega) with rfl | rfl
    · rw [show (cl0 w).1 56 n (nI 0).toNatClampNeg = kn T n from r.1]
      exact km2_cl h hf ht
    · rw [show (cl0 w).1 56 n (nI 1).toNatClampNeg = kv T n from r.2]
      exact km2_cl h hf ht
  have f27 : ∀ b : Bool, okI v (tL T) = !b → Z M G 0 (KM2 w (okI v (tL T)) (okB u 0 1) (lkF T v.toNatClampNeg u)) noX (cl0 w) 27 [some (.ref (G.2.1 40 0)), some (.int v), some (.int u)] [.int (bI b), .ref (G.2.1 40 0)] := by
    intro b hb
    exact b_X10_like_27 F hk (con_q1 hl hb (fun hf => con_i (m_in hl) ⟨fun h1 => f50 hf false (bI_not.mp h1), fun h1 => f50 hf true (bI_0 (Classical.not_not.mp h1))⟩))
  refine con_i (m_in hl) ?_
  rw [show (setI w 40 0 0 0).1 44 0 2 = nI (tL T) from q.2.1.1.2.2.1, okI_le (by omega)]
  exact ⟨fun h1 => f27 false (bI_not.mp h1), fun h1 => f27 true (bI_0 (Classical.not_not.mp h1))⟩
end RB
