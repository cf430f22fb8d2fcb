/-! The reference's questions. -/
def RQ (w : Wd) (T : Tx) (E : Ex) (σ : Sg) : Prop := Tok T ∧ StM w T E ∧ Eok E ∧ w.1 69 0 = σ ∧ Jk σ ∧ Jk (w.1 69 1)
theorem RQ.mv {w w' : Wd} {T : Tx} {E : Ex} {σ : Sg} {S : Nat → Nat → Nat → Prop} (h : RQ w T E σ) (hs : Sm S w w') (hS : ∀ κ j k, S κ j k → GM κ j k) (hj : Jk (w'.1 69 1)) : RQ w' T E σ := by
  have hs := hs.mono hS
  refine ⟨h.1, h.2.1.mv hs (fun κ b k q => by unfold GM; omega) (by unfold GM; omega), h.2.2.1, ?_, h.2.2.2.2.1, hj⟩
  rw [hs.row (fun k => by unfold GM; omega)]
  exact h.2.2.2.1
theorem N2_GM : ∀ κ j k, N2 κ j k → GM κ j k := by
  intro κ j k h
  unfold N2 at h
  unfold GM
  omega
theorem NJ_GM : ∀ κ j k, NJ 1 κ j k → GM κ j k := by
  intro κ j k h
  unfold NJ at h
  unfold GM
  omega
theorem NR_GM : ∀ κ j k, NR 1 κ j k → GM κ j k := by
  intro κ j k h
  unfold NR at h
  unfold GM
  omega
theorem cl0_sm {w : Wd} : Sm GM w (cl0 w) := Sm.rf.set (by unfold GM; omega)
theorem cl0_0 {w : Wd} : (cl0 w).1 40 0 0 = 0 := setI_eq _ _ _ _ _
theorem cl0_69 {w : Wd} {j : Nat} : (cl0 w).1 69 j = w.1 69 j := setI_row (by omega)
theorem RQ.cl {w : Wd} {T : Tx} {E : Ex} {σ : Sg} (h : RQ w T E σ) : RQ (cl0 w) T E σ := h.mv cl0_sm (fun _ _ _ q => q) (by rw [cl0_69]; exact h.2.2.2.2.2)
theorem km_ok {w w' : Wd} {ok : Bool} {what v : Int32} {rs : Nat} (hok : ok = true) (ht : w'.1 40 0 0 = 0) (hs : Sm GM w w') (hj : Jk (w'.1 69 1)) : KM w ok what rs v (some (.int v)) w' :=
  ⟨v, rfl, fun _ => ⟨rfl, ht, hs, hj⟩, fun h => by rw [hok] at h; cases h⟩
/-- it ends where it began -/
theorem km_cl {w : Wd} {T : Tx} {E : Ex} {σ : Sg} {ok : Bool} {what v : Int32} {rs : Nat} (h : RQ w T E σ) (hok : ok = true) : KM w ok what rs v (some (.int v)) (cl0 w) :=
  km_ok hok cl0_0 cl0_sm (by rw [cl0_69]; exact h.2.2.2.2.2)
/-- it ends after a law was worked out -/
theorem km_n2 {w w' : Wd} {T : Tx} {E : Ex} {σ : Sg} {ok : Bool} {what v : Int32} {rs : Nat} (h : RQ w T E σ) (hok : ok = true) (hs : Sm N2 (cl0 w) w') : KM w ok what rs v (some (.int v)) w' := by
  refine km_ok hok ?_ (cl0_sm.tr (hs.mono N2_GM)) ?_
  · exact (hs.1 40 0 0 (by unfold N2; omega)).trans cl0_0
  · rw [hs.row (fun k => by unfold N2; omega), cl0_69]
    exact h.2.2.2.2.2
abbrev KM2 (w : Wd) (f t : Bool) (v : Int32) : Option Value → Wd → Prop := fun r w' => ∃ b : Int32, r = some (.int b) ∧ (f = true → t = true → b = v ∧ w'.1 40 0 0 = 0 ∧ Sm GM w w' ∧ Jk (w'.1 69 1)) ∧ (f = false → w' = bpM (cl0 w) 1 0) ∧ (f = true → t = false → w' = bpM (cl0 w) 2 1)
theorem km2_cl {w : Wd} {T : Tx} {E : Ex} {σ : Sg} {f t : Bool} {v : Int32} (h : RQ w T E σ) (hf : f = true) (ht : t = true) : KM2 w f t v (some (.int v)) (cl0 w) :=
  ⟨v, rfl, fun _ _ => ⟨rfl, cl0_0, cl0_sm, by rw [cl0_69]; exact h.2.2.2.2.2⟩, (fun q => by rw [hf] at q; cases q), (fun _ q => by rw [ht] at q; cases q)⟩
section RA
variable {l : Launch} {G : Gx} {w : Wd} {X : String → Wd → Prop} {T : Tx} {E : Ex} {σ : Sg}
theorem con_q (hl : l.stackTraces = false) {b ok : Bool} {what v : Int32} {rs : Nat} {Body : Wd → Prop} (hw : ¬ what = 0) (hr : rs < 2) (hb : ok = !b) (h : ok = true → Body (cl0 w)) : C_X10_bad l G (cl0 w) [.ref (G.2.1 40 0), .int (bI b), .int what, .int (nI rs)] (fun r w2 => ∃ v1 : Int32, r = some (.int v1) ∧ ((v1 = 0 → Body w2) ∧ (¬ (v1 = 0) → KM w ok what rs v (some (.int 0)) w2))) X := by
  refine con_bad hl cl0_0 hw hr (fun h0 => ⟨fun _ => h (by rw [hb, h0]; rfl), fun hc => absurd rfl hc⟩) (fun h1 => ⟨fun hc => absurd hc (by decide), fun _ => ⟨0, rfl, fun hok => ?_, fun _ => rfl⟩⟩)
  rw [hb, h1] at hok
  cases hok
/-- the first of two -/
theorem con_q1 (hl : l.stackTraces = false) {b f t : Bool} {v : Int32} {Body : Wd → Prop} (hb : f = !b) (h : f = true → Body (cl0 w)) : C_X10_bad l G (cl0 w) [.ref (G.2.1 40 0), .int (bI b), .int 1, .int 0] (fun r w2 => ∃ v1 : Int32, r = some (.int v1) ∧ ((¬ v1 = 0 → KM2 w f t v (some (.int 0)) w2) ∧ (¬ (¬ v1 = 0) → Body w2))) X := by
  refine con_bad hl (rs := 0) cl0_0 (by decide) (by decide) (fun h0 => ⟨fun hc => absurd rfl hc, fun _ => h (by rw [hb, h0]; rfl)⟩) (fun h1 => ⟨fun _ => ⟨0, rfl, fun hok => ?_, fun _ => rfl, fun hok => ?_⟩, fun hc => absurd (by decide) hc⟩)
  · rw [hb, h1] at hok; cases hok
  · rw [hb, h1] at hok; cases hok
theorem con_q2 (hl : l.stackTraces = false) {b f t : Bool} {v : Int32} {Body : Wd → Prop} (hf : f = true) (hb : t = !b) (h : t = true → Body (cl0 w)) : C_X10_bad l G (cl0 w) [.ref (G.2.1 40 0), .int (bI b), .int 2, .int 1] (fun r w2 => ∃ v1 : Int32, r = some (.int v1) ∧ ((v1 = 0 → Body w2) ∧ (¬ (v1 = 0) → KM2 w f t v (some (.int 0)) w2))) X := by
  refine con_bad hl (rs := 1) cl0_0 (by decide) (by decide) (fun h0 => ⟨fun _ => h (by rw [hb, h0]; rfl), fun hc => absurd rfl hc⟩) (fun h1 => ⟨fun hc => absurd hc (by decide), fun _ => ⟨0, rfl, fun _ hok => ?_, fun q => ?_, fun _ _ => rfl⟩⟩)
  · rw [hb, h1] at hok; cases hok
  · rw [hf] at q; cases q
theorem m_voices (hl : l.stackTraces = false) {v : Int32} (h : RQ w T E σ) : C_X10_voices l G w [.ref (G.2.1 40 0), .int v] (KM w (okV v) 1 1 (ob (fun s => sv T s == v) (tS T))) noX := by
  have hS := h.1.1
  refine e_X10_voices hl (fun M kk hM hk F => ?_)
  subst hM
  rintro _ rfl
  have f18 : ∀ b : Bool, okV v = !b → Z M G 0 (KM w (okV v) 1 1 (ob (fun s => sv T s == v) (tS T))) noX (cl0 w) 18 [some (.ref (G.2.1 40 0)), some (.int v), none, none] [.int (bI b), .ref (G.2.1 40 0)] := by
    intro b hb
    refine b_X10_voices_18 F hk (con_q hl (rs := 1) (by decide) (by decide) hb (fun hok => ?_))
    have q := h.cl
    refine up_to (P := fun i => Z M G 0 _ _ (cl0 w) 32 [some (.ref (G.2.1 40 0)), some (.int v), some (.int (ob (fun s => sv T s == v) i)), some (.int (nI i))] []) (tS T) (fun i hi ih => ?_) ?_
    · refine b_X10_voices_32 F hk ⟨fun hc => ?_, fun _ => ⟨vp_in_nI (by omega) (by decide), ?_⟩⟩
      · rw [q.2.1.1.1] at hc
        exact absurd hc (nI_ge hi (by omega))
      · rw [nI_clamp (by omega), (q.2.1.1.2.2.2.2.1 i hi).1, ← nI_succ, Int32.or_zero]
        rw [ob] at ih
        refine ⟨fun hc => ?_, fun hc => ?_⟩
        · rw [if_neg (fun z => hc (beq_iff_eq.mp z))] at ih
          exact ih
        · rw [if_pos (beq_iff_eq.mpr (Classical.not_not.mp hc))] at ih
          exact ih
    · refine b_X10_voices_32 F hk ⟨fun _ => km_cl h hok, fun hc => ?_⟩
      rw [q.2.1.1.1] at hc
      exact absurd (nI_le (Nat.le_refl _) (by omega)) hc
  exact con_i (m_isVowel hl) ⟨fun h1 => f18 false (bI_not.mp h1), fun h1 => f18 true (bI_0 (Classical.not_not.mp h1))⟩
theorem m_sounds (hl : l.stackTraces = false) {v : Int32} (h : RQ w T E σ) : C_X10_sounds l G w [.ref (G.2.1 40 0), .int v] (KM w (okV v) 1 1 (ob (fun n => σ (35 + n) == v) (tN T))) noX := by
  have hN := h.1.2.1
  refine e_X10_sounds hl (fun M kk hM hk F => ?_)
  subst hM
  rintro _ rfl
  have f18 : ∀ b : Bool, okV v = !b → Z M G 0 (KM w (okV v) 1 1 (ob (fun n => σ (35 + n) == v) (tN T))) noX (cl0 w) 18 [some (.ref (G.2.1 40 0)), some (.int v), none, none] [.int (bI b), .ref (G.2.1 40 0)] := by
    intro b hb
    refine b_X10_sounds_18 F hk (con_q hl (rs := 1) (by decide) (by decide) hb (fun hok => ?_))
    have q := h.cl
    refine up_to (P := fun i => Z M G 0 _ _ (cl0 w) 32 [some (.ref (G.2.1 40 0)), some (.int v), some (.int (ob (fun n => σ (35 + n) == v) i)), some (.int (nI i))] []) (tN T) (fun i hi ih => ?_) ?_
    · have e := ix35 i (by omega)
      refine b_X10_sounds_32 F hk ⟨fun hc => ?_, fun _ => ⟨e.1, ?_⟩⟩
      · rw [q.2.1.1.2.1] at hc
        exact absurd hc (nI_ge hi (by omega))
      · rw [e.2, q.2.2.2.1, ← nI_succ, Int32.or_zero]
        rw [ob] at ih
        refine ⟨fun hc => ?_, fun hc => ?_⟩
        · rw [if_neg (fun z => hc (beq_iff_eq.mp z))] at ih
          exact ih
        · rw [if_pos (beq_iff_eq.mpr (Classical.not_not.mp hc))] at ih
          exact ih
    · refine b_X10_sounds_32 F hk ⟨fun _ => km_cl h hok, fun hc => ?_⟩
      rw [q.2.1.1.2.1] at hc
      exact absurd (nI_le (Nat.le_refl _) (by omega)) hc
  exact con_i (m_isVowel hl) ⟨fun h1 => f18 false (bI_not.mp h1), fun h1 => f18 true (bI_0 (Classical.not_not.mp h1))⟩
theorem m_beats (hl : l.stackTraces = false) {v : Int32} (h : RQ w T E σ) : C_X10_beats l G w [.ref (G.2.1 40 0), .int v] (KM w (okV v) 1 1 (btF T σ v (tN T))) noX := by
  have hN := h.1.2.1
  refine e_X10_beats hl (fun M kk hM hk F => ?_)
  subst hM
  rintro _ rfl
  have f18 : ∀ b : Bool, okV v = !b → Z M G 0 (KM w (okV v) 1 1 (btF T σ v (tN T))) noX (cl0 w) 18 [some (.ref (G.2.1 40 0)), some (.int v), none, none] [.int (bI b), .ref (G.2.1 40 0)] := by
    intro b hb
    refine b_X10_beats_18 F hk (con_q hl (rs := 1) (by decide) (by decide) hb (fun hok => ?_))
    have q := h.cl
    refine up_to (P := fun i => Z M G 0 _ _ (cl0 w) 32 [some (.ref (G.2.1 40 0)), some (.int v), some (.int (btF T σ v i)), some (.int (nI i))] []) (tN T) (fun i hi ih => ?_) ?_
    · have e := ix35 i (by omega)
      refine b_X10_beats_32 F hk ⟨fun hc => ?_, fun _ => ⟨e.1, ?_⟩⟩
      · rw [q.2.1.1.2.1] at hc
        exact absurd hc (nI_ge hi (by omega))
      · rw [e.2, q.2.2.2.1, ← nI_succ, Int32.add_zero, nI_clamp (by omega), (q.2.1.1.2.2.2.2.2.1 i hi).2]
        rw [btF] at ih
        refine ⟨fun hc => ?_, fun hc => ⟨vp_in_nI (by omega) (by decide), ?_⟩⟩
        · rw [if_neg hc] at ih
          exact ih
        · rw [if_pos (Classical.not_not.mp hc)] at ih
          exact ih
    · refine b_X10_beats_32 F hk ⟨fun _ => km_cl h hok, fun hc => ?_⟩
      rw [q.2.1.1.2.1] at hc
      exact absurd (nI_le (Nat.le_refl _) (by omega)) hc
  exact con_i (m_isVowel hl) ⟨fun h1 => f18 false (bI_not.mp h1), fun h1 => f18 true (bI_0 (Classical.not_not.mp h1))⟩
theorem m_words (hl : l.stackTraces = false) {v : Int32} (h : RQ w T E σ) : C_X10_words l G w [.ref (G.2.1 40 0), .int v] (KM w (okI v (tN T)) 1 0 (wf T v.toNatClampNeg (tL T))) noX := by
  have hN := h.1.2.1
  refine e_X10_words hl (fun M kk hM hk F => ?_)
  subst hM
  rintro _ rfl
  have q := h.cl
  have f19 : ∀ b : Bool, okI v (tN T) = !b → Z M G 0 (KM w (okI v (tN T)) 1 0 (wf T v.toNatClampNeg (tL T))) noX (cl0 w) 19 [some (.ref (G.2.1 40 0)), some (.int v)] [.int (bI b), .ref (G.2.1 40 0)] := by
    intro b hb
    refine b_X10_words_19 F hk (con_q hl (rs := 0) (by decide) (by decide) hb (fun hok => ?_))
    obtain ⟨n, hn, rfl⟩ := okI_of hok (by omega)
    refine con_i (m_wordsOf hl h.1 q.2.1.1 hn) ?_
    rw [nI_clamp (by omega)]
    exact km_cl h hok
  refine con_i (m_isNote hl) ?_
  rw [show (setI w 40 0 0 0).1 44 0 1 = nI (tN T) from q.2.1.1.2.1, okI_le (by omega)]
  exact ⟨fun h1 => f19 false (bI_not.mp h1), fun h1 => f19 true (bI_0 (Classical.not_not.mp h1))⟩
theorem m_dearest (hl : l.stackTraces = false) {v : Int32} (h : RQ w T E σ) : C_X10_dearest l G w [.ref (G.2.1 40 0), .int v] (KM w (okB v 0 1) 1 1 (bmv (sp T) (tS T) v)) noX := by
  have hS := h.1.1
  refine e_X10_dearest hl (fun M kk hM hk F => ?_)
  subst hM
  rintro _ rfl
  have q := h.cl
  have f20 : ∀ b : Bool, okB v 0 1 = !b → Z M G 0 (KM w (okB v 0 1) 1 1 (bmv (sp T) (tS T) v)) noX (cl0 w) 20 [some (.ref (G.2.1 40 0)), some (.int v), none, none] [.int (bI b), .ref (G.2.1 40 0)] := by
    intro b hb
    refine b_X10_dearest_20 F hk (con_q hl (rs := 1) (by decide) (by decide) hb (fun hok => ?_))
    refine up_to (P := fun i => Z M G 0 _ _ (cl0 w) 34 [some (.ref (G.2.1 40 0)), some (.int v), some (.int (oI (bm (sp T) i))), some (.int (nI i))] []) (tS T) (fun i hi ih => ?_) ?_
    · refine b_X10_dearest_34 F hk ⟨fun hc => ?_, fun _ => ?_⟩
      · rw [q.2.1.1.1] at hc
        exact absurd hc (nI_ge hi (by omega))
      · rw [← nI_succ]
        unfold bm at ih ⊢
        cases hb : bs (fun a b => decide (sp T b < sp T a)) i with
        | none =>
          rw [bs, hb] at ih
          exact ⟨fun _ => ih, fun hc => absurd rfl hc⟩
        | some c =>
          have hlt := bs_lt hb
          rw [bs, hb] at ih
          refine ⟨fun hc => absurd hc (nI_neg1 (by omega)), fun _ => ⟨vp_in_nI (by omega) (by decide), vp_in_nI (show c < 7 by omega) (by decide), ?_⟩⟩
          show ((cl0 w).1 48 (nI i).toNatClampNeg 1 ≤ (cl0 w).1 48 (nI c).toNatClampNeg 1 → _) ∧ (¬ ((cl0 w).1 48 (nI i).toNatClampNeg 1 ≤ (cl0 w).1 48 (nI c).toNatClampNeg 1) → _)
          rw [nI_clamp (by omega), nI_clamp (by omega), (q.2.1.1.2.2.2.2.1 i hi).2.1, (q.2.1.1.2.2.2.2.1 c (by omega)).2.1]
          refine ⟨fun hc => ?_, fun hc => ?_⟩
          · simp only [Int32.not_lt.mpr hc, decide_false] at ih
            exact ih
          · simp only [Int32.not_le.mp hc, decide_true, if_true] at ih
            exact ih
    · refine b_X10_dearest_34 F hk ⟨fun _ => ?_, fun hc => ?_⟩
      · unfold bmv
        refine ⟨fun h0 => ?_, fun h0 => ?_⟩
        · rw [if_pos h0]; exact km_cl h hok
        · rw [if_neg h0]
          cases hb : bm (sp T) (tS T) with
          | none => exact ⟨fun hc => absurd rfl hc, fun _ => km_cl h hok⟩
          | some c =>
            have hlt : c < tS T := bs_lt hb
            refine ⟨fun _ => ⟨vp_in_nI (by omega) (by decide), ?_⟩, fun hc => absurd (Classical.not_not.mp hc) (nI_neg1 (by omega))⟩
            show KM w (okB v 0 1) 1 1 (sp T c) (some (.int ((cl0 w).1 48 (nI c).toNatClampNeg 1))) (cl0 w)
            rw [nI_clamp (by omega), (q.2.1.1.2.2.2.2.1 c hlt).2.1]
            exact km_cl h hok
      · rw [q.2.1.1.1] at hc
        exact absurd (nI_le (Nat.le_refl _) (by omega)) hc
  exact con_i (m_in hl) ⟨fun h1 => f20 false (bI_not.mp h1), fun h1 => f20 true (bI_0 (Classical.not_not.mp h1))⟩
theorem m_longest (hl : l.stackTraces = false) {v : Int32} (h : RQ w T E σ) : C_X10_longest l G w [.ref (G.2.1 40 0), .int v] (KM w (okB v 0 1) 1 1 (bmv (nl T) (tN T) v)) noX := by
  have hS := h.1.2.1
  refine e_X10_longest hl (fun M kk hM hk F => ?_)
  subst hM
  rintro _ rfl
  have q := h.cl
  have f20 : ∀ b : Bool, okB v 0 1 = !b → Z M G 0 (KM w (okB v 0 1) 1 1 (bmv (nl T) (tN T) v)) noX (cl0 w) 20 [some (.ref (G.2.1 40 0)), some (.int v), none, none] [.int (bI b), .ref (G.2.1 40 0)] := by
    intro b hb
    refine b_X10_longest_20 F hk (con_q hl (rs := 1) (by decide) (by decide) hb (fun hok => ?_))
    refine up_to (P := fun i => Z M G 0 _ _ (cl0 w) 34 [some (.ref (G.2.1 40 0)), some (.int v), some (.int (oI (bm (nl T) i))), some (.int (nI i))] []) (tN T) (fun i hi ih => ?_) ?_
    · refine b_X10_longest_34 F hk ⟨fun hc => ?_, fun _ => ?_⟩
      · rw [q.2.1.1.2.1] at hc
        exact absurd hc (nI_ge hi (by omega))
      · rw [← nI_succ]
        unfold bm at ih ⊢
        cases hb : bs (fun a b => decide (nl T b < nl T a)) i with
        | none =>
          rw [bs, hb] at ih
          exact ⟨fun _ => ih, fun hc => absurd rfl hc⟩
        | some c =>
          have hlt := bs_lt hb
          rw [bs, hb] at ih
          refine ⟨fun hc => absurd hc (nI_neg1 (by omega)), fun _ => ⟨vp_in_nI (by omega) (by decide), vp_in_nI (show c < 20 by omega) (by decide), ?_⟩⟩
          show ((cl0 w).1 52 (nI i).toNatClampNeg 1 ≤ (cl0 w).1 52 (nI c).toNatClampNeg 1 → _) ∧ (¬ ((cl0 w).1 52 (nI i).toNatClampNeg 1 ≤ (cl0 w).1 52 (nI c).toNatClampNeg 1) → _)
          rw [nI_clamp (by omega), nI_clamp (by omega), (q.2.1.1.2.2.2.2.2.1 i hi).2, (q.2.1.1.2.2.2.2.2.1 c (by omega)).2]
          refine ⟨fun hc => ?_, fun hc => ?_⟩
          · simp only [Int32.not_lt.mpr hc, decide_false] at ih
            exact ih
          · simp only [Int32.not_le.mp hc, decide_true, if_true] at ih
            exact ih
    · refine b_X10_longest_34 F hk ⟨fun _ => ?_, fun hc => ?_⟩
      · unfold bmv
        refine ⟨fun h0 => ?_, fun h0 => ?_⟩
        · rw [if_pos h0]; exact km_cl h hok
        · rw [if_neg h0]
          cases hb : bm (nl T) (tN T) with
          | none => exact ⟨fun hc => absurd rfl hc, fun _ => km_cl h hok⟩
          | some c =>
            have hlt : c < tN T := bs_lt hb
            refine ⟨fun _ => ⟨vp_in_nI (by omega) (by decide), ?_⟩, fun hc => absurd (Classical.not_not.mp hc) (nI_neg1 (by omega))⟩
            show KM w (okB v 0 1) 1 1 (nl T c) (some (.int ((cl0 w).1 52 (nI c).toNatClampNeg 1))) (cl0 w)
            rw [nI_clamp (by omega), (q.2.1.1.2.2.2.2.2.1 c hlt).2]
            exact km_cl h hok
      · rw [q.2.1.1.2.1] at hc
        exact absurd (nI_le (Nat.le_refl _) (by omega)) hc
  exact con_i (m_in hl) ⟨fun h1 => f20 false (bI_not.mp h1), fun h1 => f20 true (bI_0 (Classical.not_not.mp h1))⟩
theorem m_spare (hl : l.stackTraces = false) {v : Int32} (h : RQ w T E σ) : C_X10_spare l G w [.ref (G.2.1 40 0), .int v] (KM w (okB v 0 1) 1 1 (lvv σ (tS T) v)) noX := by
  have hS := h.1.1
  refine e_X10_spare hl (fun M kk hM hk F => ?_)
  subst hM
  rintro _ rfl
  have q := h.cl
  have f20 : ∀ b : Bool, okB v 0 1 = !b → Z M G 0 (KM w (okB v 0 1) 1 1 (lvv σ (tS T) v)) noX (cl0 w) 20 [some (.ref (G.2.1 40 0)), some (.int v), none, none] [.int (bI b), .ref (G.2.1 40 0)] := by
    intro b hb
    refine b_X10_spare_20 F hk (con_q hl (rs := 1) (by decide) (by decide) hb (fun hok => ?_))
    refine up_to (P := fun i => Z M G 0 _ _ (cl0 w) 34 [some (.ref (G.2.1 40 0)), some (.int v), some (.int (oI (lv σ i))), some (.int (nI i))] []) (tS T) (fun i hi ih => ?_) ?_
    · refine b_X10_spare_34 F hk ⟨fun hc => ?_, fun _ => ?_⟩
      · rw [q.2.1.1.1] at hc
        exact absurd hc (nI_ge hi (by omega))
      · rw [← nI_succ]
        unfold lv at ih ⊢
        cases hb : bs (fun a b => decide (σ a < σ b)) i with
        | none =>
          rw [bs, hb] at ih
          exact ⟨fun _ => ih, fun hc => absurd rfl hc⟩
        | some c =>
          have hlt := bs_lt hb
          rw [bs, hb] at ih
          have e1 := ix0 i (by omega)
          have e2 := ix0 c (by omega)
          refine ⟨fun hc => absurd hc (nI_neg1 (by omega)), fun _ => ⟨e1.1, e2.1, ?_⟩⟩
          show ((cl0 w).1 69 0 ((0 : Int32) + nI c).toNatClampNeg ≤ (cl0 w).1 69 0 ((0 : Int32) + nI i).toNatClampNeg → _) ∧ (¬ ((cl0 w).1 69 0 ((0 : Int32) + nI c).toNatClampNeg ≤ (cl0 w).1 69 0 ((0 : Int32) + nI i).toNatClampNeg) → _)
          rw [e1.2, e2.2, q.2.2.2.1]
          refine ⟨fun hc => ?_, fun hc => ?_⟩
          · simp only [Int32.not_lt.mpr hc, decide_false] at ih
            exact ih
          · simp only [Int32.not_le.mp hc, decide_true, if_true] at ih
            exact ih
    · refine b_X10_spare_34 F hk ⟨fun _ => ?_, fun hc => ?_⟩
      · unfold lvv
        refine ⟨fun h0 => ?_, fun h0 => ?_⟩
        · rw [if_pos h0]; exact km_cl h hok
        · rw [if_neg h0]
          cases hb : lv σ (tS T) with
          | none => exact ⟨fun hc => absurd rfl hc, fun _ => km_cl h hok⟩
          | some c =>
            have hlt : c < tS T := bs_lt hb
            have e2 := ix0 c (by omega)
            refine ⟨fun _ => ⟨e2.1, ?_⟩, fun hc => absurd (Classical.not_not.mp hc) (nI_neg1 (by omega))⟩
            show KM w (okB v 0 1) 1 1 (σ c) (some (.int ((cl0 w).1 69 0 ((0 : Int32) + nI c).toNatClampNeg))) (cl0 w)
            rw [e2.2, q.2.2.2.1]
            exact km_cl h hok
      · rw [q.2.1.1.1] at hc
        exact absurd (nI_le (Nat.le_refl _) (by omega)) hc
  exact con_i (m_in hl) ⟨fun h1 => f20 false (bI_not.mp h1), fun h1 => f20 true (bI_0 (Classical.not_not.mp h1))⟩
theorem m_alone (hl : l.stackTraces = false) {v : Int32} (h : RQ w T E σ) : C_X10_alone l G w [.ref (G.2.1 40 0), .int v] (KM w (okV v) 1 1 (aloF (fun s => sv T s == v) (tS T))) noX := by
  have hS := h.1.1
  refine e_X10_alone hl (fun M kk hM hk F => ?_)
  subst hM
  rintro _ rfl
  have q := h.cl
  have f18 : ∀ b : Bool, okV v = !b → Z M G 0 (KM w (okV v) 1 1 (aloF (fun s => sv T s == v) (tS T))) noX (cl0 w) 18 [some (.ref (G.2.1 40 0)), some (.int v), none, none, none] [.int (bI b), .ref (G.2.1 40 0)] := by
    intro b hb
    refine b_X10_alone_18 F hk (con_q hl (rs := 1) (by decide) (by decide) hb (fun hok => ?_))
    refine up_to (P := fun i => Z M G 0 _ _ (cl0 w) 35 [some (.ref (G.2.1 40 0)), some (.int v), some (.int (la (fun s => sv T s == v) i)), some (.int (nI (cn1 (fun s => sv T s == v) i))), some (.int (nI i))] []) (tS T) (fun i hi ih => ?_) ?_
    · have hii : vp_in (nI i) 7 := vp_in_nI (by omega) (by decide)
      refine b_X10_alone_35 F hk ⟨fun hc => ?_, fun _ => ⟨hii, ?_⟩⟩
      · rw [q.2.1.1.1] at hc
        exact absurd hc (nI_ge hi (by omega))
      · rw [nI_clamp (by omega), (q.2.1.1.2.2.2.2.1 i hi).1]
        rw [cn1, la] at ih
        refine ⟨fun hc => b_X10_alone_65 F hk ⟨hii, ?_⟩, fun hc => b_X10_alone_65 F hk ⟨hii, ?_⟩⟩
        · rw [nI_clamp (by omega), (q.2.1.1.2.2.2.2.1 i hi).1, ← nI_succ, Int32.add_zero]
          rw [if_neg (fun z => hc (beq_iff_eq.mp z)), if_neg (fun z => hc (beq_iff_eq.mp z))] at ih
          exact ⟨fun _ => ih, fun hc2 => absurd hc hc2⟩
        · rw [nI_clamp (by omega), (q.2.1.1.2.2.2.2.1 i hi).1, ← nI_succ, ← nI_succ]
          rw [if_pos (beq_iff_eq.mpr (Classical.not_not.mp hc)), if_pos (beq_iff_eq.mpr (Classical.not_not.mp hc))] at ih
          exact ⟨fun hc2 => absurd hc2 hc, fun _ => ih⟩
    · have hcn := cn1_n (fun s => sv T s == v) (tS T)
      refine b_X10_alone_35 F hk ⟨fun _ => ?_, fun hc => ?_⟩
      · have e1 : (nI (cn1 (fun s => sv T s == v) (tS T)) = 1) ↔ cn1 (fun s => sv T s == v) (tS T) = 1 := nI_eq (by omega) (show 1 < 2 ^ 31 by decide)
        rw [e1]
        unfold aloF
        refine ⟨fun hc => ?_, fun hc => ?_⟩
        · rw [if_neg hc]; exact km_cl h hok
        · rw [if_pos (Classical.not_not.mp hc)]; exact km_cl h hok
      · rw [q.2.1.1.1] at hc
        exact absurd (nI_le (Nat.le_refl _) (by omega)) hc
  exact con_i (m_isVowel hl) ⟨fun h1 => f18 false (bI_not.mp h1), fun h1 => f18 true (bI_0 (Classical.not_not.mp h1))⟩
end RA
