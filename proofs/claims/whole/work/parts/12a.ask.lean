/-! Questions: what they may write, how they refuse; the class's first ones. -/
def bumpT (w : Wd) : Wd := setI w 0 0 16 (w.1 0 0 16 + 1)
def bumpF (w : Wd) : Wd := setI w 0 0 15 (w.1 0 0 15 + 1)
/-- the class's scratch -/
def GC (κ j k : Nat) : Prop := κ = 33 ∨ κ = 37 ∨ (j = 68 ∧ (κ = 5 ∨ (17 ≤ κ ∧ κ ≤ 21))) ∨ κ = 24 ∨ κ = 6 ∨ κ = 22 ∨ κ = 23 ∨ (κ = 0 ∧ k = 14)
/-- the reference's -/
def GM (κ j k : Nat) : Prop := κ = 65 ∨ κ = 66 ∨ (κ = 69 ∧ j = 1) ∨ κ = 73 ∨ κ = 74 ∨ (κ = 40 ∧ (k = 0 ∨ k = 38 ∨ k = 43 ∨ k = 45))
abbrev KC (w : Wd) (ok : Bool) (v : Int32) : Option Value → Wd → Prop := fun r w' => ok = true ∧ r = some (.int v) ∧ Sm GC w w'
abbrev XT (w : Wd) (ok : Bool) : String → Wd → Prop := fun E w' => ok = false ∧ E = nIae ∧ w' = bumpT w
abbrev XF (w : Wd) (ok : Bool) : String → Wd → Prop := fun E w' => ok = false ∧ E = nNse ∧ w' = bumpF w
def bpM (w : Wd) (what : Int32) (rs : Nat) : Wd := setI (setI w 40 0 0 what) 42 0 rs (w.1 42 0 rs + 1)
/-- nothing lies beyond a state's 57 places -/
def Jk (τ : Sg) : Prop := ∀ q, 57 ≤ q → τ q = 0
def cl0 (w : Wd) : Wd := setI w 40 0 0 0
abbrev KM (w : Wd) (ok : Bool) (what : Int32) (rs : Nat) (v : Int32) : Option Value → Wd → Prop := fun r w' => ∃ b : Int32, r = some (.int b) ∧ (ok = true → b = v ∧ w'.1 40 0 0 = 0 ∧ Sm GM w w' ∧ Jk (w'.1 69 1)) ∧ (ok = false → w' = bpM (cl0 w) what rs)
/-- a vowel, a choice -/
def okV (v : Int32) : Bool := decide (0 ≤ v) && decide (v ≤ 5)
def okI (v : Int32) (n : Nat) : Bool := decide (0 ≤ v) && decide (v < nI n)
def okB (v a b : Int32) : Bool := decide (a ≤ v) && decide (v ≤ b)
theorem okI_of {v : Int32} {n : Nat} (h : okI v n = true) (hn : n < 2 ^ 31) : ∃ i, i < n ∧ v = nI i := by
  unfold okI at h
  simp only [Bool.and_eq_true, decide_eq_true_eq] at h
  obtain ⟨i, hi, rfl⟩ := nI_of (Int32.not_lt.mpr h.1)
  exact ⟨i, (nI_ltI hi hn).mp h.2, rfl⟩
theorem fa0_le (a b : Int32) : a ≤ b ↔ a.toInt ≤ b.toInt := Int32.le_iff_toInt_le
theorem fa0_neg : (nI 0 - 1).toInt = -1 := rfl
theorem okI_le0 {i : Nat} (hi : i < 2 ^ 31) : ¬ nI i ≤ nI 0 - 1 := by
  intro q
  rw [fa0_le, nI_toInt hi, fa0_neg] at q
  omega
theorem okI_leS {i n : Nat} (hi : i < 2 ^ 31) (hn : n ≤ 999) : nI i ≤ nI n ↔ nI i < nI (n + 1) := by
  rw [nI_leI hi (by omega), nI_ltI hi (by omega)]
  omega
theorem okI_le {v : Int32} {n : Nat} (hn : n ≤ 1000) : (decide (0 ≤ v) && decide (v ≤ nI n - 1)) = okI v n := by
  unfold okI
  by_cases h : 0 ≤ v
  · obtain ⟨i, hi, rfl⟩ := nI_of (Int32.not_lt.mpr h)
    cases n with
    | zero => rw [decide_eq_false (okI_le0 hi), decide_eq_false (nI_nlt (Nat.zero_le _) hi)]
    | succ n =>
      rw [nI_pred, decide_eq_decide.mpr (okI_leS hi (by omega))]
  · rw [decide_eq_false h, Bool.false_and, Bool.false_and]
theorem bI_not {b : Bool} : (¬ bI b = 0) ↔ b = true := by cases b <;> decide
theorem bI_0 {b : Bool} (h : bI b = 0) : b = false := bI_t.mp h
section QA
variable {l : Launch} {G : Gx} {w : Wd} {X : String → Wd → Prop}
theorem con_dem (hl : l.stackTraces = false) {b : Bool} {Fm : Wd → Prop} (h : b = true → Fm w) (hx : b = false → X nIae (bumpT w)) : C_X9_demand l G w [.ref (G.2.1 0 0), .int (bI b)] (fun r w' => r = none ∧ Fm w') X :=
  con_mono (c_demand hl) (fun _ _ q => ⟨q.1, by rw [q.2.2]; exact h q.2.1⟩) (fun _ _ q => by rw [q.1, q.2.2]; exact hx q.2.1)
theorem con_fnd (hl : l.stackTraces = false) {b : Bool} {Fm : Wd → Prop} (h : b = true → Fm w) (hx : b = false → X nNse (bumpF w)) : C_X9_find l G w [.ref (G.2.1 0 0), .int (bI b)] (fun r w' => r = none ∧ Fm w') X :=
  con_mono (c_find hl) (fun _ _ q => ⟨q.1, by rw [q.2.2]; exact h q.2.1⟩) (fun _ _ q => by rw [q.1, q.2.2]; exact hx q.2.1)
theorem m_bad (hl : l.stackTraces = false) {b : Bool} {what : Int32} {rs : Nat} (ht : w.1 40 0 0 = 0) (hw : ¬ what = 0) (hr : rs < 2) : C_X10_bad l G w [.ref (G.2.1 40 0), .int (bI b), .int what, .int (nI rs)] (fun r w' => r = some (.int (bI b)) ∧ w' = if b then bpM w what rs else w) noX := by
  have hii : vp_in (nI rs) 2 := vp_in_nI hr (by decide)
  refine e_X10_bad hl (fun M kk hM hk F => ⟨fun h => ?_, fun h => ⟨fun h2 => absurd ht h2, fun _ w1 hw1 => ⟨hii, hii, fun w2 hw2 => ?_⟩⟩⟩)
  · rw [bI_0 h]
    exact b_X10_bad_26 F hk ⟨fun _ => ⟨rfl, rfl⟩, fun hc => absurd ht hc⟩
  · rw [bI_not.mp h]
    have e2 : w2 = bpM w what rs := by
      rw [hw2, hw1, nI_clamp (by omega)]
      unfold bpM
      rw [setI_ne (w := w) (by omega)]
    have e0 : w2.1 40 0 0 = what := by
      rw [e2]
      unfold bpM
      rw [setI_ne (by omega), setI_eq]
    exact b_X10_bad_26 F hk ⟨fun hc => absurd (e0.symm.trans hc) hw, fun _ => ⟨rfl, e2⟩⟩
theorem con_bad (hl : l.stackTraces = false) {b : Bool} {what : Int32} {rs : Nat} {Fm : Int32 → Wd → Prop} (ht : w.1 40 0 0 = 0) (hw : ¬ what = 0) (hr : rs < 2) (h0 : b = false → Fm 0 w) (h1 : b = true → Fm 1 (bpM w what rs)) : C_X10_bad l G w [.ref (G.2.1 40 0), .int (bI b), .int what, .int (nI rs)] (fun r w' => ∃ v : Int32, r = some (.int v) ∧ Fm v w') X := by
  refine con_mono (m_bad hl ht hw hr) ?_ (fun _ _ h => h.elim)
  rintro _ _ ⟨rfl, rfl⟩
  refine ⟨_, rfl, ?_⟩
  cases b
  · exact h0 rfl
  · exact h1 rfl
theorem c_voices (hl : l.stackTraces = false) {T : Tx} {E : Ex} {v : Int32} (hT : Tok T) (hst : StC w T E) : C_X9_voices l G w [.ref (G.2.1 0 0), .int v] (KC w (okV v) (ob (fun s => sv T s == v) (tS T))) (XT w (okV v)) := by
  have hS7 := hT.1
  refine e_X9_voices hl (fun M kk hM hk F => ?_)
  subst hM
  refine con_i (c_isVowel hl) (con_dem hl (fun h => ?_) (fun h => ⟨h, rfl, rfl⟩))
  rw [hst.2.2.1.1]
  refine con_i (c_places hl (m := 7) rfl hst.1 (by decide) hS7) ⟨h, ?_, Sm.rf⟩
  rw [ob_congr (fun s hs => by rw [(hst.2.2.1.2.2.2.2.1 s hs).1])]
theorem c_sounds (hl : l.stackTraces = false) {T : Tx} {E : Ex} {σ : Sg} {v : Int32} (hT : Tok T) (hst : StC w T E) (hsc : SceneC w 0 σ (tN T)) : C_X9_sounds l G w [.ref (G.2.1 0 0), .int v] (KC w (okV v) (ob (fun n => σ (35 + n) == v) (tN T))) (XT w (okV v)) := by
  have hN := hT.2.1
  refine e_X9_sounds hl (fun M kk hM hk F => ?_)
  subst hM
  refine con_i (c_isVowel hl) (con_dem hl (fun h => ?_) (fun h => ⟨h, rfl, rfl⟩))
  rw [hst.2.2.1.2.1]
  refine con_i (c_places hl (m := 20) rfl (by decide) (by decide) hN) ⟨h, ?_, Sm.rf⟩
  rw [ob_congr (fun n hn => by rw [hsc.2.2.2.1 n hn])]
/-- lengths of the notes of vowel v -/
def btF (T : Tx) (σ : Sg) (v : Int32) : Nat → Int32
  | 0 => 0
  | n + 1 => if σ (35 + n) = v then btF T σ v n + nl T n else btF T σ v n
theorem c_beats (hl : l.stackTraces = false) {T : Tx} {E : Ex} {σ : Sg} {v : Int32} (hT : Tok T) (hst : StC w T E) (hsc : SceneC w 0 σ (tN T)) : C_X9_beats l G w [.ref (G.2.1 0 0), .int v] (KC w (okV v) (btF T σ v (tN T))) (XT w (okV v)) := by
  have hN := hT.2.1
  refine e_X9_beats hl (fun M kk hM hk F => ?_)
  subst hM
  refine con_i (c_isVowel hl) (con_dem hl (fun h => ?_) (fun h => ⟨h, rfl, rfl⟩))
  refine up_to (P := fun i => Z M G 1 _ _ w 12 [some (.ref (G.2.1 0 0)), some (.int v), some (.int (btF T σ v i)), some (.int (nI i))] []) (tN T) (fun i hi ih => ?_) ?_
  · have hii : vp_in (nI i) 20 := vp_in_nI (by omega) (by decide)
    refine b_X9_beats_12 F hk ⟨fun hc => ?_, fun _ => ⟨hii, ?_⟩⟩
    · rw [hst.2.2.1.2.1] at hc
      exact absurd hc (nI_ge hi (by omega))
    · rw [nI_clamp (by omega), hsc.2.2.2.1 i hi, (hst.2.2.1.2.2.2.2.2.1 i hi).2.1, ← nI_succ]
      rw [btF] at ih
      refine ⟨fun hc => ?_, fun hc => ⟨hii, ?_⟩⟩
      · rw [if_neg hc] at ih; exact ih
      · rw [if_pos (Classical.not_not.mp hc)] at ih; exact ih
  · refine b_X9_beats_12 F hk ⟨fun _ => ⟨h, rfl, Sm.rf⟩, fun hc => ?_⟩
    rw [hst.2.2.1.2.1] at hc
    exact absurd (nI_le (Nat.le_refl _) (by omega)) hc
theorem c_words (hl : l.stackTraces = false) {T : Tx} {E : Ex} {v : Int32} (hT : Tok T) (hst : StC w T E) : C_X9_words l G w [.ref (G.2.1 0 0), .int v] (KC w (okI v (tN T)) (wf T v.toNatClampNeg (tL T))) (XF w (okI v (tN T))) := by
  have hN := hT.2.1
  refine e_X9_words hl (fun M kk hM hk F => ?_)
  subst hM
  refine con_i (c_isNote hl) ?_
  rw [hst.2.2.1.2.1]
  refine con_fnd hl (fun h => ?_) (fun h => ⟨h, rfl, rfl⟩)
  obtain ⟨n, hn, rfl⟩ := okI_of h (by omega)
  refine ⟨vp_in_nI (by omega) (by decide), h, ?_, Sm.rf⟩
  rw [nI_clamp (by omega), (hst.2.2.1.2.2.2.2.2.1 n hn).2.2]
/-- the first that is most by f -/
def bm (f : Nat → Int32) (n : Nat) : Option Nat := bs (fun a b => decide (f b < f a)) n
/-- which, or how much -/
def bmv (f : Nat → Int32) (n : Nat) (what : Int32) : Int32 := if what = 0 then oI (bm f n) else match bm f n with
  | none => -1
  | some b => f b
theorem bm_congr {f g : Nat → Int32} {n : Nat} (h : ∀ i, i < n → f i = g i) : bm f n = bm g n := bs_congr (fun i j hi hj => by rw [h i hi, h j (by omega)])
theorem c_dearest (hl : l.stackTraces = false) {T : Tx} {E : Ex} {v : Int32} (hT : Tok T) (hst : StC w T E) : C_X9_dearest l G w [.ref (G.2.1 0 0), .int v] (KC w (okB v 0 1) (bmv (sp T) (tS T) v)) (XT w (okB v 0 1)) := by
  have hS7 := hT.1
  refine e_X9_dearest hl (fun M kk hM hk F => ?_)
  subst hM
  refine con_i (c_within hl) (con_dem hl (fun h => ?_) (fun h => ⟨h, rfl, rfl⟩))
  rw [hst.2.2.1.1]
  refine con_i (c_firstMost hl (m := 7) rfl hst.1 (by decide) hS7) ?_
  have e : bs (fun a b => decide (w.1 26 (w.2.2 2 0 0) b < w.1 26 (w.2.2 2 0 0) a)) (tS T) = bm (sp T) (tS T) := bm_congr (fun i hi => (hst.2.2.1.2.2.2.2.1 i hi).2.1)
  rw [e]
  unfold bmv
  refine ⟨fun h0 => ⟨h, by rw [if_pos h0], Sm.rf⟩, fun h0 => ?_⟩
  cases hb : bm (sp T) (tS T) with
  | none => exact ⟨fun hc => absurd rfl hc, fun _ => ⟨h, by rw [if_neg h0]; rfl, Sm.rf⟩⟩
  | some b =>
    have hlt : b < tS T := bs_lt hb
    refine ⟨fun _ => ⟨vp_in_nI (by omega) (by decide), h, ?_, Sm.rf⟩, fun hc => absurd (Classical.not_not.mp hc) (nI_neg1 (by omega))⟩
    rw [if_neg h0]
    show some (Value.int (w.1 26 (w.2.2 2 0 0) (nI b).toNatClampNeg)) = _
    rw [nI_clamp (by omega), (hst.2.2.1.2.2.2.2.1 b hlt).2.1]
theorem c_longest (hl : l.stackTraces = false) {T : Tx} {E : Ex} {v : Int32} (hT : Tok T) (hst : StC w T E) : C_X9_longest l G w [.ref (G.2.1 0 0), .int v] (KC w (okB v 0 1) (bmv (nl T) (tN T) v)) (XT w (okB v 0 1)) := by
  have hN := hT.2.1
  refine e_X9_longest hl (fun M kk hM hk F => ?_)
  subst hM
  refine con_i (c_within hl) (con_dem hl (fun h => ?_) (fun h => ⟨h, rfl, rfl⟩))
  rw [hst.2.2.1.2.1]
  refine con_i (c_firstMost hl (m := 20) rfl hst.1 (by decide) hN) ?_
  have e : bs (fun a b => decide (w.1 29 (w.2.2 2 0 0) b < w.1 29 (w.2.2 2 0 0) a)) (tN T) = bm (nl T) (tN T) := bm_congr (fun i hi => (hst.2.2.1.2.2.2.2.2.1 i hi).2.1)
  rw [e]
  unfold bmv
  refine ⟨fun h0 => ⟨h, by rw [if_pos h0], Sm.rf⟩, fun h0 => ?_⟩
  cases hb : bm (nl T) (tN T) with
  | none => exact ⟨fun hc => absurd rfl hc, fun _ => ⟨h, by rw [if_neg h0]; rfl, Sm.rf⟩⟩
  | some b =>
    have hlt : b < tN T := bs_lt hb
    refine ⟨fun _ => ⟨vp_in_nI (by omega) (by decide), h, ?_, Sm.rf⟩, fun hc => absurd (Classical.not_not.mp hc) (nI_neg1 (by omega))⟩
    rw [if_neg h0]
    show some (Value.int (w.1 29 (w.2.2 2 0 0) (nI b).toNatClampNeg)) = _
    rw [nI_clamp (by omega), (hst.2.2.1.2.2.2.2.2.1 b hlt).2.1]
end QA
