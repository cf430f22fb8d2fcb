/-! More of the class's questions: what stays while they are asked. -/
def CQ (w : Wd) (T : Tx) (E : Ex) (σ : Sg) : Prop := Tok T ∧ StC w T E ∧ SceneC w 0 σ (tN T)
theorem CQ.mvS {w w' : Wd} {T : Tx} {E : Ex} {σ : Sg} {S : Nat → Nat → Nat → Prop} (h : CQ w T E σ) (hs : Sm S w w') (hS : ∀ κ j k, S κ j k → GC κ j k) : CQ w' T E σ :=
  ⟨h.1, h.2.1.mv (hs.mono hS) (fun κ b k q => by unfold GC; omega), h.2.2.mv (hs.mono hS) (fun κ k q => by unfold GC; omega)⟩
theorem CQ.mv {w w' : Wd} {T : Tx} {E : Ex} {σ : Sg} (h : CQ w T E σ) (hs : Sm GC w w') : CQ w' T E σ := h.mvS hs (fun _ _ _ q => q)
theorem GJ_GC : ∀ κ j k, GJ 68 κ j k → GC κ j k := by
  intro κ j k h
  unfold GJ at h
  unfold GC
  omega
theorem G2_GC : ∀ κ j k, G2 κ j k → GC κ j k := by
  intro κ j k h
  unfold G2 at h
  unfold GC
  omega
/-- least by f -/
def lv (f : Nat → Int32) (n : Nat) : Option Nat := bs (fun a b => decide (f a < f b)) n
def lvv (f : Nat → Int32) (n : Nat) (what : Int32) : Int32 := if what = 0 then oI (lv f n) else match lv f n with
  | none => -1
  | some b => f b
/-- how many, and the last -/
def cn1 (p : Nat → Bool) : Nat → Nat
  | 0 => 0
  | n + 1 => if p n then cn1 p n + 1 else cn1 p n
def la (p : Nat → Bool) : Nat → Int32
  | 0 => -1
  | n + 1 => if p n then nI n else la p n
theorem la_0 {p : Nat → Bool} {n : Nat} (h : cn1 p n = 0) : la p n = -1 := by
  induction n with
  | zero => rfl
  | succ n ih =>
    rw [cn1] at h
    rw [la]
    split at h
    · omega
    · rename_i hq
      rw [if_neg hq]
      exact ih h
theorem la_1 {p : Nat → Bool} {n : Nat} (hn : n < 2 ^ 31) (h : 0 < cn1 p n) : ¬ la p n = -1 := by
  induction n with
  | zero => exact absurd h (Nat.lt_irrefl _)
  | succ n ih =>
    rw [cn1] at h
    rw [la]
    split at h
    · rename_i hq
      rw [if_pos hq]
      exact nI_neg1 (by omega)
    · rename_i hq
      rw [if_neg hq]
      exact ih (by omega) h
theorem cn1_le {p : Nat → Bool} {i n : Nat} (h : i ≤ n) : cn1 p i ≤ cn1 p n := by
  induction n with
  | zero => rw [show i = 0 by omega]; exact Nat.le_refl _
  | succ n ih =>
    by_cases hq : i = n + 1
    · rw [hq]; exact Nat.le_refl _
    · have := ih (by omega)
      rw [cn1]
      split <;> omega
def aloF (p : Nat → Bool) (n : Nat) : Int32 := if cn1 p n = 1 then la p n else -1
/-- neighbours -/
def hdm (σ : Sg) (v u : Int32) (k : Nat) : Bool := (σ (35 + k) == v && σ (36 + k) == u) || (σ (35 + k) == u && σ (36 + k) == v)
def hdF (σ : Sg) (v u : Int32) : Nat → Int32
  | 0 => 0
  | k + 1 => hdF σ v u k + bI (hdm σ v u k)
def hdO (T : Tx) (σ : Sg) (v u : Int32) : Int32 := if v = u then 0 else hdF σ v u (tN T - 1)
section QB
variable {l : Launch} {G : Gx} {w : Wd} {T : Tx} {E : Ex} {σ : Sg}
theorem c_spare (hl : l.stackTraces = false) {v : Int32} (h : CQ w T E σ) : C_X9_spare l G w [.ref (G.2.1 0 0), .int v] (KC w (okB v 0 1) (lvv σ (tS T) v)) (XT w (okB v 0 1)) := by
  obtain ⟨hT, hst, hsc⟩ := h
  have hS7 := hT.1
  refine e_X9_spare hl (fun M kk hM hk F => ?_)
  subst hM
  refine con_i (c_within hl) (con_dem hl (fun h => ?_) (fun h => ⟨h, rfl, rfl⟩))
  have e0 := hst.2.2.1.1
  refine up_to (P := fun i => Z M G 1 _ _ w 26 [some (.ref (G.2.1 0 0)), some (.int v), some (.ref (G.2.1 17 0)), some (.int (oI (lv σ i))), some (.int (nI i))] []) (tS T) (fun i hi ih => ?_) ?_
  · refine b_X9_spare_26 F hk ⟨fun hc => ?_, fun _ => ?_⟩
    · rw [e0] at hc
      exact absurd hc (nI_ge hi (by omega))
    · rw [← nI_succ]
      unfold lv at ih ⊢
      cases hb : bs (fun a b => decide (σ a < σ b)) i with
      | none =>
        rw [bs, hb] at ih
        exact ⟨fun _ => ih, fun hc => absurd rfl hc⟩
      | some b =>
        have hlt := bs_lt hb
        rw [bs, hb] at ih
        refine ⟨fun hc => absurd hc (nI_neg1 (by omega)), fun _ => ⟨vp_in_nI (by omega) (by decide), vp_in_nI (show b < 7 by omega) (by decide), ?_⟩⟩
        show (w.1 17 0 (nI b).toNatClampNeg ≤ w.1 17 0 (nI i).toNatClampNeg → _) ∧ (¬ (w.1 17 0 (nI b).toNatClampNeg ≤ w.1 17 0 (nI i).toNatClampNeg) → _)
        rw [nI_clamp (by omega), nI_clamp (by omega), (hsc.2.2.1 i (by omega)).1, (hsc.2.2.1 b (by omega)).1]
        refine ⟨fun hc => ?_, fun hc => ?_⟩
        · simp only [Int32.not_lt.mpr hc, decide_false] at ih
          exact ih
        · simp only [Int32.not_le.mp hc, decide_true, if_true] at ih
          exact ih
  · refine b_X9_spare_26 F hk ⟨fun _ => ?_, fun hc => ?_⟩
    · unfold lvv
      refine ⟨fun h0 => ⟨h, by rw [if_pos h0], Sm.rf⟩, fun h0 => ?_⟩
      cases hb : lv σ (tS T) with
      | none => exact ⟨fun hc => absurd rfl hc, fun _ => ⟨h, by rw [if_neg h0]; rfl, Sm.rf⟩⟩
      | some b =>
        have hlt : b < tS T := bs_lt hb
        refine ⟨fun _ => ⟨vp_in_nI (by omega) (by decide), h, ?_, Sm.rf⟩, fun hc => absurd (Classical.not_not.mp hc) (nI_neg1 (by omega))⟩
        rw [if_neg h0]
        show some (Value.int (w.1 17 0 (nI b).toNatClampNeg)) = _
        rw [nI_clamp (by omega), (hsc.2.2.1 b (by omega)).1]
    · rw [e0] at hc
      exact absurd (nI_le (Nat.le_refl _) (by omega)) hc
theorem c_alone (hl : l.stackTraces = false) {v : Int32} (h : CQ w T E σ) : C_X9_alone l G w [.ref (G.2.1 0 0), .int v] (KC w (okV v) (aloF (fun s => sv T s == v) (tS T))) (XT w (okV v)) := by
  obtain ⟨hT, hst, hsc⟩ := h
  have hS7 := hT.1
  refine e_X9_alone hl (fun M kk hM hk F => ?_)
  subst hM
  refine con_i (c_isVowel hl) (con_dem hl (fun h => ?_) (fun h => ⟨h, rfl, rfl⟩))
  have e0 := hst.2.2.1.1
  refine up_to (P := fun i => cn1 (fun s => sv T s == v) i ≤ 1 → Z M G 1 _ _ w 12 [some (.ref (G.2.1 0 0)), some (.int v), some (.int (la (fun s => sv T s == v) i)), some (.int (nI i))] []) (tS T) (fun i hi ih hle => ?_) ?_ (Nat.zero_le _)
  · refine b_X9_alone_12 F hk ⟨fun hc => ?_, fun _ => ⟨vp_in_nI (by omega) (by decide), ?_⟩⟩
    · rw [e0] at hc
      exact absurd hc (nI_ge hi (by omega))
    · rw [← nI_succ, nI_clamp (by omega), (hst.2.2.1.2.2.2.2.1 i hi).1]
      rw [cn1, la] at ih
      refine ⟨fun hc => ?_, fun hc => ?_⟩
      · rw [if_pos (beq_iff_eq.mpr hc), if_pos (beq_iff_eq.mpr hc)] at ih
        refine ⟨fun h1 => ih ?_, fun h1 => ⟨h, ?_, Sm.rf⟩⟩
        · have : ¬ 0 < cn1 (fun s => sv T s == v) i := fun q => la_1 (by omega) q h1
          omega
        · have h2 : cn1 (fun s => sv T s == v) i ≠ 0 := fun q => h1 (la_0 q)
          have h3 := cn1_le (p := fun s => sv T s == v) (show i + 1 ≤ tS T by omega)
          rw [cn1, if_pos (beq_iff_eq.mpr hc)] at h3
          unfold aloF
          rw [if_neg (by omega)]
      · rw [if_neg (fun z => hc (beq_iff_eq.mp z)), if_neg (fun z => hc (beq_iff_eq.mp z))] at ih
        exact ih hle
  · intro hle
    refine b_X9_alone_12 F hk ⟨fun _ => ⟨h, ?_, Sm.rf⟩, fun hc => ?_⟩
    · unfold aloF
      by_cases h1 : cn1 (fun s => sv T s == v) (tS T) = 1
      · rw [if_pos h1]
      · rw [if_neg h1, la_0 (by omega)]
    · rw [e0] at hc
      exact absurd (nI_le (Nat.le_refl _) (by omega)) hc
theorem c_handedOn (hl : l.stackTraces = false) {v u : Int32} (h : CQ w T E σ) : C_X9_handedOn l G w [.ref (G.2.1 0 0), .int v, .int u] (fun r w' => r = some (.int (hdO T σ v u)) ∧ w' = w) noX := by
  obtain ⟨hT, hst, hsc⟩ := h
  have hN := hT.2.1
  have e1 := hst.2.2.1.2.1
  refine e_X9_handedOn hl (fun M kk hM hk F => ⟨fun hne => ?_, fun he => ⟨by unfold hdO; rw [if_pos (Classical.not_not.mp he)], rfl⟩⟩)
  refine up_to (P := fun i => Z M G 0 _ _ w 24 [some (.ref (G.2.1 0 0)), some (.int v), some (.int u), some (.ref (G.2.1 21 0)), some (.int (hdF σ v u i)), some (.int (nI (i + 1))), none, none] []) (tN T - 1) (fun i hi ih => ?_) ?_
  · have s1 := hsc.2.2.2.1 i (by omega)
    have s2 := hsc.2.2.2.1 (i + 1) (by omega)
    rw [show 35 + (i + 1) = 36 + i by omega] at s2
    have c1 : (nI (i + 1) - 1 : Int32).toNatClampNeg = i := by rw [nI_pred, nI_clamp (by omega)]
    have c2 : (nI (i + 1)).toNatClampNeg = i + 1 := nI_clamp (by omega)
    have i1 : vp_in (nI (i + 1) - 1) 20 := by rw [nI_pred]; exact vp_in_nI (by omega) (by decide)
    have i2 : vp_in (nI (i + 1)) 20 := vp_in_nI (by omega) (by decide)
    rw [hdF] at ih
    have f87 : ∀ a b : Bool, hdm σ v u i = (a || b) → Z M G 0 (fun r w' => r = some (.int (hdO T σ v u)) ∧ w' = w) noX w 87 [some (.ref (G.2.1 0 0)), some (.int v), some (.int u), some (.ref (G.2.1 21 0)), some (.int (hdF σ v u i)), some (.int (nI (i + 1))), some (.int (bI a)), none] [.int (bI b)] := by
      intro a b hab
      have e2 : nI (i + 1) + 1 = nI (i + 1 + 1) := by rw [← nI_succ]
      rw [hab, ← e2] at ih
      cases a <;> cases b
      · exact b_X9_handedOn_87 F hk ⟨fun hc => absurd rfl hc, fun _ => ⟨fun _ => ih, fun hc => absurd rfl hc⟩⟩
      · exact b_X9_handedOn_87 F hk ⟨fun hc => absurd rfl hc, fun _ => ⟨fun hc => absurd hc (by decide), fun _ => ih⟩⟩
      · exact b_X9_handedOn_87 F hk ⟨fun _ => ih, fun hc => absurd (by decide) hc⟩
      · exact b_X9_handedOn_87 F hk ⟨fun _ => ih, fun hc => absurd (by decide) hc⟩
    have f62 : ∀ a : Bool, (σ (35 + i) == v && σ (36 + i) == u) = a → Z M G 0 (fun r w' => r = some (.int (hdO T σ v u)) ∧ w' = w) noX w 62 [some (.ref (G.2.1 0 0)), some (.int v), some (.int u), some (.ref (G.2.1 21 0)), some (.int (hdF σ v u i)), some (.int (nI (i + 1))), none, none] [.int (bI a)] := by
      intro a ha
      refine b_X9_handedOn_62 F hk ⟨i1, ?_⟩
      rw [c1, c2, s1, s2]
      refine ⟨fun hc => b_X9_handedOn_86 F hk (f87 a false ?_), fun hc => ⟨i2, fun hc2 => b_X9_handedOn_86 F hk (f87 a false ?_), fun hc2 => f87 a true ?_⟩⟩
      · unfold hdm
        rw [ha, beq_eq_false_iff_ne.mpr hc, Bool.false_and]
      · unfold hdm
        rw [ha, beq_eq_false_iff_ne.mpr hc2, Bool.and_false]
      · unfold hdm
        rw [ha, beq_iff_eq.mpr (Classical.not_not.mp hc), beq_iff_eq.mpr (Classical.not_not.mp hc2)]
        rfl
    refine b_X9_handedOn_24 F hk ⟨fun hc => ?_, fun _ => ⟨i1, ?_⟩⟩
    · rw [e1] at hc
      exact absurd hc (nI_ge (by omega) (by omega))
    · rw [c1, c2, s1, s2]
      refine ⟨fun hc => b_X9_handedOn_61 F hk (f62 false ?_), fun hc => ⟨i2, fun hc2 => b_X9_handedOn_61 F hk (f62 false ?_), fun hc2 => f62 true ?_⟩⟩
      · rw [beq_eq_false_iff_ne.mpr hc, Bool.false_and]
      · rw [beq_eq_false_iff_ne.mpr hc2, Bool.and_false]
      · rw [beq_iff_eq.mpr (Classical.not_not.mp hc), beq_iff_eq.mpr (Classical.not_not.mp hc2)]
        rfl
  · refine b_X9_handedOn_24 F hk ⟨fun _ => ⟨by unfold hdO; rw [if_neg hne], rfl⟩, fun hc => ?_⟩
    rw [e1] at hc
    exact absurd (nI_le (by omega) (by omega)) hc
theorem c_handed (hl : l.stackTraces = false) {v u : Int32} (h : CQ w T E σ) : C_X9_handed l G w [.ref (G.2.1 0 0), .int v, .int u] (KC w (okV v && okV u) (hdO T σ v u)) (XT w (okV v && okV u)) := by
  refine e_X9_handed hl (fun M kk hM hk F => ?_)
  subst hM
  have f20 : ∀ b : Bool, (okV v && okV u) = b → Z M G 0 (KC w (okV v && okV u) (hdO T σ v u)) (XT w (okV v && okV u)) w 20 [some (.ref (G.2.1 0 0)), some (.int v), some (.int u)] [.int (bI b), .ref (G.2.1 0 0)] := by
    intro b hb
    refine b_X9_handed_20 F hk (con_dem hl (fun h1 => con_i (c_handedOn hl h) ⟨hb.trans h1, rfl, Sm.rf⟩) (fun h1 => ⟨hb.trans h1, rfl, rfl⟩))
  refine con_i (c_isVowel hl) ⟨fun h1 => b_X9_handed_19 F hk (f20 false ?_), fun h1 => con_i (c_isVowel hl) ⟨fun h2 => b_X9_handed_19 F hk (f20 false ?_), fun h2 => f20 true ?_⟩⟩
  · rw [show okV v = false from bI_0 h1]; rfl
  · rw [show okV u = false from bI_0 h2, Bool.and_false]
  · rw [show okV v = true from bI_not.mp h1, show okV u = true from bI_not.mp h2]; rfl
theorem c_sungByNow (hl : l.stackTraces = false) {n : Nat} (h : CQ w T E σ) (hn : n < tN T) : C_X9_sungByNow l G w [.ref (G.2.1 0 0), .int (nI n)] (fun r w' => r = some (.int (sbI T E σ n)) ∧ Sm GC w w') noX := by
  refine e_X9_sungByNow hl (fun M kk hM hk F => ?_)
  subst hM
  refine con_vP (c_become hl (i := 68) (by decide) (by decide) h.1.2.1 h.2.2) (fun w1 h1 => ?_)
  have q1 := h.mvS h1.2 GJ_GC
  exact con_iP (c_singNote hl (j := 68) (by decide) h.1 q1.2.1 h1.1 hn) (fun w2 h2 => ⟨rfl, (h1.2.mono GJ_GC).tr (h2.2.mono GJ_GC)⟩)
theorem c_mute (hl : l.stackTraces = false) (h : CQ w T E σ) : C_X9_mute l G w [.ref (G.2.1 0 0)] (KC w true (ob (fun n => sbI T E σ n == -1) (tN T))) noX := by
  have hN := h.1.2.1
  refine e_X9_mute hl (fun M kk hM hk F => ?_)
  subst hM
  refine up_to (P := fun i => ∀ w', Sm GC w w' → Z M G 0 _ _ w' 4 [some (.ref (G.2.1 0 0)), some (.int (ob (fun n => sbI T E σ n == -1) i)), some (.int (nI i))] []) (tN T) (fun i hi ih w' hs => ?_) (fun w' hs => ?_) w Sm.rf
  · have q := h.mv hs
    refine b_X9_mute_4 F hk ⟨fun hc => ?_, fun _ => con_iP (c_sungByNow hl q hi) (fun w2 h2 => ?_)⟩
    · rw [q.2.1.2.2.1.2.1] at hc
      exact absurd hc (nI_ge hi (by omega))
    · rw [← nI_succ]
      rw [ob] at ih
      have ih := ih w2 (hs.tr h2)
      refine ⟨fun hc => ?_, fun hc => ?_⟩
      · rw [if_neg (fun z => hc (beq_iff_eq.mp z))] at ih
        exact ih
      · rw [if_pos (beq_iff_eq.mpr (Classical.not_not.mp hc))] at ih
        exact ih
  · have q := h.mv hs
    refine b_X9_mute_4 F hk ⟨fun _ => ⟨rfl, rfl, hs⟩, fun hc => ?_⟩
    rw [q.2.1.2.2.1.2.1] at hc
    exact absurd (nI_le (Nat.le_refl _) (by omega)) hc
theorem c_idle (hl : l.stackTraces = false) (h : CQ w T E σ) : C_X9_idle l G w [.ref (G.2.1 0 0)] (KC w true (ob (fun s => (hymF T E σ (tN T)).1 (14 + s) == σ (14 + s)) (tS T))) noX := by
  have hS := h.1.1
  refine e_X9_idle hl (fun M kk hM hk F => ?_)
  subst hM
  refine con_vP (c_become hl (i := 68) (by decide) (by decide) h.1.2.1 h.2.2) (fun w1 h1 => ?_)
  have q1 := h.mvS h1.2 GJ_GC
  refine con_iP (c_singHymn hl (j := 68) (by decide) h.1 q1.2.1 h1.1) (fun w2 h2 => ?_)
  have hs := (h1.2.mono GJ_GC).tr (h2.2.mono GJ_GC)
  have q := h.mv hs
  refine up_to (P := fun i => Z M G 0 _ _ w2 30 [some (.ref (G.2.1 0 0)), some (.int (ob (fun s => (hymF T E σ (tN T)).1 (14 + s) == σ (14 + s)) i)), some (.int (nI i))] []) (tS T) (fun i hi ih => ?_) ?_
  · have hii : vp_in (nI i) 7 := vp_in_nI (by omega) (by decide)
    refine b_X9_idle_30 F hk ⟨fun hc => ?_, fun _ => ⟨hii, hii, ?_⟩⟩
    · rw [q.2.1.2.2.1.1] at hc
      exact absurd hc (nI_ge hi (by omega))
    · rw [← nI_succ, nI_clamp (by omega), (h2.1.2.2.1 i (by omega)).2.1, (q.2.2.2.2.1 i (by omega)).2.1]
      rw [ob] at ih
      refine ⟨fun hc => ?_, fun hc => ?_⟩
      · rw [if_neg (fun z => hc (beq_iff_eq.mp z))] at ih
        exact ih
      · rw [if_pos (beq_iff_eq.mpr (Classical.not_not.mp hc))] at ih
        exact ih
  · refine b_X9_idle_30 F hk ⟨fun _ => ⟨rfl, rfl, hs⟩, fun hc => ?_⟩
    rw [q.2.1.2.2.1.1] at hc
    exact absurd (nI_le (Nat.le_refl _) (by omega)) hc
theorem c_wordedAnew (hl : l.stackTraces = false) (h : CQ w T E σ) : C_X9_wordedAnew l G w [.ref (G.2.1 0 0)] (fun r w' => r = some (.int (ob (fun n => !(σ (35 + n) == nv T n)) (tN T))) ∧ w' = w) noX := by
  have hN := h.1.2.1
  refine e_X9_wordedAnew hl (fun M kk hM hk F => ?_)
  refine up_to (P := fun i => Z M G 0 _ _ w 4 [some (.ref (G.2.1 0 0)), some (.int (ob (fun n => !(σ (35 + n) == nv T n)) i)), some (.int (nI i))] []) (tN T) (fun i hi ih => ?_) ?_
  · have hii : vp_in (nI i) 20 := vp_in_nI (by omega) (by decide)
    refine b_X9_wordedAnew_4 F hk ⟨fun hc => ?_, fun _ => ⟨hii, hii, ?_⟩⟩
    · rw [h.2.1.2.2.1.2.1] at hc
      exact absurd hc (nI_ge hi (by omega))
    · rw [← nI_succ, nI_clamp (by omega), h.2.2.2.2.2.1 i hi, (h.2.1.2.2.1.2.2.2.2.2.1 i hi).1]
      rw [ob] at ih
      refine ⟨fun hc => ?_, fun hc => ?_⟩
      · rw [beq_iff_eq.mpr hc] at ih
        exact ih
      · rw [beq_eq_false_iff_ne.mpr hc] at ih
        exact ih
  · refine b_X9_wordedAnew_4 F hk ⟨fun _ => ⟨rfl, rfl⟩, fun hc => ?_⟩
    rw [h.2.1.2.2.1.2.1] at hc
    exact absurd (nI_le (Nat.le_refl _) (by omega)) hc
theorem c_outOfBreath (hl : l.stackTraces = false) {τ : Sg} {j : Nat} (hj : j < 69) (hT : Tok T) (hst : StC w T E) (hsc : SceneC w j τ (tN T)) : C_X9_outOfBreath l G w [.ref (G.2.1 0 0), .ref (G.2.1 5 j)] (fun r w' => r = some (.int (ob (fun s => τ s == 0) (tS T))) ∧ w' = w) noX := by
  have hS := hT.1
  refine e_X9_outOfBreath hj hl (fun M kk hM hk F => ?_)
  subst hM
  rw [hst.2.2.1.1]
  refine con_i (c_places hl (m := 7) rfl hj (by decide) hS) ⟨?_, rfl⟩
  rw [ob_congr (fun s hs => by rw [(hsc.2.2.1 s (by omega)).1])]
end QB
