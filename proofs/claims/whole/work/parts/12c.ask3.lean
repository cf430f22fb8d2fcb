/-! Questions that may refuse in two ways; hymns ahead. -/
abbrev XX (w : Wd) (f t : Bool) : String → Wd → Prop := fun E w' => (f = false ∧ E = nNse ∧ w' = bumpF w) ∨ (f = true ∧ t = false ∧ E = nIae ∧ w' = bumpT w)
def sgF (T : Tx) (σ : Sg) (s : Nat) (what : Int32) : Int32 := if what = 0 then sv T s else if what = 1 then sp T s else if what = 2 then sb T s else if what = 3 then σ s else if what = 4 then σ (7 + s) else if what = 5 then σ (14 + s) else if what = 6 then σ (21 + s) else σ (28 + s)
def ntF (T : Tx) (E : Ex) (σ : Sg) (n : Nat) (what : Int32) : Int32 := if what = 0 then σ (35 + n) else if what = 1 then nv T n else if what = 2 then nl T n else sbI T E σ n
def lkF (T : Tx) (k : Nat) (what : Int32) : Int32 := if what = 0 then kn T k else kv T k
def f8 (a b c d e f g h : Int32) : Nat → Int32
  | 0 => a
  | 1 => b
  | 2 => c
  | 3 => d
  | 4 => e
  | 5 => f
  | 6 => g
  | 7 => h
  | _ => 0
/-- k hymns on -/
def ahS (T : Tx) (E : Ex) (σ : Sg) : Nat → Sg
  | 0 => σ
  | k + 1 => (hymF T E (ahS T E σ k) (tN T)).1
/-- the first k notes, nothing dropped -/
def dtS (T : Tx) (E : Ex) (σ : Sg) : Nat → Sg
  | 0 => σ
  | k + 1 => singF T E (dtS T E σ k) k
def rgF (T : Tx) (E : Ex) (σ : Sg) (s : Nat) : Nat → Int32
  | 0 => 0
  | k + 1 => if ahS T E σ (k + 1) (14 + s) ≤ ahS T E σ k (14 + s) then rgF T E σ s k else nI (k + 1)
/-- beyond the singers there is nothing -/
def Pd (T : Tx) (σ : Sg) : Prop := ∀ s, tS T ≤ s → s < 7 → σ s = 0 ∧ σ (7 + s) = 0 ∧ σ (14 + s) = 0 ∧ σ (21 + s) = 0 ∧ σ (28 + s) = 0
theorem Pd.sing {T : Tx} {E : Ex} {σ : Sg} {n : Nat} (hT : Tok T) (h : Pd T σ) : Pd T (singF T E σ n) := by
  have hS := hT.1
  intro s h1 h2
  unfold singF
  split
  · rename_i hlt
    rw [sung1_off (by omega) (by omega) (by omega), sung1_off (by omega) (by omega) (by omega), sung1_off (by omega) (by omega) (by omega), sung1_off (by omega) (by omega) (by omega), sung1_off (by omega) (by omega) (by omega)]
    exact h s h1 h2
  · exact h s h1 h2
theorem Pd.hym {T : Tx} {E : Ex} {σ : Sg} (hT : Tok T) (h : Pd T σ) : ∀ k, Pd T (hymF T E σ k).1 := by
  intro k
  induction k with
  | zero => exact h
  | succ k ih =>
    rw [hymF]
    split
    · exact ih.sing hT
    · intro s h1 h2
      show (if s = 55 then _ else _) = _ ∧ (if 7 + s = 55 then _ else _) = _ ∧ (if 14 + s = 55 then _ else _) = _ ∧ (if 21 + s = 55 then _ else _) = _ ∧ (if 28 + s = 55 then _ else _) = _
      rw [if_neg (by omega), if_neg (by omega), if_neg (by omega), if_neg (by omega), if_neg (by omega)]
      exact ih s h1 h2
theorem Pd.ah {T : Tx} {E : Ex} {σ : Sg} (hT : Tok T) (h : Pd T σ) : ∀ k, Pd T (ahS T E σ k) := by
  intro k
  induction k with
  | zero => exact h
  | succ k ih => exact ih.hym hT _
theorem Pd.sm0 {T : Tx} {σ : Sg} (hT : Tok T) (h : Pd T σ) : sm σ 7 = sm σ (tS T) := sm_0 hT.1 (fun s h1 h2 => (h s h1 h2).1)
theorem Pd.sm14 {T : Tx} {σ : Sg} (hT : Tok T) (h : Pd T σ) : sm (fun s => σ (14 + s)) 7 = sm (fun s => σ (14 + s)) (tS T) := sm_0 hT.1 (fun s h1 h2 => (h s h1 h2).2.2.1)
theorem Pd.sm21 {T : Tx} {σ : Sg} (hT : Tok T) (h : Pd T σ) : sm (fun s => σ (21 + s)) 7 = sm (fun s => σ (21 + s)) (tS T) := sm_0 hT.1 (fun s h1 h2 => (h s h1 h2).2.2.2.1)
section QC
variable {l : Launch} {G : Gx} {w : Wd} {T : Tx} {E : Ex} {σ : Sg}
theorem c_singer (hl : l.stackTraces = false) {v u : Int32} (h : CQ w T E σ) : C_X9_singer l G w [.ref (G.2.1 0 0), .int v, .int u] (KC w (okI v (tS T) && okB u 0 7) (sgF T σ v.toNatClampNeg u)) (XX w (okI v (tS T)) (okB u 0 7)) := by
  obtain ⟨hT, hst, hsc⟩ := h
  have hS7 := hT.1
  refine e_X9_singer hl (fun M kk hM hk F => ?_)
  subst hM
  refine con_i (c_isSinger hl) ?_
  rw [hst.2.2.1.1]
  refine con_fnd hl (fun h => con_i (c_within hl) (con_dem hl (fun h2 => ?_) (fun h2 => Or.inr ⟨h, h2, rfl, rfl⟩))) (fun h => Or.inl ⟨h, rfl, rfl⟩)
  have hok : (okI v (tS T) && okB u 0 7) = true := by
    rw [show okI v (tS T) = true from h, show okB u 0 7 = true from h2]; rfl
  obtain ⟨s, hs, rfl⟩ := okI_of h (by omega)
  have hii : vp_in (nI s) 7 := vp_in_nI (by omega) (by decide)
  have cs : (nI s).toNatClampNeg = s := nI_clamp (by omega)
  rw [cs]
  have r := hst.2.2.1.2.2.2.2.1 s hs
  have t := hsc.2.2.1 s (by omega)
  have fin : ∀ {a b : Int32} {K : Prop}, a = b → (a = b → K) → K := fun q k => k q
  refine ⟨fun q => ⟨hii, hok, ?_, Sm.rf⟩, fun q => ⟨hii, hok, ?_, Sm.rf⟩, fun q => ⟨hii, hok, ?_, Sm.rf⟩, fun q => ⟨hii, hok, ?_, Sm.rf⟩, fun q => ⟨hok, ?_, Sm.rf⟩, fun q => ⟨hii, hok, ?_, Sm.rf⟩, fun q => ⟨hii, hok, ?_, Sm.rf⟩, fun q => ⟨hii, hok, ?_, Sm.rf⟩⟩
  · rw [r.1, q]; rfl
  · rw [r.2.1, q]; rfl
  · rw [r.2.2, q]; rfl
  · rw [t.1, q]; rfl
  · obtain ⟨m, hm, h1, h3⟩ := hsc.2.2.2.2
    rw [h1, hz_bit m hm s (by omega), ← h3 s (by omega), q]; rfl
  · rw [t.2.1, q]; rfl
  · rw [t.2.2.1, q]; rfl
  · rw [t.2.2.2]
    unfold sgF
    rw [if_neg q.1, if_neg q.2.1, if_neg q.2.2.1, if_neg q.2.2.2.1, if_neg q.2.2.2.2.1, if_neg q.2.2.2.2.2.1, if_neg q.2.2.2.2.2.2]
theorem c_note (hl : l.stackTraces = false) {v u : Int32} (h : CQ w T E σ) : C_X9_note l G w [.ref (G.2.1 0 0), .int v, .int u] (KC w (okI v (tN T) && okB u 0 3) (ntF T E σ v.toNatClampNeg u)) (XX w (okI v (tN T)) (okB u 0 3)) := by
  have hN := h.1.2.1
  have hR := h.2.1.2.2.1
  refine e_X9_note hl (fun M kk hM hk F => ?_)
  subst hM
  refine con_i (c_isNote hl) ?_
  rw [hR.2.1]
  refine con_fnd hl (fun h1 => con_i (c_within hl) (con_dem hl (fun h2 => ?_) (fun h2 => Or.inr ⟨h1, h2, rfl, rfl⟩))) (fun h1 => Or.inl ⟨h1, rfl, rfl⟩)
  have hok : (okI v (tN T) && okB u 0 3) = true := by
    rw [show okI v (tN T) = true from h1, show okB u 0 3 = true from h2]; rfl
  obtain ⟨n, hn, rfl⟩ := okI_of h1 (by omega)
  have hii : vp_in (nI n) 20 := vp_in_nI (by omega) (by decide)
  have cs : (nI n).toNatClampNeg = n := nI_clamp (by omega)
  rw [cs]
  have r := hR.2.2.2.2.2.1 n hn
  refine ⟨fun q => ⟨hii, hok, ?_, Sm.rf⟩, fun q => ⟨hii, hok, ?_, Sm.rf⟩, fun q => ⟨hii, hok, ?_, Sm.rf⟩, fun q => ?_⟩
  · rw [h.2.2.2.2.2.1 n hn, q]; rfl
  · rw [r.1, q]; rfl
  · rw [r.2.1, q]; rfl
  · refine con_iP (c_sungByNow hl h hn) (fun w2 h2 => ⟨hok, ?_, h2⟩)
    unfold ntF
    rw [if_neg q.1, if_neg q.2.1, if_neg q.2.2]
theorem c_like (hl : l.stackTraces = false) {v u : Int32} (h : CQ w T E σ) : C_X9_like l G w [.ref (G.2.1 0 0), .int v, .int u] (KC w (okI v (tL T) && okB u 0 1) (lkF T v.toNatClampNeg u)) (XX w (okI v (tL T)) (okB u 0 1)) := by
  have hL := h.1.2.2.1
  have hR := h.2.1.2.2.1
  refine e_X9_like hl (fun M kk hM hk F => ?_)
  subst hM
  have f24 : ∀ b : Bool, okI v (tL T) = b → Z M G 0 (KC w (okI v (tL T) && okB u 0 1) (lkF T v.toNatClampNeg u)) (XX w (okI v (tL T)) (okB u 0 1)) w 24 [some (.ref (G.2.1 0 0)), some (.int v), some (.int u)] [.int (bI b), .ref (G.2.1 0 0)] := by
    intro b hb
    refine b_X9_like_24 F hk (con_fnd hl (fun h1 => con_i (c_within hl) (con_dem hl (fun h2 => ?_) (fun h2 => Or.inr ⟨hb.trans h1, h2, rfl, rfl⟩))) (fun h1 => Or.inl ⟨hb.trans h1, rfl, rfl⟩))
    have hok : (okI v (tL T) && okB u 0 1) = true := by
      rw [hb, h1, show okB u 0 1 = true from h2]; rfl
    obtain ⟨k, hk2, rfl⟩ := okI_of (hb.trans h1) (by omega)
    have hii : vp_in (nI k) 12 := vp_in_nI (by omega) (by decide)
    have r := hR.2.2.2.2.2.2 k hk2
    rw [nI_clamp (by omega)]
    refine ⟨fun q => ⟨hii, hok, ?_, Sm.rf⟩, fun q => ⟨hii, hok, ?_, Sm.rf⟩⟩
    · rw [r.2]; unfold lkF; rw [if_neg q]
    · rw [r.1]; unfold lkF; rw [if_pos (Classical.not_not.mp q)]
  rw [hR.2.2.1]
  refine ⟨fun q => b_X9_like_23 F hk (f24 false ?_), fun q => ⟨fun q2 => b_X9_like_23 F hk (f24 false ?_), fun q2 => f24 true ?_⟩⟩
  · unfold okI; rw [decide_eq_false (Int32.not_le.mpr q)]; rfl
  · unfold okI; rw [decide_eq_false (Int32.not_lt.mpr q2), Bool.and_false]
  · unfold okI; rw [decide_eq_true (Int32.not_lt.mp q), decide_eq_true (Int32.not_le.mp q2)]; rfl
theorem c_takes (hl : l.stackTraces = false) {v u : Int32} (h : CQ w T E σ) : C_X9_takes l G w [.ref (G.2.1 0 0), .int v, .int u] (KC w (okI v (tN T) && okI u (tS T)) (tk T E σ v.toNatClampNeg u.toNatClampNeg)) (XF w (okI v (tN T) && okI u (tS T))) := by
  have hN := h.1.2.1
  have hS := h.1.1
  have hR := h.2.1.2.2.1
  refine e_X9_takes hl (fun M kk hM hk F => ?_)
  subst hM
  have f22 : ∀ b : Bool, (okI v (tN T) && okI u (tS T)) = b → Z M G 0 (KC w (okI v (tN T) && okI u (tS T)) (tk T E σ v.toNatClampNeg u.toNatClampNeg)) (XF w (okI v (tN T) && okI u (tS T))) w 22 [some (.ref (G.2.1 0 0)), some (.int v), some (.int u)] [.int (bI b), .ref (G.2.1 0 0)] := by
    intro b hb
    refine b_X9_takes_22 F hk (con_fnd hl (fun h1 => ?_) (fun h1 => ⟨hb.trans h1, rfl, rfl⟩))
    have hbt := hb.trans h1
    rw [Bool.and_eq_true] at hbt
    obtain ⟨n, hn, rfl⟩ := okI_of hbt.1 (by omega)
    obtain ⟨s, hs, rfl⟩ := okI_of hbt.2 (by omega)
    refine con_iP (c_breathFor hl (by decide) h.1 h.2.1 h.2.2 hn hs) (fun w2 h2 => ⟨hb.trans h1, ?_, h2.mono G2_GC⟩)
    rw [nI_clamp (by omega), nI_clamp (by omega)]
  refine con_i (c_isNote hl) ?_
  rw [hR.2.1]
  refine ⟨fun h1 => b_X9_takes_21 F hk (f22 false ?_), fun h1 => con_i (c_isSinger hl) ?_⟩
  · rw [show okI v (tN T) = false from bI_0 h1]; rfl
  rw [hR.1]
  refine ⟨fun h2 => b_X9_takes_21 F hk (f22 false ?_), fun h2 => f22 true ?_⟩
  · rw [show okI u (tS T) = false from bI_0 h2, Bool.and_false]
  · rw [show okI v (tN T) = true from bI_not.mp h1, show okI u (tS T) = true from bI_not.mp h2]; rfl
theorem c_ahead (hl : l.stackTraces = false) {v u : Int32} (h : CQ w T E σ) (hp : Pd T σ) : C_X9_ahead l G w [.ref (G.2.1 0 0), .int v, .int u] (KC w (okB v 0 20 && okB u 0 2) (if u = 0 then ahS T E σ v.toNatClampNeg 55 - σ 55 else if u = 1 then sm (ahS T E σ v.toNatClampNeg) (tS T) else ob (fun s => ahS T E σ v.toNatClampNeg s == 0) (tS T))) (XT w (okB v 0 20 && okB u 0 2)) := by
  have hN := h.1.2.1
  have hS := h.1.1
  refine e_X9_ahead hl (fun M kk hM hk F => ?_)
  subst hM
  have f25 : ∀ b : Bool, (okB v 0 20 && okB u 0 2) = b → Z M G 0 (KC w (okB v 0 20 && okB u 0 2) (if u = 0 then ahS T E σ v.toNatClampNeg 55 - σ 55 else if u = 1 then sm (ahS T E σ v.toNatClampNeg) (tS T) else ob (fun s => ahS T E σ v.toNatClampNeg s == 0) (tS T))) (XT w (okB v 0 20 && okB u 0 2)) w 25 [some (.ref (G.2.1 0 0)), some (.int v), some (.int u), none] [.int (bI b), .ref (G.2.1 0 0)] := by
    intro b hb
    refine b_X9_ahead_25 F hk (con_dem hl (fun h1 => ?_) (fun h1 => ⟨hb.trans h1, rfl, rfl⟩))
    have hbt := hb.trans h1
    have hv : 0 ≤ v ∧ v ≤ 20 := by
      rw [Bool.and_eq_true] at hbt
      have := hbt.1
      unfold okB at this
      rw [Bool.and_eq_true] at this
      exact ⟨of_decide_eq_true this.1, of_decide_eq_true this.2⟩
    obtain ⟨i0, hi0, rfl⟩ := nI_of (Int32.not_lt.mpr hv.1)
    have hi20 : i0 ≤ 20 := (nI_leI hi0 (show 20 < 2 ^ 31 by decide)).mp hv.2
    rw [nI_clamp (by omega)]
    refine con_vP (c_become hl (i := 68) (by decide) (by decide) hN h.2.2) (fun w1 h2 => ?_)
    refine up_to (P := fun i => ∀ w', Sm GC w w' → SceneC w' 68 (ahS T E σ i) (tN T) → Z M G 1 _ _ w' 44 [some (.ref (G.2.1 0 0)), some (.int (nI i0)), some (.int u), some (.int (nI i))] []) i0 (fun i hi ih w' hs hsc => ?_) (fun w' hs hsc => ?_) w1 (h2.2.mono GJ_GC) h2.1
    · have q := h.mv hs
      refine b_X9_ahead_44 F hk ⟨fun hc => absurd hc (nI_ge hi (by omega)), fun _ => con_iP (c_singHymn hl (j := 68) (by decide) h.1 q.2.1 hsc) (fun w2 h3 => ?_)⟩
      rw [← nI_succ]
      exact ih w2 (hs.tr (h3.2.mono GJ_GC)) h3.1
    · have q := h.mv hs
      have hp2 := hp.ah (E := E) h.1 i0
      refine b_X9_ahead_44 F hk ⟨fun _ => ⟨fun q0 => ⟨hbt, ?_, hs⟩, fun q0 => con_i (c_total hl (m := 7) rfl (by decide) (by decide)) ⟨hbt, ?_, hs⟩, fun q0 => con_i (c_outOfBreath hl (by decide) h.1 q.2.1 hsc) ⟨hbt, ?_, hs⟩⟩, fun hc => absurd (nI_le (Nat.le_refl _) (by omega)) hc⟩
      · rw [if_pos q0, hsc.2.1, q.2.2.2.1]
      · rw [q0, if_neg (by decide), if_pos rfl, ← hp2.sm0 h.1, sm_congr (fun s hs => (hsc.2.2.1 s hs).1)]
      · rw [if_neg q0.1, if_neg q0.2]
  refine con_i (c_within hl) ⟨fun h1 => b_X9_ahead_24 F hk (f25 false ?_), fun h1 => con_i (c_within hl) ⟨fun h2 => b_X9_ahead_24 F hk (f25 false ?_), fun h2 => f25 true ?_⟩⟩
  · rw [show okB v 0 20 = false from bI_0 h1]; rfl
  · rw [show okB u 0 2 = false from bI_0 h2, Bool.and_false]
  · rw [show okB v 0 20 = true from bI_not.mp h1, show okB u 0 2 = true from bI_not.mp h2]; rfl
theorem c_notesSungBy (hl : l.stackTraces = false) {v : Int32} (h : CQ w T E σ) {τ : Sg} (hτ : SceneC w 68 τ (tN T)) : C_X9_notesSungBy l G w [.ref (G.2.1 0 0), .int v] (fun r w' => r = some (.int (ob (fun n => sbI T E (dtS T E τ n) n == v) (tN T))) ∧ Sm GC w w') noX := by
  have hN := h.1.2.1
  refine e_X9_notesSungBy hl (fun M kk hM hk F => ?_)
  subst hM
  refine up_to (P := fun i => ∀ w', Sm GC w w' → SceneC w' 68 (dtS T E τ i) (tN T) → Z M G 0 _ _ w' 4 [some (.ref (G.2.1 0 0)), some (.int v), some (.int (ob (fun n => sbI T E (dtS T E τ n) n == v) i)), some (.int (nI i))] []) (tN T) (fun i hi ih w' hs hsc => ?_) (fun w' hs hsc => ?_) w Sm.rf hτ
  · have q := h.mv hs
    refine b_X9_notesSungBy_4 F hk ⟨fun hc => ?_, fun _ => con_iP (c_singNote hl (j := 68) (by decide) h.1 q.2.1 hsc hi) (fun w2 h2 => ?_)⟩
    · rw [q.2.1.2.2.1.2.1] at hc
      exact absurd hc (nI_ge hi (by omega))
    · rw [← nI_succ]
      rw [ob] at ih
      have ih := ih w2 (hs.tr (h2.2.mono GJ_GC)) h2.1
      refine ⟨fun hc => ?_, fun hc => ?_⟩
      · rw [if_neg (fun z => hc (beq_iff_eq.mp z))] at ih
        exact ih
      · rw [if_pos (beq_iff_eq.mpr (Classical.not_not.mp hc))] at ih
        exact ih
  · have q := h.mv hs
    refine b_X9_notesSungBy_4 F hk ⟨fun _ => ⟨rfl, hs⟩, fun hc => ?_⟩
    rw [q.2.1.2.2.1.2.1] at hc
    exact absurd (nI_le (Nat.le_refl _) (by omega)) hc
theorem c_duty (hl : l.stackTraces = false) {v : Int32} (h : CQ w T E σ) : C_X9_duty l G w [.ref (G.2.1 0 0), .int v] (KC w (okI v (tS T)) (ob (fun n => sbI T E (dtS T E σ n) n == v) (tN T))) (XF w (okI v (tS T))) := by
  refine e_X9_duty hl (fun M kk hM hk F => ?_)
  subst hM
  refine con_i (c_isSinger hl) ?_
  rw [h.2.1.2.2.1.1]
  refine con_fnd hl (fun h1 => ?_) (fun h1 => ⟨h1, rfl, rfl⟩)
  refine con_vP (c_become hl (i := 68) (by decide) (by decide) h.1.2.1 h.2.2) (fun w1 h2 => ?_)
  have q := h.mvS h2.2 GJ_GC
  exact con_iP (c_notesSungBy hl q h2.1) (fun w2 h3 => ⟨h1, rfl, (h2.2.mono GJ_GC).tr h3⟩)
theorem c_range (hl : l.stackTraces = false) {v : Int32} (h : CQ w T E σ) : C_X9_range l G w [.ref (G.2.1 0 0), .int v] (KC w (okI v (tS T)) (rgF T E σ v.toNatClampNeg 20)) (XF w (okI v (tS T))) := by
  have hS := h.1.1
  refine e_X9_range hl (fun M kk hM hk F => ?_)
  subst hM
  refine con_i (c_isSinger hl) ?_
  rw [h.2.1.2.2.1.1]
  refine con_fnd hl (fun h1 => ?_) (fun h1 => ⟨h1, rfl, rfl⟩)
  obtain ⟨s, hs, rfl⟩ := okI_of h1 (by omega)
  have hii : vp_in (nI s) 7 := vp_in_nI (by omega) (by decide)
  have cs : (nI s).toNatClampNeg = s := nI_clamp (by omega)
  rw [cs]
  refine con_vP (c_become hl (i := 68) (by decide) (by decide) h.1.2.1 h.2.2) (fun w1 h2 => ?_)
  refine up_to (P := fun i => ∀ w', Sm GC w w' → SceneC w' 68 (ahS T E σ i) (tN T) → Z M G 1 _ _ w' 27 [some (.ref (G.2.1 0 0)), some (.int (nI s)), some (.int (rgF T E σ s i)), some (.int (nI (i + 1))), none] []) 20 (fun i hi ih w' hs hsc => ?_) (fun w' hs hsc => ?_) w1 (h2.2.mono GJ_GC) h2.1
  · have q := h.mv hs
    refine b_X9_range_27 F hk ⟨fun hc => absurd hc (nI_nlt (show i + 1 ≤ 20 by omega) (by decide)), fun _ => ⟨hii, con_iP (c_singHymn hl (j := 68) (by decide) h.1 q.2.1 hsc) (fun w2 h3 => ⟨hii, ?_⟩)⟩⟩
    have e2 : nI (i + 1) + 1 = nI (i + 1 + 1) := by rw [← nI_succ]
    rw [cs, e2, (h3.1.2.2.1 s (by omega)).2.1, (hsc.2.2.1 s (by omega)).2.1]
    have ih := ih w2 (hs.tr (h3.2.mono GJ_GC)) h3.1
    have er : rgF T E σ s (i + 1) = if ahS T E σ (i + 1) (14 + s) ≤ ahS T E σ i (14 + s) then rgF T E σ s i else nI (i + 1) := rfl
    rw [er] at ih
    refine ⟨fun hc => ?_, fun hc => ?_⟩
    · rw [if_pos (show ahS T E σ (i + 1) (14 + s) ≤ ahS T E σ i (14 + s) from hc)] at ih
      exact ih
    · rw [if_neg (show ¬ ahS T E σ (i + 1) (14 + s) ≤ ahS T E σ i (14 + s) from hc)] at ih
      exact ih
  · exact b_X9_range_27 F hk ⟨fun _ => ⟨h1, rfl, hs⟩, fun hc => absurd (by decide) hc⟩
end QC
