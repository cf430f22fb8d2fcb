/-! The reference: rents, the chorus, lots and Sundays. -/
theorem rnF_is {T : Tx} {m n : Nat} {i : Nat} (h1 : i = 0 ∨ givN T m i (tS T) ≤ n) : ∀ k, i ≤ k → (i = k ∨ n < givN T m (i + 1) (tS T)) → rnF T m n k = i := by
  intro k
  induction k with
  | zero => intro h _; show 0 = i; omega
  | succ k ih =>
    intro hk h2
    rw [rnF]
    by_cases hq : i = k + 1
    · rw [if_pos (by rw [← hq]; rcases h1 with h | h; · omega
                     · exact h)]
      exact hq.symm
    · have h3 : n < givN T m (i + 1) (tS T) := by
        rcases h2 with h | h
        · exact absurd h hq
        · exact h
      have h4 := givN_mono (T := T) (m := m) (show i + 1 ≤ k + 1 by omega) (tS T)
      rw [if_neg (by omega)]
      exact ih (by omega) (Or.inr h3)
theorem sm_upd {f g : Nat → Int32} {a : Nat} : ∀ n, (∀ i, i < n → i ≠ a → g i = f i) → g a = f a + 1 → sm g n = if a < n then sm f n + 1 else sm f n := by
  intro n
  induction n with
  | zero => intro _ _; rfl
  | succ n ih =>
    intro h1 h2
    have ih := ih (fun i hi => h1 i (by omega)) h2
    rw [sm, sm, ih]
    by_cases hq : a = n
    · rw [if_neg (by omega), if_pos (by omega), ← hq, h2, Int32.add_assoc]
    · rw [h1 n (by omega) (fun z => hq z.symm)]
      by_cases hlt : a < n
      · rw [if_pos hlt, if_pos (show a < n + 1 by omega), Int32.add_assoc, Int32.add_assoc, Int32.add_comm 1]
      · rw [if_neg hlt, if_neg (show ¬ a < n + 1 by omega)]
theorem sm_hym {T : Tx} (hT : Tok T) {E : Ex} {τ : Sg} : ∀ k, sm (fun s => (hymF T E τ k).1 (14 + s)) (tS T) = sm (fun s => τ (14 + s)) (tS T) + nI (cn1 (hp T E τ) k) := by
  have hS := hT.1
  intro k
  induction k with
  | zero => exact (Int32.add_zero _).symm
  | succ k ih =>
    rw [hymF, cn1]
    unfold hp
    by_cases h : sbF T E (hymF T E τ k).1 k < tS T
    · rw [if_pos h, if_pos (decide_eq_true h)]
      have e : singF T E (hymF T E τ k).1 k = sung1 T E (hymF T E τ k).1 k (sbF T E (hymF T E τ k).1 k) := if_pos h
      simp only [e]
      rw [sm_upd (f := fun s => (hymF T E τ k).1 (14 + s)) (a := sbF T E (hymF T E τ k).1 k) (tS T) (fun i hi hne => ?_) (sung1_14 (Or.inl rfl)), if_pos h, ih, Int32.add_assoc]
      · rw [show nI (cn1 (hp T E τ) k) + 1 = nI (cn1 (hp T E τ) k + 1) from nI_add _ 1]
        rfl
      · exact sung1_off (by omega) (by omega) (by omega)
    · rw [if_neg h, if_neg (by rw [decide_eq_false h]; decide)]
      have e : sm (fun s => (if 14 + s = 55 then (hymF T E τ k).1 55 + 1 else (hymF T E τ k).1 (14 + s))) (tS T) = sm (fun s => (hymF T E τ k).1 (14 + s)) (tS T) := sm_congr (fun s hs => if_neg (by omega))
      rw [e]
      exact ih
theorem dr_ar (x : Int32) : (x >>> ((16 : Int32) &&& 31)) &&& 32767 = nI (drN x) := by
  rw [← dr_nI]
  apply Int32.toBitVec_inj.mp
  rw [Int32.toBitVec_and, Int32.toBitVec_and, Int32.toBitVec_shiftRight]
  have e : (((16 : Int32) &&& 31).toBitVec.smod 32).toNat = 16 := by decide
  have e2 : (sh x 16).toBitVec = x.toBitVec >>> 16 := rfl
  show BitVec.sshiftRight x.toBitVec (((16 : Int32) &&& 31).toBitVec.smod 32).toNat &&& _ = _
  rw [e, e2]
  apply BitVec.eq_of_getLsbD_eq
  intro i hi
  rw [BitVec.getLsbD_and, BitVec.getLsbD_and, BitVec.getLsbD_sshiftRight, BitVec.getLsbD_ushiftRight]
  have hm : ∀ i, i < 32 → 16 ≤ i → (32767 : Int32).toBitVec.getLsbD i = false := by decide
  by_cases h16 : i < 16
  · rw [if_pos (by omega), decide_eq_false (by omega), Bool.not_false, Bool.true_and]
  · rw [hm i hi (by omega), Bool.and_false, Bool.and_false]
theorem turn_set (τ : Sg) (s : Nat) : setS τ (7 + s) (1 - τ (7 + s)) = turnF τ s := by
  funext q
  unfold setS turnF
  by_cases h : q = 7 + s
  · rw [if_pos h, if_pos h, h]
  · rw [if_neg h, if_neg h]
theorem setS_id {τ : Sg} {a : Nat} {v : Int32} (h : τ a = v) : setS τ a v = τ := by
  funext q
  unfold setS
  by_cases hq : q = a
  · rw [if_pos hq, hq, h]
  · rw [if_neg hq]
theorem Jk.rest {T : Tx} (hT : Tok T) {σ : Sg} (h : Jk σ) : Jk (restF T σ) := by
  intro q hq
  rw [rest_28 hT (by omega)]
  exact h q hq
theorem Jk.turn {σ : Sg} {s : Nat} (hs : s < 7) (h : Jk σ) : Jk (turnF σ s) := by
  intro q hq
  unfold turnF
  rw [if_neg (by omega)]
  exact h q hq
theorem Jk.day {T : Tx} (hT : Tok T) {σ : Sg} (h : Jk σ) : Jk (dayF T σ) := by
  have hS := hT.1
  intro q hq
  unfold dayF
  rw [setS_n (by omega), dayK_n (by omega) (by omega)]
  exact h.ref hT q hq
theorem Jk.sds {T : Tx} {E : Ex} {q : Int32} {σ : Sg} {x : Int32} (hT : Tok T) (h : Jk σ) : ∀ k, Jk (sdS T E q σ x k).1 := by
  have hS := hT.1
  intro k
  induction k with
  | zero => exact h
  | succ k ih =>
    show Jk (sdF T E q (sdS T E q σ x k)).1
    unfold sdF
    split
    · exact (ih.hym hT _).day hT
    · rename_i hz
      have hlt : drN (lotN (sdS T E q σ x k).2) % tS T < tS T := Nat.mod_lt _ (by omega)
      have h1 := ih.turn (s := drN (lotN (sdS T E q σ x k).2) % tS T) (by omega)
      refine Jk.day hT ?_
      split
      · exact ((h1.hym hT _).rest hT).hym hT _
      · exact h1.hym hT _
theorem hym_55 {T : Tx} (hT : Tok T) {E : Ex} {σ : Sg} : ∀ k, ∃ c, c ≤ k ∧ (hymF T E σ k).1 55 = σ 55 + nI c := by
  have hS := hT.1
  intro k
  induction k with
  | zero => exact ⟨0, Nat.le_refl _, (Int32.add_zero _).symm⟩
  | succ k ih =>
    obtain ⟨c, h1, h2⟩ := ih
    rw [hymF]
    split
    · rename_i hlt
      refine ⟨c, by omega, ?_⟩
      show singF T E (hymF T E σ k).1 k 55 = _
      unfold singF
      rw [if_pos hlt, sung1_off (by omega) (by omega) (by omega)]
      exact h2
    · refine ⟨c + 1, by omega, ?_⟩
      show (if (55 : Nat) = 55 then (hymF T E σ k).1 55 + 1 else (hymF T E σ k).1 55) = _
      rw [if_pos rfl, h2, Int32.add_assoc, ← nI_succ]
theorem day_55 {T : Tx} (hT : Tok T) {σ : Sg} : dayF T σ 55 = σ 55 := by
  have hS := hT.1
  unfold dayF
  rw [setS_n (by omega), dayK_n (by omega) (by omega)]
  exact if_neg (by omega)
theorem sds_55 {T : Tx} (hT : Tok T) {E : Ex} {q : Int32} {σ : Sg} {x : Int32} : ∀ k, ∃ c, c ≤ 40 * k ∧ (sdS T E q σ x k).1 55 = σ 55 + nI c := by
  have hS := hT.1
  have hN := hT.2.1
  intro k
  induction k with
  | zero => exact ⟨0, Nat.le_refl _, (Int32.add_zero _).symm⟩
  | succ k ih =>
    obtain ⟨c, h1, h2⟩ := ih
    show ∃ c, c ≤ 40 * (k + 1) ∧ (sdF T E q (sdS T E q σ x k)).1 55 = σ 55 + nI c
    unfold sdF
    split
    · obtain ⟨d, d1, d2⟩ := hym_55 hT (E := E) (σ := (sdS T E q σ x k).1) (tN T)
      refine ⟨c + d, by omega, ?_⟩
      show dayF T _ 55 = _
      rw [day_55 hT, d2, h2, Int32.add_assoc, nI_add]
    · rename_i hz
      have hlt : drN (lotN (sdS T E q σ x k).2) % tS T < tS T := Nat.mod_lt _ (by omega)
      generalize drN (lotN (sdS T E q σ x k).2) % tS T = s at *
      have et : turnF (sdS T E q σ x k).1 s 55 = (sdS T E q σ x k).1 55 := if_neg (by omega)
      obtain ⟨d, d1, d2⟩ := hym_55 hT (E := E) (σ := turnF (sdS T E q σ x k).1 s) (tN T)
      rw [et, h2] at d2
      show ∃ c, c ≤ 40 * (k + 1) ∧ dayF T _ 55 = σ 55 + nI c
      rw [day_55 hT]
      split
      · obtain ⟨e, e1, e2⟩ := hym_55 hT (E := E) (σ := restF T (hymF T E (turnF (sdS T E q σ x k).1 s) (tN T)).1) (tN T)
        refine ⟨c + d + e, by omega, ?_⟩
        rw [e2, rest_28 hT (by omega), d2, Int32.add_assoc, Int32.add_assoc, nI_add, nI_add, Nat.add_assoc]
      · refine ⟨c + d, by omega, ?_⟩
        rw [d2, Int32.add_assoc, nI_add]
theorem drp_nI {T : Tx} (hT : Tok T) {E : Ex} {q : Int32} {σ : Sg} {x : Int32} {d : Nat} : ∃ c, c ≤ 40 * d ∧ drp T E σ x d q = nI c := by
  obtain ⟨c, h1, h2⟩ := sds_55 hT (E := E) (q := q) (σ := σ) (x := x) d
  refine ⟨c, h1, ?_⟩
  unfold drp
  rw [h2, Int32.add_comm, Int32.add_sub_cancel]
theorem spF_nI {T : Tx} (hT : Tok T) {E : Ex} {q : Int32} {σ : Sg} {x : Int32} {d s : Nat} : ∀ k, ∃ c, c ≤ 40 * d ∧ (spF T E σ x d q s k).1 = nI c := by
  intro k
  induction k with
  | zero => exact ⟨0, Nat.zero_le _, rfl⟩
  | succ k ih =>
    obtain ⟨c, h1, h2⟩ := ih
    obtain ⟨e, e1, e2⟩ := drp_nI hT (E := E) (q := q) (σ := σ) (x := x + nI k) (d := d)
    show ∃ c, c ≤ 40 * d ∧ (if k = 0 then drp T E σ (x + nI k) d q else mnI (drp T E σ (x + nI k) d q) (spF T E σ x d q s k).1) = nI c
    rw [e2, h2]
    unfold mnI
    split
    · exact ⟨e, e1, rfl⟩
    · split
      · exact ⟨e, e1, rfl⟩
      · exact ⟨c, h1, rfl⟩
theorem mnI_sw (a b : Int32) : mnI a b = mnI b a := by
  unfold mnI
  by_cases h : a < b
  · rw [if_pos h, if_neg (Int32.not_lt.mpr (Int32.le_of_lt h))]
  · rw [if_neg h]
    by_cases h2 : b < a
    · rw [if_pos h2]
    · rw [if_neg h2]
      exact Int32.le_antisymm (Int32.not_lt.mp h) (Int32.not_lt.mp h2)
theorem mxI_sw (a b : Int32) : mxI a b = if a < b then b else a := by
  unfold mxI
  by_cases h : b < a
  · rw [if_pos h, if_neg (Int32.not_lt.mpr (Int32.le_of_lt h))]
  · rw [if_neg h]
    by_cases h2 : a < b
    · rw [if_pos h2]
    · rw [if_neg h2]
      exact Int32.le_antisymm (Int32.not_lt.mp h2) (Int32.not_lt.mp h)
theorem every_ok {T : Tx} (hT : Tok T) (v : Int32) : (decide (0 ≤ v) && decide (v ≤ nI (2 ^ tS T - 1))) = okS T v := by
  have h := okI_le (v := v) (n := 2 ^ tS T) (by have := p2_7 hT.1; omega)
  have hp := Nat.two_pow_pos (tS T)
  have e : nI (2 ^ tS T) - 1 = nI (2 ^ tS T - 1) := fb_sub (b := 1) hp
  rw [e] at h
  exact h
section RF
variable {l : Launch} {G : Gx} {w w0 : Wd} {X : String → Wd → Prop} {T : Tx} {E : Ex} {σ τ : Sg} {L : Bk}
theorem m_givenBy (hl : l.stackTraces = false) {m b : Nat} (hm : m < 128) (hb : b ≤ 60) (hT : Tok T) (hR : RollM w T) : C_X10_givenBy l G w [.ref (G.2.1 40 0), .int (nI m), .int (nI b)] (fun r w' => r = some (.int (nI (givN T m b (tS T)))) ∧ w' = w) noX := by
  have hS := hT.1
  refine e_X10_givenBy hl (fun M kk hM hk F => ?_)
  subst hM
  refine up_to (P := fun i => Z M G 0 (fun r w' => r = some (.int (nI (givN T m b (tS T)))) ∧ w' = w) noX w 5 [some (.ref (G.2.1 40 0)), some (.int (nI m)), some (.int (nI b)), some (.int (nI (givN T m b i))), some (.int (nI i))] []) (tS T) (fun i hi ih => ?_) ?_
  · refine b_X10_givenBy_5 F hk ⟨fun hc => ?_, fun _ => con_i (m_has hl) ?_⟩
    · rw [hR.1] at hc
      exact absurd hc (nI_ge hi (by omega))
    · have e := sp_nI hT hi
      rw [hz_bit m hm i (by omega), ← nI_succ]
      have eg : givN T m b (i + 1) = givN T m b i + (m / 2 ^ i % 2) * (min (sp T i).toNatClampNeg b) := rfl
      rw [eg] at ih
      rcases bit01 m i with q | q
      · rw [q, Nat.zero_mul] at ih
        rw [q, Int32.add_zero]
        exact ⟨fun _ => ih, fun hc => absurd rfl hc⟩
      · rw [q, Nat.one_mul] at ih
        rw [q]
        refine ⟨fun hc => absurd hc (by decide), fun _ => ⟨vp_in_nI (by omega) (by decide), ?_⟩⟩
        rw [nI_clamp (by omega), (hR.2.2.2.2.1 i hi).2.1, e.1]
        refine con_i (m_less hl) ?_
        have em : mnI (nI b) (nI (sp T i).toNatClampNeg) = nI (min (sp T i).toNatClampNeg b) := mn_nI (by omega) (by omega)
        rw [em, nI_add]
        exact ih
  · refine b_X10_givenBy_5 F hk ⟨fun _ => ⟨rfl, rfl⟩, fun hc => ?_⟩
    rw [hR.1] at hc
    exact absurd (nI_le (Nat.le_refl _) (by omega)) hc
theorem m_rent (hl : l.stackTraces = false) {v u o : Int32} (h : RQ w T E σ) : C_X10_rent l G w [.ref (G.2.1 40 0), .int v, .int u, .int o] (KM2 w (okI v (tS T)) (okS T u && okB o 0 999) (rtF T v.toNatClampNeg u.toNatClampNeg o.toNatClampNeg)) noX := by
  have hS := h.1.1
  have h128 := p2_7 hS
  refine e_X10_rent hl (fun M kk hM hk F => ?_)
  subst hM
  rintro _ rfl
  have q := h.cl
  generalize hK : KM2 w (okI v (tS T)) (okS T u && okB o 0 999) (rtF T v.toNatClampNeg u.toNatClampNeg o.toNatClampNeg) = K
  have f56 : okI v (tS T) = true → ∀ b : Bool, (okS T u && okB o 0 999) = !b → Z M G 0 K noX (cl0 w) 56 [some (.ref (G.2.1 40 0)), some (.int v), some (.int u), some (.int o), none] [.int (bI b), .ref (G.2.1 40 0)] := by
    intro hf b hb
    refine b_X10_rent_56 F hk ?_
    rw [← hK]
    refine con_q2 hl hf hb (fun ht => ?_)
    have hf2 := hf
    have ht2 := ht
    rw [Bool.and_eq_true] at ht2
    obtain ⟨s, hs, rfl⟩ := okI_of hf2 (by omega)
    obtain ⟨m, hm, rfl⟩ := okI_of ht2.1 (by omega)
    obtain ⟨n, -, hn, rfl⟩ := okB_of (a := 0) (b := 999) ht2.2 (by decide) (by decide)
    rw [nI_clamp (show s < 2 ^ 31 by omega), nI_clamp (show m < 2 ^ 31 by omega), nI_clamp (show n < 2 ^ 31 by omega)]
    generalize hK2 : KM2 w (okI (nI s) (tS T)) (okS T (nI m) && okB (nI n) 0 999) (rtF T s m n) = K2
    have e := sp_nI h.1 hs
    have f95 : ∀ c, c ≤ 60 → rnF T m n 60 = c → Z M G 0 K2 noX (cl0 w) 95 [some (.ref (G.2.1 40 0)), some (.int (nI s)), some (.int (nI m)), none, some (.int (nI c))] [] := by
      intro c hc hr
      refine b_X10_rent_95 F hk (con_i (m_has hl) ?_)
      rw [hz_bit m (by omega) s (by omega)]
      rcases bit01 m s with q1 | q1
      · rw [q1]
        refine ⟨fun _ => ?_, fun hz => absurd rfl hz⟩
        have er : rtF T s m n = 0 := if_pos q1
        rw [← hK2, er]
        exact km2_cl h hf ht
      · rw [q1]
        refine ⟨fun hz => absurd hz (by decide), fun _ => ⟨vp_in_nI (by omega) (by decide), ?_⟩⟩
        rw [nI_clamp (by omega), (q.2.1.1.2.2.2.2.1 s hs).2.1, e.1]
        refine con_i (m_less hl) ?_
        have em : mnI (nI c) (nI (sp T s).toNatClampNeg) = nI (min (sp T s).toNatClampNeg c) := mn_nI (by omega) (by omega)
        have er : rtF T s m n = nI (min (sp T s).toNatClampNeg c) := by
          unfold rtF
          rw [if_neg (by omega), hr]
        rw [em, ← hK2, er]
        exact km2_cl h hf ht
    refine up_to (P := fun i => (i = 0 ∨ givN T m i (tS T) ≤ n) → Z M G 0 K2 noX (cl0 w) 69 [some (.ref (G.2.1 40 0)), some (.int (nI s)), some (.int (nI m)), some (.int (nI n)), some (.int (nI i))] []) 60 (fun i hi ih hinv => ?_) (fun hinv => ?_) (Or.inl rfl)
    · refine b_X10_rent_69 F hk ⟨fun hc => absurd hc (nI_ge hi (by decide)), fun _ => ?_⟩
      rw [← nI_succ]
      refine con_i (m_givenBy hl (by omega) (by omega) h.1 q.2.1.1) ?_
      have hgl := givN_le (T := T) (m := m) (b := i + 1) (tS T)
      have hg7 : (i + 1) * tS T ≤ 60 * 7 := Nat.mul_le_mul (by omega) hS
      refine ⟨fun hlt => f95 i (by omega) ?_, fun hlt => ih (Or.inr ?_)⟩
      · exact rnF_is hinv 60 (by omega) (Or.inr ((nI_ltI (by omega) (by omega)).mp hlt))
      · rw [nI_ltI (by omega) (by omega)] at hlt
        omega
    · exact b_X10_rent_69 F hk ⟨fun _ => f95 60 (Nat.le_refl _) (rnF_is hinv 60 (Nat.le_refl _) (Or.inl rfl)), fun hc => absurd (by decide) hc⟩
  have f19 : ∀ b : Bool, okI v (tS T) = !b → Z M G 0 K noX (cl0 w) 19 [some (.ref (G.2.1 40 0)), some (.int v), some (.int u), some (.int o), none] [.int (bI b), .ref (G.2.1 40 0)] := by
    intro b hb
    refine b_X10_rent_19 F hk ?_
    rw [← hK]
    refine con_q1 hl hb (fun hf => ?_)
    rw [hK]
    refine con_i (m_everySinger hl) ?_
    rw [q.2.1.1.1, (hz_are (tS T) (by omega)).1]
    refine con_i (m_in hl) ?_
    rw [every_ok h.1]
    refine ⟨fun h1 => b_X10_rent_51 F hk (f56 hf true ?_), fun h1 => con_i (m_in hl) ⟨fun h2 => f56 hf false ?_, fun h2 => b_X10_rent_51 F hk (f56 hf true ?_)⟩⟩
    · rw [bI_0 h1]; rfl
    · rw [bI_not.mp h1, show okB o 0 999 = true from bI_not.mp h2]; rfl
    · rw [show okB o 0 999 = false from bI_0 (Classical.not_not.mp h2), Bool.and_false]; rfl
  refine con_i (m_isSinger hl) ?_
  rw [show (setI w 40 0 0 0).1 44 0 0 = nI (tS T) from q.2.1.1.1, okI_le (by omega)]
  exact ⟨fun h1 => f19 false (bI_not.mp h1), fun h1 => f19 true (bI_0 (Classical.not_not.mp h1))⟩
theorem m_chorus (hl : l.stackTraces = false) {v : Int32} (h : RQ w T E σ) : C_X10_chorus l G w [.ref (G.2.1 40 0), .int v] (KM w (okS T v) 1 1 (nI (cn1 (hp T E (onK v.toNatClampNeg σ (tS T))) (tN T)))) noX := by
  have hS := h.1.1
  have h128 := p2_7 hS
  refine e_X10_chorus hl (fun M kk hM hk F => ?_)
  subst hM
  rintro _ rfl
  have q := h.cl
  have f23 : ∀ b : Bool, okS T v = !b → Z M G 0 (KM w (okS T v) 1 1 (nI (cn1 (hp T E (onK v.toNatClampNeg σ (tS T))) (tN T)))) noX (cl0 w) 23 [some (.ref (G.2.1 40 0)), some (.int v)] [.int (bI b), .ref (G.2.1 40 0)] := by
    intro b hb
    refine b_X10_chorus_23 F hk (con_q hl (rs := 1) (by decide) (by decide) hb (fun hok => ?_))
    have hok2 := hok
    obtain ⟨m, hm, rfl⟩ := okI_of hok2 (by omega)
    rw [nI_clamp (show m < 2 ^ 31 by omega)]
    refine m_cpT hl h (fun w1 t1 => ?_)
    have q1 := t1.rq h h.2.2.2.2.1
    refine con_vP (m_onlyThese hl (by omega) h.1 q1.2.1.1 t1.2.2) (fun w4 h4 => ?_)
    have t4 := t1.nr h4.2 h4.1
    have j4 := h.2.2.2.2.1.on (m := m) hS
    have q4 := t4.rq h j4
    refine con_vP (m_hymns hl (by decide) h.1 q4.2.1 h.2.2.1 h4.1) (fun w5 h5 => ?_)
    have t5 := t4.nj h5.2.2 h5.1
    have j5 := j4.hym (E := E) h.1 (tN T)
    have q5 := t5.rq h j5
    refine con_i (m_all hl (a := 14) (by decide) h.1 q5.2.1.1 h5.1 (by decide)) (con_i (m_all hl (a := 14) (by decide) h.1 q5.2.1.1 q5.2.2.2.1 (by decide)) ?_)
    have e1 : sm (fun s => onK m σ (tS T) (14 + s)) (tS T) = sm (fun s => σ (14 + s)) (tS T) := sm_congr (fun s hs => if_neg (by omega))
    rw [sm_hym h.1, e1, Int32.add_comm, Int32.add_sub_cancel]
    exact t5.km j5 hok
  refine con_i (m_everySinger hl) ?_
  rw [show (setI w 40 0 0 0).1 44 0 0 = nI (tS T) from q.2.1.1.1, (hz_are (tS T) (by omega)).1]
  refine con_i (m_in hl) ?_
  rw [every_ok h.1]
  exact ⟨fun h1 => f23 false (bI_not.mp h1), fun h1 => f23 true (bI_0 (Classical.not_not.mp h1))⟩
theorem m_draw (hl : l.stackTraces = false) {S : Nat} (h0 : 0 < S) (hS : S ≤ 16) : C_X10_draw l G w [.ref (G.2.1 40 0), .int (nI S)] (fun r w' => r = some (.int (nI (drN (lotN (w.1 40 0 45)) % S))) ∧ w' = setI w 40 0 45 (lotN (w.1 40 0 45))) noX := by
  refine e_X10_draw hl (fun M kk hM hk F => ?_)
  rintro _ rfl
  have e : ((setI w 40 0 45 (w.1 40 0 45 * 1103515245 + 12345)).1 40 0 45) = lotN (w.1 40 0 45) := setI_eq _ _ _ _ _
  rw [e, dr_ar]
  refine ⟨nI_ne0 h0 (by omega), ?_, rfl⟩
  rw [nI_mod (by have := drN_lt (lotN (w.1 40 0 45)); omega) (by omega) h0]
end RF
