/-! The reference: wordings. -/
theorem hz_pop : ∀ x, x < 64 → (0 < popN x 7 ↔ ¬ x = 0) := by decide +kernel
theorem wfN_pos {T : Tx} {n : Nat} : ∀ k, wfN T n k ≠ 0 := by
  intro k
  induction k with
  | zero => exact Nat.pos_iff_ne_zero.mp (Nat.two_pow_pos _)
  | succ k ih =>
    rw [wfN]
    split
    · intro h
      have := Nat.or_eq_zero_iff.mp h
      exact ih this.1
    · exact ih
theorem wyN_63 {T : Tx} (hT : Tok T) : ∀ k, k ≤ tN T → 0 < wyN T 63 k := by
  intro k
  induction k with
  | zero => intro _; exact Nat.one_pos
  | succ k ih =>
    intro hk
    have h2 := (wf_nI hT (show k < tN T by omega) (tL T) (Nat.le_refl _)).2
    rw [wyN]
    refine Nat.mul_pos (ih (by omega)) ?_
    have e : wfN T k (tL T) &&& 63 = wfN T k (tL T) % 64 := Nat.and_two_pow_sub_one_eq_mod _ 6
    rw [e, Nat.mod_eq_of_lt h2, hz_pop _ h2]
    exact wfN_pos _
/-- the fewest vowels, of those the first set -/
def BstW (T : Tx) (b : Nat) : Prop := b < 64 ∧ 0 < wyN T b (tN T) ∧ (∀ m, m < 64 → 0 < wyN T m (tN T) → popN b 7 ≤ popN m 7) ∧ ∀ m, m < b → 0 < wyN T m (tN T) → popN b 7 < popN m 7
theorem BstW.one {T : Tx} {a b : Nat} (ha : BstW T a) (hb : BstW T b) : a = b := by
  rcases Nat.lt_trichotomy a b with h | h | h
  · have h1 := hb.2.2.2 a h ha.2.1
    have h2 := ha.2.2.1 b hb.1 hb.2.1
    omega
  · exact h
  · have h1 := ha.2.2.2 b h hb.2.1
    have h2 := hb.2.2.1 a ha.1 ha.2.1
    omega
theorem woF_b {T : Tx} : ∀ n, (∀ b, woF T n = some b → b < n ∧ 0 < wyN T b (tN T) ∧ (∀ m, m < n → 0 < wyN T m (tN T) → popN b 7 ≤ popN m 7) ∧ ∀ m, m < b → 0 < wyN T m (tN T) → popN b 7 < popN m 7) ∧ (woF T n = none → ∀ m, m < n → ¬ 0 < wyN T m (tN T)) := by
  intro n
  induction n with
  | zero => exact ⟨(fun b h => by cases h), fun _ m hm => absurd hm (Nat.not_lt_zero _)⟩
  | succ n ih =>
    have er : woF T (n + 1) = if fwr n (woF T n) && decide (0 < wyN T n (tN T)) then some n else woF T n := rfl
    rw [er]
    cases hw : woF T n with
    | none =>
      rw [show fwr n none = true from rfl, Bool.true_and]
      have i2 := ih.2 hw
      by_cases hp : 0 < wyN T n (tN T)
      · rw [decide_eq_true hp, if_pos rfl]
        refine ⟨fun b hb => ?_, fun h => by cases h⟩
        cases hb
        refine ⟨by omega, hp, fun m hm hv => ?_, fun m hm hv => absurd hv (i2 m hm)⟩
        by_cases hq : m = n
        · rw [hq]; exact Nat.le_refl _
        · exact absurd hv (i2 m (by omega))
      · rw [decide_eq_false hp, if_neg (by decide)]
        refine ⟨(fun b hb => by cases hb), fun _ m hm => ?_⟩
        by_cases hq : m = n
        · rw [hq]; exact hp
        · exact i2 m (by omega)
    | some c =>
      have i1 := ih.1 c hw
      rw [show fwr n (some c) = decide (popN n 7 < popN c 7) from rfl]
      by_cases hc : popN n 7 < popN c 7 ∧ 0 < wyN T n (tN T)
      · rw [decide_eq_true hc.1, decide_eq_true hc.2, Bool.and_true, if_pos rfl]
        refine ⟨fun b hb => ?_, fun h => by cases h⟩
        cases hb
        refine ⟨by omega, hc.2, fun m hm hv => ?_, fun m hm hv => ?_⟩
        · by_cases hq : m = n
          · rw [hq]; exact Nat.le_refl _
          · have := i1.2.2.1 m (by omega) hv
            omega
        · have := i1.2.2.1 m hm hv
          omega
      · have hf : (decide (popN n 7 < popN c 7) && decide (0 < wyN T n (tN T))) = false := by
          cases hq : (decide (popN n 7 < popN c 7) && decide (0 < wyN T n (tN T))) with
          | false => rfl
          | true =>
            rw [Bool.and_eq_true] at hq
            exact absurd ⟨of_decide_eq_true hq.1, of_decide_eq_true hq.2⟩ hc
        rw [hf, if_neg (by decide)]
        refine ⟨fun b hb => ?_, fun h => by cases h⟩
        cases hb
        refine ⟨by omega, i1.2.1, fun m hm hv => ?_, i1.2.2.2⟩
        by_cases hq : m = n
        · rw [hq] at hv ⊢
          have : ¬ popN n 7 < popN c 7 := fun z => hc ⟨z, hv⟩
          omega
        · exact i1.2.2.1 m (by omega) hv
theorem woF_bst {T : Tx} (hT : Tok T) {b : Nat} (h : BstW T b) : woF T 64 = some b := by
  have k := woF_b (T := T) 64
  cases hw : woF T 64 with
  | none => exact absurd (wyN_63 hT _ (Nat.le_refl _)) (k.2 hw 63 (by decide))
  | some c =>
    have hc := k.1 c hw
    rw [BstW.one (a := c) (b := b) ⟨hc.1, hc.2.1, hc.2.2.1, hc.2.2.2⟩ h]
abbrev KMl (w : Wd) (ok : Bool) (what : Int32) (rs : Nat) (v : Int64) : Option Value → Wd → Prop := fun r w' => ∃ b : Int64, r = some (.long b) ∧ (ok = true → b = v ∧ w'.1 40 0 0 = 0 ∧ Sm GM w w' ∧ Jk (w'.1 69 1)) ∧ (ok = false → w' = bpM (cl0 w) what rs)
section RH
variable {l : Launch} {G : Gx} {w w0 : Wd} {X : String → Wd → Prop} {T : Tx} {E : Ex} {σ τ : Sg}
theorem con_ql (hl : l.stackTraces = false) {b ok : Bool} {what : Int32} {v : Int64} {rs : Nat} {Body : Wd → Prop} (hw : ¬ what = 0) (hr : rs < 2) (hb : ok = !b) (h : ok = true → Body (cl0 w)) : C_X10_bad l G (cl0 w) [.ref (G.2.1 40 0), .int (bI b), .int what, .int (nI rs)] (fun r w2 => ∃ v1 : Int32, r = some (.int v1) ∧ ((v1 = 0 → Body w2) ∧ (¬ (v1 = 0) → KMl w ok what rs v (some (.long 0)) w2))) X := by
  refine con_bad hl cl0_0 hw hr (fun h0 => ⟨fun _ => h (by rw [hb, h0]; rfl), fun hc => absurd rfl hc⟩) (fun h1 => ⟨fun hc => absurd hc (by decide), fun _ => ⟨0, rfl, fun hok => ?_, fun _ => rfl⟩⟩)
  rw [hb, h1] at hok
  cases hok
theorem m_wordings (hl : l.stackTraces = false) {v : Int32} (h : RQ w T E σ) : C_X10_wordings l G w [.ref (G.2.1 40 0), .int v] (KMl w (okB v 0 63) 1 1 (lN (wyN T v.toNatClampNeg (tN T)))) noX := by
  have hN := h.1.2.1
  refine e_X10_wordings hl (fun M kk hM hk F => ?_)
  subst hM
  rintro _ rfl
  have q := h.cl
  generalize hK : KMl w (okB v 0 63) 1 1 (lN (wyN T v.toNatClampNeg (tN T))) = K
  have f21 : ∀ b : Bool, okB v 0 63 = !b → Z M G 0 K noX (cl0 w) 21 [some (.ref (G.2.1 40 0)), some (.int v), none, none, none] [.int (bI b), .ref (G.2.1 40 0)] := by
    intro b hb
    refine b_X10_wordings_21 F hk ?_
    rw [← hK]
    refine con_ql hl (rs := 1) (by decide) (by decide) hb (fun hok => ?_)
    have hok2 := hok
    obtain ⟨m, -, hm, rfl⟩ := okB_of (a := 0) (b := 63) hok2 (by decide) (by decide)
    rw [nI_clamp (by omega)] at hK ⊢
    rw [hK]
    refine up_to (P := fun i => Z M G 0 K noX (cl0 w) 36 [some (.ref (G.2.1 40 0)), some (.int (nI m)), some (.long (lN (wyN T m i))), none, some (.int (nI i))] []) (tN T) (fun i hi ih => ?_) ?_
    · refine b_X10_wordings_36 F hk ⟨fun hc => ?_, fun _ => con_i (m_wordsOf hl h.1 q.2.1.1 hi) ?_⟩
      · rw [q.2.1.1.2.1] at hc
        exact absurd hc (nI_ge hi (by omega))
      · have hw := wf_nI h.1 hi (tL T) (Nat.le_refl _)
        have h3 : wfN T i (tL T) &&& m < 128 := Nat.lt_of_le_of_lt Nat.and_le_left (by have := hw.2; omega)
        rw [hw.1, fb_and]
        refine con_i (m_ones hl h3) ?_
        rw [nI_l (by have := popN_le (wfN T i (tL T) &&& m) 7; omega), lN_mul, ← nI_succ]
        exact ih
    · refine b_X10_wordings_36 F hk ⟨fun _ => ?_, fun hc => ?_⟩
      · rw [← hK]
        exact ⟨_, rfl, fun _ => ⟨rfl, cl0_0, cl0_sm, by rw [cl0_69]; exact h.2.2.2.2.2⟩, fun z => by rw [hok] at z; cases z⟩
      · rw [q.2.1.1.2.1] at hc
        exact absurd (nI_le (Nat.le_refl _) (by omega)) hc
  exact con_i (m_in hl) ⟨fun h1 => f21 false (bI_not.mp h1), fun h1 => f21 true (bI_0 (Classical.not_not.mp h1))⟩
theorem m_wording (hl : l.stackTraces = false) (h : RQ w T E σ) : C_X10_wording l G w [.ref (G.2.1 40 0)] (KM w true 1 1 (oI (woF T 64))) noX := by
  have hN := h.1.2.1
  refine e_X10_wording hl (fun M kk hM hk F => ?_)
  subst hM
  rintro _ rfl
  have q := h.cl
  generalize hK : KM w true 1 1 (oI (woF T 64)) = K
  -- sets of c and more are behind us
  have key : ∀ c, c ≤ 64 → ∀ b, b < 64 → 0 < wyN T b (tN T) → (∀ m, c ≤ m → m < 64 → 0 < wyN T m (tN T) → popN b 7 ≤ popN m 7) → (∀ m, c ≤ m → m < b → 0 < wyN T m (tN T) → popN b 7 < popN m 7) → Z M G 0 K noX (cl0 w) 10 [some (.ref (G.2.1 40 0)), some (.int (nI b)), some (.int (nI c - 1)), none, none] [] := by
    intro c
    induction c with
    | zero =>
      intro _ b hb hv h1 h2
      refine b_X10_wording_10 F hk ⟨fun _ => ?_, fun hc => absurd (by decide) hc⟩
      rw [← hK, woF_bst h.1 ⟨hb, hv, fun m hm => h1 m (Nat.zero_le _) hm, fun m hm => h2 m (Nat.zero_le _) hm⟩]
      exact km_cl h rfl
    | succ c ih =>
      intro hc b hb hv h1 h2
      rw [nI_pred]
      refine b_X10_wording_10 F hk ⟨fun hc => absurd hc (nI_pos (by omega)), fun _ => con_i (m_ones hl (by omega)) (con_i (m_ones hl (m := b) (by omega)) ?_)⟩
      have l1 := popN_le c 7
      have l2 := popN_le b 7
      have f34 : ∀ a : Bool, a = decide (popN c 7 ≤ popN b 7) → Z M G 0 K noX (cl0 w) 34 [some (.ref (G.2.1 40 0)), some (.int (nI b)), some (.int (nI c)), some (.int (bI (a && decide (0 < wyN T c 0)))), some (.int (nI 0))] [] := by
        intro a ha
        refine up_to (P := fun i => Z M G 0 K noX (cl0 w) 34 [some (.ref (G.2.1 40 0)), some (.int (nI b)), some (.int (nI c)), some (.int (bI (a && decide (0 < wyN T c i)))), some (.int (nI i))] []) (tN T) (fun i hi ih2 => ?_) ?_
        · refine b_X10_wording_34 F hk ⟨fun hc => ?_, fun _ => con_i (m_wordsOf hl h.1 q.2.1.1 hi) ?_⟩
          · rw [q.2.1.1.2.1] at hc
            exact absurd hc (nI_ge hi (by omega))
          · have hw := wf_nI h.1 hi (tL T) (Nat.le_refl _)
            have h3 : wfN T i (tL T) &&& c < 64 := Nat.lt_of_le_of_lt Nat.and_le_left hw.2
            have hp := hz_pop _ h3
            have ew : wyN T c (i + 1) = wyN T c i * popN (wfN T i (tL T) &&& c) 7 := rfl
            have e0 : (nI (wfN T i (tL T) &&& c) = 0) ↔ (wfN T i (tL T) &&& c) = 0 := nI_eq (by omega) (show 0 < 2 ^ 31 by decide)
            rw [hw.1, fb_and, e0, ← nI_succ]
            rw [ew] at ih2
            refine ⟨fun hz => ?_, fun hz => ?_⟩
            · have hz2 : popN (wfN T i (tL T) &&& c) 7 = 0 := by
                by_cases hq : 0 < popN (wfN T i (tL T) &&& c) 7
                · exact absurd hz (hp.mp hq)
                · omega
              rw [hz2, Nat.mul_zero, decide_eq_false (Nat.lt_irrefl 0), Bool.and_false] at ih2
              rw [Int32.and_zero]
              exact ih2
            · have hz2 := hp.mpr hz
              have e2 : (0 < wyN T c i * popN (wfN T i (tL T) &&& c) 7) ↔ 0 < wyN T c i := by
                constructor
                · intro hq
                  by_cases h0 : wyN T c i = 0
                  · rw [h0, Nat.zero_mul] at hq
                    exact absurd hq (Nat.lt_irrefl _)
                  · omega
                · intro hq
                  exact Nat.mul_pos hq hz2
              rw [decide_eq_decide.mpr e2] at ih2
              have e3 : ∀ x : Bool, bI x &&& 1 = bI x := by intro x; cases x <;> decide
              rw [e3]
              exact ih2
        · refine b_X10_wording_34 F hk ⟨fun _ => ⟨fun hz => ?_, fun hz => ?_⟩, fun hc => ?_⟩
          · have hz := bI_0 hz
            rw [← Int32.sub_eq_add_neg]
            refine ih (by omega) b hb hv (fun m hm1 hm2 hm3 => ?_) (fun m hm1 hm2 hm3 => ?_)
            · by_cases hq : m = c
              · subst hq
                rw [decide_eq_true hm3, Bool.and_true, ha] at hz
                have := of_decide_eq_false hz
                omega
              · exact h1 m (by omega) hm2 hm3
            · by_cases hq : m = c
              · subst hq
                rw [decide_eq_true hm3, Bool.and_true, ha] at hz
                have := of_decide_eq_false hz
                omega
              · exact h2 m (by omega) hm2 hm3
          · have hz := bI_not.mp hz
            rw [Bool.and_eq_true, ha] at hz
            have z1 := of_decide_eq_true hz.1
            have z2 := of_decide_eq_true hz.2
            rw [← Int32.sub_eq_add_neg]
            refine ih (by omega) c (by omega) z2 (fun m hm1 hm2 hm3 => ?_) (fun m hm1 hm2 hm3 => absurd hm2 (by omega))
            by_cases hq : m = c
            · rw [hq]; exact Nat.le_refl _
            · have := h1 m (by omega) hm2 hm3
              omega
          · rw [q.2.1.1.2.1] at hc
            exact absurd (nI_le (Nat.le_refl _) (by omega)) hc
      refine ⟨fun hlt => ?_, fun hlt => ?_⟩
      · rw [nI_ltI (by omega) (by omega)] at hlt
        exact f34 false (decide_eq_false (by omega)).symm
      · rw [nI_ltI (by omega) (by omega)] at hlt
        exact f34 true (decide_eq_true (by omega)).symm
  exact key 64 (Nat.le_refl _) 63 (by decide) (wyN_63 h.1 _ (Nat.le_refl _)) (fun m h1 h2 => by omega) (fun m h1 h2 => by omega)
end RH
