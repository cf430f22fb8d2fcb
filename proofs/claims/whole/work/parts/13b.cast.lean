/-! Sets of singers: who is heard, whom to cast, the chorus, the quarrel. -/
theorem hz_not : ∀ S, S < 8 → ∀ m, m < 128 → m < 2 ^ S → (((1 : Int32) <<< (nI S &&& 31)) - 1) &&& (nI m ^^^ (-1)) = nI (2 ^ S - 1 - m) := by decide +kernel
theorem hz_notb : ∀ S, S < 8 → ∀ m, m < 128 → m < 2 ^ S → ∀ s, s < 7 → (2 ^ S - 1 - m) / 2 ^ s % 2 = if s < S then 1 - m / 2 ^ s % 2 else 0 := by decide +kernel
theorem hz_are : ∀ S, S < 8 → ((1 : Int32) <<< (nI S &&& 31)) - 1 = nI (2 ^ S - 1) ∧ (1 : Int32) <<< (nI S &&& 31) = nI (2 ^ S) := by decide +kernel
theorem p2_7 {S : Nat} (h : S ≤ 7) : 2 ^ S ≤ 128 := Nat.pow_le_pow_right (by decide) h
/-- hoarse are just the singers of m -/
def hwS (T : Tx) (σ : Sg) (m : Nat) : Sg := onK (2 ^ tS T - 1 - m) σ (tS T)
/-- note n of the hymn is heard -/
def hp (T : Tx) (E : Ex) (τ : Sg) (n : Nat) : Bool := decide (sbF T E (hymF T E τ n).1 n < tS T)
theorem hym_ob (T : Tx) (E : Ex) (τ : Sg) : ∀ k, (hymF T E τ k).2 = ob (hp T E τ) k := by
  intro k
  induction k with
  | zero => rfl
  | succ k ih =>
    rw [ob, ← ih, hymF]
    unfold hp
    by_cases h : sbF T E (hymF T E τ k).1 k < tS T
    · rw [if_pos h, if_pos (decide_eq_true h)]
    · rw [if_neg h, if_neg (by rw [decide_eq_false h]; decide)]
def al (p : Nat → Bool) : Nat → Bool
  | 0 => true
  | n + 1 => al p n && p n
theorem al_t {p : Nat → Bool} {n : Nat} (h : ∀ k, k < n → p k = true) : al p n = true := by
  induction n with
  | zero => rfl
  | succ n ih => rw [al, ih (fun k hk => h k (by omega)), h n (by omega)]; rfl
theorem al_f {p : Nat → Bool} {n k : Nat} (hk : k < n) (h : p k = false) : al p n = false := by
  induction n with
  | zero => exact absurd hk (Nat.not_lt_zero _)
  | succ n ih =>
    rw [al]
    by_cases hq : k = n
    · rw [← hq, h, Bool.and_false]
    · rw [ih (by omega)]; rfl
theorem al_of {p : Nat → Bool} {n : Nat} (h : al p n = true) : ∀ k, k < n → p k = true := by
  intro k hk
  cases hp : p k with
  | true => rfl
  | false => rw [al_f hk hp] at h; cases h
def ccB (T : Tx) (E : Ex) (τ : Sg) : Bool := al (hp T E τ) (tN T)
def chp (T : Tx) (m : Nat) : Option Nat → Bool
  | none => true
  | some c => decide (popN m 7 < popN c 7) || (decide (popN m 7 = popN c 7) && decide (payK T m (tS T) < payK T c (tS T)))
def csF (T : Tx) (E : Ex) (σ : Sg) : Nat → Option Nat
  | 0 => none
  | m + 1 => if chp T m (csF T E σ m) && ccB T E (onK m (refF T σ) (tS T)) then some m else csF T E σ m
theorem csF_lt {T : Tx} {E : Ex} {σ : Sg} {n b : Nat} (h : csF T E σ n = some b) : b < n := by
  induction n with
  | zero => cases h
  | succ n ih =>
    rw [csF] at h
    split at h
    · cases h; omega
    · have := ih h
      omega
theorem popN_le (x : Nat) : ∀ n, popN x n ≤ n := by
  intro n
  induction n with
  | zero => exact Nat.le_refl _
  | succ n ih => rw [popN]; omega
/-- the gain of one -/
def gn (mine yours v u : Int32) : Int32 := if mine = 0 then (if yours = 0 then v else 0) else (if yours = 0 then v + u else -u)
def qOk (v u : Int32) (a b : Nat) : Bool := decide (gn (1 - nI a) (nI b) v u ≤ gn (nI a) (nI b) v u) && decide (gn (1 - nI b) (nI a) v u ≤ gn (nI b) (nI a) v u)
def qF (v u : Int32) : Nat → Int32 × Int32 × Int32
  | 0 => (0, -1, 0)
  | p + 1 =>
    if qOk v u (p / 2) (p % 2) then ((qF v u p).1 + 1, (if (qF v u p).1 = 0 then 10 * nI (p / 2) + nI (p % 2) else (qF v u p).2.1), (if (qF v u p).1 = 0 then gn (nI (p / 2)) (nI (p % 2)) v u + gn (nI (p % 2)) (nI (p / 2)) v u else (qF v u p).2.2))
    else qF v u p
def quF (v u what : Int32) : Int32 := if what = 0 then (qF v u 4).1 else if what = 1 then (qF v u 4).2.1 else (qF v u 4).2.2
theorem hz_q : ∀ p, p < 4 → nI p >>> ((1 : Int32) &&& 31) = nI (p / 2) ∧ nI p &&& 1 = nI (p % 2) := by decide +kernel
theorem refF_onK {T : Tx} (hT : Tok T) {σ : Sg} {m i : Nat} : refF T (onK m σ i) = onK m (refF T σ) i := by
  have hS := hT.1
  funext q
  unfold refF onK
  by_cases h : q < tS T
  · rw [if_pos h, if_neg (by omega)]
    exact (if_pos h).symm
  · rw [if_neg h]
    by_cases h2 : 7 ≤ q ∧ q < 7 + i
    · rw [if_pos h2, if_pos h2]
    · rw [if_neg h2, if_neg h2]
      exact (if_neg h).symm
theorem Pd.on {T : Tx} {σ : Sg} (hT : Tok T) (h : Pd T σ) (m : Nat) : Pd T (onK m σ (tS T)) := by
  have hS := hT.1
  intro s h1 h2
  unfold onK
  rw [if_neg (by omega), if_neg (by omega), if_neg (by omega), if_neg (by omega), if_neg (by omega)]
  exact h s h1 h2
section QD
variable {l : Launch} {G : Gx} {w : Wd} {T : Tx} {E : Ex} {σ : Sg}
theorem c_gain (hl : l.stackTraces = false) {a b v u : Int32} : C_X9_gain l G w [.int a, .int b, .int v, .int u] (fun r w' => r = some (.int (gn a b v u)) ∧ w' = w) noX := by
  refine e_X9_gain hl (fun M kk hM hk F => ⟨fun h => ⟨fun h2 => ⟨?_, rfl⟩, fun h2 => ⟨?_, rfl⟩⟩, fun h => ⟨fun h2 => ⟨?_, rfl⟩, fun h2 => ⟨?_, rfl⟩⟩⟩)
  · unfold gn; rw [if_neg h, if_neg h2]
  · unfold gn; rw [if_neg h, if_pos (Classical.not_not.mp h2)]
  · unfold gn; rw [if_pos (Classical.not_not.mp h), if_neg h2]
  · unfold gn; rw [if_pos (Classical.not_not.mp h), if_pos (Classical.not_not.mp h2)]
theorem c_quarrel (hl : l.stackTraces = false) {v u o : Int32} : C_X9_quarrel l G w [.ref (G.2.1 0 0), .int v, .int u, .int o] (KC w (okB v 0 99 && okB u 0 99 && okB o 0 2) (quF v u o)) (XT w (okB v 0 99 && okB u 0 99 && okB o 0 2)) := by
  refine e_X9_quarrel hl (fun M kk hM hk F => ?_)
  subst hM
  have f35 : ∀ b : Bool, (okB v 0 99 && okB u 0 99 && okB o 0 2) = b → Z M G 0 (KC w (okB v 0 99 && okB u 0 99 && okB o 0 2) (quF v u o)) (XT w (okB v 0 99 && okB u 0 99 && okB o 0 2)) w 35 [none, some (.int v), some (.int u), some (.int o), none, none, none, none, none, none, none, none] [.int (bI b), .ref (G.2.1 0 0)] := by
    intro b hb
    refine b_X9_quarrel_35 F hk (con_dem hl (fun h1 => ?_) (fun h1 => ⟨hb.trans h1, rfl, rfl⟩))
    refine up_to (P := fun p => Z M G 1 _ _ w 50 [none, some (.int v), some (.int u), some (.int o), some (.int (qF v u p).1), some (.int (qF v u p).2.1), some (.int (qF v u p).2.2), some (.int (nI p)), none, none, none, none] []) 4 (fun p hp ih => ?_) ?_
    · refine b_X9_quarrel_50 F hk ⟨fun hc => absurd hc (nI_ge hp (by decide)), fun _ => ?_⟩
      rw [(hz_q p hp).1, (hz_q p hp).2, ← nI_succ]
      have eq1 : qF v u (p + 1) = if qOk v u (p / 2) (p % 2) then ((qF v u p).1 + 1, (if (qF v u p).1 = 0 then 10 * nI (p / 2) + nI (p % 2) else (qF v u p).2.1), (if (qF v u p).1 = 0 then gn (nI (p / 2)) (nI (p % 2)) v u + gn (nI (p % 2)) (nI (p / 2)) v u else (qF v u p).2.2)) else qF v u p := rfl
      refine con_i (c_gain hl) (con_i (c_gain hl) (con_i (c_gain hl) ⟨fun h2 => ?_, fun h2 => con_i (c_gain hl) ⟨fun h3 => ?_, fun h3 => ?_⟩⟩))
      · have e : qOk v u (p / 2) (p % 2) = false := by
          unfold qOk
          rw [decide_eq_false (Int32.not_le.mpr h2)]; rfl
        rw [eq1, e] at ih
        exact ih
      · have e : qOk v u (p / 2) (p % 2) = true := by
          unfold qOk
          rw [decide_eq_true (Int32.not_lt.mp h2), decide_eq_true h3]; rfl
        rw [eq1, e, if_pos rfl] at ih
        refine ⟨fun h4 => ?_, fun h4 => ?_⟩
        · rw [if_neg h4, if_neg h4] at ih
          exact ih
        · rw [if_pos (Classical.not_not.mp h4), if_pos (Classical.not_not.mp h4)] at ih
          exact ih
      · have e : qOk v u (p / 2) (p % 2) = false := by
          unfold qOk
          rw [decide_eq_false h3, Bool.and_false]
        rw [eq1, e] at ih
        exact ih
    · refine b_X9_quarrel_50 F hk ⟨fun _ => ⟨fun h2 => ⟨fun h3 => ⟨hb.trans h1, ?_, Sm.rf⟩, fun h3 => ⟨hb.trans h1, ?_, Sm.rf⟩⟩, fun h2 => ⟨hb.trans h1, ?_, Sm.rf⟩⟩, fun hc => absurd (by decide) hc⟩
      · unfold quF; rw [if_neg h2, if_neg h3]
      · unfold quF; rw [if_neg h2, if_pos (Classical.not_not.mp h3)]
      · unfold quF; rw [if_pos (Classical.not_not.mp h2)]
  refine con_i (c_within hl) ⟨fun h1 => b_X9_quarrel_34 F hk (f35 false ?_), fun h1 => con_i (c_within hl) ⟨fun h2 => b_X9_quarrel_34 F hk (f35 false ?_), fun h2 => con_i (c_within hl) ⟨fun h3 => b_X9_quarrel_34 F hk (f35 false ?_), fun h3 => f35 true ?_⟩⟩⟩
  · rw [show okB v 0 99 = false from bI_0 h1]; rfl
  · rw [show okB u 0 99 = false from bI_0 h2, Bool.and_false]; rfl
  · rw [show okB o 0 2 = false from bI_0 h3, Bool.and_false]
  · rw [show okB v 0 99 = true from bI_not.mp h1, show okB u 0 99 = true from bI_not.mp h2, show okB o 0 2 = true from bI_not.mp h3]; rfl
theorem c_payOf (hl : l.stackTraces = false) {m : Nat} (hm : m < 128) (h : CQ w T E σ) : C_X9_payOf l G w [.ref (G.2.1 0 0), .int (nI m)] (fun r w' => r = some (.int (payK T m (tS T))) ∧ w' = w) noX := by
  have hS := h.1.1
  refine e_X9_payOf hl (fun M kk hM hk F => ?_)
  refine up_to (P := fun i => Z M G 0 _ _ w 4 [some (.ref (G.2.1 0 0)), some (.int (nI m)), some (.int (payK T m i)), some (.int (nI i))] []) (tS T) (fun i hi ih => ?_) ?_
  · refine b_X9_payOf_4 F hk ⟨fun hc => ?_, fun _ => ⟨vp_in_nI (by omega) (by decide), ?_⟩⟩
    · rw [h.2.1.2.2.1.1] at hc
      exact absurd hc (nI_ge hi (by omega))
    · rw [hz_bit m hm i (by omega), ← nI_succ, nI_clamp (by omega), (h.2.1.2.2.1.2.2.2.2.1 i hi).2.1]
      rw [payK] at ih
      rcases bit01 m i with q | q
      · rw [if_neg (by omega)] at ih
        rw [q, show nI 0 * sp T i = 0 from Int32.zero_mul, Int32.add_zero]
        exact ih
      · rw [if_pos q] at ih
        rw [q, show nI 1 * sp T i = sp T i from Int32.one_mul _]
        exact ih
  · refine b_X9_payOf_4 F hk ⟨fun _ => ⟨rfl, rfl⟩, fun hc => ?_⟩
    rw [h.2.1.2.2.1.1] at hc
    exact absurd (nI_le (Nat.le_refl _) (by omega)) hc
/-- set m is put on trial -/
theorem SceneC.hw {w : Wd} {T : Tx} {σ : Sg} {m : Nat} (h : SceneC w 68 σ (tN T)) (hT : Tok T) (hp : Pd T σ) (hm : m < 2 ^ tS T) : SceneC (setI w 5 68 1 (nI m)) 68 (hwS T σ m) (tN T) := by
  have hS := hT.1
  have hN := hT.2.1
  have h128 := p2_7 hS
  obtain ⟨h1, h2, h3, h4, -⟩ := h
  have hb := hz_notb (tS T) (by omega) (2 ^ tS T - 1 - m) (by omega) (by omega)
  have e : 2 ^ tS T - 1 - (2 ^ tS T - 1 - m) = m := by omega
  rw [e] at hb
  have off : ∀ q, ¬ (7 ≤ q ∧ q < 7 + tS T) → hwS T σ m q = σ q := fun q hq => if_neg hq
  refine ⟨?_, ?_, fun s hs => ?_, fun n hn => ?_, m, by omega, setI_eq _ _ _ _ _, fun s hs => ?_⟩
  · rw [setI_ne (by omega), off _ (by omega)]; exact h1
  · rw [setI_ne (by omega), off _ (by omega)]; exact h2
  · rw [setI_ne (by omega), setI_ne (by omega), setI_ne (by omega), setI_ne (by omega), off _ (by omega), off _ (by omega), off _ (by omega), off _ (by omega)]
    exact h3 s hs
  · rw [setI_ne (by omega), off _ (by omega)]; exact h4 n hn
  · rw [hb s hs]
    by_cases hq : s < tS T
    · show (if 7 ≤ 7 + s ∧ 7 + s < 7 + tS T then nI (1 - (2 ^ tS T - 1 - m) / 2 ^ (7 + s - 7) % 2) else σ (7 + s)) = _
      rw [if_pos (by omega), if_pos hq, show 7 + s - 7 = s by omega]
    · rw [if_neg hq, off _ (by omega)]
      exact (hp s (by omega) hs).2.1
theorem c_heardWithout (hl : l.stackTraces = false) {m : Nat} (h : CQ w T E σ) (hpd : Pd T σ) (hm : m < 2 ^ tS T) : C_X9_heardWithout l G w [.ref (G.2.1 0 0), .int (nI m)] (fun r w' => r = some (.int (hymF T E (hwS T σ m) (tN T)).2) ∧ Sm (GJ 68) w w') noX := by
  refine e_X9_heardWithout hl (fun M kk hM hk F => ?_)
  subst hM
  refine con_vP (c_become hl (i := 68) (by decide) (by decide) h.1.2.1 h.2.2) (fun w1 h1 => ?_)
  rintro _ rfl
  have s2 := h1.1.hw h.1 hpd hm
  have hs : Sm (GJ 68) w (setI w1 5 68 1 (nI m)) := h1.2.set (by unfold GJ; omega)
  have q := h.mvS hs GJ_GC
  exact con_iP (c_singHymn hl (j := 68) (by decide) h.1 q.2.1 s2) (fun w2 h2 => ⟨rfl, hs.tr h2.2⟩)
theorem c_canCast (hl : l.stackTraces = false) {m : Nat} (h : CQ w T E σ) (hpd : Pd T σ) (hm : m < 2 ^ tS T) : C_X9_canCast l G w [.ref (G.2.1 0 0), .int (nI m)] (fun r w' => r = some (.int (bI (ccB T E (onK m (refF T σ) (tS T))))) ∧ Sm GC w w') noX := by
  have hS := h.1.1
  have hN := h.1.2.1
  have h128 := p2_7 hS
  refine e_X9_canCast hl (fun M kk hM hk F => ?_)
  subst hM
  refine con_vP (c_become hl (i := 68) (by decide) (by decide) hN h.2.2) (fun w1 h1 => ?_)
  have q1 := h.mvS h1.2 GJ_GC
  refine con_i (c_allSingers hl) ?_
  rw [q1.2.1.2.2.1.1, hz_not (tS T) (by omega) m (by omega) hm]
  rintro _ rfl
  have s2 := h1.1.hw h.1 hpd (m := 2 ^ tS T - 1 - m) (by omega)
  have hs : Sm GC w (setI w1 5 68 1 (nI (2 ^ tS T - 1 - m))) := (h1.2.mono GJ_GC).set (by unfold GC; omega)
  have q2 := h.mv hs
  refine con_vP (c_refresh hl (j := 68) (by decide) h.1 q2.2.1 s2) (fun w3 h3 => ?_)
  have e : refF T (hwS T σ (2 ^ tS T - 1 - m)) = onK m (refF T σ) (tS T) := by
    unfold hwS
    rw [show 2 ^ tS T - 1 - (2 ^ tS T - 1 - m) = m by omega, refF_onK h.1]
  rw [e] at h3
  generalize onK m (refF T σ) (tS T) = τ at *
  refine up_to (P := fun i => ∀ w', Sm GC w w' → SceneC w' 68 (hymF T E τ i).1 (tN T) → (∀ k, k < i → hp T E τ k = true) → Z M G 0 _ _ w' 42 [some (.ref (G.2.1 0 0)), none, some (.int (nI i))] []) (tN T) (fun i hi ih w' hs' hsc hall => ?_) (fun w' hs' hsc hall => ?_) w3 (hs.tr (h3.2.mono GJ_GC)) h3.1 (fun k hk => absurd hk (Nat.not_lt_zero _))
  · have q := h.mv hs'
    refine b_X9_canCast_42 F hk ⟨fun hc => ?_, fun _ => con_iP (c_singNote hl (j := 68) (by decide) h.1 q.2.1 hsc hi) (fun w4 h4 => ?_)⟩
    · rw [q.2.1.2.2.1.2.1] at hc
      exact absurd hc (nI_ge hi (by omega))
    · rw [← nI_succ]
      have hs4 := hs'.tr (h4.2.mono GJ_GC)
      by_cases hlt : sbF T E (hymF T E τ i).1 i < tS T
      · have e1 : sbI T E (hymF T E τ i).1 i = nI (sbF T E (hymF T E τ i).1 i) := if_pos hlt
        have e2 : (hymF T E τ (i + 1)).1 = singF T E (hymF T E τ i).1 i := by rw [hymF, if_pos hlt]
        rw [e1]
        refine ⟨fun _ => ih w4 hs4 (by rw [e2]; exact h4.1) (fun k hk => ?_), fun hc => absurd (Classical.not_not.mp hc) (nI_neg1 (by omega))⟩
        by_cases hq : k = i
        · rw [hq]; exact decide_eq_true hlt
        · exact hall k (by omega)
      · have e1 : sbI T E (hymF T E τ i).1 i = -1 := if_neg hlt
        rw [e1]
        refine ⟨fun hc => absurd rfl hc, fun _ => ⟨?_, hs4⟩⟩
        unfold ccB
        rw [al_f hi (decide_eq_false hlt)]
        rfl
  · have q := h.mv hs'
    refine b_X9_canCast_42 F hk ⟨fun _ => ⟨?_, hs'⟩, fun hc => ?_⟩
    · unfold ccB
      rw [al_t hall]
      rfl
    · rw [q.2.1.2.2.1.2.1] at hc
      exact absurd (nI_le (Nat.le_refl _) (by omega)) hc
theorem c_isCheaper (hl : l.stackTraces = false) {m : Nat} {b : Option Nat} (h : CQ w T E σ) (hm : m < 128) (hb : ∀ c, b = some c → c < 128) : C_X9_isCheaper l G w [.ref (G.2.1 0 0), .int (nI m), .int (oI b)] (fun r w' => r = some (.int (bI (chp T m b))) ∧ w' = w) noX := by
  refine e_X9_isCheaper hl (fun M kk hM hk F => ?_)
  subst hM
  cases b with
  | none => exact ⟨fun hc => absurd rfl hc, fun _ => ⟨rfl, rfl⟩⟩
  | some c =>
    have hc := hb c rfl
    have l1 := popN_le m 7
    have l2 := popN_le c 7
    refine ⟨fun _ => con_i (c_bitCount hl) (con_i (c_bitCount hl) ?_), fun q => absurd (Classical.not_not.mp q) (nI_neg1 (show c < 2 ^ 31 by omega))⟩
    rw [bc_7 hm, show bc (oI (some c)) = nI (popN c 7) from bc_7 hc]
    have hcmp : ∀ a b : Nat, a ≤ 7 → b ≤ 7 → ((0 < nI a - nI b ↔ b < a) ∧ (nI a - nI b = 0 ↔ a = b)) := by
      have : ∀ a, a < 8 → ∀ b, b < 8 → ((0 < nI a - nI b ↔ b < a) ∧ (nI a - nI b = 0 ↔ a = b)) := by decide +kernel
      intro a b ha hb
      exact this a (by omega) b (by omega)
    have k := hcmp (popN c 7) (popN m 7) l2 l1
    rw [k.1, k.2]
    have ech : chp T m (some c) = (decide (popN m 7 < popN c 7) || (decide (popN m 7 = popN c 7) && decide (payK T m (tS T) < payK T c (tS T)))) := rfl
    rw [ech]
    refine ⟨fun h1 => ⟨?_, rfl⟩, fun h1 => ⟨fun h2 => ⟨?_, rfl⟩, fun h2 => con_i (c_payOf hl hm h) (con_i (c_payOf hl hc h) ⟨fun h3 => ⟨?_, rfl⟩, fun h3 => ⟨?_, rfl⟩⟩)⟩⟩
    · rw [decide_eq_true h1]; rfl
    · rw [decide_eq_false h1, decide_eq_false (fun z => h2 z.symm)]; rfl
    · rw [decide_eq_false h1, decide_eq_false (Int32.not_lt.mpr h3), Bool.and_false]; rfl
    · rw [decide_eq_true (Classical.not_not.mp h2).symm, decide_eq_true (Int32.not_le.mp h3), Bool.and_true, Bool.or_true]; rfl
theorem c_cast (hl : l.stackTraces = false) (h : CQ w T E σ) (hpd : Pd T σ) : C_X9_cast l G w [.ref (G.2.1 0 0)] (KC w true (oI (csF T E σ (2 ^ tS T)))) noX := by
  have hS := h.1.1
  have h128 := p2_7 hS
  refine e_X9_cast hl (fun M kk hM hk F => ?_)
  subst hM
  rw [h.2.1.2.2.1.1, (hz_are (tS T) (by omega)).2]
  refine up_to (P := fun m => ∀ w', Sm GC w w' → Z M G 0 _ _ w' 17 [some (.ref (G.2.1 0 0)), some (.int (oI (csF T E σ m))), some (.int (nI (2 ^ tS T))), some (.int (nI m))] []) (2 ^ tS T) (fun m hm ih w' hs => ?_) (fun w' hs => ?_) w Sm.rf
  · have q := h.mv hs
    refine b_X9_cast_17 F hk ⟨fun hc => absurd hc (nI_ge hm (by omega)), fun _ => con_i (c_isCheaper hl q (by omega) (fun c hc => by have := csF_lt hc; omega)) ?_⟩
    rw [← nI_succ]
    have er : csF T E σ (m + 1) = if chp T m (csF T E σ m) && ccB T E (onK m (refF T σ) (tS T)) then some m else csF T E σ m := rfl
    rw [er] at ih
    refine ⟨fun h1 => ?_, fun h1 => con_iP (c_canCast hl q hpd hm) (fun w2 h2 => ?_)⟩
    · rw [bI_0 h1] at ih
      exact ih w' hs
    · rw [bI_not.mp h1] at ih
      have ih := ih w2 (hs.tr h2)
      refine ⟨fun h3 => ?_, fun h3 => ?_⟩
      · rw [bI_0 h3] at ih
        exact ih
      · rw [bI_not.mp h3] at ih
        exact ih
  · exact b_X9_cast_17 F hk ⟨fun _ => ⟨rfl, rfl, hs⟩, fun hc => absurd (nI_le (Nat.le_refl _) (by omega)) hc⟩
/-- these are singers -/
def okS (T : Tx) (v : Int32) : Bool := okI v (2 ^ tS T)
theorem are_ok {T : Tx} (hT : Tok T) (v : Int32) : (v &&& ((((1 : Int32) <<< (nI (tS T) &&& 31)) - 1) ^^^ (-1)) == 0) = okS T v := by
  have hS := hT.1
  have h128 := p2_7 hS
  rw [(hz_are (tS T) (by omega)).1]
  unfold okS okI
  have hbv : v = Int32.ofBitVec v.toBitVec := rfl
  by_cases h0 : 0 ≤ v
  · obtain ⟨i, hi, rfl⟩ := nI_of (Int32.not_lt.mpr h0)
    rw [decide_eq_true h0, Bool.true_and]
    have e : ∀ S, S < 8 → nI (2 ^ S - 1) ^^^ (-1) = Int32.ofNat (2 ^ 32 - 2 ^ S) := by decide +kernel
    rw [e (tS T) (by omega)]
    have e2 : nI i &&& Int32.ofNat (2 ^ 32 - 2 ^ tS T) = nI (i &&& (2 ^ 32 - 2 ^ tS T)) := fb_and i _
    rw [e2]
    have e3 : i &&& (2 ^ 32 - 2 ^ tS T) = 2 ^ tS T * (i / 2 ^ tS T) := by
      have hd : i = 2 ^ tS T * (i / 2 ^ tS T) + i % 2 ^ tS T := (Nat.div_add_mod _ _).symm
      have hm : 2 ^ 32 - 2 ^ tS T = 2 ^ tS T * (2 ^ (32 - tS T) - 1) + 0 := by
        rw [Nat.mul_sub, ← Nat.pow_add, show tS T + (32 - tS T) = 32 by omega, Nat.mul_one, Nat.add_zero]
      have hlt : i % 2 ^ tS T < 2 ^ tS T := Nat.mod_lt _ (Nat.two_pow_pos _)
      have hq : i / 2 ^ tS T < 2 ^ (32 - tS T) := by
        rw [Nat.div_lt_iff_lt_mul (Nat.two_pow_pos _), ← Nat.pow_add, show 32 - tS T + tS T = 32 by omega]
        omega
      apply Nat.eq_of_testBit_eq
      intro j
      rw [Nat.testBit_and, hm]
      conv => lhs; arg 1; rw [hd]
      rw [Nat.testBit_two_pow_mul_add _ hlt, Nat.testBit_two_pow_mul_add _ (Nat.two_pow_pos _)]
      have e5 := Nat.testBit_two_pow_mul_add (i / 2 ^ tS T) (Nat.two_pow_pos (tS T)) j
      rw [Nat.add_zero] at e5
      rw [e5]
      split
      · rw [Nat.zero_testBit, Bool.and_false]
      · rw [Nat.testBit_two_pow_sub_one]
        by_cases hj : j - tS T < 32 - tS T
        · rw [decide_eq_true hj, Bool.and_true]
        · rw [decide_eq_false hj, Bool.and_false]
          have : (i / 2 ^ tS T).testBit (j - tS T) = false := Nat.testBit_lt_two_pow (Nat.lt_of_lt_of_le hq (Nat.pow_le_pow_right (by decide) (by omega)))
          rw [this]
    rw [e3]
    have hle : 2 ^ tS T * (i / 2 ^ tS T) ≤ i := Nat.mul_div_le _ _
    by_cases hlt : i < 2 ^ tS T
    · rw [Nat.div_eq_of_lt hlt, Nat.mul_zero, decide_eq_true (nI_lt hlt (by omega))]
      rfl
    · have h1 : 1 ≤ i / 2 ^ tS T := (Nat.le_div_iff_mul_le (Nat.two_pow_pos _)).mpr (by omega)
      have h2 : 2 ^ tS T * 1 ≤ 2 ^ tS T * (i / 2 ^ tS T) := Nat.mul_le_mul_left _ h1
      have h3 := Nat.two_pow_pos (tS T)
      rw [decide_eq_false (nI_nlt (by omega) hi), beq_eq_false_iff_ne.mpr (nI_ne0 (by omega) (by omega))]
  · rw [decide_eq_false h0, Bool.false_and, beq_eq_false_iff_ne]
    intro hz
    have hneg : v < 0 := Int32.not_le.mp h0
    have hm : v.toBitVec.msb = true := by
      rw [Int32.lt_iff_toInt_lt] at hneg
      have : v.toBitVec.toInt < 0 := hneg
      rw [BitVec.msb_eq_toInt]
      exact decide_eq_true this
    have e : ∀ S, S < 8 → (nI (2 ^ S - 1) ^^^ (-1)).toBitVec.msb = true := by decide +kernel
    have h4 := congrArg (fun x : Int32 => x.toBitVec.msb) hz
    simp only [Int32.toBitVec_and, BitVec.msb_and, hm, e (tS T) (by omega)] at h4
    exact absurd h4 (by decide)
theorem c_chorus (hl : l.stackTraces = false) {v : Int32} (h : CQ w T E σ) (hpd : Pd T σ) : C_X9_chorus l G w [.ref (G.2.1 0 0), .int v] (KC w (okS T v) (nI (cn1 (hp T E (onK v.toNatClampNeg σ (tS T))) (tN T)))) (XT w (okS T v)) := by
  have hS := h.1.1
  have hN := h.1.2.1
  have h128 := p2_7 hS
  refine e_X9_chorus hl (fun M kk hM hk F => ?_)
  subst hM
  refine con_i (c_areSingers hl) ?_
  rw [h.2.1.2.2.1.1, are_ok h.1]
  refine con_dem hl (fun h1 => con_i (c_allSingers hl) ?_) (fun h1 => ⟨h1, rfl, rfl⟩)
  obtain ⟨m, hm, rfl⟩ := okI_of h1 (by omega)
  rw [h.2.1.2.2.1.1, hz_not (tS T) (by omega) m (by omega) hm, nI_clamp (by omega)]
  refine con_iP (c_heardWithout hl h hpd (by omega)) (fun w2 h2 => con_i (c_bitCount hl) ⟨h1, ?_, h2.mono GJ_GC⟩)
  rw [hym_ob, bc_ob (by omega)]
  unfold hwS
  rw [show 2 ^ tS T - 1 - (2 ^ tS T - 1 - m) = m by omega]
end QD
