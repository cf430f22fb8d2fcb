/-! Rents, lots, Sundays. -/
theorem nI_mul (a b : Nat) : nI a * nI b = nI (a * b) := (Int32.ofNat_mul a b).symm
theorem nI_div {a b : Nat} (ha : a < 2 ^ 31) (hb : b < 2 ^ 31) (h0 : 0 < b) : nI a / nI b = nI (a / b) := by
  apply Int32.toInt_inj.mp
  have h1 : a / b < 2 ^ 31 := Nat.lt_of_le_of_lt (Nat.div_le_self _ _) ha
  rw [lg_idiv_nonneg (by rw [nI_toInt ha]; omega) (by rw [nI_toInt hb]; omega), nI_toInt ha, nI_toInt hb, nI_toInt h1]
  rfl
theorem nI_mod {a b : Nat} (ha : a < 2 ^ 31) (hb : b < 2 ^ 31) (h0 : 0 < b) : nI a - nI a / nI b * nI b = nI (a % b) := by
  rw [nI_div ha hb h0, nI_mul, fb_sub (Nat.div_mul_le_self _ _)]
  have := Nat.div_add_mod a b
  rw [Nat.mul_comm] at this
  rw [show a - a / b * b = a % b by omega]
def lotN (x : Int32) : Int32 := x * 1103515245 + 12345
def drN (x : Int32) : Nat := (sh x 16).toBitVec.toNat &&& 32767
theorem drN_lt (x : Int32) : drN x < 32768 := Nat.lt_of_le_of_lt Nat.and_le_right (by decide)
theorem dr_nI (x : Int32) : sh x 16 &&& 32767 = nI (drN x) := by
  unfold drN
  rw [← fb_and]
  congr 1
  apply Int32.toBitVec_inj.mp
  show _ = BitVec.ofNat 32 (sh x 16).toBitVec.toNat
  rw [BitVec.ofNat_toNat, BitVec.setWidth_eq]
/-- one day -/
def sdF (T : Tx) (E : Ex) (q : Int32) (p : Sg × Int32) : Sg × Int32 :=
  if tS T = 0 then (dayF T (hymF T E p.1 (tN T)).1, p.2)
  else
    (dayF T (if nI (drN (lotN (lotN p.2)) % 16) < q then (hymF T E (restF T (hymF T E (turnF p.1 (drN (lotN p.2) % tS T)) (tN T)).1) (tN T)).1 else (hymF T E (turnF p.1 (drN (lotN p.2) % tS T)) (tN T)).1), lotN (lotN p.2))
def sdS (T : Tx) (E : Ex) (q : Int32) (σ : Sg) (seed : Int32) : Nat → Sg × Int32
  | 0 => (σ, seed)
  | k + 1 => sdF T E q (sdS T E q σ seed k)
/-- what was sung today is no more than B -/
def Td (B : Nat) (T : Tx) (σ : Sg) : Prop := ∀ s, s < tS T → ∃ t, t ≤ B ∧ σ (28 + s) = nI t
theorem Td.mono {B C : Nat} {T : Tx} {σ : Sg} (h : Td B T σ) (hc : B ≤ C) : Td C T σ := fun s hs => by
  obtain ⟨t, h1, h2⟩ := h s hs
  exact ⟨t, by omega, h2⟩
theorem Td.nn {B : Nat} {T : Tx} {σ : Sg} (h : Td B T σ) (hB : B < 2 ^ 31) : ∀ s, s < tS T → 0 ≤ σ (28 + s) := fun s hs => by
  obtain ⟨t, h1, h2⟩ := h s hs
  rw [h2]
  exact nI_pos' (by omega)
theorem Td.sing {B : Nat} {T : Tx} {E : Ex} {σ : Sg} {n : Nat} (hT : Tok T) (h : Td B T σ) : Td (B + 1) T (singF T E σ n) := by
  have hS := hT.1
  intro s hs
  obtain ⟨t, h1, h2⟩ := h s hs
  unfold singF
  split
  · rename_i hlt
    by_cases hq : s = sbF T E σ n
    · rw [sung1_14 (Or.inr (by omega)), h2, ← nI_succ]
      exact ⟨t + 1, by omega, rfl⟩
    · rw [sung1_off (by omega) (by omega) (by omega)]
      exact ⟨t, by omega, h2⟩
  · exact ⟨t, by omega, h2⟩
theorem Td.hym {B : Nat} {T : Tx} {E : Ex} {σ : Sg} (hT : Tok T) (h : Td B T σ) : ∀ k, Td (B + k) T (hymF T E σ k).1 := by
  intro k
  induction k with
  | zero => exact h
  | succ k ih =>
    rw [hymF]
    split
    · exact ih.sing hT
    · intro s hs
      have hS := hT.1
      obtain ⟨t, h1, h2⟩ := ih s hs
      refine ⟨t, by omega, ?_⟩
      show (if 28 + s = 55 then _ else _) = _
      rw [if_neg (by omega)]
      exact h2
theorem Td.hymN {B : Nat} {T : Tx} {E : Ex} {σ : Sg} (hT : Tok T) (h : Td B T σ) : Td (B + 20) T (hymF T E σ (tN T)).1 := by
  have hN := hT.2.1
  exact (h.hym hT _).mono (by omega)
theorem Td.of {B : Nat} {T : Tx} {σ τ : Sg} (h : Td B T σ) (e : ∀ s, s < tS T → τ (28 + s) = σ (28 + s)) : Td B T τ := fun s hs => by
  rw [e s hs]
  exact h s hs
theorem day_t {T : Tx} (hT : Tok T) {σ : Sg} {s : Nat} (hs : s < tS T) : dayF T σ (28 + s) = 0 := by
  have hS := hT.1
  unfold dayF
  rw [setS_n (by omega), dayK_t hS (by omega)]
theorem Td.day {T : Tx} (hT : Tok T) {σ : Sg} : Td 0 T (dayF T σ) := fun s hs => ⟨0, Nat.le_refl _, day_t hT hs⟩
theorem rest_28 {T : Tx} (hT : Tok T) {σ : Sg} {q : Nat} (h : 7 ≤ q) : restF T σ q = σ q := by
  have hS := hT.1
  exact if_neg (by omega)
theorem Pd.rest {T : Tx} {σ : Sg} (_hT : Tok T) (h : Pd T σ) : Pd T (restF T σ) := by
  intro s h1 h2
  unfold restF
  rw [if_neg (by omega), if_neg (by omega), if_neg (by omega), if_neg (by omega), if_neg (by omega)]
  exact h s h1 h2
theorem Pd.turn {T : Tx} {σ : Sg} {s : Nat} (hT : Tok T) (h : Pd T σ) (hs : s < tS T) : Pd T (turnF σ s) := by
  have hS := hT.1
  intro q h1 h2
  unfold turnF
  rw [if_neg (by omega), if_neg (by omega), if_neg (by omega), if_neg (by omega), if_neg (by omega)]
  exact h q h1 h2
theorem Pd.ref {T : Tx} {σ : Sg} (h : Pd T σ) : Pd T (refF T σ) := by
  intro s h1 h2
  unfold refF
  rw [if_neg (by omega), if_neg (by omega), if_neg (by omega), if_neg (by omega), if_neg (by omega)]
  exact h s h1 h2
theorem Pd.day {T : Tx} {σ : Sg} (hT : Tok T) (h : Pd T σ) : Pd T (dayF T σ) := by
  have hS := hT.1
  have hr := h.ref
  intro s h1 h2
  unfold dayF
  rw [setS_n (by omega), setS_n (by omega), setS_n (by omega), setS_n (by omega), setS_n (by omega)]
  rw [dayK_n (by omega) (by omega), dayK_n (by omega) (by omega), dayK_n (by omega) (by omega), dayK_n (by omega) (by omega), dayK_n (by omega) (by omega)]
  exact hr s h1 h2
theorem Pd.sd {T : Tx} {E : Ex} {q : Int32} {p : Sg × Int32} (hT : Tok T) (h : Pd T p.1) : Pd T (sdF T E q p).1 := by
  unfold sdF
  split
  · exact (h.hym hT _).day hT
  · rename_i hz
    refine Pd.day hT ?_
    have h1 := h.turn (s := drN (lotN p.2) % tS T) hT (Nat.mod_lt _ (by omega))
    split
    · exact ((h1.hym hT _).rest hT).hym hT _
    · exact h1.hym hT _
theorem Pd.sds {T : Tx} {E : Ex} {q : Int32} {σ : Sg} {x : Int32} (hT : Tok T) (h : Pd T σ) : ∀ k, Pd T (sdS T E q σ x k).1 := by
  intro k
  induction k with
  | zero => exact h
  | succ k ih => exact ih.sd hT
theorem Td.sds {B : Nat} {T : Tx} {E : Ex} {q : Int32} {σ : Sg} {x : Int32} (hT : Tok T) (h : Td B T σ) : ∀ k, Td B T (sdS T E q σ x k).1 := by
  intro k
  cases k with
  | zero => exact h
  | succ k =>
    show Td B T (sdF T E q (sdS T E q σ x k)).1
    unfold sdF
    split
    · exact (Td.day hT).mono (Nat.zero_le _)
    · exact (Td.day hT).mono (Nat.zero_le _)
theorem SceneC.xr {w : Wd} {j s N : Nat} {σ : Sg} (h : SceneC w j σ N) (hs : s < 7) : SceneC (setI w 5 j 1 (w.1 5 j 1 ^^^ ((1 : Int32) <<< (nI s &&& 31)))) j (turnF σ s) N := by
  obtain ⟨t1, t2, t3, t4, m, t5, t6, t7⟩ := h
  obtain ⟨x1, x2, x3⟩ := hz_xor m t5 s hs
  rw [t6, x1]
  refine ⟨?_, ?_, fun q hq => ?_, fun q hq => ?_, m ^^^ 2 ^ s, x2, ?_, fun q hq => ?_⟩
  · simp only [setI_1]; simp [t1, turnF]; omega
  · simp only [setI_1]; simp [t2, turnF]; omega
  · obtain ⟨a, b, c, d⟩ := t3 q hq
    simp only [setI_1]
    simp [a, b, c, d, turnF]
    omega
  · simp only [setI_1]; simp [t4 q hq, turnF]; omega
  · simp only [setI_1]; simp
  · rw [x3 q hq]
    unfold turnF
    by_cases hqs : q = s
    · subst hqs
      rw [if_pos rfl, if_pos rfl, t7 q hq]
    · rw [if_neg (by omega), if_neg hqs, t7 q hq]
/-- the hoarse, as the reference gives them -/
theorem hz_hb : ∀ m, m < 128 → obN (fun s => m / 2 ^ s % 2 == 1) 7 = m := by decide +kernel
theorem hz_sh : ∀ s, s < 7 → nI 0 <<< (nI s &&& 31) = 0 ∧ nI 1 <<< (nI s &&& 31) = b1 s := by decide +kernel
theorem obN_stop {p : Nat → Bool} {a b : Nat} (h : a ≤ b) (hp : ∀ s, a ≤ s → s < b → p s = false) : obN p b = obN p a := by
  induction b with
  | zero => rw [show a = 0 by omega]
  | succ b ih =>
    by_cases hq : a = b + 1
    · rw [hq]
    · rw [obN, hp b (by omega) (by omega), if_neg (by decide)]
      exact ih (by omega) (fun s h1 h2 => hp s h1 (by omega))
theorem hb_ob {σ : Sg} {m : Nat} {i : Nat} (hi : i ≤ 7) (h : ∀ s, s < 7 → σ (7 + s) = nI (m / 2 ^ s % 2)) : hbF σ i = ob (fun s => m / 2 ^ s % 2 == 1) i := by
  induction i with
  | zero => rfl
  | succ i ih =>
    rw [hbF, ob, ih (by omega), h i (by omega)]
    rcases bit01 m i with q | q
    · rw [q, (hz_sh i (by omega)).1, if_neg (by decide), Int32.or_zero]
    · rw [q, (hz_sh i (by omega)).2, if_pos (by decide)]
theorem hb_mask {T : Tx} {w : Wd} {j : Nat} {σ : Sg} (hT : Tok T) (hp : Pd T σ) (h : SceneC w j σ (tN T)) : w.1 5 j 1 = hbF σ (tS T) := by
  have hS := hT.1
  obtain ⟨m, h5, h6, h7⟩ := h.2.2.2.2
  rw [h6, hb_ob (m := m) hS h7, ob_nI (by omega)]
  rw [← obN_stop (b := 7) hS (fun s h1 h2 => ?_), hz_hb m h5]
  have e := (hp s h1 h2).2.1
  rw [h7 s h2] at e
  rcases bit01 m s with q | q
  · rw [q]; rfl
  · rw [q] at e; exact absurd e (by decide)
/-- what is given, bound b -/
def givN (T : Tx) (m b : Nat) : Nat → Nat
  | 0 => 0
  | s + 1 => givN T m b s + (m / 2 ^ s % 2) * (min (sp T s).toNatClampNeg b)
theorem givN_le {T : Tx} {m b : Nat} : ∀ k, givN T m b k ≤ b * k := by
  intro k
  induction k with
  | zero => exact Nat.zero_le _
  | succ k ih =>
    rw [givN, Nat.mul_add, Nat.mul_one]
    have h1 : min (sp T k).toNatClampNeg b ≤ b := Nat.min_le_right _ _
    rcases bit01 m k with q | q
    · rw [q, Nat.zero_mul]; omega
    · rw [q, Nat.one_mul]; omega
theorem givN_mono {T : Tx} {m b c : Nat} (h : b ≤ c) : ∀ k, givN T m b k ≤ givN T m c k := by
  intro k
  induction k with
  | zero => exact Nat.le_refl _
  | succ k ih =>
    rw [givN, givN]
    have h1 : min (sp T k).toNatClampNeg b ≤ min (sp T k).toNatClampNeg c := by omega
    rcases bit01 m k with q | q
    · rw [q, Nat.zero_mul, Nat.zero_mul]; omega
    · rw [q, Nat.one_mul, Nat.one_mul]; omega
/-- the highest bound of at most k that is not too much, or 0 -/
def rnF (T : Tx) (m n : Nat) : Nat → Nat
  | 0 => 0
  | k + 1 => if givN T m (k + 1) (tS T) ≤ n then k + 1 else rnF T m n k
theorem rnF_le (T : Tx) (m n : Nat) : ∀ k, rnF T m n k ≤ k := by
  intro k
  induction k with
  | zero => exact Nat.le_refl _
  | succ k ih => rw [rnF]; split <;> omega
def rtF (T : Tx) (s m n : Nat) : Int32 := if m / 2 ^ s % 2 = 0 then 0 else nI (min (sp T s).toNatClampNeg (rnF T m n 60))
theorem mn_nI {a b : Nat} (ha : a < 2 ^ 31) (hb : b < 2 ^ 31) : (if nI b < nI a then nI b else nI a) = nI (min a b) := by
  by_cases h : b < a
  · rw [if_pos (nI_lt h ha), Nat.min_eq_right (by omega)]
  · rw [if_neg (nI_nlt (by omega) hb), Nat.min_eq_left (by omega)]
theorem sp_nI {T : Tx} (hT : Tok T) {s : Nat} (hs : s < tS T) : sp T s = nI (sp T s).toNatClampNeg ∧ (sp T s).toNatClampNeg ≤ 60 := by
  obtain ⟨v, h1, h2⟩ := (hT.2.2.2.1 s hs).2.1
  rw [h2, nI_clamp (by omega)]
  exact ⟨rfl, h1⟩
section QE
variable {l : Launch} {G : Gx} {w : Wd} {T : Tx} {E : Ex} {σ : Sg}
theorem c_given (hl : l.stackTraces = false) {m b : Nat} (hm : m < 128) (hb : b ≤ 60) (h : CQ w T E σ) : C_X9_given l G w [.ref (G.2.1 0 0), .int (nI m), .int (nI b)] (fun r w' => r = some (.int (nI (givN T m b (tS T)))) ∧ w' = w) noX := by
  have hS := h.1.1
  refine e_X9_given hl (fun M kk hM hk F => ?_)
  refine up_to (P := fun i => Z M G 0 _ _ w 5 [some (.ref (G.2.1 0 0)), some (.int (nI m)), some (.int (nI b)), some (.int (nI (givN T m b i))), some (.int (nI i))] []) (tS T) (fun i hi ih => ?_) ?_
  · refine b_X9_given_5 F hk ⟨fun hc => ?_, fun _ => ⟨vp_in_nI (by omega) (by decide), ?_⟩⟩
    · rw [h.2.1.2.2.1.1] at hc
      exact absurd hc (nI_ge hi (by omega))
    · have e := sp_nI h.1 hi
      rw [hz_bit m hm i (by omega), ← nI_succ, nI_clamp (by omega), (h.2.1.2.2.1.2.2.2.2.1 i hi).2.1, e.1, mn_nI (by omega) (by omega), nI_mul, nI_add]
      exact ih
  · refine b_X9_given_5 F hk ⟨fun _ => ⟨rfl, rfl⟩, fun hc => ?_⟩
    rw [h.2.1.2.2.1.1] at hc
    exact absurd (nI_le (Nat.le_refl _) (by omega)) hc
theorem c_rent (hl : l.stackTraces = false) {v u o : Int32} (h : CQ w T E σ) : C_X9_rent l G w [.ref (G.2.1 0 0), .int v, .int u, .int o] (KC w (okI v (tS T) && (okS T u && okB o 0 999)) (rtF T v.toNatClampNeg u.toNatClampNeg o.toNatClampNeg)) (XX w (okI v (tS T)) (okS T u && okB o 0 999)) := by
  have hS := h.1.1
  have h128 := p2_7 hS
  have hR := h.2.1.2.2.1
  refine e_X9_rent hl (fun M kk hM hk F => ?_)
  subst hM
  refine con_i (c_isSinger hl) ?_
  rw [hR.1]
  refine con_fnd hl (fun h1 => ?_) (fun h1 => Or.inl ⟨h1, rfl, rfl⟩)
  have f34 : ∀ b : Bool, (okS T u && okB o 0 999) = b → Z M G 1 (KC w (okI v (tS T) && (okS T u && okB o 0 999)) (rtF T v.toNatClampNeg u.toNatClampNeg o.toNatClampNeg)) (XX w (okI v (tS T)) (okS T u && okB o 0 999)) w 34 [some (.ref (G.2.1 0 0)), some (.int v), some (.int u), some (.int o), none] [.int (bI b), .ref (G.2.1 0 0)] := by
    intro b hb
    refine b_X9_rent_34 F hk (con_dem hl (fun h2 => ?_) (fun h2 => Or.inr ⟨h1, hb.trans h2, rfl, rfl⟩))
    have hbt := hb.trans h2
    have hok : (okI v (tS T) && (okS T u && okB o 0 999)) = true := by
      rw [show okI v (tS T) = true from h1, hbt]; rfl
    rw [Bool.and_eq_true] at hbt
    obtain ⟨s, hs, rfl⟩ := okI_of h1 (by omega)
    obtain ⟨m, hm, rfl⟩ := okI_of hbt.1 (by omega)
    have ho : 0 ≤ o ∧ o ≤ 999 := by
      have := hbt.2
      unfold okB at this
      rw [Bool.and_eq_true] at this
      exact ⟨of_decide_eq_true this.1, of_decide_eq_true this.2⟩
    obtain ⟨n, hn0, rfl⟩ := nI_of (Int32.not_lt.mpr ho.1)
    have hn : n ≤ 999 := (nI_leI hn0 (show 999 < 2 ^ 31 by decide)).mp ho.2
    have e := sp_nI h.1 hs
    rw [hz_bit m (by omega) s (by omega), nI_clamp (show s < 2 ^ 31 by omega), nI_clamp (show m < 2 ^ 31 by omega), nI_clamp (show n < 2 ^ 31 by omega)] at *
    have f73 : ∀ c, c ≤ 60 → c = rnF T m n 60 → m / 2 ^ s % 2 = 1 → Z M G 2 (KC w (okI (nI s) (tS T) && (okS T (nI m) && okB (nI n) 0 999)) (rtF T s m n)) (XX w (okI (nI s) (tS T)) (okS T (nI m) && okB (nI n) 0 999)) w 73 [some (.ref (G.2.1 0 0)), some (.int (nI s)), none, none, some (.int (nI c))] [] := by
      intro c hc hcr hbit
      refine b_X9_rent_73 F hk ⟨vp_in_nI (by omega) (by decide), hok, ?_, Sm.rf⟩
      unfold rtF
      rw [if_neg (show ¬ m / 2 ^ s % 2 = 0 by omega), ← hcr, nI_clamp (by omega), (hR.2.2.2.2.1 s hs).2.1]
      conv => lhs; rw [e.1]
      rw [mn_nI (by omega) (by omega)]
    refine ⟨fun hbit => ?_, fun hbit => ⟨hok, ?_, Sm.rf⟩⟩
    · have hb1 : m / 2 ^ s % 2 = 1 := by
        rcases bit01 m s with q | q
        · rw [q] at hbit; exact absurd rfl hbit
        · exact q
      have key : ∀ c, c ≤ 60 → rnF T m n 60 = rnF T m n c → Z M G 2 (KC w (okI (nI s) (tS T) && (okS T (nI m) && okB (nI n) 0 999)) (rtF T s m n)) (XX w (okI (nI s) (tS T)) (okS T (nI m) && okB (nI n) 0 999)) w 51 [some (.ref (G.2.1 0 0)), some (.int (nI s)), some (.int (nI m)), some (.int (nI n)), some (.int (nI c))] [] := by
        intro c
        induction c with
        | zero => intro _ hc; exact b_X9_rent_51 F hk ⟨fun _ => f73 0 (by omega) hc.symm hb1, fun hc => absurd (by decide) hc⟩
        | succ c ihc =>
          intro hc60 hc
          refine b_X9_rent_51 F hk ⟨fun hc => absurd hc (nI_nle (by omega) (by omega)), fun _ => con_i (c_given hl (by omega) hc60 h) ?_⟩
          have hgl := givN_le (T := T) (m := m) (b := c + 1) (tS T)
          have hg7 : (c + 1) * tS T ≤ 60 * 7 := Nat.mul_le_mul hc60 hS
          have er : rnF T m n (c + 1) = if givN T m (c + 1) (tS T) ≤ n then c + 1 else rnF T m n c := rfl
          rw [er] at hc
          refine ⟨fun hle => f73 (c + 1) hc60 ?_ hb1, fun hnle => ?_⟩
          · rw [if_pos ((nI_leI (by omega) hn0).mp hle)] at hc
            exact hc.symm
          · rw [if_neg (fun z => hnle (nI_le z hn0))] at hc
            rw [← Int32.sub_eq_add_neg, nI_pred]
            exact ihc (by omega) hc
      exact key 60 (Nat.le_refl _) rfl
    · unfold rtF
      rcases bit01 m s with q | q
      · rw [if_pos q]
      · rw [q] at hbit; exact absurd (by decide) hbit
  refine con_i (c_areSingers hl) ?_
  rw [hR.1, are_ok h.1]
  refine ⟨fun h2 => b_X9_rent_33 F hk (f34 false ?_), fun h2 => con_i (c_within hl) ⟨fun h3 => b_X9_rent_33 F hk (f34 false ?_), fun h3 => f34 true ?_⟩⟩
  · rw [show okS T u = false from bI_0 h2]; rfl
  · rw [show okB o 0 999 = false from bI_0 h3, Bool.and_false]
  · rw [show okS T u = true from bI_not.mp h2, show okB o 0 999 = true from bI_not.mp h3]; rfl
theorem c_draw (hl : l.stackTraces = false) {S : Nat} (h0 : 0 < S) (hS : S ≤ 16) : C_X9_draw l G w [.ref (G.2.1 0 0), .int (nI S)] (fun r w' => r = some (.int (nI (drN (lotN (w.1 0 0 14)) % S))) ∧ w' = setI w 0 0 14 (lotN (w.1 0 0 14))) noX := by
  refine e_X9_draw hl (fun M kk hM hk F => ?_)
  rintro _ rfl
  have e : ((setI w 0 0 14 (w.1 0 0 14 * 1103515245 + 12345)).1 0 0 14) = lotN (w.1 0 0 14) := setI_eq _ _ _ _ _
  rw [e]
  refine ⟨fun hc => absurd hc (nI_nle h0 (by omega)), fun _ => ⟨nI_ne0 h0 (by omega), ?_, rfl⟩⟩
  have e2 := dr_nI (lotN (w.1 0 0 14))
  unfold sh at e2
  rw [e2, nI_mod (by have := drN_lt (lotN (w.1 0 0 14)); omega) (by omega) h0]
theorem c_liveSunday (hl : l.stackTraces = false) {seed q : Int32} {d : Nat} (h : CQ w T E σ) (hd : d ≤ 48) (htd : Td 100000 T σ) : C_X9_liveSunday l G w [.ref (G.2.1 0 0), .int seed, .int (nI d), .int q] (fun r w' => r = none ∧ SceneC w' 68 (sdS T E q σ seed d).1 (tN T) ∧ Sm GC w w') noX := by
  have hS := h.1.1
  refine e_X9_liveSunday hl (fun M kk hM hk F => ?_)
  subst hM
  refine con_vP (c_become hl (i := 68) (by decide) (by decide) h.1.2.1 h.2.2) (fun w1 h1 => ?_)
  intro w2 hw2
  have hs0 : Sm GC w w2 := by rw [hw2]; exact (h1.2.mono GJ_GC).set (by unfold GC; omega)
  have q2 := h.mv hs0
  have hsc2 : SceneC w2 68 σ (tN T) := by
    rw [hw2]
    exact h1.1.mv (S := fun κ _ _ => κ = 0) (Sm.rf.set rfl) (fun κ k q => by omega)
  have hl2 : w2.1 0 0 14 = seed := by rw [hw2]; exact setI_eq _ _ _ _ _
  rw [q2.2.1.2.2.1.1]
  refine up_to (P := fun i => ∀ w', Sm GC w w' → SceneC w' 68 (sdS T E q σ seed i).1 (tN T) → w'.1 0 0 14 = (sdS T E q σ seed i).2 → Z M G 0 (fun r w' => r = none ∧ SceneC w' 68 (sdS T E q σ seed d).1 (tN T) ∧ Sm GC w w') noX w' 34 [some (.ref (G.2.1 0 0)), none, some (.int (nI d)), some (.int q), some (.int (nI (tS T))), some (.int (nI i))] []) d (fun i hi ih w' hs hsc hlt => ?_) (fun w' hs hsc hlt => b_X9_liveSunday_34 F hk ⟨fun _ => ⟨rfl, hsc, hs⟩, fun hc => absurd (nI_le (Nat.le_refl _) (by omega)) hc⟩) w2 hs0 hsc2 hl2
  have hti := Td.sds (E := E) (q := q) (x := seed) h.1 htd i
  have f116 : ∀ (w3 : Wd) (τ : Sg), Sm GC w w3 → SceneC w3 68 τ (tN T) → Td 100040 T τ → dayF T τ = (sdS T E q σ seed (i + 1)).1 → w3.1 0 0 14 = (sdS T E q σ seed (i + 1)).2 → Z M G 0 (fun r w' => r = none ∧ SceneC w' 68 (sdS T E q σ seed d).1 (tN T) ∧ Sm GC w w') noX w3 116 [some (.ref (G.2.1 0 0)), none, some (.int (nI d)), some (.int q), some (.int (nI (tS T))), some (.int (nI i))] [] := by
    intro w3 τ hs3 hsc3 htd3 e1 e2
    have q3 := h.mv hs3
    refine b_X9_liveSunday_116 F hk (con_iP (c_nextDay hl (j := 68) (by decide) h.1 q3.2.1 hsc3 (htd3.nn (by omega))) (fun w4 h4 => ?_))
    rw [← nI_succ]
    refine ih w4 (hs3.tr (h4.2.mono GJ_GC)) (by rw [← e1]; exact h4.1) ?_
    rw [← e2]
    exact h4.2.1 0 0 14 (by unfold GJ; omega)
  have es : sdS T E q σ seed (i + 1) = sdF T E q (sdS T E q σ seed i) := rfl
  refine b_X9_liveSunday_34 F hk ⟨fun hc => absurd hc (nI_ge hi (by omega)), fun _ => ?_⟩
  by_cases hz : tS T = 0
  · have ez : sdF T E q (sdS T E q σ seed i) = (dayF T (hymF T E (sdS T E q σ seed i).1 (tN T)).1, (sdS T E q σ seed i).2) := if_pos hz
    refine ⟨fun _ => ?_, fun hc => absurd (by rw [hz]; decide) hc⟩
    have q3 := h.mv hs
    refine b_X9_liveSunday_65 F hk (con_iP (c_singHymn hl (j := 68) (by decide) h.1 q3.2.1 hsc) (fun w4 h4 => ⟨fun _ => ?_, fun hc => absurd (by rw [hz]; decide) hc⟩))
    refine f116 w4 _ (hs.tr (h4.2.mono GJ_GC)) h4.1 ((hti.hymN h.1).mono (by omega)) (by rw [es, ez]) ?_
    rw [es, ez, ← hlt]
    exact h4.2.1 0 0 14 (by unfold GJ; omega)
  · have ez : sdF T E q (sdS T E q σ seed i) = _ := if_neg hz
    rw [← es] at ez
    have hpos : 0 < tS T := by omega
    refine ⟨fun hc => absurd hc (nI_nle hpos (by omega)), fun _ => con_i (c_draw hl hpos (by omega)) ?_⟩
    rw [hlt] at *
    generalize sdS T E q σ seed i = p at *
    intro w3 hw3
    have hsd : drN (lotN p.2) % tS T < tS T := Nat.mod_lt _ hpos
    have hsA : Sm GC w (setI w' 0 0 14 (lotN p.2)) := hs.set (by unfold GC; omega)
    have hscA : SceneC (setI w' 0 0 14 (lotN p.2)) 68 p.1 (tN T) := hsc.mv (S := fun κ _ _ => κ = 0) (Sm.rf.set rfl) (fun κ k q => by omega)
    have hscB := hscA.xr (s := drN (lotN p.2) % tS T) (by omega)
    have e5 : (setI w' 0 0 14 (lotN p.2)).1 5 68 1 = w'.1 5 68 1 := setI_ne (by omega)
    rw [e5, ← hw3] at hscB
    have hs3 : Sm GC w w3 := by rw [hw3]; exact hsA.set (by unfold GC; omega)
    have hl3 : w3.1 0 0 14 = lotN p.2 := by rw [hw3, setI_ne (by omega)]; exact setI_eq _ _ _ _ _
    have q3 := h.mv hs3
    have htB : Td 100000 T (turnF p.1 (drN (lotN p.2) % tS T)) := hti.of (fun s hs7 => if_neg (by omega))
    generalize turnF p.1 (drN (lotN p.2) % tS T) = τ at *
    refine b_X9_liveSunday_65 F hk (con_iP (c_singHymn hl (j := 68) (by decide) h.1 q3.2.1 hscB) (fun w4 h4 => ⟨fun hc => absurd hc (nI_nle hpos (by omega)), fun _ => con_i (c_draw hl (S := 16) (by decide) (by decide)) ?_⟩))
    have hs4 := hs3.tr (h4.2.mono GJ_GC)
    have hl4 : w4.1 0 0 14 = lotN p.2 := (h4.2.1 0 0 14 (by unfold GJ; omega)).trans hl3
    rw [hl4]
    have htC := htB.hymN (E := E) h.1
    have hs5 : Sm GC w (setI w4 0 0 14 (lotN (lotN p.2))) := hs4.set (by unfold GC; omega)
    have hsc5 : SceneC (setI w4 0 0 14 (lotN (lotN p.2))) 68 (hymF T E τ (tN T)).1 (tN T) := h4.1.mv (S := fun κ _ _ => κ = 0) (Sm.rf.set rfl) (fun κ k q => by omega)
    have hl5 : (setI w4 0 0 14 (lotN (lotN p.2))).1 0 0 14 = lotN (lotN p.2) := setI_eq _ _ _ _ _
    generalize setI w4 0 0 14 (lotN (lotN p.2)) = w5 at *
    have q5 := h.mv hs5
    refine ⟨fun hc => ?_, fun hc => ?_⟩
    · rw [if_neg (Int32.not_lt.mpr hc)] at ez
      exact f116 w5 _ hs5 hsc5 (htC.mono (by omega)) (by rw [ez]) (by rw [ez]; exact hl5)
    · rw [if_pos (Int32.not_le.mp hc)] at ez
      refine con_iP (c_rest hl (j := 68) (by decide) h.1 q5.2.1 hsc5) (fun w6 h6 => ?_)
      have hs6 := hs5.tr (h6.2.mono GJ_GC)
      have q6 := h.mv hs6
      refine con_iP (c_singHymn hl (j := 68) (by decide) h.1 q6.2.1 h6.1) (fun w7 h7 => ?_)
      have htD : Td 100020 T (restF T (hymF T E τ (tN T)).1) := htC.of (fun s hs7 => rest_28 h.1 (by omega))
      refine f116 w7 _ (hs6.tr (h7.2.mono GJ_GC)) h7.1 (htD.hymN h.1) (by rw [ez]) ?_
      rw [ez]
      exact ((h7.2.1 0 0 14 (by unfold GJ; omega)).trans (h6.2.1 0 0 14 (by unfold GJ; omega))).trans hl5
end QE
