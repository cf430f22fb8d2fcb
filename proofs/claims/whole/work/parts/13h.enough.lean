/-! Enough: chances, in long numbers. -/
theorem lN_and (a b : Nat) : lN a &&& lN b = lN (a &&& b) := by
  apply Int64.toBitVec_inj.mp
  rw [Int64.toBitVec_and]
  show BitVec.ofNat 64 a &&& BitVec.ofNat 64 b = BitVec.ofNat 64 (a &&& b)
  apply BitVec.eq_of_toNat_eq
  rw [BitVec.toNat_and, BitVec.toNat_ofNat, BitVec.toNat_ofNat, BitVec.toNat_ofNat, Nat.and_mod_two_pow]
theorem lN_half {a : Nat} (ha : a < 2 ^ 63) : lN a >>> ((1 : Int32).toInt64 &&& 63) = lN (a / 2) := by
  apply Int64.toBitVec_inj.mp
  rw [Int64.toBitVec_shiftRight]
  have e : (((1 : Int32).toInt64 &&& 63).toBitVec.smod 64).toNat = 1 := by decide
  show BitVec.sshiftRight (BitVec.ofNat 64 a) (((1 : Int32).toInt64 &&& 63).toBitVec.smod 64).toNat = BitVec.ofNat 64 (a / 2)
  rw [e]
  have hm : (BitVec.ofNat 64 a).msb = false := by
    rw [BitVec.msb_eq_decide, BitVec.toNat_ofNat, Nat.mod_eq_of_lt (by omega)]
    exact decide_eq_false (by omega)
  rw [BitVec.sshiftRight_eq_of_msb_false hm]
  apply BitVec.eq_of_toNat_eq
  rw [BitVec.toNat_ushiftRight, BitVec.toNat_ofNat, BitVec.toNat_ofNat, Nat.mod_eq_of_lt (by omega), Nat.mod_eq_of_lt (by omega), Nat.shiftRight_eq_div_pow]
theorem lN_div {a b : Nat} (ha : a < 2 ^ 63) (hb : b < 2 ^ 63) (h0 : 0 < b) : lN a / lN b = lN (a / b) := by
  apply Int64.toInt_inj.mp
  have h1 : a / b < 2 ^ 63 := Nat.lt_of_le_of_lt (Nat.div_le_self _ _) ha
  have ea : (lN a).toInt = a := lg_ofNat_toInt ha
  have eb : (lN b).toInt = b := lg_ofNat_toInt hb
  have ec : (lN (a / b)).toInt = (a / b : Nat) := lg_ofNat_toInt h1
  rw [lg_ldiv_nonneg (by omega) (by omega), ea, eb, ec]
  rfl
theorem lN_ne0 {a : Nat} (h0 : 0 < a) (ha : a < 2 ^ 63) : ¬ lN a = 0 := by
  intro h
  have := congrArg Int64.toInt h
  rw [show (lN a).toInt = a from lg_ofNat_toInt ha] at this
  have e : (0 : Int64).toInt = 0 := by decide
  omega
def chN (n k : Nat) : Nat → Nat
  | 0 => 1
  | i + 1 => chN n k i * (n - k + (i + 1)) / (i + 1)
theorem chN_le : ∀ n, n < 13 → ∀ k, k < 13 → k ≤ n → ∀ i, i < 13 → i ≤ k → chN n k i ≤ 924 := by decide +kernel
/-- a of n are able -/
def tmN (n q a : Nat) : Nat := chN n a a * (16 - q) ^ a * q ^ (n - a)
def smE (n q k : Nat) : Nat → Nat
  | 0 => 0
  | c + 1 => smE n q k c + tmN n q (k + c)
def hvF : Nat → Nat → Nat × Nat
  | 0, u => (u, 1)
  | m + 1, u => if u % 2 = 0 then hvF m (u / 2) else (u, 2 ^ (m + 1))
theorem tmN_le {n q a : Nat} (hn : n ≤ 12) (hq : q ≤ 16) (ha : a ≤ n) : tmN n q a ≤ 924 * 16 ^ 12 := by
  unfold tmN
  have h1 := chN_le n (by omega) a (by omega) ha a (by omega) (Nat.le_refl _)
  have h2 : (16 - q) ^ a ≤ 16 ^ a := Nat.pow_le_pow_left (by omega) a
  have h3 : q ^ (n - a) ≤ 16 ^ (n - a) := Nat.pow_le_pow_left hq _
  have h4 : 16 ^ a * 16 ^ (n - a) ≤ 16 ^ 12 := by
    rw [← Nat.pow_add]
    exact Nat.pow_le_pow_right (by decide) (by omega)
  rw [Nat.mul_assoc]
  exact Nat.mul_le_mul h1 (Nat.le_trans (Nat.mul_le_mul h2 h3) h4)
theorem smE_le {n q k : Nat} (hn : n ≤ 12) (hq : q ≤ 16) : ∀ c, k + c ≤ n + 1 → smE n q k c ≤ 924 * 16 ^ 12 * c := by
  intro c
  induction c with
  | zero => intro _; exact Nat.zero_le _
  | succ c ih =>
    intro hc
    have h1 := ih (by omega)
    have h2 := tmN_le (a := k + c) hn hq (by omega)
    rw [smE, Nat.mul_succ]
    exact Nat.add_le_add h1 h2
theorem smE_lt {n q k : Nat} (hn : n ≤ 12) (hq : q ≤ 16) : smE n q k (n + 1 - k) < 2 ^ 63 := by
  by_cases h : k ≤ n + 1
  · have h1 := smE_le (k := k) hn hq (n + 1 - k) (by omega)
    have h2 : 924 * 16 ^ 12 * (n + 1 - k) ≤ 924 * 16 ^ 12 * 13 := Nat.mul_le_mul_left _ (by omega)
    have h3 : 924 * 16 ^ 12 * 13 < 2 ^ 63 := by decide
    omega
  · rw [show n + 1 - k = 0 by omega]
    show 0 < 2 ^ 63
    decide
def enF (n k q : Nat) (o : Int32) : Nat := if o = 0 then (hvF (4 * n) (smE n q k (n + 1 - k))).1 else (hvF (4 * n) (smE n q k (n + 1 - k))).2
abbrev KCl (w : Wd) (ok : Bool) (v : Int64) : Option Value → Wd → Prop := fun r w' => ok = true ∧ r = some (.long v) ∧ Sm GC w w'
section QJ
variable {l : Launch} {G : Gx} {w : Wd}
theorem c_power (hl : l.stackTraces = false) {b e : Nat} (hb : b ≤ 16) (he : e ≤ 12) : C_X9_power l G w [.int (nI b), .int (nI e)] (fun r w' => r = some (.long (lN (b ^ e))) ∧ w' = w) noX := by
  refine e_X9_power hl (fun M kk hM hk F => ?_)
  refine up_to (P := fun i => Z M G 0 _ _ w 5 [some (.int (nI b)), some (.int (nI e)), some (.long (lN (b ^ i))), none, some (.int (nI i))] []) e (fun i hi ih => ?_) ?_
  · refine b_X9_power_5 F hk ⟨fun hc => absurd hc (nI_ge hi (by omega)), fun _ => ?_⟩
    rw [nI_l (by omega), lN_mul, ← nI_succ]
    rw [Nat.pow_succ] at ih
    exact ih
  · exact b_X9_power_5 F hk ⟨fun _ => ⟨rfl, rfl⟩, fun hc => absurd (nI_le (Nat.le_refl _) (by omega)) hc⟩
theorem c_choices (hl : l.stackTraces = false) {n k : Nat} (hn : n ≤ 12) (hk2 : k ≤ n) : C_X9_choices l G w [.int (nI n), .int (nI k)] (fun r w' => r = some (.long (lN (chN n k k))) ∧ w' = w) noX := by
  refine e_X9_choices hl (fun M kk hM hk F => ?_)
  refine up_to (P := fun i => Z M G 0 _ _ w 5 [some (.int (nI n)), some (.int (nI k)), some (.long (lN (chN n k i))), none, some (.int (nI (i + 1)))] []) k (fun i hi ih => ?_) ?_
  · refine b_X9_choices_5 F hk ⟨fun hc => absurd hc (nI_nlt (by omega) (by omega)), fun _ => ?_⟩
    have hle := chN_le n (by omega) k (by omega) hk2 i (by omega) (by omega)
    have hpr : chN n k i * (n - k + (i + 1)) ≤ 924 * 25 := Nat.mul_le_mul hle (by omega)
    have e2 : nI (i + 1) + 1 = nI (i + 1 + 1) := by rw [← nI_succ]
    rw [fb_sub hk2, nI_add, nI_l (by omega), nI_l (by omega), lN_mul, lN_div (by omega) (by omega) (by omega), e2]
    refine ⟨lN_ne0 (by omega) (by omega), ?_⟩
    rw [chN] at ih
    exact ih
  · exact b_X9_choices_5 F hk ⟨fun _ => ⟨rfl, rfl⟩, fun hc => absurd (nI_lt (by omega) (by omega)) hc⟩
theorem c_enough (hl : l.stackTraces = false) {a b c d : Int32} : C_X9_enough l G w [.ref (G.2.1 0 0), .int a, .int b, .int c, .int d] (KCl w (okB a 0 12 && okB b 0 13 && okB c 0 16 && okB d 0 1) (lN (enF a.toNatClampNeg b.toNatClampNeg c.toNatClampNeg d))) (XT w (okB a 0 12 && okB b 0 13 && okB c 0 16 && okB d 0 1)) := by
  refine e_X9_enough hl (fun M kk hM hk F => ?_)
  subst hM
  have f46 : ∀ x : Bool, (okB a 0 12 && okB b 0 13 && okB c 0 16 && okB d 0 1) = x → Z M G 0 (KCl w (okB a 0 12 && okB b 0 13 && okB c 0 16 && okB d 0 1) (lN (enF a.toNatClampNeg b.toNatClampNeg c.toNatClampNeg d))) (XT w (okB a 0 12 && okB b 0 13 && okB c 0 16 && okB d 0 1)) w 46 [none, some (.int a), some (.int b), some (.int c), some (.int d), none, none, none, none] [.int (bI x), .ref (G.2.1 0 0)] := by
    intro x hx
    refine b_X9_enough_46 F hk (con_dem hl (fun h1 => ?_) (fun h1 => ⟨hx.trans h1, rfl, rfl⟩))
    have hbt := hx.trans h1
    have hb2 := hbt
    rw [Bool.and_eq_true, Bool.and_eq_true, Bool.and_eq_true] at hb2
    obtain ⟨n, -, hn, rfl⟩ := okB_of (a := 0) (b := 12) hb2.1.1.1 (by decide) (by decide)
    obtain ⟨k, -, hk3, rfl⟩ := okB_of (a := 0) (b := 13) hb2.1.1.2 (by decide) (by decide)
    obtain ⟨q, -, hq, rfl⟩ := okB_of (a := 0) (b := 16) hb2.1.2 (by decide) (by decide)
    rw [nI_clamp (show n < 2 ^ 31 by omega), nI_clamp (show k < 2 ^ 31 by omega), nI_clamp (show q < 2 ^ 31 by omega)]
    generalize hX : XT w (okB (nI n) 0 12 && okB (nI k) 0 13 && okB (nI q) 0 16 && okB d 0 1) = X
    generalize hK : KCl w (okB (nI n) 0 12 && okB (nI k) 0 13 && okB (nI q) 0 16 && okB d 0 1) (lN (enF n k q d)) = K
    have hulim := smE_lt (k := k) hn hq
    have f136 : ∀ p : Nat × Nat, p = hvF (4 * n) (smE n q k (n + 1 - k)) → Z M G 1 K X w 136 [none, none, none, none, some (.int d), some (.long (lN p.1)), none, some (.long (lN p.2)), none] [] := by
      intro p hp
      refine b_X9_enough_136 F hk ⟨fun h2 => ?_, fun h2 => ?_⟩
      · rw [← hK]
        refine ⟨hbt, ?_, Sm.rf⟩
        unfold enF
        rw [if_neg h2, ← hp]
      · rw [← hK]
        refine ⟨hbt, ?_, Sm.rf⟩
        unfold enF
        rw [if_pos (Classical.not_not.mp h2), ← hp]
    have f105 : ∀ m u, m ≤ 48 → u < 2 ^ 63 → hvF m u = hvF (4 * n) (smE n q k (n + 1 - k)) → Z M G 1 K X w 105 [none, none, none, none, some (.int d), some (.long (lN u)), none, some (.long (lN (2 ^ m))), none] [] := by
      intro m
      induction m with
      | zero =>
        intro u _ _ he
        refine b_X9_enough_105 F hk ⟨fun _ => ?_, fun hc => absurd (by decide) hc⟩
        exact f136 (u, 1) he
      | succ m ihm =>
        intro u hm hu he
        have hp48 : 2 ^ (m + 1) ≤ 2 ^ 48 := Nat.pow_le_pow_right (by decide) hm
        have hpp : 2 ≤ 2 ^ (m + 1) := by
          rw [Nat.pow_succ]
          have := Nat.two_pow_pos m
          omega
        have c1 : ¬ lg_cmp (lN (2 ^ (m + 1))) 1 ≤ 0 := by
          rw [lg_cmp_le, Int64.le_iff_toInt_le, show (lN (2 ^ (m + 1))).toInt = (2 ^ (m + 1) : Nat) from lg_ofNat_toInt (by omega)]
          have e : (1 : Int64).toInt = 1 := by decide
          omega
        refine b_X9_enough_105 F hk ⟨fun hc => absurd hc c1, fun _ => ?_⟩
        have e1 : lN u &&& 1 = lN (u % 2) := by
          have := lN_and u 1
          rw [Nat.and_one_is_mod] at this
          exact this
        have c2 : lg_cmp (lN (u % 2)) 0 = 0 ↔ u % 2 = 0 := by
          rw [lg_cmp_eq]
          constructor
          · intro h
            by_cases h0 : u % 2 = 0
            · exact h0
            · exact absurd h (lN_ne0 (by omega) (by omega))
          · intro h; rw [h]; rfl
        rw [e1, c2, lN_half hu, lN_half (by omega)]
        rw [hvF] at he
        refine ⟨fun h2 => ?_, fun h2 => ?_⟩
        · rw [if_neg h2] at he
          exact f136 _ he
        · rw [if_pos (Classical.not_not.mp h2)] at he
          have e3 : 2 ^ (m + 1) / 2 = 2 ^ m := by rw [Nat.pow_succ, Nat.mul_div_cancel _ (by decide)]
          rw [e3]
          exact ihm _ (by omega) (by omega) he
    refine up_to (P := fun i => Z M G 1 K X w 55 [none, some (.int (nI n)), none, some (.int (nI q)), some (.int d), some (.long (lN (smE n q k i))), none, some (.int (nI (k + i))), none] []) (n + 1 - k) (fun i hi ih => ?_) ?_
    · refine b_X9_enough_55 F hk ⟨fun hc => absurd hc (nI_nlt (by omega) (by omega)), fun _ => con_l (c_choices hl hn (by omega)) ?_⟩
      have e16 : (16 : Int32) - nI q = nI (16 - q) := fb_sub hq
      rw [e16]
      refine con_l (c_power hl (by omega) (by omega)) ?_
      rw [fb_sub (show k + i ≤ n by omega)]
      refine con_l (c_power hl hq (by omega)) ?_
      rw [lN_mul, lN_mul, lN_add, ← nI_succ]
      exact ih
    · refine b_X9_enough_55 F hk ⟨fun _ => ?_, fun hc => absurd (nI_lt (by omega) (by omega)) hc⟩
      refine con_l (c_power hl (b := 16) (by decide) hn) ?_
      have e : 16 ^ n = 2 ^ (4 * n) := by rw [Nat.pow_mul]
      rw [e]
      exact f105 (4 * n) _ (by omega) hulim rfl
  refine con_i (c_within hl) ⟨fun h1 => b_X9_enough_45 F hk (f46 false ?_), fun h1 => con_i (c_within hl) ⟨fun h2 => b_X9_enough_45 F hk (f46 false ?_), fun h2 => con_i (c_within hl) ⟨fun h3 => b_X9_enough_45 F hk (f46 false ?_), fun h3 => con_i (c_within hl) ⟨fun h4 => b_X9_enough_45 F hk (f46 false ?_), fun h4 => f46 true ?_⟩⟩⟩⟩
  · rw [show okB a 0 12 = false from bI_0 h1]; rfl
  · rw [show okB b 0 13 = false from bI_0 h2, Bool.and_false]; rfl
  · rw [show okB c 0 16 = false from bI_0 h3, Bool.and_false]; rfl
  · rw [show okB d 0 1 = false from bI_0 h4, Bool.and_false]
  · rw [show okB a 0 12 = true from bI_not.mp h1, show okB b 0 13 = true from bI_not.mp h2, show okB c 0 16 = true from bI_not.mp h3, show okB d 0 1 = true from bI_not.mp h4]; rfl
end QJ
