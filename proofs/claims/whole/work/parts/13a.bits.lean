/-! Counting bits. -/
def sh (x k : Int32) : Int32 := (x.toUInt32 >>> (k.toUInt32 &&& Int32.toUInt32 31)).toInt32
def bc (x : Int32) : Int32 :=
  let a := x - (sh x 1 &&& 1431655765)
  let b := (a &&& 858993459) + (sh a 2 &&& 858993459)
  let c := (b + sh b 4) &&& 252645135
  let d := c + sh c 8
  (d + sh d 16) &&& 63
theorem fb_sh (a : Nat) (ha : a < 2 ^ 32) (k : Nat) (c : Int32) (hc : (c.toUInt32 &&& Int32.toUInt32 31).toNat % 32 = k) : sh (nI a) c = nI (a / 2 ^ k) := by
  have h : (nI a).toUInt32 >>> (c.toUInt32 &&& Int32.toUInt32 31) = (nI (a / 2 ^ k)).toUInt32 := by
    apply UInt32.toNat_inj.mp
    rw [UInt32.toNat_shiftRight, hc]
    show (UInt32.ofNat a).toNat >>> k = (UInt32.ofNat (a / 2 ^ k)).toNat
    have h2 : a / 2 ^ k < 2 ^ 32 := Nat.lt_of_le_of_lt (Nat.div_le_self _ _) ha
    rw [UInt32.toNat_ofNat', UInt32.toNat_ofNat', Nat.mod_eq_of_lt ha, Nat.mod_eq_of_lt h2, Nat.shiftRight_eq_div_pow]
  unfold sh
  rw [h]
  rfl
theorem fb_and (a b : Nat) : nI a &&& nI b = nI (a &&& b) := by
  apply Int32.toBitVec_inj.mp
  rw [Int32.toBitVec_and]
  show BitVec.ofNat 32 a &&& BitVec.ofNat 32 b = BitVec.ofNat 32 (a &&& b)
  apply BitVec.eq_of_toNat_eq
  rw [BitVec.toNat_and, BitVec.toNat_ofNat, BitVec.toNat_ofNat, BitVec.toNat_ofNat, Nat.and_mod_two_pow]
theorem fb_or (a b : Nat) : nI a ||| nI b = nI (a ||| b) := by
  apply Int32.toBitVec_inj.mp
  rw [Int32.toBitVec_or]
  show BitVec.ofNat 32 a ||| BitVec.ofNat 32 b = BitVec.ofNat 32 (a ||| b)
  apply BitVec.eq_of_toNat_eq
  rw [BitVec.toNat_or, BitVec.toNat_ofNat, BitVec.toNat_ofNat, BitVec.toNat_ofNat, Nat.or_mod_two_pow]
theorem fb_sub {a b : Nat} (h : b ≤ a) : nI a - nI b = nI (a - b) := by
  have e : nI a = nI (a - b) + nI b := by rw [nI_add, Nat.sub_add_cancel h]
  rw [e, Int32.add_sub_cancel]
def bcN (x : Nat) : Nat :=
  let a := x - (x / 2 &&& 1431655765)
  let b := (a &&& 858993459) + (a / 4 &&& 858993459)
  let c := (b + b / 16) &&& 252645135
  let d := c + c / 256
  (d + d / 65536) &&& 63
theorem bc_nI {x : Nat} (hx : x < 2 ^ 24) : bc (nI x) = nI (bcN x) := by
  unfold bc bcN
  have e1 : sh (nI x) 1 &&& 1431655765 = nI (x / 2 &&& 1431655765) := by
    rw [fb_sh x (by omega) 1 1 (by decide)]
    exact fb_and _ _
  have l1 : (x / 2 &&& 1431655765) ≤ x := Nat.le_trans Nat.and_le_left (Nat.div_le_self _ _)
  simp only [e1, fb_sub l1]
  generalize ha : x - (x / 2 &&& 1431655765) = a
  have la : a < 2 ^ 24 := by omega
  have e2 : (nI a &&& 858993459) + (sh (nI a) 2 &&& 858993459) = nI ((a &&& 858993459) + (a / 4 &&& 858993459)) := by
    rw [fb_sh a (by omega) 2 2 (by decide), ← nI_add]
    exact congr (congrArg _ (fb_and a 858993459)) (fb_and (a / 4) 858993459)
  simp only [e2]
  have l2 : (a &&& 858993459) ≤ 858993459 := Nat.and_le_right
  have l3 : (a / 4 &&& 858993459) ≤ 858993459 := Nat.and_le_right
  generalize hb : (a &&& 858993459) + (a / 4 &&& 858993459) = b
  have e3 : (nI b + sh (nI b) 4) &&& 252645135 = nI ((b + b / 16) &&& 252645135) := by
    rw [fb_sh b (by omega) 4 4 (by decide), nI_add]
    exact fb_and _ _
  simp only [e3]
  have l4 : ((b + b / 16) &&& 252645135) ≤ 252645135 := Nat.and_le_right
  generalize hc : ((b + b / 16) &&& 252645135) = c
  rw [hc] at l4
  have e4 : nI c + sh (nI c) 8 = nI (c + c / 256) := by
    rw [fb_sh c (by omega) 8 8 (by decide), nI_add]
  simp only [e4]
  rw [fb_sh (c + c / 256) (by omega) 16 16 (by decide), nI_add]
  exact fb_and _ _
theorem ls (q M d m : Nat) (hd : d < 2 ^ 8) (hm : m < 2 ^ 8) : (2 ^ 8 * q + d) &&& (2 ^ 8 * M + m) = 2 ^ 8 * (q &&& M) + (d &&& m) := by
  apply Nat.eq_of_testBit_eq
  intro i
  rw [Nat.testBit_and, Nat.testBit_two_pow_mul_add _ hd, Nat.testBit_two_pow_mul_add _ hm, Nat.testBit_two_pow_mul_add _ (Nat.and_lt_two_pow _ hm)]
  split <;> rw [Nat.testBit_and]
def popN (x : Nat) : Nat → Nat
  | 0 => 0
  | k + 1 => popN x k + x / 2 ^ k % 2
theorem popN_add (x a b : Nat) : popN x (a + b) = popN x a + popN (x / 2 ^ a) b := by
  induction b with
  | zero => rfl
  | succ b ih =>
    show popN x (a + b) + x / 2 ^ (a + b) % 2 = popN x a + (popN (x / 2 ^ a) b + x / 2 ^ a / 2 ^ b % 2)
    rw [ih, Nat.div_div_eq_div_mul, ← Nat.pow_add]
    omega
theorem dig_mod {x a k : Nat} (h : k < a) : x % 2 ^ a / 2 ^ k % 2 = x / 2 ^ k % 2 := by
  have e := Nat.testBit_mod_two_pow x a k
  rw [Nat.testBit_eq_decide_div_mod_eq, Nat.testBit_eq_decide_div_mod_eq, decide_eq_true h, Bool.true_and] at e
  have e2 := decide_eq_decide.mp e
  omega
theorem popN_mod {x a n : Nat} (h : n ≤ a) : popN (x % 2 ^ a) n = popN x n := by
  induction n with
  | zero => rfl
  | succ n ih => rw [popN, popN, ih (by omega), dig_mod (by omega)]
theorem popN_0 (n : Nat) : popN 0 n = 0 := by
  induction n with
  | zero => rfl
  | succ n ih => rw [popN, ih, Nat.zero_div]
def g1 (d : Nat) : Nat := d - (d / 2 &&& 85)
def g2 (a : Nat) : Nat := (a &&& 51) + (a / 4 &&& 51)
theorem g_85 : ∀ t, t < 2 → ∀ e, e < 128 → (128 * t + e) &&& 85 = e &&& 85 := by decide +kernel
theorem g_51 : ∀ t, t < 4 → ∀ e, e < 64 → (64 * t + e) &&& 51 = e &&& 51 := by decide +kernel
theorem g_h : ∀ e, e < 256 → e &&& 21845 = e &&& 85 ∧ e &&& 13107 = e &&& 51 := by decide +kernel
theorem g_p : ∀ d, d < 256 → g1 d < 256 ∧ g2 (g1 d) % 16 ≤ 4 ∧ g2 (g1 d) / 16 ≤ 4 ∧ (g2 (g1 d) + g2 (g1 d) / 16) % 16 = popN d 8 ∧ popN d 8 ≤ 8 := by decide +kernel
theorem st1 (q d M : Nat) (hd : d < 256) : (256 * q + d) / 2 &&& (256 * M + 85) = 256 * (q / 2 &&& M) + (d / 2 &&& 85) := by
  have e : (256 * q + d) / 2 = 256 * (q / 2) + (128 * (q % 2) + d / 2) := by omega
  rw [e]
  have := ls (q / 2) M (128 * (q % 2) + d / 2) 85 (by omega) (by omega)
  rw [g_85 (q % 2) (by omega) (d / 2) (by omega)] at this
  exact this
theorem st2 (q d M : Nat) (hd : d < 256) : (256 * q + d) / 4 &&& (256 * M + 51) = 256 * (q / 4 &&& M) + (d / 4 &&& 51) := by
  have e : (256 * q + d) / 4 = 256 * (q / 4) + (64 * (q % 4) + d / 4) := by omega
  rw [e]
  have := ls (q / 4) M (64 * (q % 4) + d / 4) 51 (by omega) (by omega)
  rw [g_51 (q % 4) (by omega) (d / 4) (by omega)] at this
  exact this
theorem fb_end {a b c : Nat} (ha : a ≤ 8) (hb : b ≤ 8) (hc : c ≤ 8) : (256 * (256 * c + b) + a + (256 * (256 * c + b) + a) / 256 + (256 * (256 * c + b) + a + (256 * (256 * c + b) + a) / 256) / 65536) % 64 = a + b + c := by
  have e1 : (256 * (256 * c + b) + a) / 256 = 256 * c + b := by omega
  rw [e1]
  have e2 : (256 * (256 * c + b) + a + (256 * c + b)) / 65536 = c := by omega
  rw [e2]
  omega
theorem bcN_3 (x0 x1 x2 : Nat) (h0 : x0 < 256) (h1 : x1 < 256) (h2 : x2 < 256) : bcN (256 * (256 * x2 + x1) + x0) = popN x0 8 + popN x1 8 + popN x2 8 := by
  have p0 := g_p x0 h0
  have p1 := g_p x1 h1
  have p2 := g_p x2 h2
  unfold bcN
  have e1 : (256 * (256 * x2 + x1) + x0) - ((256 * (256 * x2 + x1) + x0) / 2 &&& 1431655765) = 256 * (256 * g1 x2 + g1 x1) + g1 x0 := by
    have a := st1 (256 * x2 + x1) x0 (256 * 21845 + 85) h0
    have b := st1 x2 x1 21845 h1
    rw [b, (g_h (x2 / 2) (by omega)).1] at a
    have a' : (256 * (256 * x2 + x1) + x0) / 2 &&& 1431655765 = 256 * (256 * (x2 / 2 &&& 85) + (x1 / 2 &&& 85)) + (x0 / 2 &&& 85) := a
    rw [a']
    unfold g1
    have k0 : (x0 / 2 &&& 85) ≤ x0 / 2 := Nat.and_le_left
    have k1 : (x1 / 2 &&& 85) ≤ x1 / 2 := Nat.and_le_left
    have k2 : (x2 / 2 &&& 85) ≤ x2 / 2 := Nat.and_le_left
    omega
  simp only [e1]
  generalize ha0 : g1 x0 = a0 at *
  generalize ha1 : g1 x1 = a1 at *
  generalize ha2 : g1 x2 = a2 at *
  have e2 : (256 * (256 * a2 + a1) + a0 &&& 858993459) + ((256 * (256 * a2 + a1) + a0) / 4 &&& 858993459) = 256 * (256 * g2 a2 + g2 a1) + g2 a0 := by
    have a := st2 (256 * a2 + a1) a0 (256 * 13107 + 51) p0.1
    have b := st2 a2 a1 13107 p1.1
    rw [b, (g_h (a2 / 4) (by omega)).2] at a
    have a' : (256 * (256 * a2 + a1) + a0) / 4 &&& 858993459 = 256 * (256 * (a2 / 4 &&& 51) + (a1 / 4 &&& 51)) + (a0 / 4 &&& 51) := a
    have c := ls (256 * a2 + a1) (256 * 13107 + 51) a0 51 p0.1 (by omega)
    have d := ls a2 13107 a1 51 p1.1 (by omega)
    have d' : (256 * a2 + a1) &&& (256 * 13107 + 51) = 256 * (a2 &&& 13107) + (a1 &&& 51) := d
    rw [d', (g_h a2 p2.1).2] at c
    have c' : 256 * (256 * a2 + a1) + a0 &&& 858993459 = 256 * (256 * (a2 &&& 51) + (a1 &&& 51)) + (a0 &&& 51) := c
    rw [a', c']
    unfold g2
    omega
  simp only [e2]
  generalize hb0 : g2 a0 = b0 at *
  generalize hb1 : g2 a1 = b1 at *
  generalize hb2 : g2 a2 = b2 at *
  have e3 : (256 * (256 * b2 + b1) + b0) + (256 * (256 * b2 + b1) + b0) / 16 &&& 252645135 = 256 * (256 * popN x2 8 + popN x1 8) + popN x0 8 := by
    have e : (256 * (256 * b2 + b1) + b0) + (256 * (256 * b2 + b1) + b0) / 16 = 256 * (256 * (b2 + b2 / 16) + (b1 + 16 * (b2 % 16) + b1 / 16)) + (b0 + 16 * (b1 % 16) + b0 / 16) := by omega
    rw [e]
    have c := ls (256 * (b2 + b2 / 16) + (b1 + 16 * (b2 % 16) + b1 / 16)) (256 * 3855 + 15) (b0 + 16 * (b1 % 16) + b0 / 16) 15 (by omega) (by omega)
    have d := ls (b2 + b2 / 16) 3855 (b1 + 16 * (b2 % 16) + b1 / 16) 15 (by omega) (by omega)
    have f := ls 0 15 (b2 + b2 / 16) 15 (by omega) (by omega)
    have d' : 256 * (b2 + b2 / 16) + (b1 + 16 * (b2 % 16) + b1 / 16) &&& (256 * 3855 + 15) = 256 * (b2 + b2 / 16 &&& 3855) + (b1 + 16 * (b2 % 16) + b1 / 16 &&& 15) := d
    have f' : b2 + b2 / 16 &&& 3855 = b2 + b2 / 16 &&& 15 := by
      have f2 : 2 ^ 8 * 0 + (b2 + b2 / 16) &&& 3855 = 2 ^ 8 * (0 &&& 15) + (b2 + b2 / 16 &&& 15) := f
      rw [Nat.zero_and, Nat.mul_zero, Nat.zero_add, Nat.zero_add] at f2
      exact f2
    have m15 : ∀ n : Nat, n &&& 15 = n % 16 := fun n => Nat.and_two_pow_sub_one_eq_mod n 4
    rw [d', f', m15, m15, m15] at c
    have c' : 256 * (256 * (b2 + b2 / 16) + (b1 + 16 * (b2 % 16) + b1 / 16)) + (b0 + 16 * (b1 % 16) + b0 / 16) &&& 252645135 = 256 * (256 * ((b2 + b2 / 16) % 16) + (b1 + 16 * (b2 % 16) + b1 / 16) % 16) + (b0 + 16 * (b1 % 16) + b0 / 16) % 16 := c
    rw [c']
    omega
  simp only [e3]
  have m63 : ∀ n : Nat, n &&& 63 = n % 64 := fun n => Nat.and_two_pow_sub_one_eq_mod n 6
  rw [m63]
  exact fb_end p0.2.2.2.2 p1.2.2.2.2 p2.2.2.2.2
theorem bc_pop {x : Nat} (hx : x < 2 ^ 24) : bc (nI x) = nI (popN x 24) := by
  rw [bc_nI hx]
  have e : x = 256 * (256 * (x / 65536) + x / 256 % 256) + x % 256 := by omega
  have e2 := bcN_3 (x % 256) (x / 256 % 256) (x / 65536) (by omega) (by omega) (by omega)
  rw [← e] at e2
  rw [e2, show 24 = 8 + (8 + 8) from rfl, popN_add, popN_add]
  have h1 : popN (x % 256) 8 = popN x 8 := popN_mod (a := 8) (Nat.le_refl _)
  have h2 : popN (x / 256 % 256) 8 = popN (x / 256) 8 := popN_mod (a := 8) (Nat.le_refl _)
  have h3 : x / 2 ^ 8 / 2 ^ 8 = x / 65536 := by omega
  rw [h1, h2, h3, Nat.add_assoc]
def obN (p : Nat → Bool) : Nat → Nat
  | 0 => 0
  | n + 1 => if p n then obN p n + 2 ^ n else obN p n
theorem obN_lt (p : Nat → Bool) (n : Nat) : obN p n < 2 ^ n := by
  induction n with
  | zero => exact Nat.one_pos
  | succ n ih =>
    rw [obN, Nat.pow_succ]
    split <;> omega
theorem b1_nI : ∀ n, n < 31 → b1 n = nI (2 ^ n) := by decide +kernel
theorem ob_nI {p : Nat → Bool} {n : Nat} (hn : n ≤ 31) : ob p n = nI (obN p n) := by
  induction n with
  | zero => rfl
  | succ n ih =>
    rw [ob, obN, ih (by omega)]
    split
    · rw [b1_nI n (by omega), fb_or, Nat.add_comm]
      have := Nat.two_pow_add_eq_or_of_lt (obN_lt p n) 1
      rw [Nat.mul_one] at this
      rw [this, Nat.or_comm]
    · rfl
theorem obN_dig {p : Nat → Bool} {n k : Nat} (hk : k < n) : obN p n / 2 ^ k % 2 = if p k then 1 else 0 := by
  induction n with
  | zero => exact absurd hk (Nat.not_lt_zero _)
  | succ n ih =>
    rw [obN]
    have hlt := obN_lt p n
    have hpos := Nat.two_pow_pos n
    by_cases hq : k = n
    · subst hq
      split
      · rw [Nat.add_div_right _ hpos, Nat.div_eq_of_lt hlt]
      · rw [Nat.div_eq_of_lt hlt]
    · have ih := ih (by omega)
      split
      · have e := dig_mod (x := obN p n + 2 ^ n) (a := n) (k := k) (by omega)
        rw [Nat.add_mod_right, Nat.mod_eq_of_lt hlt] at e
        rw [← e]
        exact ih
      · exact ih
theorem popN_cn1 {p : Nat → Bool} {x : Nat} {n : Nat} (h : ∀ k, k < n → x / 2 ^ k % 2 = if p k then 1 else 0) : popN x n = cn1 p n := by
  induction n with
  | zero => rfl
  | succ n ih =>
    rw [popN, cn1, ih (fun k hk => h k (by omega)), h n (by omega)]
    split <;> rfl
theorem popN_small {x n m : Nat} (hx : x < 2 ^ n) (h : n ≤ m) : popN x m = popN x n := by
  have e : m = n + (m - n) := by omega
  rw [e, popN_add, Nat.div_eq_of_lt hx, popN_0, Nat.add_zero]
theorem bc_ob {p : Nat → Bool} {n : Nat} (hn : n ≤ 24) : bc (ob p n) = nI (cn1 p n) := by
  have hlt := obN_lt p n
  rw [ob_nI (by omega), bc_pop (Nat.lt_of_lt_of_le hlt (Nat.pow_le_pow_right (by decide) hn)), popN_small hlt hn, popN_cn1 (fun k hk => obN_dig hk)]
theorem bc_7 {m : Nat} (h : m < 128) : bc (nI m) = nI (popN m 7) := by
  rw [bc_pop (by omega), popN_small (n := 7) h (by decide)]
theorem c_bitCount {l : Launch} {G : Gx} {w : Wd} (hl : l.stackTraces = false) {v : Int32} : C_J6_bitCount_0f7a4 l G w [.int v] (fun r w' => r = some (.int (bc v)) ∧ w' = w) noX :=
  e_J6_bitCount_0f7a4 hl (fun M kk hM hk F => ⟨rfl, rfl⟩)
