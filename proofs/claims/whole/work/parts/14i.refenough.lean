/-! The reference: enough. -/
theorem setL_eq (w : Wd) (κ j k : Nat) (v : Int64) : (setL w κ j k v).2.1 κ j k = v := by simp [setL]
theorem setL_ne {w : Wd} {κ j k a b c : Nat} {v : Int64} (h : ¬ (a = κ ∧ b = j ∧ c = k)) : (setL w κ j k v).2.1 a b c = w.2.1 a b c := if_neg h
theorem Sm.setL {S : Nat → Nat → Nat → Prop} {w w1 : Wd} {k : Nat} {v : Int64} (h0 : Sm S w w1) : Sm S w (setL w1 75 0 k v) :=
  h0.tr ⟨fun _ _ _ _ => rfl, fun a b c q => if_neg (fun z => q z.1), rfl⟩
theorem TR.sl {w w' : Wd} {τ : Sg} {k : Nat} {v : Int64} (t : TR w w' τ) : TR w (setL w' 75 0 k v) τ := ⟨t.1.setL, t.2.1, t.2.2⟩
def exN (q : Nat) : Nat → Nat → Nat
  | 0, i => if i = 0 then 1 else 0
  | n + 1, i => exN q n i * q + (if i = 0 then 0 else exN q n (i - 1) * (16 - q))
theorem hz_pas : ∀ n, n < 12 → ∀ i, i < 12 → i + 1 ≤ n → chN (n + 1) (i + 1) (i + 1) = chN n i i + chN n (i + 1) (i + 1) := by decide +kernel
theorem hz_top : ∀ n, n < 13 → chN n n n = 1 := by decide +kernel
theorem exN_is {q : Nat} : ∀ n, n ≤ 12 → ∀ i, i ≤ 13 → exN q n i = if i ≤ n then tmN n q i else 0 := by
  intro n
  induction n with
  | zero =>
    intro _ i _
    by_cases h : i = 0
    · rw [h]; rfl
    · show (if i = 0 then 1 else 0) = _
      rw [if_neg h, if_neg (by omega)]
  | succ n ih =>
    intro hn i hi
    have ih := ih (by omega)
    have er : exN q (n + 1) i = exN q n i * q + (if i = 0 then 0 else exN q n (i - 1) * (16 - q)) := rfl
    rw [er, ih i hi]
    cases i with
    | zero =>
      rw [if_pos (Nat.zero_le _), if_pos rfl, if_pos (Nat.zero_le _)]
      show 1 * (16 - q) ^ 0 * q ^ (n - 0) * q + 0 = 1 * (16 - q) ^ 0 * q ^ (n + 1 - 0)
      rw [Nat.pow_zero, Nat.sub_zero, Nat.sub_zero, Nat.pow_succ]
      simp only [Nat.one_mul, Nat.mul_one, Nat.add_zero]
    | succ i =>
      rw [if_neg (show ¬ i + 1 = 0 by omega), Nat.add_sub_cancel, ih i (by omega)]
      by_cases h1 : i + 1 ≤ n
      · rw [if_pos h1, if_pos (show i ≤ n by omega), if_pos (show i + 1 ≤ n + 1 by omega)]
        unfold tmN
        rw [hz_pas n (by omega) i (by omega) h1]
        have e1 : n + 1 - (i + 1) = n - i := by omega
        have e2 : n - i = (n - (i + 1)) + 1 := by omega
        rw [e1, e2, Nat.pow_succ, Nat.pow_succ, Nat.add_mul, Nat.add_mul]
        generalize chN n i i = A
        generalize chN n (i + 1) (i + 1) = B
        generalize (16 - q) ^ i = C
        generalize q ^ (n - (i + 1)) = D
        generalize 16 - q = R
        have x1 : B * (C * R) * D * q = B * (C * R) * (D * q) := Nat.mul_assoc _ _ _
        have x2 : A * C * (D * q) * R = A * (C * R) * (D * q) := by
          rw [Nat.mul_right_comm, Nat.mul_assoc A C R]
        rw [x1, x2, Nat.add_comm]
      · by_cases h2 : i + 1 = n + 1
        · have hin : i = n := by omega
          subst hin
          rw [if_neg h1, if_pos (Nat.le_refl _), if_pos (Nat.le_refl _)]
          unfold tmN
          rw [hz_top i (by omega), hz_top (i + 1) (by omega), Nat.sub_self, Nat.sub_self, Nat.pow_succ]
          simp only [Nat.pow_zero, Nat.mul_one, Nat.one_mul, Nat.zero_mul, Nat.zero_add]
        · rw [if_neg h1, if_neg (by omega), if_neg (by omega)]
          omega
def smX (q n k : Nat) : Nat → Nat
  | 0 => 0
  | c + 1 => smX q n k c + exN q n (k + c)
theorem smX_is {q n k : Nat} (hn : n ≤ 12) : ∀ c, k + c ≤ 14 → smX q n k c = smE n q k (min c (n + 1 - k)) := by
  intro c
  induction c with
  | zero => intro _; rw [Nat.zero_min]; rfl
  | succ c ih =>
    intro hc
    rw [smX, ih (by omega), exN_is n hn (k + c) (by omega)]
    by_cases h : k + c ≤ n
    · rw [if_pos h, Nat.min_eq_left (by omega), Nat.min_eq_left (by omega)]
      rfl
    · rw [if_neg h, Nat.min_eq_right (by omega), Nat.min_eq_right (by omega)]
      rfl
theorem hv_gcd : ∀ m u, (u / Nat.gcd (2 ^ m) u, 2 ^ m / Nat.gcd (2 ^ m) u) = hvF m u := by
  intro m
  induction m with
  | zero =>
    intro u
    rw [Nat.pow_zero, Nat.gcd_one_left, Nat.div_one]
    rfl
  | succ m ih =>
    intro u
    rw [hvF]
    by_cases h : u % 2 = 0
    · rw [if_pos h, ← ih]
      have eu : u = 2 * (u / 2) := by omega
      have eg : Nat.gcd (2 ^ (m + 1)) u = 2 * Nat.gcd (2 ^ m) (u / 2) := by
        conv => lhs; rw [eu, Nat.pow_succ, Nat.mul_comm (2 ^ m) 2]
        rw [Nat.gcd_mul_left]
      rw [eg]
      have d1 : u / (2 * Nat.gcd (2 ^ m) (u / 2)) = u / 2 / Nat.gcd (2 ^ m) (u / 2) := (Nat.div_div_eq_div_mul _ _ _).symm
      have d2 : 2 ^ (m + 1) / (2 * Nat.gcd (2 ^ m) (u / 2)) = 2 ^ m / Nat.gcd (2 ^ m) (u / 2) := by
        rw [← Nat.div_div_eq_div_mul, Nat.pow_succ, Nat.mul_div_cancel _ (by decide)]
      rw [d1, d2]
    · rw [if_neg h]
      have hc : Nat.Coprime (2 ^ (m + 1)) u := by
        apply Nat.Coprime.pow_left
        unfold Nat.Coprime
        rw [Nat.gcd_rec, show u % 2 = 1 by omega, Nat.gcd_one_left]
      have hg : Nat.gcd (2 ^ (m + 1)) u = 1 := hc
      rw [hg, Nat.div_one, Nat.div_one]
theorem lN_sub' {a b : Nat} (h : b ≤ a) : lN a - lN b = lN (a - b) := lN_sub h
theorem lN_mod {a b : Nat} (ha : a < 2 ^ 63) (hb : b < 2 ^ 63) (h0 : 0 < b) : lN a - lN a / lN b * lN b = lN (a % b) := by
  rw [lN_div ha hb h0, lN_mul, lN_sub (Nat.div_mul_le_self _ _)]
  have := Nat.div_add_mod a b
  rw [Nat.mul_comm] at this
  rw [show a - a / b * b = a % b by omega]
theorem hz_shl : ∀ n, n < 13 → (1 : Int64) <<< (((4 : Int32) * nI n).toInt64 &&& 63) = lN (2 ^ (4 * n)) := by decide +kernel
section RI
variable {l : Launch} {G : Gx} {w w0 : Wd} {X : String → Wd → Prop} {T : Tx} {E : Ex} {σ τ : Sg}
theorem m_enough (hl : l.stackTraces = false) {a b c d : Int32} (h : RQ w T E σ) : C_X10_enough l G w [.ref (G.2.1 40 0), .int a, .int b, .int c, .int d] (KMl w (okB a 0 12 && okB b 0 13 && okB c 0 16 && okB d 0 1) 1 1 (lN (enF a.toNatClampNeg b.toNatClampNeg c.toNatClampNeg d))) noX := by
  refine e_X10_enough hl (fun M kk hM hk F => ?_)
  subst hM
  rintro _ rfl
  generalize hK : KMl w (okB a 0 12 && okB b 0 13 && okB c 0 16 && okB d 0 1) 1 1 (lN (enF a.toNatClampNeg b.toNatClampNeg c.toNatClampNeg d)) = K
  have f51 : ∀ x : Bool, (okB a 0 12 && okB b 0 13 && okB c 0 16 && okB d 0 1) = !x → Z M G 0 K noX (cl0 w) 51 [some (.ref (G.2.1 40 0)), some (.int a), some (.int b), some (.int c), some (.int d), none, none, none, none, none, none, none, none, none, none] [.int (bI x), .ref (G.2.1 40 0)] := by
    intro x hx
    refine b_X10_enough_51 F hk ?_
    rw [← hK]
    refine con_ql hl (rs := 1) (by decide) (by decide) hx (fun hok => ?_)
    have hb2 := hok
    rw [Bool.and_eq_true, Bool.and_eq_true, Bool.and_eq_true] at hb2
    obtain ⟨n, -, hn, rfl⟩ := okB_of (a := 0) (b := 12) hb2.1.1.1 (by decide) (by decide)
    obtain ⟨k, -, hk3, rfl⟩ := okB_of (a := 0) (b := 13) hb2.1.1.2 (by decide) (by decide)
    obtain ⟨q, -, hq, rfl⟩ := okB_of (a := 0) (b := 16) hb2.1.2 (by decide) (by decide)
    rw [nI_clamp (show n < 2 ^ 31 by omega), nI_clamp (show k < 2 ^ 31 by omega), nI_clamp (show q < 2 ^ 31 by omega)] at hK ⊢
    rw [hK]
    have hulim := smE_lt (k := k) hn hq
    generalize hu : smE n q k (n + 1 - k) = u at hulim
    have fin : ∀ w' v, TR w w' (w.1 69 1) → v = lN (enF n k q d) → K (some (.long v)) w' := by
      intro w' v t hv
      rw [← hK, hv]
      exact ⟨_, rfl, fun _ => ⟨rfl, t.2.1, t.1, by rw [t.2.2]; exact h.2.2.2.2.2⟩, fun z => by rw [hok] at z; cases z⟩
    have hw48 : 2 ^ (4 * n) ≤ 2 ^ 48 := Nat.pow_le_pow_right (by decide) (by omega)
    have hwp := Nat.two_pow_pos (4 * n)
    have f212 : ∀ y, ∀ x, x < 2 ^ 63 → y < 2 ^ 63 → 0 < x → Nat.gcd x y = Nat.gcd (2 ^ (4 * n)) u → ∀ w', TR w w' (w.1 69 1) → Z M G 0 K noX w' 212 [none, none, none, none, some (.int d), some (.long (lN u)), none, some (.long (lN (2 ^ (4 * n)))), none, some (.long (lN x)), none, some (.long (lN y)), none, none, none] [] := by
      intro y
      induction y using Nat.strongRecOn with
      | ind y ih =>
        intro x hx hy hx0 hg w' t
        refine b_X10_enough_212 F hk ?_
        have hc0 : (lg_cmp (lN y) 0 = 0) ↔ y = 0 := by
          rw [lg_cmp_eq]
          constructor
          · intro hz
            by_cases h0 : y = 0
            · exact h0
            · exact absurd hz (lN_ne0 (by omega) hy)
          · intro hz; rw [hz]; rfl
        rw [hc0]
        refine ⟨fun h0 => ?_, fun h0 => ⟨lN_ne0 (by omega) hy, ?_⟩⟩
        · rw [h0, Nat.gcd_zero_right] at hg
          have hv := hv_gcd (4 * n) u
          rw [← hg] at hv
          have v1 : u / x = (hvF (4 * n) u).1 := congrArg Prod.fst hv
          have v2 : 2 ^ (4 * n) / x = (hvF (4 * n) u).2 := congrArg Prod.snd hv
          rw [lN_div (by omega) hx hx0, lN_div hulim hx hx0]
          refine ⟨fun hd => ⟨lN_ne0 hx0 hx, fin w' _ t ?_⟩, fun hd => ⟨lN_ne0 hx0 hx, fin w' _ t ?_⟩⟩
          · unfold enF
            rw [if_neg hd, hu, v2]
          · unfold enF
            rw [if_pos (Classical.not_not.mp hd), hu, v1]
        · rw [lN_mod hx hy (by omega)]
          have hm := Nat.mod_lt x (show 0 < y by omega)
          refine ih (x % y) hm y hy (by omega) (by omega) ?_ w' t
          rw [← hg, Nat.gcd_comm y, ← Nat.gcd_rec, Nat.gcd_comm]
    have f179 : ∀ w', TR w w' (w.1 69 1) → (∀ i, i < 14 → w'.2.1 75 0 i = lN (exN q n i)) → Z M G 0 K noX w' 179 [some (.ref (G.2.1 40 0)), none, none, none, some (.int d), some (.long 0), none, some (.long (lN (2 ^ (4 * n)))), none, some (.int (nI k)), none, none, none, none, none] [] := by
      intro w' t hrow
      refine up_to (P := fun i => Z M G 0 K noX w' 179 [some (.ref (G.2.1 40 0)), none, none, none, some (.int d), some (.long (lN (smX q n k i))), none, some (.long (lN (2 ^ (4 * n)))), none, some (.int (nI (k + i))), none, none, none, none, none] []) (14 - k) (fun i hi ih => ?_) ?_
      · refine b_X10_enough_179 F hk ⟨fun hc => absurd hc (nI_ge (show k + i < 14 by omega) (by decide)), fun _ => ⟨vp_in_nI (by omega) (by decide), ?_⟩⟩
        rw [nI_clamp (by omega), hrow (k + i) (by omega), lN_add, ← nI_succ]
        exact ih
      · refine b_X10_enough_179 F hk ⟨fun _ => ?_, fun hc => absurd (nI_le (show 14 ≤ k + (14 - k) by omega) (by omega)) hc⟩
        rw [smX_is hn (14 - k) (by omega), Nat.min_eq_right (by omega), hu]
        exact f212 u (2 ^ (4 * n)) (by omega) hulim hwp rfl w' t
    have f97 : ∀ w', TR w w' (w.1 69 1) → (∀ i, i < 14 → w'.2.1 75 0 i = lN (exN q 0 i)) → Z M G 0 K noX w' 97 [some (.ref (G.2.1 40 0)), some (.int (nI n)), some (.int (nI k)), some (.int (nI q)), some (.int d), some (.int (nI 0)), none, none, none, none, none, none, none, none, none] [] := by
      intro w' t hrow
      refine up_to (P := fun e => ∀ w', TR w w' (w.1 69 1) → (∀ i, i < 14 → w'.2.1 75 0 i = lN (exN q e i)) → Z M G 0 K noX w' 97 [some (.ref (G.2.1 40 0)), some (.int (nI n)), some (.int (nI k)), some (.int (nI q)), some (.int d), some (.int (nI e)), none, none, none, none, none, none, none, none, none] []) n (fun e he ih w' t hrow => ?_) (fun w' t hrow => ?_) w' t hrow
      · refine b_X10_enough_97 F hk ⟨fun hc => absurd hc (nI_ge he (by omega)), fun _ => ?_⟩
        have key : ∀ j, j ≤ 14 → ∀ w2, TR w w2 (w.1 69 1) → (∀ i, i < j → w2.2.1 75 0 i = lN (exN q e i)) → (∀ i, j ≤ i → i < 14 → w2.2.1 75 0 i = lN (exN q (e + 1) i)) → Z M G 0 K noX w2 107 [some (.ref (G.2.1 40 0)), some (.int (nI n)), some (.int (nI k)), some (.int (nI q)), some (.int d), some (.int (nI e)), some (.int (nI j - 1)), none, none, none, none, none, none, none, none] [] := by
          intro j
          induction j with
          | zero =>
            intro _ w2 t2 _ hr2
            refine b_X10_enough_107 F hk ⟨fun _ => ?_, fun hc => absurd (by decide) hc⟩
            rw [← nI_succ]
            exact ih w2 t2 (fun i hi => hr2 i (Nat.zero_le _) hi)
          | succ j ihj =>
            intro hj w2 t2 hr1 hr2
            rw [nI_pred]
            have hii : vp_in (nI j) 14 := vp_in_nI (by omega) (by decide)
            have nxt : ∀ w3 v, w3 = setL w2 75 0 j v → v = lN (exN q (e + 1) j) → Z M G 0 K noX w3 107 [some (.ref (G.2.1 40 0)), some (.int (nI n)), some (.int (nI k)), some (.int (nI q)), some (.int d), some (.int (nI e)), some (.int (nI j + -1)), none, none, none, none, none, none, none, none] [] := by
              intro w3 v hw3 hv
              rw [← Int32.sub_eq_add_neg]
              refine ihj (by omega) w3 (by rw [hw3]; exact t2.sl) (fun i hi => ?_) (fun i h1 h2 => ?_)
              · rw [hw3, setL_ne (by omega)]
                exact hr1 i (by omega)
              · by_cases hqi : i = j
                · rw [hw3, hqi, setL_eq, hv]
                · rw [hw3, setL_ne (by omega)]
                  exact hr2 i (by omega) h2
            refine b_X10_enough_107 F hk ⟨fun hc => absurd hc (nI_pos (by omega)), fun _ => ⟨hii, ?_⟩⟩
            have er : exN q (e + 1) j = exN q e j * q + (if j = 0 then 0 else exN q e (j - 1) * (16 - q)) := rfl
            have e16 : (16 : Int32) - nI q = nI (16 - q) := fb_sub hq
            rw [e16, nI_l (show q < 2 ^ 31 by omega), nI_l (show 16 - q < 2 ^ 31 by omega), nI_clamp (by omega), hr1 j (by omega), lN_mul]
            cases j with
            | zero =>
              refine ⟨fun _ => ⟨hii, fun w3 hw3 => nxt w3 _ hw3 ?_⟩, fun hc => absurd (by decide) hc⟩
              rw [er, if_pos rfl, Nat.add_zero]
              exact Int64.add_zero _
            | succ j =>
              refine ⟨fun hc => absurd hc (nI_nle (by omega) (by omega)), fun _ => ?_⟩
              rw [nI_pred, nI_clamp (by omega), hr1 j (by omega), lN_mul, lN_add]
              refine ⟨vp_in_nI (by omega) (by decide), hii, fun w3 hw3 => nxt w3 _ hw3 ?_⟩
              rw [er, if_neg (by omega), Nat.add_sub_cancel]
        exact key 14 (Nat.le_refl _) w' t hrow (fun i h1 h2 => by omega)
      · refine b_X10_enough_97 F hk ⟨fun _ => ?_, fun hc => absurd (nI_le (Nat.le_refl _) (by omega)) hc⟩
        rw [hz_shl n (by omega)]
        exact f179 w' t hrow
    refine up_to (P := fun j => ∀ w', TR w w' (w.1 69 1) → (∀ i, i < j → w'.2.1 75 0 i = lN (exN q 0 i)) → Z M G 0 K noX w' 64 [some (.ref (G.2.1 40 0)), some (.int (nI n)), some (.int (nI k)), some (.int (nI q)), some (.int d), some (.int (nI j)), none, none, none, none, none, none, none, none, none] []) 14 (fun j hj ih w' t hrow => ?_) (fun w' t hrow => b_X10_enough_64 F hk ⟨fun _ => f97 w' t hrow, fun hc => absurd (by decide) hc⟩) (cl0 w) ⟨cl0_sm, cl0_0, cl0_69⟩ (fun i hi => absurd hi (Nat.not_lt_zero _))
    have hii : vp_in (nI j) 14 := vp_in_nI hj (by decide)
    have nxt : ∀ w3 v, w3 = setL w' 75 0 j v → v = lN (exN q 0 j) → Z M G 0 K noX w3 64 [some (.ref (G.2.1 40 0)), some (.int (nI n)), some (.int (nI k)), some (.int (nI q)), some (.int d), some (.int (nI (j + 1))), none, none, none, none, none, none, none, none, none] [] := by
      intro w3 v hw3 hv
      refine ih w3 (by rw [hw3]; exact t.sl) (fun i hi => ?_)
      by_cases hqi : i = j
      · rw [hw3, hqi, setL_eq, hv]
      · rw [hw3, setL_ne (by omega)]
        exact hrow i (by omega)
    refine b_X10_enough_64 F hk ⟨fun hc => absurd hc (nI_ge hj (by decide)), fun _ => ?_⟩
    rw [← nI_succ, nI_clamp (by omega)]
    refine ⟨fun h0 => ⟨hii, fun w3 hw3 => nxt w3 _ hw3 ?_⟩, fun h0 => ⟨hii, fun w3 hw3 => nxt w3 _ hw3 ?_⟩⟩
    · have : ¬ j = 0 := fun z => h0 (by rw [z]; rfl)
      show _ = lN (if j = 0 then 1 else 0)
      rw [if_neg this]; rfl
    · have : j = 0 := (nI_eq (by omega) (show 0 < 2 ^ 31 by decide)).mp (Classical.not_not.mp h0)
      show _ = lN (if j = 0 then 1 else 0)
      rw [if_pos this]; rfl
  refine con_i (m_in hl) ⟨fun h1 => b_X10_enough_46 F hk (f51 true ?_), fun h1 => con_i (m_in hl) ⟨fun h2 => b_X10_enough_46 F hk (f51 true ?_), fun h2 => con_i (m_in hl) ⟨fun h3 => b_X10_enough_46 F hk (f51 true ?_), fun h3 => con_i (m_in hl) ⟨fun h4 => f51 false ?_, fun h4 => b_X10_enough_46 F hk (f51 true ?_)⟩⟩⟩⟩
  · rw [show okB a 0 12 = false from bI_0 h1]; rfl
  · rw [show okB b 0 13 = false from bI_0 h2, Bool.and_false]; rfl
  · rw [show okB c 0 16 = false from bI_0 h3, Bool.and_false]; rfl
  · rw [show okB a 0 12 = true from bI_not.mp h1, show okB b 0 13 = true from bI_not.mp h2, show okB c 0 16 = true from bI_not.mp h3, show okB d 0 1 = true from bI_not.mp h4]; rfl
  · rw [show okB d 0 1 = false from bI_0 (Classical.not_not.mp h4), Bool.and_false]; rfl
end RI
