/-! What a singer would need; wordings. -/
def wfN (T : Tx) (n : Nat) : Nat → Nat
  | 0 => 2 ^ (nv T n).toNatClampNeg
  | k + 1 => if kn T k = nI n then wfN T n k ||| 2 ^ (kv T k).toNatClampNeg else wfN T n k
theorem hz_v6 : ∀ v, v < 6 → (1 : Int32) <<< (nI v &&& 31) = nI (2 ^ v) ∧ 2 ^ v < 64 := by decide +kernel
theorem wf_nI {T : Tx} (hT : Tok T) {n : Nat} (hn : n < tN T) : ∀ k, k ≤ tL T → wf T n k = nI (wfN T n k) ∧ wfN T n k < 64 := by
  intro k
  induction k with
  | zero =>
    intro _
    obtain ⟨v, h1, h2⟩ := (hT.2.2.2.2.1 n hn).1
    rw [wf, wfN, h2, nI_clamp (by omega)]
    exact hz_v6 v h1
  | succ k ih =>
    intro hk
    obtain ⟨i1, i2⟩ := ih (by omega)
    obtain ⟨v, h1, h2⟩ := (hT.2.2.2.2.2.1 k (by omega)).2
    obtain ⟨z1, z2⟩ := hz_v6 v h1
    rw [wf, wfN]
    split
    · rw [h2, nI_clamp (by omega), z1, i1, fb_or]
      exact ⟨rfl, Nat.or_lt_two_pow (n := 6) i2 z2⟩
    · exact ⟨i1, i2⟩
/-- ways to word with the vowels of m -/
def wyN (T : Tx) (m : Nat) : Nat → Nat
  | 0 => 1
  | k + 1 => wyN T m k * popN (wfN T k (tL T) &&& m) 7
theorem wyN_le {T : Tx} (hT : Tok T) {m : Nat} : ∀ k, k ≤ tN T → wyN T m k ≤ 6 ^ k := by
  intro k
  induction k with
  | zero => intro _; exact Nat.le_refl _
  | succ k ih =>
    intro hk
    have h1 := ih (by omega)
    have h2 := (wf_nI hT (show k < tN T by omega) (tL T) (Nat.le_refl _)).2
    have h3 : wfN T k (tL T) &&& m < 2 ^ 6 := Nat.lt_of_le_of_lt Nat.and_le_left h2
    have h4 : popN (wfN T k (tL T) &&& m) 7 ≤ 6 := by
      rw [popN_small h3 (by decide)]
      exact popN_le _ 6
    rw [wyN, Nat.pow_succ]
    exact Nat.mul_le_mul h1 h4
theorem wyN_lt {T : Tx} (hT : Tok T) {m : Nat} : wyN T m (tN T) < 2 ^ 63 := by
  have h1 := wyN_le hT (m := m) (tN T) (Nat.le_refl _)
  have h2 : 6 ^ tN T ≤ 6 ^ 20 := Nat.pow_le_pow_right (by decide) hT.2.1
  have h3 : 6 ^ 20 < 2 ^ 63 := by decide
  omega
def fwr (m : Nat) : Option Nat → Bool
  | none => true
  | some c => decide (popN m 7 < popN c 7)
def woF (T : Tx) : Nat → Option Nat
  | 0 => none
  | m + 1 => if fwr m (woF T m) && decide (0 < wyN T m (tN T)) then some m else woF T m
theorem woF_lt {T : Tx} {n b : Nat} (h : woF T n = some b) : b < n := by
  induction n with
  | zero => cases h
  | succ n ih =>
    rw [woF] at h
    split at h
    · cases h; omega
    · have := ih h
      omega
theorem lN_pos {n : Nat} (h : n < 2 ^ 63) : (lg_cmp (lN n) 0 ≤ 0) ↔ n = 0 := by
  rw [lg_cmp_le, Int64.le_iff_toInt_le]
  show (Int64.ofNat n).toInt ≤ (0 : Int64).toInt ↔ _
  rw [lg_ofNat_toInt h]
  show (n : Int) ≤ 0 ↔ _
  omega
section QG
variable {l : Launch} {G : Gx} {w : Wd} {T : Tx} {E : Ex} {σ : Sg}
theorem c_waysToWord (hl : l.stackTraces = false) {m : Nat} (hm : m < 64) (h : CQ w T E σ) : C_X9_waysToWord l G w [.ref (G.2.1 0 0), .int (nI m)] (fun r w' => r = some (.long (lN (wyN T m (tN T)))) ∧ w' = w) noX := by
  have hN := h.1.2.1
  have hR := h.2.1.2.2.1
  refine e_X9_waysToWord hl (fun M kk hM hk F => ?_)
  subst hM
  refine up_to (P := fun i => Z M G 0 _ _ w 5 [some (.ref (G.2.1 0 0)), some (.int (nI m)), some (.long (lN (wyN T m i))), none, some (.int (nI i))] []) (tN T) (fun i hi ih => ?_) ?_
  · refine b_X9_waysToWord_5 F hk ⟨fun hc => ?_, fun _ => ⟨vp_in_nI (by omega) (by decide), con_i (c_bitCount hl) ?_⟩⟩
    · rw [hR.2.1] at hc
      exact absurd hc (nI_ge hi (by omega))
    · have hw := wf_nI h.1 hi (tL T) (Nat.le_refl _)
      have h3 : wfN T i (tL T) &&& m < 128 := Nat.lt_of_le_of_lt Nat.and_le_left (by have := hw.2; omega)
      rw [nI_clamp (by omega), (hR.2.2.2.2.2.1 i hi).2.2, hw.1, fb_and, bc_7 h3, nI_l (by have := popN_le (wfN T i (tL T) &&& m) 7; omega), lN_mul, ← nI_succ]
      exact ih
  · refine b_X9_waysToWord_5 F hk ⟨fun _ => ⟨rfl, rfl⟩, fun hc => ?_⟩
    rw [hR.2.1] at hc
    exact absurd (nI_le (Nat.le_refl _) (by omega)) hc
theorem c_wording (hl : l.stackTraces = false) (h : CQ w T E σ) : C_X9_wording l G w [.ref (G.2.1 0 0)] (KC w true (oI (woF T 64))) noX := by
  refine e_X9_wording hl (fun M kk hM hk F => ?_)
  subst hM
  refine up_to (P := fun m => Z M G 0 (KC w true (oI (woF T 64))) noX w 4 [some (.ref (G.2.1 0 0)), some (.int (oI (woF T m))), some (.int (nI m)), none] []) 64 (fun m hm ih => ?_) ?_
  · have er : woF T (m + 1) = if fwr m (woF T m) && decide (0 < wyN T m (tN T)) then some m else woF T m := rfl
    rw [er] at ih
    have f31 : ∀ b : Bool, fwr m (woF T m) = b → Z M G 0 (KC w true (oI (woF T 64))) noX w 31 [some (.ref (G.2.1 0 0)), some (.int (oI (woF T m))), some (.int (nI m)), none] [.int (bI b)] := by
      intro b hb
      rw [hb] at ih
      refine b_X9_wording_31 F hk ?_
      rw [← nI_succ]
      refine ⟨fun h1 => ?_, fun h1 => con_l (c_waysToWord hl hm h) ?_⟩
      · rw [bI_0 h1] at ih
        exact ih
      · rw [bI_not.mp h1, Bool.true_and] at ih
        rw [lN_pos (wyN_lt h.1)]
        refine ⟨fun h2 => ?_, fun h2 => ?_⟩
        · rw [decide_eq_false (by omega)] at ih
          exact ih
        · rw [decide_eq_true (by omega)] at ih
          exact ih
    refine b_X9_wording_4 F hk ⟨fun hc => absurd hc (nI_ge hm (by decide)), fun _ => ?_⟩
    cases hb : woF T m with
    | none =>
      rw [hb] at f31
      exact ⟨fun _ => b_X9_wording_26 F hk (f31 true rfl), fun hc => absurd rfl hc⟩
    | some c =>
      have hc := woF_lt hb
      rw [hb] at f31
      refine ⟨fun q => absurd q (nI_neg1 (show c < 2 ^ 31 by omega)), fun _ => con_i (c_bitCount hl) (con_i (c_bitCount hl) ?_)⟩
      rw [bc_7 (show m < 128 by omega), show bc (oI (some c)) = nI (popN c 7) from bc_7 (by omega)]
      have l1 := popN_le m 7
      have l2 := popN_le c 7
      have ef : fwr m (some c) = decide (popN m 7 < popN c 7) := rfl
      refine ⟨fun hle => f31 false ?_, fun hle => b_X9_wording_26 F hk (f31 true ?_)⟩
      · rw [ef, decide_eq_false]
        have := (nI_leI (by omega) (by omega)).mp hle
        omega
      · rw [ef, decide_eq_true]
        rw [nI_leI (by omega) (by omega)] at hle
        omega
  · exact b_X9_wording_4 F hk ⟨fun _ => ⟨rfl, rfl, Sm.rf⟩, fun hc => absurd (by decide) hc⟩
theorem c_wordings (hl : l.stackTraces = false) {v : Int32} (h : CQ w T E σ) : C_X9_wordings l G w [.ref (G.2.1 0 0), .int v] (fun r w' => okB v 0 63 = true ∧ r = some (.long (lN (wyN T v.toNatClampNeg (tN T)))) ∧ Sm GC w w') (XT w (okB v 0 63)) := by
  refine e_X9_wordings hl (fun M kk hM hk F => ?_)
  subst hM
  refine con_i (c_within hl) (con_dem hl (fun h1 => ?_) (fun h1 => ⟨h1, rfl, rfl⟩))
  obtain ⟨m, -, hm, rfl⟩ := okB_of (a := 0) (b := 63) h1 (by decide) (by decide)
  rw [nI_clamp (by omega)]
  exact con_l (c_waysToWord hl (by omega) h) ⟨h1, rfl, Sm.rf⟩
def okW (a b c d e f g i : Int32) : Bool := okB a 1 9 && okB b 0 60 && (okB c 0 30 && okB d 0 9999) && (okB e 0 19 && okV f) && (okB g 0 400 && okB i 0 6)
theorem c_would (hl : l.stackTraces = false) {a b c d e f g i : Int32} (h : CQ w T E σ) : C_X9_would l G w [.ref (G.2.1 0 0), .int a, .int b, .int c, .int d, .int e, .int f, .int g, .int i] (KC w (okW a b c d e f g i) (clampE (E (f8 a b c d e f g i)))) (XT w (okW a b c d e f g i)) := by
  refine e_X9_would hl (fun M kk hM hk F => ?_)
  subst hM
  have f117 : (okB a 1 9 && okB b 0 60 && (okB c 0 30 && okB d 0 9999) && (okB e 0 19 && okV f)) = true → ∀ x : Bool, (okB g 0 400 && okB i 0 6) = x → Z M G 3 (KC w (okW a b c d e f g i) (clampE (E (f8 a b c d e f g i)))) (XT w (okW a b c d e f g i)) w 117 [some (.ref (G.2.1 0 0)), some (.int a), some (.int b), some (.int c), some (.int d), some (.int e), some (.int f), some (.int g), some (.int i), none] [.int (bI x), .ref (G.2.1 0 0)] := by
    intro hA x hx
    have hok : okW a b c d e f g i = x := by unfold okW; rw [hA, hx]; rfl
    refine b_X9_would_117 F hk (con_dem hl (fun h1 => ?_) (fun h1 => ⟨hok.trans h1, rfl, rfl⟩))
    rintro _ rfl _ rfl _ rfl _ rfl _ rfl _ rfl _ rfl w11 hw11
    have hsm : Sm (fun κ _ _ => κ = 33) w w11 := by
      rw [hw11]
      exact (((((((Sm.rf.set rfl).set rfl).set rfl).set rfl).set rfl).set rfl).set rfl).set rfl
    have hE := h.2.1.2.2.2
    have hE' : LawC w11 (w.2.2 2 0 1) E := hE.mv hsm (fun κ k q => by omega)
    have hf : ∀ k, k < 8 → w11.1 33 (w.2.2 2 0 1) k = f8 a b c d e f g i k := by
      intro k hk8
      rw [hw11]
      rcases (show k = 0 ∨ k = 1 ∨ k = 2 ∨ k = 3 ∨ k = 4 ∨ k = 5 ∨ k = 6 ∨ k = 7 by omega) with rfl | rfl | rfl | rfl | rfl | rfl | rfl | rfl
      all_goals
        simp only [setI_1]
        simp [f8]
    rw [hsm.2.2]
    refine con_iP (c_weigh hl h.2.1.2.1 hE') (fun w' hw' => ⟨hok.trans h1, ?_, ?_⟩)
    · rw [hE.ok _ _ hf]
    · exact (hsm.mono (fun κ b k q => Or.inl q)).tr (hw'.mono (fun κ b k q => Or.inr (Or.inl q)))
  have f85 : (okB a 1 9 && okB b 0 60 && (okB c 0 30 && okB d 0 9999)) = true → ∀ x : Bool, (okB e 0 19 && okV f) = x → Z M G 2 (KC w (okW a b c d e f g i) (clampE (E (f8 a b c d e f g i)))) (XT w (okW a b c d e f g i)) w 85 [some (.ref (G.2.1 0 0)), some (.int a), some (.int b), some (.int c), some (.int d), some (.int e), some (.int f), some (.int g), some (.int i), none] [.int (bI x), .ref (G.2.1 0 0)] := by
    intro hA x hx
    refine b_X9_would_85 F hk (con_dem hl (fun h1 => ?_) (fun h1 => ⟨by unfold okW; rw [hA, hx, h1]; rfl, rfl, rfl⟩))
    have hB : (okB a 1 9 && okB b 0 60 && (okB c 0 30 && okB d 0 9999) && (okB e 0 19 && okV f)) = true := by rw [hA, hx, h1]; rfl
    refine con_i (c_within hl) ⟨fun h2 => b_X9_would_116 F hk (f117 hB false ?_), fun h2 => con_i (c_within hl) ⟨fun h3 => b_X9_would_116 F hk (f117 hB false ?_), fun h3 => f117 hB true ?_⟩⟩
    · rw [show okB g 0 400 = false from bI_0 h2]; rfl
    · rw [show okB i 0 6 = false from bI_0 h3, Bool.and_false]
    · rw [show okB g 0 400 = true from bI_not.mp h2, show okB i 0 6 = true from bI_not.mp h3]; rfl
  have f57 : (okB a 1 9 && okB b 0 60) = true → ∀ x : Bool, (okB c 0 30 && okB d 0 9999) = x → Z M G 1 (KC w (okW a b c d e f g i) (clampE (E (f8 a b c d e f g i)))) (XT w (okW a b c d e f g i)) w 57 [some (.ref (G.2.1 0 0)), some (.int a), some (.int b), some (.int c), some (.int d), some (.int e), some (.int f), some (.int g), some (.int i), none] [.int (bI x), .ref (G.2.1 0 0)] := by
    intro hA x hx
    refine b_X9_would_57 F hk (con_dem hl (fun h1 => ?_) (fun h1 => ⟨by unfold okW; rw [hA, hx, h1]; rfl, rfl, rfl⟩))
    have hB : (okB a 1 9 && okB b 0 60 && (okB c 0 30 && okB d 0 9999)) = true := by rw [hA, hx, h1]; rfl
    refine con_i (c_within hl) ⟨fun h2 => b_X9_would_84 F hk (f85 hB false ?_), fun h2 => con_i (c_isVowel hl) ⟨fun h3 => b_X9_would_84 F hk (f85 hB false ?_), fun h3 => f85 hB true ?_⟩⟩
    · rw [show okB e 0 19 = false from bI_0 h2]; rfl
    · rw [show okV f = false from bI_0 h3, Bool.and_false]
    · rw [show okB e 0 19 = true from bI_not.mp h2, show okV f = true from bI_not.mp h3]; rfl
  have f26 : ∀ x : Bool, (okB a 1 9 && okB b 0 60) = x → Z M G 0 (KC w (okW a b c d e f g i) (clampE (E (f8 a b c d e f g i)))) (XT w (okW a b c d e f g i)) w 26 [some (.ref (G.2.1 0 0)), some (.int a), some (.int b), some (.int c), some (.int d), some (.int e), some (.int f), some (.int g), some (.int i), none] [.int (bI x), .ref (G.2.1 0 0)] := by
    intro x hx
    refine b_X9_would_26 F hk (con_dem hl (fun h1 => ?_) (fun h1 => ⟨by unfold okW; rw [hx, h1]; rfl, rfl, rfl⟩))
    have hB := hx.trans h1
    refine con_i (c_within hl) ⟨fun h2 => b_X9_would_56 F hk (f57 hB false ?_), fun h2 => con_i (c_within hl) ⟨fun h3 => b_X9_would_56 F hk (f57 hB false ?_), fun h3 => f57 hB true ?_⟩⟩
    · rw [show okB c 0 30 = false from bI_0 h2]; rfl
    · rw [show okB d 0 9999 = false from bI_0 h3, Bool.and_false]
    · rw [show okB c 0 30 = true from bI_not.mp h2, show okB d 0 9999 = true from bI_not.mp h3]; rfl
  refine con_i (c_within hl) ⟨fun h2 => b_X9_would_25 F hk (f26 false ?_), fun h2 => con_i (c_within hl) ⟨fun h3 => b_X9_would_25 F hk (f26 false ?_), fun h3 => f26 true ?_⟩⟩
  · rw [show okB a 1 9 = false from bI_0 h2]; rfl
  · rw [show okB b 0 60 = false from bI_0 h3, Bool.and_false]
  · rw [show okB a 1 9 = true from bI_not.mp h2, show okB b 0 60 = true from bI_not.mp h3]; rfl
end QG
