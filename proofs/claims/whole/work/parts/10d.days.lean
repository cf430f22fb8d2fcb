/-! The class: hymns, rests, days. -/
def refF (T : Tx) (σ : Sg) : Sg := fun q => if q < tS T then sb T q else σ q
def mnI (a b : Int32) : Int32 := if a < b then a else b
def restF (T : Tx) (σ : Sg) : Sg := fun q => if q < tS T then mnI (sb T q) (σ q + tB T) else σ q
/-- any below n -/
def an (p : Nat → Bool) : Nat → Bool
  | 0 => false
  | n + 1 => an p n || p n
def tired (T : Tx) (σ : Sg) : Bool := an (fun s => decide (σ s < sb T s)) (tS T)
def setS (σ : Sg) (a : Nat) (v : Int32) : Sg := fun q => if q = a then v else σ q
theorem setS_s (σ : Sg) (a : Nat) (v : Int32) : setS σ a v a = v := if_pos rfl
theorem setS_n {σ : Sg} {a q : Nat} {v : Int32} (h : q ≠ a) : setS σ a v q = σ q := if_neg h
def dayK (T : Tx) (σ : Sg) (i : Nat) : Sg := fun q => if 21 ≤ q ∧ q < 21 + i then (if σ (q + 7) = 0 then σ q else mnI 9999 (σ q + sp T (q - 21))) else if 28 ≤ q ∧ q < 28 + i then 0 else σ q
def dayF (T : Tx) (σ : Sg) : Sg := setS (dayK T (refF T σ) (tS T)) 56 (dayK T (refF T σ) (tS T) 56 + 1)
def turnF (σ : Sg) (s : Nat) : Sg := fun q => if q = 7 + s then 1 - σ q else σ q
theorem hz_bit : ∀ m, m < 128 → ∀ s, s < 7 → (nI m >>> (nI s &&& 31)) &&& 1 = nI (m / 2 ^ s % 2) := by decide +kernel
theorem hz_xor : ∀ m, m < 128 → ∀ s, s < 7 → nI m ^^^ ((1 : Int32) <<< (nI s &&& 31)) = nI (m ^^^ 2 ^ s) ∧ m ^^^ 2 ^ s < 128 ∧ ∀ t, t < 7 → nI ((m ^^^ 2 ^ s) / 2 ^ t % 2) = if t = s then 1 - nI (m / 2 ^ s % 2) else nI (m / 2 ^ t % 2) := by decide +kernel
theorem bit01 (m s : Nat) : m / 2 ^ s % 2 = 0 ∨ m / 2 ^ s % 2 = 1 := by omega
theorem sung1_off {T : Tx} {E : Ex} {σ : Sg} {n s q : Nat} (h1 : q ≠ s) (h2 : q ≠ 14 + s) (h3 : q ≠ 28 + s) : sung1 T E σ n s q = σ q := by
  unfold sung1
  rw [if_neg h1, if_neg (by omega)]
theorem sung1_s {T : Tx} {E : Ex} {σ : Sg} {n s : Nat} : sung1 T E σ n s s = σ s - tk T E σ n s := if_pos rfl
theorem sung1_14 {T : Tx} {E : Ex} {σ : Sg} {n s q : Nat} (h : q = 14 + s ∨ q = 28 + s) : sung1 T E σ n s q = σ q + 1 := by
  unfold sung1
  rw [if_neg (by omega), if_pos h]
section CD
variable {l : Launch} {G : Gx} {w : Wd}
theorem c_singNote (hl : l.stackTraces = false) {T : Tx} {E : Ex} {σ : Sg} {j n : Nat} (hj : j < 69) (hT : Tok T) (hst : StC w T E) (hsc : SceneC w j σ (tN T)) (hn : n < tN T) :
    C_X7_singNote l G w [.ref (G.2.1 2 0), .ref (G.2.1 5 j), .int (nI n)] (fun r w' => r = some (.int (sbI T E σ n)) ∧ SceneC w' j (singF T E σ n) (tN T) ∧ Sm (GJ j) w w') noX := by
  have hS7 := hT.1
  have hN20 := hT.2.1
  have hin : vp_in (nI n) 20 := vp_in_nI (by omega) (by decide)
  have cn : (nI n).toNatClampNeg = n := nI_clamp (by omega)
  refine e_X7_singNote hj hl (fun M kk hM hk F => ?_)
  subst hM
  refine up_to (P := fun i => ∀ w' : Wd, Sm G2 w w' → (∀ s, s < i → canS T E σ n s = false) → Z M G 0 (fun r w' => r = some (.int (sbI T E σ n)) ∧ SceneC w' j (singF T E σ n) (tN T) ∧ Sm (GJ j) w w') noX w' 2 [some (.ref (G.2.1 2 0)), some (.ref (G.2.1 5 j)), some (.int (nI n)), some (.int (nI i)), none] []) (tS T) ?_ ?_ w Sm.rf (fun s hs => absurd hs (Nat.not_lt_zero _))
  · intro i hi ih w' hs hno
    have hst' : StC w' T E := hst.mv hs (fun κ b k q => by unfold G2; omega)
    have hsc' : SceneC w' j σ (tN T) := hsc.mv hs (fun κ k q => by unfold G2; omega)
    obtain ⟨hr0, hr1, hR, hE⟩ := hst'
    have ci : (nI i).toNatClampNeg = i := nI_clamp (by omega)
    have hii : vp_in (nI i) 7 := vp_in_nI (by omega) (by decide)
    have next : canS T E σ n i = false → ∀ w2 : Wd, Sm G2 w w2 → Z M G 0 (fun r w' => r = some (.int (sbI T E σ n)) ∧ SceneC w' j (singF T E σ n) (tN T) ∧ Sm (GJ j) w w') noX w2 2 [some (.ref (G.2.1 2 0)), some (.ref (G.2.1 5 j)), some (.int (nI n)), some (.int (nI i + 1)), none] [] := by
      intro hf w2 hs2
      rw [← nI_succ]
      refine ih w2 hs2 (fun s hsi => ?_)
      by_cases hq : s = i
      · rw [hq]; exact hf
      · exact hno s (by omega)
    obtain ⟨m, hm, hmw, hmb⟩ := hsc'.2.2.2.2
    refine b_X7_singNote_2 hj F hk ⟨fun hc => ?_, fun _ => ⟨hii, hin, ?_⟩⟩
    · rw [hR.1] at hc
      exact absurd hc (nI_ge hi (by omega))
    · rw [ci, cn, (hR.2.2.2.2.1 i hi).1, hsc'.2.2.2.1 n hn, hmw, hz_bit m hm i (by omega), ← hmb i (by omega)]
      refine ⟨fun hc => next ?_ w' hs, fun hc => ⟨fun hc2 => ?_, fun hc2 => next ?_ w' hs⟩⟩
      · unfold canS
        rw [beq_eq_false_iff_ne.mpr hc]
        rfl
      · have h70 : σ (7 + i) = 0 := by
          rw [hmb i (by omega)] at hc2 ⊢
          rcases bit01 m i with q | q
          · rw [q]; rfl
          · rw [q] at hc2; exact absurd rfl hc2
        have hvw : sv T i = σ (35 + n) := Classical.not_not.mp hc
        refine con_iP (c_breathFor hl hj hT ⟨hr0, hr1, hR, hE⟩ hsc' hn hi) (fun w4 hw4 => ⟨hii, ?_⟩)
        have hs4 : Sm G2 w w4 := hs.tr hw4
        have hsc4 : SceneC w4 j σ (tN T) := hsc.mv hs4 (fun κ k q => by unfold G2; omega)
        rw [(hsc4.2.2.1 i (by omega)).1]
        refine ⟨fun hlt => next ?_ w4 hs4, fun hge => ⟨hii, hii, ?_⟩⟩
        · unfold canS
          rw [decide_eq_false (Int32.not_le.mpr hlt), Bool.and_false]
        · have hcan : canS T E σ n i = true := by
            unfold canS
            rw [hvw, h70, decide_eq_true (Int32.not_lt.mp hge)]
            simp
          have hfs : sbF T E σ n = i := fs_is hi hcan hno
          rintro _ rfl
          refine ⟨hii, hii, ?_⟩
          rintro _ rfl
          refine ⟨hii, hii, ?_⟩
          intro w7 hw7
          have hsm7 : Sm (GJ j) w w7 := by
            rw [hw7]
            exact (((hs4.mono G2_GJ).set (by unfold GJ; omega)).set (by unfold GJ; omega)).set (by unfold GJ; omega)
          refine ⟨?_, ?_, hsm7⟩
          · unfold sbI
            rw [hfs, if_pos hi]
          · unfold singF
            rw [hfs, if_pos hi]
            obtain ⟨t1, t2, t3, t4, m4, t5, t6, t7⟩ := hsc4
            rw [hw7]
            refine ⟨?_, ?_, fun s hs7 => ?_, fun q hq => ?_, m4, t5, ?_, fun s hs7 => ?_⟩
            · rw [sung1_off (by omega) (by omega) (by omega), ← t1]; simp [setI_1]
            · rw [sung1_off (by omega) (by omega) (by omega), ← t2]; simp [setI_1]
            · obtain ⟨a, b, c, d⟩ := t3 s hs7
              rw [sung1_off (q := 21 + s) (by omega) (by omega) (by omega), ← c]
              by_cases hq : s = i
              · rw [hq] at a b c d ⊢
                rw [sung1_s, sung1_14 (Or.inl rfl), sung1_14 (Or.inr rfl), ← b, ← d]
                simp [setI_1]
              · rw [sung1_off (by omega) (by omega) (by omega), sung1_off (by omega) (by omega) (by omega), sung1_off (by omega) (by omega) (by omega), ← a, ← b, ← d]
                simp [setI_1, hq]
            · rw [sung1_off (by omega) (by omega) (by omega), ← t4 q hq]; simp [setI_1]
            · rw [← t6]; simp [setI_1]
            · rw [sung1_off (by omega) (by omega) (by omega), ← t7 s hs7]
      · rw [hmb i (by omega)] at hc2
        unfold canS
        rw [hmb i (by omega)]
        rcases bit01 m i with q | q
        · rw [q] at hc2; exact absurd (Classical.not_not.mp hc2) (by decide)
        · rw [q]
          simp [show (nI 1 == (0 : Int32)) = false from by decide]
  · intro w' hs hno
    have hst' : StC w' T E := hst.mv hs (fun κ b k q => by unfold G2; omega)
    have hfs : sbF T E σ n = tS T := fs_none hno
    refine b_X7_singNote_2 hj F hk ⟨fun _ => ⟨?_, ?_, hs.mono G2_GJ⟩, fun hc => ?_⟩
    · unfold sbI
      rw [hfs, if_neg (Nat.lt_irrefl _)]
    · unfold singF
      rw [hfs, if_neg (Nat.lt_irrefl _)]
      exact hsc.mv hs (fun κ k q => by unfold G2; omega)
    · rw [hst'.2.2.1.1] at hc
      exact absurd (nI_le (Nat.le_refl _) (by omega)) hc
theorem c_singHymn (hl : l.stackTraces = false) {T : Tx} {E : Ex} {σ : Sg} {j : Nat} (hj : j < 69) (hT : Tok T) (hst : StC w T E) (hsc : SceneC w j σ (tN T)) :
    C_X7_singHymn l G w [.ref (G.2.1 2 0), .ref (G.2.1 5 j)] (fun r w' => r = some (.int (hymF T E σ (tN T)).2) ∧ SceneC w' j (hymF T E σ (tN T)).1 (tN T) ∧ Sm (GJ j) w w') noX := by
  have hS7 := hT.1
  have hN20 := hT.2.1
  refine e_X7_singHymn hj hl (fun M kk hM hk F => ?_)
  subst hM
  refine up_to (P := fun i => ∀ w' : Wd, Sm (GJ j) w w' → SceneC w' j (hymF T E σ i).1 (tN T) → Z M G 0 (fun r w' => r = some (.int (hymF T E σ (tN T)).2) ∧ SceneC w' j (hymF T E σ (tN T)).1 (tN T) ∧ Sm (GJ j) w w') noX w' 4 [some (.ref (G.2.1 2 0)), some (.ref (G.2.1 5 j)), some (.int (hymF T E σ i).2), some (.int (nI i))] []) (tN T) ?_ ?_ w Sm.rf hsc
  · intro i hi ih w' hs hsc'
    have hst' : StC w' T E := hst.mv hs (fun κ b k q => by unfold GJ; omega)
    refine b_X7_singHymn_4 hj F hk ⟨fun hc => ?_, fun _ => ?_⟩
    · rw [hst'.2.2.1.2.1] at hc
      exact absurd hc (nI_ge hi (by omega))
    · refine con_iP (c_singNote hl hj hT hst' hsc' hi) (fun w3 hw3 => ?_)
      obtain ⟨hsc3, hs3⟩ := hw3
      rw [← nI_succ]
      by_cases hsb : sbF T E (hymF T E σ i).1 i < tS T
      · rw [hymF, if_pos hsb] at ih
        unfold sbI
        rw [if_pos hsb]
        exact ⟨fun _ => ih w3 (hs.tr hs3) hsc3, fun hc => absurd (Classical.not_not.mp hc) (nI_neg1 (by omega))⟩
      · rw [hymF, if_neg hsb] at ih
        unfold sbI
        rw [if_neg hsb]
        unfold singF at hsc3
        rw [if_neg hsb] at hsc3
        refine ⟨fun hc => absurd rfl hc, fun _ w4 hw4 => ih w4 ?_ ?_⟩
        · rw [hw4]
          exact (hs.tr hs3).set (by unfold GJ; omega)
        · obtain ⟨t1, t2, t3, t4, m4, t5, t6, t7⟩ := hsc3
          rw [hw4]
          refine ⟨?_, ?_, fun s hs7 => ?_, fun q hq => ?_, m4, t5, ?_, fun s hs7 => ?_⟩
          · simp only [setI_1]; simp [t1]
          · simp only [setI_1]; simp [t2]
          · obtain ⟨a, b, c, d⟩ := t3 s hs7
            simp only [setI_1]
            simp [a, b, c, d]
            omega
          · simp only [setI_1]; simp [t4 q hq]; omega
          · simp only [setI_1]; simp [t6]
          · rw [← t7 s hs7]; simp; omega
  · intro w' hs hsc'
    have hst' : StC w' T E := hst.mv hs (fun κ b k q => by unfold GJ; omega)
    refine b_X7_singHymn_4 hj F hk ⟨fun _ => ⟨rfl, hsc', hs⟩, fun hc => ?_⟩
    rw [hst'.2.2.1.2.1] at hc
    exact absurd (nI_le (Nat.le_refl _) (by omega)) hc
theorem c_turn (hl : l.stackTraces = false) {σ : Sg} {j s N : Nat} {v : Nat} (hj : j < 69) (hsc : SceneC w j σ N) (hs : s < 7) (hv : v < 2) :
    C_X6_turn l G w [.ref (G.2.1 5 j), .int (nI s), .int (nI v)] (fun r w' => r = some (.int (bI (!(σ (7 + s) == nI v)))) ∧ SceneC w' j (if σ (7 + s) = nI v then σ else turnF σ s) N ∧ Sm (GJ j) w w') noX := by
  obtain ⟨t1, t2, t3, t4, m, t5, t6, t7⟩ := hsc
  refine e_X6_turn hj hl (fun M kk hM hk F => ?_)
  rw [t6, hz_bit m t5 s hs, ← t7 s hs]
  refine ⟨fun hc w1 hw1 => ⟨?_, ?_, ?_⟩, fun hc => ⟨?_, ?_, Sm.rf⟩⟩
  · rw [beq_eq_false_iff_ne.mpr hc]; rfl
  · rw [if_neg hc, hw1]
    obtain ⟨x1, x2, x3⟩ := hz_xor m t5 s hs
    rw [x1]
    refine ⟨?_, ?_, fun q hq => ?_, fun q hq => ?_, m ^^^ 2 ^ s, x2, ?_, fun q hq => ?_⟩
    · simp only [setI_1]; simp [t1, turnF]; omega
    · simp only [setI_1]; simp [t2, turnF]; omega
    · obtain ⟨a, b, c, d⟩ := t3 q hq
      simp only [setI_1]
      simp [a, b, c, d, turnF]
      omega
    · simp only [setI_1]; simp [t4 q hq, turnF]; omega
    · simp only [setI_1]; simp
    · rw [x3 q hq]
      unfold turnF
      by_cases hqs : q = s
      · subst hqs
        rw [if_pos rfl, if_pos rfl, t7 q hq]
      · rw [if_neg (by omega), if_neg hqs, t7 q hq]
  · rw [hw1]
    exact Sm.rf.set (by unfold GJ; omega)
  · rw [Classical.not_not.mp hc]; simp [bI]
  · rw [if_pos (Classical.not_not.mp hc)]
    exact ⟨t1, t2, t3, t4, m, t5, t6, t7⟩
theorem c_become (hl : l.stackTraces = false) {σ : Sg} {i j N : Nat} (hi : i < 69) (hj : j < 69) (hN : N ≤ 20) (hsc : SceneC w j σ N) :
    C_X6_become l G w [.ref (G.2.1 5 i), .ref (G.2.1 5 j)] (fun r w' => r = none ∧ SceneC w' i σ N ∧ Sm (GJ i) w w') noX := by
  obtain ⟨t1, t2, t3, t4, m, t5, t6, t7⟩ := hsc
  refine e_X6_become hi hj hl (fun M kk hM hk F => ?_)
  rintro _ rfl _ rfl _ rfl _ rfl _ rfl _ rfl _ rfl w8 hw8
  refine ⟨rfl, ?_, ?_⟩
  · rw [hw8]
    refine ⟨?_, ?_, fun s hs7 => ?_, fun q hq => ?_, m, t5, ?_, t7⟩
    · simp only [setR_1, setI_1]; simp [t1]
    · simp only [setR_1, setI_1]; simp [t2]
    · obtain ⟨a, b, c, d⟩ := t3 s hs7
      simp only [setR_1, setI_1]
      simp [va_cpy, setR_1, setI_1, a, b, c, d, hs7]
    · simp only [setR_1, setI_1]
      simp [va_cpy, setR_1, setI_1, t4 q hq, show q < 20 by omega]
    · simp only [setR_1, setI_1]; simp [t6]
  · rw [hw8]
    have g : ∀ κ k, (κ = 5 ∨ (17 ≤ κ ∧ κ ≤ 21)) → GJ i κ i k := fun κ k q => by unfold GJ; omega
    exact ((((((((Sm.rf.set (g 5 0 (by omega))).set (g 5 1 (by omega))).set (g 5 2 (by omega))).setR (fun k => g 17 k (by omega))).setR (fun k => g 18 k (by omega))).setR (fun k => g 19 k (by omega))).setR (fun k => g 20 k (by omega))).setR (fun k => g 21 k (by omega)))
end CD
