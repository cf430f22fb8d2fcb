/-! Sundays: their answers. -/
def suF (T : Tx) (E : Ex) (σ : Sg) (seed : Int32) (d : Nat) (q what : Int32) : Int32 :=
  if what = 0 then (sdS T E q σ seed d).1 55 - σ 55 else if what = 1 then hbF (sdS T E q σ seed d).1 (tS T) else if what = 2 then sm (fun s => (sdS T E q σ seed d).1 (21 + s)) (tS T)
  else sm (fun s => (sdS T E q σ seed d).1 (14 + s)) (tS T) - sm (fun s => σ (14 + s)) (tS T)
def drp (T : Tx) (E : Ex) (σ : Sg) (seed : Int32) (d : Nat) (q : Int32) : Int32 := (sdS T E q σ seed d).1 55 - σ 55
/-- fewest, most, how often hoarse -/
def spF (T : Tx) (E : Ex) (σ : Sg) (seed : Int32) (d : Nat) (q : Int32) (s : Nat) : Nat → Int32 × Int32 × Int32
  | 0 => (0, 0, 0)
  | k + 1 => ((if k = 0 then drp T E σ (seed + nI k) d q else mnI (drp T E σ (seed + nI k) d q) (spF T E σ seed d q s k).1), (if (spF T E σ seed d q s k).2.1 < drp T E σ (seed + nI k) d q then drp T E σ (seed + nI k) d q else (spF T E σ seed d q s k).2.1), (spF T E σ seed d q s k).2.2 + (sdS T E q σ (seed + nI k) d).1 (7 + s))
section QF
variable {l : Launch} {G : Gx} {w : Wd} {T : Tx} {E : Ex} {σ : Sg}
theorem okB_of {v : Int32} {a b : Nat} (h : okB v (nI a) (nI b) = true) (ha : a < 2 ^ 31) (hb : b < 2 ^ 31) : ∃ i, a ≤ i ∧ i ≤ b ∧ v = nI i := by
  unfold okB at h
  rw [Bool.and_eq_true] at h
  have h1 := of_decide_eq_true h.1
  have h2 := of_decide_eq_true h.2
  have h0 : 0 ≤ v := Int32.le_trans (nI_pos' ha) h1
  obtain ⟨i, hi, rfl⟩ := nI_of (Int32.not_lt.mpr h0)
  exact ⟨i, (nI_leI ha hi).mp h1, (nI_leI hi hb).mp h2, rfl⟩
theorem c_sunday (hl : l.stackTraces = false) {seed d q o : Int32} (h : CQ w T E σ) (hp : Pd T σ) (htd : Td 100000 T σ) : C_X9_sunday l G w [.ref (G.2.1 0 0), .int seed, .int d, .int q, .int o] (KC w (okB d 1 48 && okB q 0 16 && okB o 0 3) (suF T E σ seed d.toNatClampNeg q o)) (XT w (okB d 1 48 && okB q 0 16 && okB o 0 3)) := by
  refine e_X9_sunday hl (fun M kk hM hk F => ?_)
  subst hM
  have f36 : ∀ b : Bool, (okB d 1 48 && okB q 0 16 && okB o 0 3) = b → Z M G 0 (KC w (okB d 1 48 && okB q 0 16 && okB o 0 3) (suF T E σ seed d.toNatClampNeg q o)) (XT w (okB d 1 48 && okB q 0 16 && okB o 0 3)) w 36 [some (.ref (G.2.1 0 0)), some (.int seed), some (.int d), some (.int q), some (.int o)] [.int (bI b), .ref (G.2.1 0 0)] := by
    intro b hb
    refine b_X9_sunday_36 F hk (con_dem hl (fun h1 => ?_) (fun h1 => ⟨hb.trans h1, rfl, rfl⟩))
    have hbt := hb.trans h1
    have hb2 := hbt
    rw [Bool.and_eq_true, Bool.and_eq_true] at hb2
    obtain ⟨i, hi1, hi2, rfl⟩ := okB_of (a := 1) (b := 48) hb2.1.1 (by decide) (by decide)
    rw [nI_clamp (by omega)]
    refine con_vP (c_liveSunday hl h hi2 htd) (fun w2 h2 => ?_)
    have q2 := h.mv h2.2
    have hp2 := Pd.sds (E := E) (q := q) (x := seed) h.1 hp i
    refine ⟨fun h3 => ⟨hbt, ?_, h2.2⟩, fun h3 => ⟨hbt, ?_, h2.2⟩, fun h3 => con_i (c_total hl (m := 7) rfl (by decide) (by decide)) ⟨hbt, ?_, h2.2⟩, fun h3 => con_i (c_total hl (m := 7) rfl (by decide) (by decide)) (con_i (c_total hl (m := 7) rfl (by decide) (by decide)) ⟨hbt, ?_, h2.2⟩)⟩
    · unfold suF
      rw [if_pos h3, h2.1.2.1, q2.2.2.2.1]
    · unfold suF
      rw [h3, if_neg (by decide), if_pos rfl, hb_mask h.1 hp2 h2.1]
    · unfold suF
      rw [h3, if_neg (by decide), if_neg (by decide), if_pos rfl, ← hp2.sm21 h.1, sm_congr (fun s hs => (h2.1.2.2.1 s hs).2.2.1)]
    · unfold suF
      rw [if_neg h3.1, if_neg h3.2.1, if_neg h3.2.2, ← hp2.sm14 h.1, ← hp.sm14 h.1, sm_congr (fun s hs => (h2.1.2.2.1 s hs).2.1), sm_congr (fun s hs => (q2.2.2.2.2.1 s hs).2.1)]
  refine con_i (c_within hl) ⟨fun h1 => b_X9_sunday_35 F hk (f36 false ?_), fun h1 => con_i (c_within hl) ⟨fun h2 => b_X9_sunday_35 F hk (f36 false ?_), fun h2 => con_i (c_within hl) ⟨fun h3 => b_X9_sunday_35 F hk (f36 false ?_), fun h3 => f36 true ?_⟩⟩⟩
  · rw [show okB d 1 48 = false from bI_0 h1]; rfl
  · rw [show okB q 0 16 = false from bI_0 h2, Bool.and_false]; rfl
  · rw [show okB o 0 3 = false from bI_0 h3, Bool.and_false]
  · rw [show okB d 1 48 = true from bI_not.mp h1, show okB q 0 16 = true from bI_not.mp h2, show okB o 0 3 = true from bI_not.mp h3]; rfl
theorem c_span (hl : l.stackTraces = false) {seed n d q o u : Int32} (h : CQ w T E σ) (htd : Td 100000 T σ) : C_X9_span l G w [.ref (G.2.1 0 0), .int seed, .int n, .int d, .int q, .int o, .int u] (KC w (okB n 1 10 && okB d 1 48 && okB q 0 16 && (okB o 0 2 && okI u (tS T))) (if o = 0 then (spF T E σ seed d.toNatClampNeg q u.toNatClampNeg n.toNatClampNeg).1 else if o = 1 then (spF T E σ seed d.toNatClampNeg q u.toNatClampNeg n.toNatClampNeg).2.1 else (spF T E σ seed d.toNatClampNeg q u.toNatClampNeg n.toNatClampNeg).2.2)) (XT w (okB n 1 10 && okB d 1 48 && okB q 0 16 && (okB o 0 2 && okI u (tS T)))) := by
  have hS := h.1.1
  refine e_X9_span hl (fun M kk hM hk F => ?_)
  subst hM
  have f65 : (okB n 1 10 && okB d 1 48 && okB q 0 16) = true → ∀ b : Bool, (okB o 0 2 && okI u (tS T)) = b → Z M G 1 (KC w (okB n 1 10 && okB d 1 48 && okB q 0 16 && (okB o 0 2 && okI u (tS T))) (if o = 0 then (spF T E σ seed d.toNatClampNeg q u.toNatClampNeg n.toNatClampNeg).1 else if o = 1 then (spF T E σ seed d.toNatClampNeg q u.toNatClampNeg n.toNatClampNeg).2.1 else (spF T E σ seed d.toNatClampNeg q u.toNatClampNeg n.toNatClampNeg).2.2)) (XT w (okB n 1 10 && okB d 1 48 && okB q 0 16 && (okB o 0 2 && okI u (tS T)))) w 65 [some (.ref (G.2.1 0 0)), some (.int seed), some (.int n), some (.int d), some (.int q), some (.int o), some (.int u), none, none, none, none, none] [.int (bI b), .ref (G.2.1 0 0)] := by
    intro hA b hb
    refine b_X9_span_65 F hk (con_dem hl (fun h1 => ?_) (fun h1 => ⟨by rw [hA, hb, h1]; rfl, rfl, rfl⟩))
    have hbt : (okB n 1 10 && okB d 1 48 && okB q 0 16 && (okB o 0 2 && okI u (tS T))) = true := by rw [hA, hb, h1]; rfl
    have hb2 := hb.trans h1
    rw [Bool.and_eq_true] at hb2
    have hA2 := hA
    rw [Bool.and_eq_true, Bool.and_eq_true] at hA2
    obtain ⟨n, hn1, hn2, rfl⟩ := okB_of (a := 1) (b := 10) hA2.1.1 (by decide) (by decide)
    obtain ⟨d, hd1, hd2, rfl⟩ := okB_of (a := 1) (b := 48) hA2.1.2 (by decide) (by decide)
    obtain ⟨s, hs, rfl⟩ := okI_of hb2.2 (by omega)
    rw [nI_clamp (show s < 2 ^ 31 by omega), nI_clamp (show n < 2 ^ 31 by omega), nI_clamp (show d < 2 ^ 31 by omega)]
    refine up_to (P := fun k => ∀ w', Sm GC w w' → Z M G 2 _ _ w' 80 [some (.ref (G.2.1 0 0)), some (.int seed), some (.int (nI n)), some (.int (nI d)), some (.int q), some (.int o), some (.int (nI s)), some (.int (spF T E σ seed d q s k).1), some (.int (spF T E σ seed d q s k).2.1), some (.int (spF T E σ seed d q s k).2.2), some (.int (nI k)), none] []) n (fun k hk2 ih w' hs' => ?_) (fun w' hs' => ?_) w Sm.rf
    · have q' := h.mv hs'
      refine b_X9_span_80 F hk ⟨fun hc => absurd hc (nI_ge hk2 (by omega)), fun _ => con_vP (c_liveSunday hl q' hd2 htd) (fun w2 h2 => ?_)⟩
      have hs2 := hs'.tr h2.2
      have q2 := h.mv hs2
      have e1 : w2.1 5 68 2 - w2.1 5 0 2 = drp T E σ (seed + nI k) d q := by
        rw [h2.1.2.1, q2.2.2.2.1]; rfl
      obtain ⟨m, m1, m2, m3⟩ := h2.1.2.2.2.2
      have eb : (w2.1 5 68 1 >>> (nI s &&& 31)) &&& 1 = (sdS T E q σ (seed + nI k) d).1 (7 + s) := by
        rw [m2, hz_bit m m1 s (by omega), m3 s (by omega)]
      have ih := ih w2 hs2
      have es : spF T E σ seed d q s (k + 1) = ((if k = 0 then drp T E σ (seed + nI k) d q else mnI (drp T E σ (seed + nI k) d q) (spF T E σ seed d q s k).1), (if (spF T E σ seed d q s k).2.1 < drp T E σ (seed + nI k) d q then drp T E σ (seed + nI k) d q else (spF T E σ seed d q s k).2.1), (spF T E σ seed d q s k).2.2 + (sdS T E q σ (seed + nI k) d).1 (7 + s)) := rfl
      rw [es] at ih
      rw [e1]
      refine ⟨fun hc => b_X9_span_134 F hk ?_, fun hc => b_X9_span_134 F hk ?_⟩
      · rw [eb, ← nI_succ]
        rw [if_neg (show ¬ k = 0 from fun z => hc (by rw [z]; rfl))] at ih
        exact ih
      · have hk0 : k = 0 := (nI_eq (by omega) (show 0 < 2 ^ 31 by decide)).mp (Classical.not_not.mp hc)
        rw [eb, ← nI_succ]
        rw [if_pos hk0] at ih
        exact ih
    · refine b_X9_span_80 F hk ⟨fun _ => ⟨fun h2 => ⟨fun h3 => ⟨hbt, ?_, hs'⟩, fun h3 => ⟨hbt, ?_, hs'⟩⟩, fun h2 => ⟨hbt, ?_, hs'⟩⟩, fun hc => absurd (nI_le (Nat.le_refl _) (by omega)) hc⟩
      · rw [if_neg h2, if_neg h3]
      · rw [if_neg h2, if_pos (Classical.not_not.mp h3)]
      · rw [if_pos (Classical.not_not.mp h2)]
  have f37 : ∀ b : Bool, (okB n 1 10 && okB d 1 48 && okB q 0 16) = b → Z M G 0 (KC w (okB n 1 10 && okB d 1 48 && okB q 0 16 && (okB o 0 2 && okI u (tS T))) (if o = 0 then (spF T E σ seed d.toNatClampNeg q u.toNatClampNeg n.toNatClampNeg).1 else if o = 1 then (spF T E σ seed d.toNatClampNeg q u.toNatClampNeg n.toNatClampNeg).2.1 else (spF T E σ seed d.toNatClampNeg q u.toNatClampNeg n.toNatClampNeg).2.2)) (XT w (okB n 1 10 && okB d 1 48 && okB q 0 16 && (okB o 0 2 && okI u (tS T)))) w 37 [some (.ref (G.2.1 0 0)), some (.int seed), some (.int n), some (.int d), some (.int q), some (.int o), some (.int u), none, none, none, none, none] [.int (bI b), .ref (G.2.1 0 0)] := by
    intro b hb
    refine b_X9_span_37 F hk (con_dem hl (fun h1 => con_i (c_within hl) ⟨fun h2 => b_X9_span_64 F hk (f65 (hb.trans h1) false ?_), fun h2 => con_i (c_isSinger hl) ?_⟩) (fun h1 => ⟨by rw [hb, h1]; rfl, rfl, rfl⟩))
    · rw [show okB o 0 2 = false from bI_0 h2]; rfl
    rw [h.2.1.2.2.1.1]
    refine ⟨fun h3 => b_X9_span_64 F hk (f65 (hb.trans h1) false ?_), fun h3 => f65 (hb.trans h1) true ?_⟩
    · rw [show okI u (tS T) = false from bI_0 h3, Bool.and_false]
    · rw [show okB o 0 2 = true from bI_not.mp h2, show okI u (tS T) = true from bI_not.mp h3]; rfl
  refine con_i (c_within hl) ⟨fun h1 => b_X9_span_36 F hk (f37 false ?_), fun h1 => con_i (c_within hl) ⟨fun h2 => b_X9_span_36 F hk (f37 false ?_), fun h2 => con_i (c_within hl) ⟨fun h3 => b_X9_span_36 F hk (f37 false ?_), fun h3 => f37 true ?_⟩⟩⟩
  · rw [show okB n 1 10 = false from bI_0 h1]; rfl
  · rw [show okB d 1 48 = false from bI_0 h2, Bool.and_false]; rfl
  · rw [show okB q 0 16 = false from bI_0 h3, Bool.and_false]
  · rw [show okB n 1 10 = true from bI_not.mp h1, show okB d 1 48 = true from bI_not.mp h2, show okB q 0 16 = true from bI_not.mp h3]; rfl
end QF
