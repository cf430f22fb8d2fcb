/-! What a step does. -/
def doF (T : Tx) (E : Ex) (e : En) (σ : Sg) : Sg × Bool :=
  if e.1 = 0 then (singF T E σ e.2.1, decide (sbF T E σ e.2.1 < tS T))
  else if e.1 = 1 then ((hymF T E σ (tN T)).1, true)
  else if e.1 = 2 then (restF T σ, tired T σ)
  else if e.1 = 3 then (if σ (7 + e.2.1) = 1 then (σ, false) else (setS σ (7 + e.2.1) 1, true))
  else if e.1 = 4 then (if σ (7 + e.2.1) = 0 then (σ, false) else (setS σ (7 + e.2.1) 0, true))
  else if e.1 = 5 then (if σ (35 + e.2.1) = nI e.2.2.1 ∨ wfN T e.2.1 (tL T) / 2 ^ e.2.2.1 % 2 = 0 then (σ, false) else (setS σ (35 + e.2.1) (nI e.2.2.1), true))
  else if 400 ≤ σ 56 then (σ, false) else (dayF T σ, true)
/-- a state that holds together; today at most B notes each -/
def sOk (B : Nat) (T : Tx) (σ : Sg) : Prop := Jk σ ∧ Pd T σ ∧ Td B T σ
theorem sOk.mono {B C : Nat} {T : Tx} {σ : Sg} (h : sOk B T σ) (hc : B ≤ C) : sOk C T σ := ⟨h.1, h.2.1, h.2.2.mono hc⟩
theorem sOk.set {B : Nat} {T : Tx} {σ : Sg} {q : Nat} {v : Int32} (hT : Tok T) (h : sOk B T σ) (hq : (7 ≤ q ∧ q < 7 + tS T) ∨ (35 ≤ q ∧ q < 55)) : sOk B T (setS σ q v) := by
  have h7 := hT.1
  refine ⟨fun p hp => ?_, fun s h1 h2 => ?_, h.2.2.of (fun s hs => setS_n (by omega))⟩
  · rw [setS_n (by omega)]; exact h.1 p hp
  · rw [setS_n (q := s) (by omega), setS_n (q := 7 + s) (by omega), setS_n (q := 14 + s) (by omega), setS_n (q := 21 + s) (by omega), setS_n (q := 28 + s) (by omega)]
    exact h.2.1 s h1 h2
theorem doF_ok {B : Nat} {T : Tx} {E : Ex} {σ : Sg} {c z i : Nat} {e : En} (hT : Tok T) (he : EnOk T c z i e) (h : sOk B T σ) : sOk (B + 20) T (doF T E e σ).1 := by
  have hN20 := hT.2.1
  obtain ⟨h1, h2, h3⟩ := id h
  obtain ⟨a1, a2, a3, a4, a5, -⟩ := he
  unfold doF
  by_cases e0 : e.1 = 0
  · rw [if_pos e0]
    exact ⟨h1.sing hT, h2.sing hT, (h3.sing hT).mono (by omega)⟩
  rw [if_neg e0]
  by_cases e1 : e.1 = 1
  · rw [if_pos e1]
    exact ⟨h1.hym hT _, h2.hym hT _, h3.hymN hT⟩
  rw [if_neg e1]
  by_cases e2 : e.1 = 2
  · rw [if_pos e2]
    exact ⟨h1.rest hT, h2.rest hT, (h3.of (fun s _ => rest_28 hT (by omega))).mono (by omega)⟩
  rw [if_neg e2]
  by_cases e3 : e.1 = 3
  · rw [if_pos e3]
    have := a3 (Or.inl e3)
    split
    · exact h.mono (by omega)
    · exact (h.set hT (by omega)).mono (by omega)
  rw [if_neg e3]
  by_cases e4 : e.1 = 4
  · rw [if_pos e4]
    have := a3 (Or.inr e4)
    split
    · exact h.mono (by omega)
    · exact (h.set hT (by omega)).mono (by omega)
  rw [if_neg e4]
  by_cases e5 : e.1 = 5
  · rw [if_pos e5]
    have := a2 (Or.inr e5)
    split
    · exact h.mono (by omega)
    · exact (h.set hT (by omega)).mono (by omega)
  rw [if_neg e5]
  split
  · exact h.mono (by omega)
  · exact ⟨h1.day hT, h2.day hT, (Td.day hT).mono (Nat.zero_le _)⟩
theorem setS_turn {σ : Sg} {s m v : Nat} (hσ : σ (7 + s) = nI (m % 2)) (hv : v < 2) (hne : ¬ σ (7 + s) = nI v) : turnF σ s = setS σ (7 + s) (nI v) := by
  funext q
  unfold turnF setS
  by_cases e : q = 7 + s
  · rw [if_pos e, if_pos e, e, hσ]
    rw [hσ] at hne
    rcases (show m % 2 = 0 ∨ m % 2 = 1 by omega) with y | y <;> rcases (show v = 0 ∨ v = 1 by omega) with x | x <;> rw [y, x] at hne ⊢
    · exact absurd rfl hne
    · rfl
    · rfl
    · exact absurd rfl hne
  · rw [if_neg e, if_neg e]
section XA
variable {l : Launch} {G : Gx} {w : Wd} {T : Tx} {E : Ex} {σ : Sg} {L : List En}
theorem c_reword (hl : l.stackTraces = false) {m v : Nat} (hT : Tok T) (hst : StC w T E) (hsc : SceneC w 0 σ (tN T)) (hm : m < tN T) (hv : v < 6) : C_X7_reword l G w [.ref (G.2.1 2 0), .ref (G.2.1 5 0), .int (nI m), .int (nI v)] (fun r w' => r = some (.int (bI (doF T E (5, m, v, 0) σ).2)) ∧ SceneC w' 0 (doF T E (5, m, v, 0) σ).1 (tN T) ∧ Sm (GJ 0) w w') noX := by
  have hN20 := hT.2.1
  have edo : doF T E (5, m, v, 0) σ = if σ (35 + m) = nI v ∨ wfN T m (tL T) / 2 ^ v % 2 = 0 then (σ, false) else (setS σ (35 + m) (nI v), true) := rfl
  obtain ⟨wf1, wf2⟩ := wf_nI hT hm (tL T) (Nat.le_refl _)
  refine e_X7_reword (by decide) hl (fun M kk hM hk F => ?_)
  have hvi : vp_in (nI m) 20 := vp_in_nI (by omega) (by decide)
  rw [nI_clamp (by omega), hsc.2.2.2.1 m hm, (hst.2.2.1.2.2.2.2.2.1 m hm).2.2, wf1, bit_at (by omega) (by omega), edo]
  have zb : (nI (wfN T m (tL T) / 2 ^ v % 2) = 0) ↔ wfN T m (tL T) / 2 ^ v % 2 = 0 := nI_eq (b := 0) (by omega) (by decide)
  rw [zb]
  refine ⟨hvi, fun hq => ?_, fun hq => ⟨hvi, fun hb => ⟨hvi, fun w2 hw2 => ?_⟩, fun hb => ?_⟩⟩
  · rw [if_pos (Or.inl hq)]
    exact ⟨rfl, hsc, Sm.rf⟩
  · rw [if_neg (fun z => z.elim hq hb)]
    refine ⟨rfl, ?_, by rw [hw2]; exact Sm.rf.set (by unfold GJ; omega)⟩
    rw [hw2]
    exact hsc.s21 (by omega) hN20
  · rw [if_pos (Or.inr (Classical.not_not.mp hb))]
    exact ⟨rfl, hsc, Sm.rf⟩
theorem c_doStep (hl : l.stackTraces = false) {B i : Nat} {e : En} (hB : B ≤ 100000) (hT : Tok T) (hst : StC w T E) (hsc : SceneC w 0 σ (tN T)) (hσ : sOk B T σ) (hi : i < 150) (he : EnOk T 0 L.length i e) (h7 : e.1 ≠ 7) (r1 : w.1 11 0 i = nI e.1) (r2 : w.1 12 0 i = nI e.2.1) (r3 : w.1 13 0 i = nI e.2.2.1) :
    C_X4_doStep l G w [.ref (G.2.1 3 0), .ref (G.2.1 2 0), .ref (G.2.1 5 0), .int (nI i)] (fun r w' => r = some (.int (bI (doF T E e σ).2)) ∧ SceneC w' 0 (doF T E e σ).1 (tN T) ∧ Sm (GJ 0) w w') noX := by
  obtain ⟨k, f, g, z⟩ := e
  obtain ⟨a1, a2, a3, a4, a5, a6, a7, a8⟩ := he
  have a1 : k < 8 := a1
  have h7 : k ≠ 7 := h7
  have a2 : k = 0 ∨ k = 5 → f < tN T := a2
  have a3 : k = 3 ∨ k = 4 → f < tS T := a3
  have a4 : k = 5 → g < 6 := a4
  have hS7 := hT.1
  have hvi : vp_in (nI i) 150 := vp_in_nI hi (by decide)
  have zk : ∀ j : Nat, j < 8 → ((nI k = nI j) ↔ k = j) := fun j hj => nI_eq (by omega) (by omega)
  refine e_X4_doStep (by decide) hl (fun M kk hM hk F => ?_)
  subst hM
  rw [nI_clamp (by omega), r1, r2, r3]
  refine ⟨hvi, fun q => ⟨hvi, ?_⟩, fun q => ?_, fun q => ?_, fun q => ⟨hvi, ?_⟩, fun q => ⟨hvi, ?_⟩, fun q => ⟨hvi, hvi, ?_⟩, fun q => ?_⟩
  · have q := (zk 0 (by decide)).mp q
    subst q
    refine con_iP (c_singNote hl (by decide) hT hst hsc (a2 (Or.inl rfl))) (fun w2 k2 => ?_)
    show (sbI T E σ f = -1 → _) ∧ _
    unfold sbI
    by_cases hc : sbF T E σ f < tS T
    · rw [if_pos hc]
      refine ⟨fun z => absurd z (nI_neg1 (by omega)), fun _ => ⟨?_, k2⟩⟩
      show _ = some (Value.int (bI (decide (sbF T E σ f < tS T))))
      rw [decide_eq_true hc]; rfl
    · rw [if_neg hc]
      refine ⟨fun _ => ⟨?_, k2⟩, fun z => absurd rfl z⟩
      show _ = some (Value.int (bI (decide (sbF T E σ f < tS T))))
      rw [decide_eq_false hc]; rfl
  · have q := (zk 1 (by decide)).mp q
    subst q
    exact con_iP (c_singHymn hl (by decide) hT hst hsc) (fun w2 k2 => ⟨rfl, k2⟩)
  · have q := (zk 2 (by decide)).mp q
    subst q
    exact con_iP (c_rest hl (by decide) hT hst hsc) (fun w2 k2 => ⟨bI_nar _, rfl, k2⟩)
  · have q := (zk 3 (by decide)).mp q
    subst q
    have hf := a3 (Or.inl rfl)
    obtain ⟨m, -, -, hm⟩ := hsc.2.2.2.2
    have edo : doF T E (3, f, g, z) σ = if σ (7 + f) = 1 then (σ, false) else (setS σ (7 + f) 1, true) := rfl
    refine con_iP (c_turn hl (v := 1) (by decide) hsc (by omega) (by decide)) (fun w2 k2 => ⟨bI_nar _, ?_, ?_, k2.2⟩)
    · rw [edo]
      by_cases y : σ (7 + f) = 1
      · rw [if_pos y, y]; rfl
      · rw [if_neg y, beq_eq_false_iff_ne.mpr (show σ (7 + f) ≠ nI 1 from y)]; rfl
    · rw [edo]
      have k21 := k2.1
      by_cases y : σ (7 + f) = 1
      · rw [if_pos (show σ (7 + f) = nI 1 from y)] at k21
        rw [if_pos y]; exact k21
      · rw [if_neg (show ¬ σ (7 + f) = nI 1 from y), setS_turn (m := m / 2 ^ f) (v := 1) (hm f (by omega)) (by decide) y] at k21
        rw [if_neg y]; exact k21
  · have q := (zk 4 (by decide)).mp q
    subst q
    have hf := a3 (Or.inr rfl)
    obtain ⟨m, -, -, hm⟩ := hsc.2.2.2.2
    have edo : doF T E (4, f, g, z) σ = if σ (7 + f) = 0 then (σ, false) else (setS σ (7 + f) 0, true) := rfl
    refine con_iP (c_turn hl (v := 0) (by decide) hsc (by omega) (by decide)) (fun w2 k2 => ⟨bI_nar _, ?_, ?_, k2.2⟩)
    · rw [edo]
      by_cases y : σ (7 + f) = 0
      · rw [if_pos y, y]; rfl
      · rw [if_neg y, beq_eq_false_iff_ne.mpr (show σ (7 + f) ≠ nI 0 from y)]; rfl
    · rw [edo]
      have k21 := k2.1
      by_cases y : σ (7 + f) = 0
      · rw [if_pos (show σ (7 + f) = nI 0 from y)] at k21
        rw [if_pos y]; exact k21
      · rw [if_neg (show ¬ σ (7 + f) = nI 0 from y), setS_turn (m := m / 2 ^ f) (v := 0) (hm f (by omega)) (by decide) y] at k21
        rw [if_neg y]; exact k21
  · have q := (zk 5 (by decide)).mp q
    subst q
    exact con_iP (c_reword hl hT hst hsc (a2 (Or.inr rfl)) (a4 rfl)) (fun w2 k2 => ⟨bI_nar _, rfl, k2⟩)
  · have hk6 : k = 6 := by
      have n0 : ¬ k = 0 := fun y => q.1 ((zk 0 (by decide)).mpr y)
      have n1 : ¬ k = 1 := fun y => q.2.1 ((zk 1 (by decide)).mpr y)
      have n2 : ¬ k = 2 := fun y => q.2.2.1 ((zk 2 (by decide)).mpr y)
      have n3 : ¬ k = 3 := fun y => q.2.2.2.1 ((zk 3 (by decide)).mpr y)
      have n4 : ¬ k = 4 := fun y => q.2.2.2.2.1 ((zk 4 (by decide)).mpr y)
      have n5 : ¬ k = 5 := fun y => q.2.2.2.2.2 ((zk 5 (by decide)).mpr y)
      omega
    subst hk6
    have edo : doF T E (6, f, g, z) σ = if 400 ≤ σ 56 then (σ, false) else (dayF T σ, true) := rfl
    rw [hsc.1, edo]
    refine ⟨fun y => ?_, fun y => ?_⟩
    · rw [if_pos y]
      exact ⟨rfl, hsc, Sm.rf⟩
    · rw [if_neg y]
      exact con_iP (c_nextDay hl (by decide) hT hst hsc (hσ.2.2.nn (by omega))) (fun w2 k2 => ⟨fun z => absurd z (by decide), fun _ => ⟨rfl, k2⟩⟩)
theorem m_does (hl : l.stackTraces = false) {i : Nat} {e : En} (hT : Tok T) (hst : StM w T E) (hok : Eok E) (hσ : w.1 69 0 = σ) (hi : i < 80) (he : EnOk T 0 L.length i e) (h7 : e.1 ≠ 7) (r1 : w.1 68 i 0 = nI e.1) (r2 : e.1 = 0 ∨ e.1 = 3 ∨ e.1 = 4 ∨ e.1 = 5 ∨ e.1 = 7 → w.1 68 i 1 = nI e.2.1) (r3 : e.1 = 5 → w.1 68 i 2 = nI e.2.2.1) :
    C_X10_does l G w [.ref (G.2.1 40 0), .ref (G.2.1 69 0), .ref (G.2.1 68 i)] (fun r w' => r = some (.int (bI (doF T E e σ).2)) ∧ w'.1 69 0 = (doF T E e σ).1 ∧ Sm (NJ 0) w w') noX := by
  obtain ⟨k, f, g, z⟩ := e
  obtain ⟨a1, a2, a3, a4, a5, a6, a7, a8⟩ := he
  have a1 : k < 8 := a1
  have h7 : k ≠ 7 := h7
  have a2 : k = 0 ∨ k = 5 → f < tN T := a2
  have a3 : k = 3 ∨ k = 4 → f < tS T := a3
  have a4 : k = 5 → g < 6 := a4
  have r1 : w.1 68 i 0 = nI k := r1
  have r2 : k = 0 ∨ k = 3 ∨ k = 4 ∨ k = 5 ∨ k = 7 → w.1 68 i 1 = nI f := r2
  have r3 : k = 5 → w.1 68 i 2 = nI g := r3
  have hS7 := hT.1
  have hN20 := hT.2.1
  have zk : ∀ j : Nat, j < 8 → ((nI k = nI j) ↔ k = j) := fun j hj => nI_eq (by omega) (by omega)
  have NR_NJ : ∀ κ b k, NR 0 κ b k → NJ 0 κ b k := fun κ b k q => by unfold NR at q; unfold NJ; omega
  refine e_X10_does (by decide) hi hl (fun M kk hM hk F => ?_)
  subst hM
  rw [r1]
  refine ⟨fun q => ?_, fun q => ?_, fun q => ?_, fun q => ?_, fun q => ?_, fun q => ?_, fun q => ?_⟩
  · have q := (zk 0 (by decide)).mp q
    subst q
    rw [r2 (Or.inl rfl)]
    exact con_iP (m_sings hl (by decide) hT hst hok hσ (a2 (Or.inl rfl))) (fun w2 k2 => ⟨bI_nar _, rfl, k2.1, k2.2.mono (fun κ b k q => by unfold N2 at q; unfold NJ; omega)⟩)
  · have q := (zk 1 (by decide)).mp q
    subst q
    exact con_vP (m_hymns hl (by decide) hT hst hok hσ) (fun w2 k2 => ⟨rfl, k2.1, k2.2.2⟩)
  · have q := (zk 2 (by decide)).mp q
    subst q
    exact con_iP (m_rests hl (by decide) hT hst.1 hσ) (fun w2 k2 => ⟨bI_nar _, rfl, k2.1, k2.2.mono NR_NJ⟩)
  · have q := (zk 3 (by decide)).mp q
    subst q
    have hf := a3 (Or.inl rfl)
    refine b_X10_does_62 (by decide) hi F hk ?_
    rw [r1, r2 (Or.inr (Or.inl rfl)), show (7 : Int32) + nI f = nI (7 + f) from nI_add 7 f]
    refine ⟨fun y => absurd rfl y, fun _ => b_X10_does_81 (by decide) F hk ?_⟩
    have edo : doF T E (3, f, g, z) σ = if σ (7 + f) = 1 then (σ, false) else (setS σ (7 + f) 1, true) := rfl
    refine con_iP (m_becomes hl (v := 1) (by decide) hσ (by omega)) (fun w2 k2 => ⟨bI_nar _, ?_, ?_, k2.2.mono NR_NJ⟩)
    · rw [edo]
      by_cases y : σ (7 + f) = 1
      · rw [if_pos y, y]; rfl
      · rw [if_neg y, beq_eq_false_iff_ne.mpr y]; rfl
    · rw [edo, k2.1]
      by_cases y : σ (7 + f) = 1
      · rw [if_pos y, if_pos y]
      · rw [if_neg y, if_neg y]
  · have q := (zk 4 (by decide)).mp q
    subst q
    have hf := a3 (Or.inr rfl)
    refine b_X10_does_62 (by decide) hi F hk ?_
    rw [r1, r2 (Or.inr (Or.inr (Or.inl rfl))), show (7 : Int32) + nI f = nI (7 + f) from nI_add 7 f]
    refine ⟨fun _ => b_X10_does_81 (by decide) F hk ?_, fun y => absurd (Classical.not_not.mp y) (by decide)⟩
    have edo : doF T E (4, f, g, z) σ = if σ (7 + f) = 0 then (σ, false) else (setS σ (7 + f) 0, true) := rfl
    refine con_iP (m_becomes hl (v := 0) (by decide) hσ (by omega)) (fun w2 k2 => ⟨bI_nar _, ?_, ?_, k2.2.mono NR_NJ⟩)
    · rw [edo]
      by_cases y : σ (7 + f) = 0
      · rw [if_pos y, y]; rfl
      · rw [if_neg y, beq_eq_false_iff_ne.mpr y]; rfl
    · rw [edo, k2.1]
      by_cases y : σ (7 + f) = 0
      · rw [if_pos y, if_pos y]
      · rw [if_neg y, if_neg y]
  · have q := (zk 5 (by decide)).mp q
    subst q
    have hf := a2 (Or.inr rfl)
    have hg := a4 rfl
    have edo : doF T E (5, f, g, z) σ = if σ (35 + f) = nI g ∨ wfN T f (tL T) / 2 ^ g % 2 = 0 then (σ, false) else (setS σ (35 + f) (nI g), true) := rfl
    obtain ⟨wf1, wf2⟩ := wf_nI hT hf (tL T) (Nat.le_refl _)
    rw [r2 (by omega)]
    refine con_i (m_wordsOf hl hT hst.1 hf) ?_
    rw [r3 rfl]
    refine con_i (m_has hl) ?_
    rw [wf1, bit_at (by omega) (by omega), bI_t, beq_eq_false_iff_ne]
    have zb : (nI (wfN T f (tL T) / 2 ^ g % 2) = 1) ↔ wfN T f (tL T) / 2 ^ g % 2 = 1 := nI_eq (b := 1) (by omega) (by decide)
    rw [show (nI (wfN T f (tL T) / 2 ^ g % 2) ≠ 1) = ¬ (nI (wfN T f (tL T) / 2 ^ g % 2) = 1) from rfl, zb, edo, r2 (by omega)]
    refine ⟨fun y => ?_, fun y => ?_⟩
    · rw [if_pos (Or.inr (by omega))]
      exact ⟨rfl, hσ, Sm.rf⟩
    · rw [show (35 : Int32) + nI f = nI (35 + f) from nI_add 35 f, r3 rfl]
      refine con_iP (m_becomes hl (v := nI g) (q := 35 + f) (by decide) hσ (by omega)) (fun w2 k2 => ?_)
      by_cases x : σ (35 + f) = nI g
      · rw [if_pos (Or.inl x), x]
        rw [if_pos x] at k2
        refine ⟨fun _ => ⟨rfl, k2.1, k2.2.mono NR_NJ⟩, fun q => ?_⟩
        exact absurd (by rw [beq_self_eq_true]; rfl) q
      · rw [if_neg (fun q => q.elim x (fun q => by omega)), beq_eq_false_iff_ne.mpr x]
        rw [if_neg x] at k2
        exact ⟨fun q => absurd q (by decide), fun _ => ⟨rfl, k2.1, k2.2.mono NR_NJ⟩⟩
  · have hk6 : k = 6 := by
      have n0 : ¬ k = 0 := fun y => q.1 ((zk 0 (by decide)).mpr y)
      have n1 : ¬ k = 1 := fun y => q.2.1 ((zk 1 (by decide)).mpr y)
      have n2 : ¬ k = 2 := fun y => q.2.2.1 ((zk 2 (by decide)).mpr y)
      have n3 : ¬ k = 3 := fun y => q.2.2.2.1 ((zk 3 (by decide)).mpr y)
      have n4 : ¬ k = 4 := fun y => q.2.2.2.2.1 ((zk 4 (by decide)).mpr y)
      have n5 : ¬ k = 5 := fun y => q.2.2.2.2.2 ((zk 5 (by decide)).mpr y)
      omega
    subst hk6
    have edo : doF T E (6, f, g, z) σ = if 400 ≤ σ 56 then (σ, false) else (dayF T σ, true) := rfl
    rw [hσ, edo]
    refine ⟨fun y => ?_, fun y => ?_⟩
    · rw [if_neg (Int32.not_le.mpr y)]
      exact con_vP (m_dayEnds hl (by decide) hT hst.1 hσ) (fun w2 k2 => ⟨rfl, k2.1, k2.2.mono NR_NJ⟩)
    · rw [if_pos (Int32.not_lt.mp y)]
      exact ⟨rfl, rfl, Sm.rf⟩
end XA
