/-! work, of both. -/
/-- the run of a work over a state -/
def rnW (b : Nat → Nat) (n : Nat) (T : Tx) (E : Ex) (σ : Sg) : Rx := goF T E (wkF b n T).2 37 0 (wkF b n T).2.length (σ, 0, 0, 0)
theorem rnW_ok {B : Nat} {b : Nat → Nat} {n : Nat} {T : Tx} {E : Ex} {σ : Sg} (hT : Tok T) (hn : (wkF b n T).1.1 = 0) (h : sOk B T σ) : sOk (B + 4000) T (rnW b n T E σ).1 := by
  have h0 : xOk B T (σ, 0, 0, 0) := ⟨by show (0 : Nat) ≤ 200; omega, h.mono (by omega)⟩
  obtain ⟨⟨h1, h2⟩, -⟩ := goF_ok (B := B) (E := E) hT (wkF_ok hn).2 37 0 (wkF b n T).2.length (Nat.le_refl _) (σ, 0, 0, 0) h0
  exact h2.mono (by omega)
section YW
variable {l : Launch} {G : Gx} {w : Wd} {b : Nat → Nat} {n sz : Nat} {T : Tx} {E : Ex} {σ : Sg} {bf : List Sg} {p0 : Int32}
theorem c_workX (hl : l.stackTraces = false) (h0 : w.1 1 0 0 = nI sz) (hx : okT p0 150 sz = false) : C_X9_work l G w [.ref (G.2.1 0 0), .int p0] (fun _ _ => False) (fun E w' => E = nIae ∧ w' = bumpT w) := by
  refine e_X9_work hl (fun M kk hM hk F => ?_)
  subst hM
  exact con_mono (c_openX hl (most := 150) h0 hx) (fun _ _ h => h.elim) (fun _ _ h => h)
theorem c_workFull (hl : l.stackTraces = false) (h0 : w.1 1 0 0 = nI sz) (hz : sz ≤ 600) (h1 : n ≤ 150) (h2 : n ≤ sz) (hb : ∀ i, i < n → b i < 256) (h10 : ∀ i, i < n → w.1 10 0 i = sb8 (b i)) (h4 : w.1 4 0 0 = nI 16) : C_X9_work l G w [.ref (G.2.1 0 0), .int (nI n)] (fun r w' => r = some (.int (-20)) ∧ w'.1 1 0 0 = 0 ∧ w'.1 1 0 2 = -1 ∧ Sm G1 w w') noX := by
  refine e_X9_work hl (fun M kk hM hk F => ?_)
  subst hM
  refine con_vP (c_openT hl (most := 150) h0 (by decide) hz h1 h2 hb h10) (fun w2 k2 => ?_)
  obtain ⟨k21, k22, k23⟩ := k2
  rw [k23.1 4 0 0 (by unfold G1; omega), h4]
  exact ⟨fun q => absurd q (by decide), fun _ => ⟨rfl, k22, (k21.2.2.2.2.2.2.1 rfl).1, k23⟩⟩
def GWk (κ b k : Nat) : Prop := κ = 1 ∨ κ = 3 ∨ (11 ≤ κ ∧ κ ≤ 14) ∨ GL 0 κ b k ∨ (κ = 0 ∧ k = 13)
theorem c_work (hl : l.stackTraces = false) (h0 : w.1 1 0 0 = nI sz) (hz : sz ≤ 600) (h1 : n ≤ 150) (h2 : n ≤ sz) (hb : ∀ i, i < n → b i < 256) (h10 : ∀ i, i < n → w.1 10 0 i = sb8 (b i)) (hT : Tok T) (hst : StC w T E) (hlf : LifeC w 0 σ bf (tN T)) (hbl : bf.length < 16) (hσ : sOk (4000 * bf.length) T σ) :
    C_X9_work l G w [.ref (G.2.1 0 0), .int (nI n)] (fun r w' => w'.1 1 0 0 = 0 ∧
      ((wkF b n T).1.1 ≠ 0 → r = some (.int (nI (wkF b n T).1.1 - 10)) ∧ w'.1 1 0 2 = nI (wkF b n T).1.2 ∧ Sm (fun κ _ _ => κ = 1 ∨ κ = 3 ∨ (11 ≤ κ ∧ κ ≤ 14)) w w') ∧
      ((wkF b n T).1.1 = 0 → r = some (.int (nI (rnW b n T E σ).2.2.1)) ∧ w'.1 1 0 2 = -1 ∧ LifeC w' 0 (rnW b n T E σ).1 (bf ++ [σ]) (tN T) ∧ w'.1 0 0 13 = nI (rnW b n T E σ).2.2.2 ∧ Sm GWk w w')) noX := by
  have hN20 := hT.2.1
  refine e_X9_work hl (fun M kk hM hk F => ?_)
  subst hM
  refine con_vP (c_openT hl (most := 150) h0 (by decide) hz h1 h2 hb h10) (fun w2 k2 => ?_)
  obtain ⟨k21, k22, k23⟩ := k2
  have e4 : w2.1 4 0 0 = nI bf.length := (k23.1 4 0 0 (by unfold G1; omega)).trans hlf.1
  rw [e4]
  refine ⟨fun _ => ?_, fun q => absurd (nI_lt (b := 16) hbl (by decide)) q⟩
  have st2 : StC w2 T E := hst.mv k23 (fun κ b k q => by unfold G1; omega)
  refine con_vP (c_planRead hl st2.1 h1 hT k21 st2.2.2.1) (fun w5 k5 => ?_)
  obtain ⟨k51, k52, k53⟩ := k5
  have s5 : Sm (fun κ _ _ => κ = 1 ∨ κ = 3 ∨ (11 ≤ κ ∧ κ ≤ 14)) w w5 := (k23.mono (S' := fun κ _ _ => κ = 1 ∨ κ = 3 ∨ (11 ≤ κ ∧ κ ≤ 14)) (fun κ b k q => Or.inl q)).tr (k53.mono (fun κ b k q => by unfold GPr GPl GT at q; omega))
  have e10 : w5.1 1 0 0 = 0 := (k53.1 1 0 0 (by unfold GPr GPl GT; omega)).trans k22
  refine con_i (c_fine hl k51) ?_
  refine ⟨fun hc => ?_, fun hc => ?_⟩
  · have hok : (wkF b n T).1.1 = 0 := by
      by_cases hq : (wkF b n T).1.1 = 0
      · exact hq
      · exact absurd (by rw [decide_eq_false hq]; rfl) hc
    obtain ⟨l1, l2⟩ := wkF_ok hok
    obtain ⟨p1, p2, p3, p4, p5⟩ := k52 hok
    have hpn : (wkF b n T).1.2 ≤ n := k51.2.2.2.2.1.2
    have hlen : (wkF b n T).2.length ≤ 37 := by omega
    have lf5 : LifeC w5 0 σ bf (tN T) := hlf.mv s5 (fun k => by omega) (fun κ b k q1 q2 q3 => by omega)
    refine con_vP (c_keep hl (by decide) hN20 lf5 hbl) (fun w9 k9 => ?_)
    have st9 : StC w9 T E := (hst.mv s5 (fun κ b k q => by omega)).mv k9.2 (fun κ b k q => by unfold GL; omega)
    have o9 : ∀ k, w9.1 3 0 k = w5.1 3 0 k := fun k => k9.2.1 3 0 k (by unfold GL; omega)
    have sg9 : segC w9 0 (wkF b n T).2 := p5.mv k9.2 (fun κ k q1 q2 => by unfold GL; omega)
    have x9 : XC w9 T (σ, 0, 0, 0) := ⟨k9.1.2.2.1, by rw [o9]; exact p4, by rw [o9]; exact p2, by rw [o9]; exact p3⟩
    rw [o9, p1]
    have hxok : xOk (4000 * bf.length) T (σ, 0, 0, 0) := ⟨by show (0 : Nat) ≤ 200; omega, hσ.mono (by omega)⟩
    refine con_mono (con_lev (c_perform hl (B := 4000 * bf.length) (E := E) (by omega) hT l2 hlen 37 0 (wkF b n T).2.length (Nat.zero_le _) (by omega) (Nat.le_refl _) w9 (σ, 0, 0, 0) st9 sg9 x9 hxok) (by decide)) ?_ (fun _ _ q => q.elim)
    rintro _ w11 ⟨rfl, k11⟩
    refine ⟨rfl, fun w12 hw12 => ?_⟩
    have k111 : XC w11 T (rnW b n T E σ) := k11.1
    obtain ⟨y1, y2, y3, y4⟩ := k111
    rw [y4] at hw12
    have s12 : Sm (fun κ _ k => κ = 0 ∧ k = 13) w11 w12 := by rw [hw12]; exact Sm.rf.set ⟨rfl, rfl⟩
    have f12 : ∀ κ x y, κ ≠ 0 → w12.1 κ x y = w11.1 κ x y := fun κ x y hκ => s12.1 κ x y (fun z => hκ z.1)
    refine ⟨?_, fun q => absurd hok q, fun _ => ⟨?_, ?_, ⟨?_, ?_, ?_, fun i τ hi => ?_⟩, by rw [hw12, setI_eq], ?_⟩⟩
    · rw [f12 1 0 0 (by decide), k11.2.1 1 0 0 (by unfold GXc GJ; omega), k9.2.1 1 0 0 (by unfold GL; omega)]; exact e10
    · rw [f12 3 0 1 (by decide), y3]
    · rw [f12 1 0 2 (by decide), k11.2.1 1 0 2 (by unfold GXc GJ; omega), k9.2.1 1 0 2 (by unfold GL; omega)]; exact (k51.2.2.2.2.2.2.1 hok).1
    · rw [f12 4 0 0 (by decide), k11.2.1 4 0 0 (by unfold GXc GJ; omega)]; exact k9.1.1
    · exact k9.1.2.1
    · exact y1.mv s12 (fun κ k q z => by omega)
    · exact ((k9.1.2.2.2 i τ hi).mv k11.2 (fun κ k q => by unfold GXc GJ; omega)).mv s12 (fun κ k q z => by omega)
    · refine (((s5.mono (S' := GWk) (fun κ b k q => by unfold GWk; omega)).tr (k9.2.mono (S' := GWk) (fun κ b k q => Or.inr (Or.inr (Or.inr (Or.inl q)))))).tr (k11.2.mono (S' := GWk) (fun κ b k q => ?_))).tr (s12.mono (fun κ b k q => Or.inr (Or.inr (Or.inr (Or.inr q)))))
      unfold GXc GJ at q
      unfold GWk GL
      omega
  · have hok : (wkF b n T).1.1 ≠ 0 := by
      intro hq
      exact absurd (Classical.not_not.mp hc) (by rw [decide_eq_true hq]; decide)
    exact ⟨e10, fun _ => ⟨by rw [k51.2.2.2.2.2.1], (k51.2.2.2.2.2.2.2 hok).1, s5⟩, fun hq => absurd hq hok⟩
theorem m_workX (hl : l.stackTraces = false) (h1 : w.1 40 0 1 = nI sz) (hx : okT p0 150 sz = false) : C_X10_work l G w [.ref (G.2.1 40 0), .int p0] (fun r w' => (∃ v : Int32, r = some (.int v)) ∧ w' = bpM (cl0 w) 1 1) noX := by
  refine e_X10_work hl (fun M kk hM hk F => ?_)
  subst hM
  rintro _ rfl
  have e1 : (setI w 40 0 0 0).1 40 0 1 = nI sz := (setI_ne (by omega)).trans h1
  rw [e1]
  refine con_i (m_in hl) ?_
  have go : Z M G 0 (fun r w' => (∃ v : Int32, r = some (Value.int v)) ∧ w' = bpM (cl0 w) 1 1) noX (setI w 40 0 0 0) 25 [some (.ref (G.2.1 40 0)), some (.int p0)] [.ref (G.2.1 40 0)] := by
    refine b_X10_work_25 F hk (b_X10_work_30 F hk (con_bad hl (b := true) (rs := 1) (setI_eq _ _ _ _ _) (by decide) (by decide) (fun h => absurd h (by decide)) (fun _ => ⟨fun h => absurd h (by decide), fun _ => ⟨⟨0, rfl⟩, rfl⟩⟩)))
  rw [bI_t]
  refine ⟨fun _ => go, fun hc => ⟨fun hc2 => ?_, fun _ => go⟩⟩
  rcases (bad_T2 (most := 150) p0).mp hx with q | q
  · exact absurd q hc
  · exact absurd hc2 q
theorem m_workFull (hl : l.stackTraces = false) (h1 : w.1 40 0 1 = nI sz) (hz : sz ≤ 600) (hn150 : n ≤ 150) (h2 : n ≤ sz) (h34 : w.1 40 0 34 = nI 16) : C_X10_work l G w [.ref (G.2.1 40 0), .int (nI n)] (fun r w' => r = some (.int (-20)) ∧ w'.1 40 0 0 = 0 ∧ w'.1 40 0 1 = 0 ∧ w'.1 40 0 3 = -1 ∧ Sm (fun κ _ k => κ = 40 ∧ (k = 0 ∨ k = 1 ∨ k = 3)) w w') noX := by
  refine e_X10_work hl (fun M kk hM hk F => ?_)
  subst hM
  rintro w0 rfl
  have e1 : (setI w 40 0 0 0).1 40 0 1 = nI sz := (setI_ne (by omega)).trans h1
  have e34 : (setI w 40 0 0 0).1 40 0 34 = nI 16 := (setI_ne (by omega)).trans h34
  rw [e1]
  refine con_i (m_in hl) ?_
  have eb : (decide ((0 : Int32) ≤ nI n) && decide (nI n ≤ nI sz)) = true := by
    rw [decide_eq_true (nI_pos' (by omega)), decide_eq_true (nI_le h2 (by omega))]; rfl
  rw [eb]
  have c150 : (nI n ≤ (150 : Int32)) := nI_le (b := 150) hn150 (by decide)
  refine ⟨fun h => absurd h (by decide), fun _ => ⟨fun _ => ?_, fun h => absurd c150 h⟩⟩
  have z0 : (setI w 40 0 0 0).1 40 0 0 = 0 := setI_eq _ _ _ _ _
  refine b_X10_work_30 F hk (con_bad hl (b := false) (rs := 1) z0 (by decide) (by decide) (fun _ => ⟨fun _ => ?_, fun h => absurd rfl h⟩) (fun h => absurd h (by decide)))
  rw [e34]
  refine ⟨fun q => absurd rfl q, fun _ w6 hw6 w7 hw7 => ⟨rfl, ?_, ?_, ?_, ?_⟩⟩
  · rw [hw7, setI_ne (by omega), hw6, setI_ne (by omega)]; exact z0
  · rw [hw7, setI_ne (by omega), hw6, setI_eq]
  · rw [hw7, setI_eq]
  · rw [hw7, hw6]
    exact ((Sm.rf.set (by omega)).set (by omega)).set (by omega)
def GWm (κ b k : Nat) : Prop := GS κ b k ∨ (κ = 40 ∧ (k = 0 ∨ k = 3 ∨ k = 28)) ∨ κ = 68
def GWn (κ b k : Nat) : Prop := GWm κ b k ∨ κ = 65 ∨ κ = 66 ∨ (κ = 69 ∧ b ≠ 1) ∨ (κ = 40 ∧ (k = 34 ∨ k = 35 ∨ k = 38 ∨ k = 39 ∨ k = 40))
theorem m_work (hl : l.stackTraces = false) (h1 : w.1 40 0 1 = nI sz) (hz : sz ≤ 600) (hn150 : n ≤ 150) (h2 : n ≤ sz) (hb : ∀ i, i < n → b i < 256) (h41 : ∀ i, i < n → w.1 41 0 i = nI (b i)) (hT : Tok T) (hst : StM w T E) (hok' : Eok E) (hlf : LifeM w σ bf) (hjw : ∀ j, Jk (w.1 69 j)) (hbl : bf.length < 16) (hσ : sOk (4000 * bf.length) T σ) :
    C_X10_work l G w [.ref (G.2.1 40 0), .int (nI n)] (fun r w' => w'.1 40 0 0 = 0 ∧ w'.1 40 0 1 = 0 ∧
      ((wkF b n T).1.1 ≠ 0 → r = some (.int (nI (wkF b n T).1.1 - 10)) ∧ w'.1 40 0 3 = nI (wkF b n T).1.2 ∧ Sm GWm w w') ∧
      ((wkF b n T).1.1 = 0 → r = some (.int (nI (rnW b n T E σ).2.2.1)) ∧ w'.1 40 0 3 = -1 ∧ LifeM w' (rnW b n T E σ).1 (bf ++ [σ]) ∧ (∀ j, Jk (w'.1 69 j)) ∧ w'.1 40 0 35 = nI (rnW b n T E σ).2.2.2 ∧ Sm GWn w w')) noX := by
  refine e_X10_work hl (fun M kk hM hk F => ?_)
  generalize hK : (fun r w' => w'.1 40 0 0 = 0 ∧ w'.1 40 0 1 = 0 ∧
      ((wkF b n T).1.1 ≠ 0 → r = some (Value.int (nI (wkF b n T).1.1 - 10)) ∧ w'.1 40 0 3 = nI (wkF b n T).1.2 ∧ Sm GWm w w') ∧
      ((wkF b n T).1.1 = 0 → r = some (Value.int (nI (rnW b n T E σ).2.2.1)) ∧ w'.1 40 0 3 = -1 ∧ LifeM w' (rnW b n T E σ).1 (bf ++ [σ]) ∧ (∀ j, Jk (w'.1 69 j)) ∧ w'.1 40 0 35 = nI (rnW b n T E σ).2.2.2 ∧ Sm GWn w w') : Option Value → Wd → Prop) = K
  subst hM
  rintro w0 rfl
  have e1 : (setI w 40 0 0 0).1 40 0 1 = nI sz := (setI_ne (by omega)).trans h1
  have e34 : (setI w 40 0 0 0).1 40 0 34 = nI bf.length := (setI_ne (by omega)).trans hlf.1
  rw [e1]
  refine con_i (m_in hl) ?_
  have eb : (decide ((0 : Int32) ≤ nI n) && decide (nI n ≤ nI sz)) = true := by
    rw [decide_eq_true (nI_pos' (by omega)), decide_eq_true (nI_le h2 (by omega))]; rfl
  rw [eb]
  have c150 : (nI n ≤ (150 : Int32)) := nI_le (b := 150) hn150 (by decide)
  refine ⟨fun h => absurd h (by decide), fun _ => ⟨fun _ => ?_, fun h => absurd c150 h⟩⟩
  have hs0 : Sm GWm w (setI w 40 0 0 0) := Sm.rf.set (by unfold GWm; omega)
  have z0 : (setI w 40 0 0 0).1 40 0 0 = 0 := setI_eq _ _ _ _ _
  refine b_X10_work_30 F hk (con_bad hl (b := false) (rs := 1) z0 (by decide) (by decide) (fun _ => ⟨fun _ => ?_, fun h => absurd rfl h⟩) (fun h => absurd h (by decide)))
  have n16 : ¬ nI bf.length = 16 := fun q => by
    have := (nI_eq (b := 16) (by omega) (by decide)).mp q
    omega
  rw [e34]
  refine ⟨fun _ => ?_, fun q => absurd (Classical.not_not.mp q) n16⟩
  refine con_vP (m_starts hl (by omega) hb (fun i hi => (setI_ne (by omega)).trans (h41 i hi))) (fun w4 k4 w5 hw5 => ?_)
  obtain ⟨k41, k42, k43, k44, k45⟩ := k4
  have hs4 : Sm GWm w w4 := hs0.tr (k45.mono (fun κ b k q => Or.inl q))
  have s5 : Sm GWm w w5 := by rw [hw5]; exact hs4.set (by unfold GWm; omega)
  have R5 : RM w5 b n (0, sk b n 0) := k41.g28 hw5
  have y0 : w5.1 40 0 0 = 0 := by rw [hw5, setI_ne (by omega), k45.1 40 0 0 (by unfold GS; omega)]; exact z0
  have y1 : w5.1 40 0 1 = 0 := by rw [hw5, setI_ne (by omega)]; exact k42
  have y8 : w5.1 40 0 8 = nI 0 := by rw [hw5, setI_ne (by omega)]; exact k44
  have y28 : w5.1 40 0 28 = nI 0 := by rw [hw5, setI_eq]; rfl
  -- all read
  have at101 : ∀ (w' : Wd) (st : Rd) (L : List En), wkF b n T = (st, L) → RM w' b n st → (st.1 = 0 → w'.1 40 0 28 = nI L.length ∧ segM w' 0 L) → w'.1 40 0 0 = 0 → w'.1 40 0 1 = 0 → Sm GWm w w' → Z M G 0 K noX w' 101 [some (.ref (G.2.1 40 0)), none] [] := by
    intro w' st L hwk hRm hseg g0 g1 hs
    refine b_X10_work_101 F hk ?_
    rw [hRm.zero]
    refine ⟨fun h0 w6 hw6 => ?_, fun hne => ?_⟩
    · have hok : (wkF b n T).1.1 = 0 := by rw [hwk]; exact h0
      obtain ⟨l1, l2⟩ := wkF_ok hok
      have hpn : st.2 ≤ n := hRm.2.2.2.2.1.2
      have hlen : (wkF b n T).2.length ≤ 37 := by rw [hwk] at l1 ⊢; have l1 : 4 * L.length ≤ st.2 := l1; show L.length ≤ 37; omega
      obtain ⟨q28, qs⟩ := hseg h0
      have f34 : w6.1 40 0 34 = nI bf.length := by rw [hw6, setI_ne (by omega), hs.1 40 0 34 (by unfold GWm GS; omega)]; exact hlf.1
      rw [f34, nI_clamp (by omega)]
      refine ⟨vp_in_nI hbl (by decide), ?_⟩
      refine con_vP (m_copies hl (i := 0) (j := 2 + bf.length) (by decide) (by omega) (by omega)) (fun w7 k7 w8 hw8 w9 hw9 w10 hw10 w11 hw11 => ?_)
      obtain ⟨c1, c2, c3⟩ := k7
      have g34 : w7.1 40 0 34 = nI bf.length := (c3.1 40 0 34 (by unfold NR; omega)).trans f34
      rw [g34, ← nI_succ] at hw8
      have r6 : ∀ j q, w6.1 69 j q = w.1 69 j q := fun j q => by rw [hw6, setI_ne (by omega), hs.1 69 j q (by unfold GWm GS; omega)]
      have o11 : ∀ κ x y, κ ≠ 40 → w11.1 κ x y = w7.1 κ x y := fun κ x y hκ => by
        rw [hw11, setI_ne (by omega), hw10, setI_ne (by omega), hw9, setI_ne (by omega), hw8, setI_ne (by omega)]
      have r7 : ∀ j, w7.1 69 j = if j = 2 + bf.length then σ else w.1 69 j := fun j => by
        funext q
        by_cases e : j = 2 + bf.length
        · rw [if_pos e, e]
          by_cases hq : q < 57
          · rw [c1 q hq, r6, hlf.2.2.1]
          · rw [c2 q (by omega), r6, hjw _ q (by omega), hσ.1 q (by omega)]
        · rw [if_neg e, c3.1 69 j q (by unfold NR; omega), r6]
      have r11 : ∀ j, w11.1 69 j = if j = 2 + bf.length then σ else w.1 69 j := fun j => by
        rw [← r7]
        funext q
        exact o11 69 j q (by decide)
      have s11 : Sm GWn w w11 := by
        have t7 : Sm GWn w w7 := (by rw [hw6]; exact (hs.mono (S' := GWn) (fun κ b k q => Or.inl q)).set (by unfold GWn GWm; omega) : Sm GWn w w6).tr (c3.mono (fun κ b k q => by unfold NR at q; unfold GWn; omega))
        rw [hw11, hw10, hw9, hw8]
        exact (((t7.set (by unfold GWn; omega)).set (by unfold GWn; omega)).set (by unfold GWn; omega)).set (by unfold GWn; omega)
      have st11 : StM w11 T E := by
        refine hst.mv s11 (fun κ b k q => by unfold GWn GWm GS; omega) (by unfold GWn GWm GS; omega)
      have e28 : w11.1 40 0 28 = nI L.length := by
        rw [hw11, setI_ne (by omega), hw10, setI_ne (by omega), hw9, setI_ne (by omega), hw8, setI_ne (by omega), c3.1 40 0 28 (by unfold NR; omega), hw6, setI_ne (by omega)]
        exact q28
      have sg11 : segM w11 0 (wkF b n T).2 := by
        rw [hwk]
        exact qs.cg (fun x y _ _ => by rw [o11 68 x y (by decide), c3.1 68 x y (by unfold NR; omega), hw6, setI_ne (by omega)])
      have x11 : XM w11 (σ, 0, 0, 0) := by
        refine ⟨?_, ?_, ?_, ?_⟩
        · rw [r11 0, if_neg (by omega)]; exact hlf.2.2.1
        · rw [hw11, setI_ne (by omega), hw10, setI_ne (by omega), hw9, setI_eq]; rfl
        · rw [hw11, setI_ne (by omega), hw10, setI_eq]; rfl
        · rw [hw11, setI_eq]; rfl
      have hxok : xOk (4000 * bf.length) T (σ, 0, 0, 0) := ⟨by show (0 : Nat) ≤ 200; omega, hσ.mono (by omega)⟩
      have eL : L.length = (wkF b n T).2.length := by rw [hwk]
      rw [e28, eL]
      refine con_mono (con_lev (m_goes hl (B := 4000 * bf.length) (E := E) (by omega) hT hok' l2 hlen 37 0 (wkF b n T).2.length (Nat.zero_le _) (by omega) (Nat.le_refl _) w11 (σ, 0, 0, 0) st11 sg11 x11 hxok) (by decide)) ?_ (fun _ _ q => q.elim)
      rintro _ w12 ⟨rfl, k12⟩
      refine ⟨rfl, ?_⟩
      have k121 : XM w12 (rnW b n T E σ) := k12.1
      obtain ⟨u1, u2, u3, u4⟩ := k121
      have hrok := rnW_ok (E := E) hT hok hσ
      have r12 : ∀ j, j ≠ 0 → w12.1 69 j = w11.1 69 j := fun j hj => k12.2.row (fun k => by unfold GXm NJ; omega)
      rw [← hK]
      refine ⟨?_, ?_, fun q => absurd hok q, fun _ => ⟨by rw [u3], ?_, ⟨?_, ?_, u1, fun i τ hi => ?_⟩, fun j => ?_, u4, s11.tr (k12.2.mono (fun κ b k q => ?_))⟩⟩
      · rw [k12.2.1 40 0 0 (by unfold GXm NJ; omega), hw11, setI_ne (by omega), hw10, setI_ne (by omega), hw9, setI_ne (by omega), hw8, setI_ne (by omega), c3.1 40 0 0 (by unfold NR; omega), hw6, setI_ne (by omega)]; exact g0
      · rw [k12.2.1 40 0 1 (by unfold GXm NJ; omega), hw11, setI_ne (by omega), hw10, setI_ne (by omega), hw9, setI_ne (by omega), hw8, setI_ne (by omega), c3.1 40 0 1 (by unfold NR; omega), hw6, setI_ne (by omega)]; exact g1
      · rw [k12.2.1 40 0 3 (by unfold GXm NJ; omega), hw11, setI_ne (by omega), hw10, setI_ne (by omega), hw9, setI_ne (by omega), hw8, setI_ne (by omega), c3.1 40 0 3 (by unfold NR; omega), hw6, setI_eq]
      · rw [k12.2.1 40 0 34 (by unfold GXm NJ; omega), hw11, setI_ne (by omega), hw10, setI_ne (by omega), hw9, setI_ne (by omega), hw8, setI_eq, List.length_append]
        rfl
      · rw [List.length_append]; show bf.length + 1 ≤ 16; omega
      · rw [r12 _ (by omega), r11]
        by_cases hq : i < bf.length
        · rw [if_neg (by omega)]
          rw [List.getElem?_append_left hq] at hi
          exact hlf.2.2.2 i τ hi
        · rw [List.getElem?_append_right (by omega)] at hi
          have hi0 : i - bf.length = 0 := by
            have := (List.getElem?_eq_some_iff.mp hi).1
            have : i - bf.length < 1 := this
            omega
          rw [hi0] at hi
          cases hi
          rw [if_pos (by omega)]
      · by_cases hj0 : j = 0
        · rw [hj0, u1]; exact hrok.1
        · rw [r12 j hj0, r11]
          split
          · exact hσ.1
          · exact hjw j
      · unfold GXm NJ at q
        unfold GWn
        omega
    · refine con_i (m_ends hl hRm hne) ?_
      rw [← hK, hwk]
      refine ⟨?_, ?_, fun _ => ⟨rfl, setI_eq _ _ _ _ _, hs.set (by unfold GWm; omega)⟩, fun z => absurd z hne⟩
      · rw [setI_ne (by omega)]; exact g0
      · rw [setI_ne (by omega)]; exact g1
  generalize hW : wsF b n T 6 0 (0, 0) = W
  have ewk : wkF b n T = if W.1.1 = 0 ∧ sk b n W.1.2 < n then ((1, sk b n W.1.2), []) else (pkS b n W.1, W.2) := by unfold wkF; rw [hW]
  have hWe : wsL b n (stD b n T 6) 150 0 (0, 0) = W := by rw [← wsF_D]; exact hW
  have hMs := m_steps (G := G) (b := b) (n := n) (T := T) hl hn150 hT 6 (by decide)
  have GPmW : ∀ κ b k, GPm κ b k → GWm κ b k := fun κ b k q => by unfold GPm at q; unfold GWm GS; omega
  have key : ∀ f j (L : List En) (s' : Rd) (w' : Wd), f + j = 150 → (s'.1 = 0 → j ≤ s'.2 ∧ 4 * L.length ≤ s'.2 ∧ sk b n s'.2 = s'.2) → W.1 = (wsL b n (stD b n T 6) f L.length s').1 → (W.1.1 = 0 → W.2 = L ++ (wsL b n (stD b n T 6) f L.length s').2) → RM w' b n s' → (s'.1 = 0 → w'.1 40 0 28 = nI L.length ∧ w'.1 40 0 8 = nI 0 ∧ segM w' 0 L) → w'.1 40 0 0 = 0 → w'.1 40 0 1 = 0 → Sm GWm w w' → Z M G 0 K noX w' 72 [some (.ref (G.2.1 40 0)), none] [] := by
    intro f
    induction f with
    | zero =>
      intro j L s' w' hfj hpos g1' g2' R' hok g0 g1 hs
      have g1' : W.1 = s' := g1'
      refine b_X10_work_72 F hk ?_
      rw [R'.zero]
      refine ⟨fun hz => at101 w' s' W.2 (by rw [ewk, g1', if_neg (fun z => hz z.1), pkS_x hz]) R' (fun z => absurd z hz) g0 g1 hs, fun hz => ?_⟩
      have hz := Classical.not_not.mp hz
      obtain ⟨p1, p2, p4⟩ := hpos hz
      have hsn : s'.2 = n := by have := R'.2.2.2.2.1.2; omega
      have es : s' = (0, s'.2) := by rw [← hz]
      rw [R'.2.2.1, (R'.2.2.2.2.2.2.1 hz).2, nI_leI (by omega) (by omega)]
      refine ⟨fun _ => ?_, fun q => absurd (by omega) q⟩
      have e2 := g2' (by rw [g1']; exact hz)
      have e2 : W.2 = L ++ [] := e2
      rw [List.append_nil] at e2
      refine at101 w' s' L ?_ R' (fun _ => ⟨(hok hz).1, (hok hz).2.2⟩) g0 g1 hs
      rw [ewk, g1', if_neg (fun z => by rw [p4] at z; omega), e2, es, pkS_0 p4]
    | succ f ih =>
      intro j L s' w' hfj hpos g1' g2' R' hok g0 g1 hs
      refine b_X10_work_72 F hk ?_
      rw [R'.zero]
      refine ⟨fun hz => ?_, fun hz => ?_⟩
      · rw [wsL_x hz] at g1'
        exact at101 w' s' W.2 (by rw [ewk, g1', if_neg (fun z => hz z.1), pkS_x hz]) R' (fun z => absurd z hz) g0 g1 hs
      have hz := Classical.not_not.mp hz
      obtain ⟨p1, p2, p4⟩ := hpos hz
      have es : s' = (0, s'.2) := by rw [← hz]
      have hsn := R'.2.2.2.2.1.2
      obtain ⟨u1, u2, u3⟩ := hok hz
      have R0 := R'
      rw [es] at R0
      rw [R'.2.2.1, (R'.2.2.2.2.2.2.1 hz).2, nI_leI (by omega) (by omega)]
      refine ⟨fun hc => ?_, fun hc => ?_⟩
      · rw [wsL, if_neg (fun z => by rw [p4] at z; omega)] at g1' g2'
        rw [es, pkS_0 p4] at g1'
        have g1' : W.1 = (0, s'.2) := g1'
        have e2 := g2' (by rw [g1'])
        have e2 : W.2 = L ++ [] := e2
        rw [List.append_nil] at e2
        refine at101 w' (0, s'.2) L ?_ R0 (fun _ => ⟨u1, u3⟩) g0 g1 hs
        rw [ewk, g1']
        show (if (0 : Nat) = 0 ∧ sk b n s'.2 < n then _ else (pkS b n (0, s'.2), W.2)) = _
        rw [if_neg (fun z => by rw [p4] at z; omega), pkS_0 p4, e2]
      · have hlt : s'.2 < n := by omega
        have a44 : w'.1 44 0 0 = nI (tS T) := (hs.1 44 0 0 (by unfold GWm GS; omega)).trans hst.1.1
        have a441 : w'.1 44 0 1 = nI (tN T) := (hs.1 44 0 1 (by unfold GWm GS; omega)).trans hst.1.2.1
        refine con_mono (con_lev (hMs w' s'.2 L.length R0 p4 a44 a441 u1 p2 u2) (by decide)) ?_ (fun _ _ q => q.elim)
        rintro _ w12 ⟨rfl, k12⟩
        refine ⟨rfl, ?_⟩
        refine con_vP (m_blanks hl k12.1) (fun w13 k13 => ?_)
        have s13 : Sm GWm w w13 := (hs.tr (k12.2.2.mono GPmW)).tr (k13.2.mono (fun κ b k q => GPmW κ b k (GR4_GPm κ b k q)))
        have t0 : w13.1 40 0 0 = 0 := by rw [k13.2.1 40 0 0 (by unfold GR4; omega), k12.2.2.1 40 0 0 (by unfold GPm; omega)]; exact g0
        have t1 : w13.1 40 0 1 = 0 := by rw [k13.2.1 40 0 1 (by unfold GR4; omega), k12.2.2.1 40 0 1 (by unfold GPm; omega)]; exact g1
        by_cases h93 : b s'.2 = 93
        · -- a bracket that closes nothing
          have hk8' : sdK b s'.2 (we b n s'.2) = 8 := by
            have hle := sdK_le b s'.2 (we b n s'.2)
            by_cases y : sdK b s'.2 (we b n s'.2) < 8
            · exfalso
              have h3 := (sdK_lt y).1
              have hlt2 : s'.2 < rn (isL b) n s'.2 := by show s'.2 < we b n s'.2; omega
              have hL := isL_iff.mp (rn_in (P := isL b) (n := n) (Nat.le_refl s'.2) hlt2)
              omega
            · omega
          have hst1 : stD b n T 6 L.length s'.2 = ((1, s'.2), []) := by
            show stF b n T true (wsF b n T 5) L.length s'.2 = _
            unfold stF
            rw [if_pos hk8']
          rw [hst1] at k12 k13
          have hne : ¬ ((1, s'.2) : Rd).1 = 0 := by show ¬ (1 : Nat) = 0; decide
          rw [pkS_x hne] at k13
          rw [wsL, if_neg (fun z => z.2.2 (by rw [p4]; exact h93))] at g1'
          rw [es, pkS_0 p4] at g1'
          have g1' : W.1 = (0, s'.2) := g1'
          refine b_X10_work_72 F hk ?_
          rw [k13.1.zero]
          refine ⟨fun _ => at101 w13 (1, s'.2) [] ?_ k13.1 (fun z => absurd z hne) t0 t1 s13, fun z => absurd hne z⟩
          rw [ewk, g1']
          show (if (0 : Nat) = 0 ∧ sk b n s'.2 < n then ((1, sk b n s'.2), []) else _) = _
          rw [if_pos ⟨rfl, by rw [p4]; exact hlt⟩, p4]
        · have hq : s'.1 = 0 ∧ sk b n s'.2 < n ∧ b (sk b n s'.2) ≠ 93 := ⟨hz, by rw [p4]; exact hlt, by rw [p4]; exact h93⟩
          rw [wsL, if_pos hq, p4] at g1' g2'
          have hRk := stD_ok (b := b) (n := n) (T := T) (c := L.length) (a := s'.2) 6
          generalize hstR : stD b n T 6 L.length s'.2 = R at *
          have epk : (wsL b n (stD b n T 6) f (L.length + R.2.length) (pkS b n R.1)) = (wsL b n (stD b n T 6) f (L.length + R.2.length) R.1) ∨ (f = 0 ∧ R.1.1 = 0) := by
            by_cases hR0 : R.1.1 ≠ 0
            · rw [pkS_x hR0]; exact Or.inl rfl
            · cases f with
              | zero => exact Or.inr ⟨rfl, Classical.not_not.mp hR0⟩
              | succ f => exact Or.inl wsL_pk
          rcases epk with epk | ⟨f0, zR⟩
          · rw [← epk, ← List.length_append] at g1' g2'
            refine ih (j + 1) (L ++ R.2) (pkS b n R.1) w13 (by omega) (fun z => ?_) g1' (fun z => by rw [g2' z, List.append_assoc]) k13.1 (fun z => ?_) t0 t1 s13
            all_goals
              have zR : R.1.1 = 0 := by
                by_cases y : R.1.1 = 0
                · exact y
                · rw [pkS_x y] at z; exact z
            · have y := hRk zR
              have hge := sk_ge b n R.1.2
              rw [pkS, if_neg (fun z => z zR), List.length_append]
              refine ⟨?_, ?_, sk_idem b n _⟩
              · show j + 1 ≤ sk b n R.1.2
                omega
              · show 4 * (L.length + R.2.length) ≤ sk b n R.1.2
                omega
            · obtain ⟨x1, x2, x3, x4⟩ := k12.2.1 zR
              have o13 : ∀ x y, w13.1 68 x y = w12.1 68 x y := fun x y => k13.2.oth40 (fun _ _ _ q => q.1) (by decide)
              refine ⟨?_, ?_, fun i e hi => ?_⟩
              · rw [k13.2.1 40 0 28 (by unfold GR4; omega), x1, List.length_append]
              · rw [k13.2.1 40 0 8 (by unfold GR4; omega)]; exact x2
              · by_cases hl' : i < L.length
                · rw [List.getElem?_append_left hl'] at hi
                  rw [o13, o13, o13, o13, x3 _ 0 (by omega), x3 _ 1 (by omega), x3 _ 2 (by omega), x3 _ 3 (by omega)]
                  exact u3 i e hi
                · rw [List.getElem?_append_right (by omega)] at hi
                  have := x4 _ e hi
                  rw [show L.length + (i - L.length) = 0 + i by omega] at this
                  rw [o13, o13, o13, o13]
                  exact this
          · exfalso
            have y := hRk zR
            have := k12.1.2.2.2.2.1.2
            omega
  have e11 : wsL b n (stD b n T 6) 150 0 (0, sk b n 0) = W := by
    rw [← hWe]
    have e0 : (0, sk b n 0) = pkS b n (0, 0) := by rw [pkS, if_neg (fun z => z rfl)]
    rw [e0]
    exact wsL_pk (f := 149)
  exact key 150 0 [] (0, sk b n 0) w5 rfl (fun _ => ⟨Nat.zero_le _, Nat.zero_le _, sk_idem b n 0⟩) (by show W.1 = (wsL b n (stD b n T 6) 150 0 (0, sk b n 0)).1; rw [e11]) (fun _ => by show W.2 = [] ++ (wsL b n (stD b n T 6) 150 0 (0, sk b n 0)).2; rw [e11]; rfl) R5 (fun _ => ⟨y28, y8, fun i e hi => by cases hi⟩) y0 y1 s5
end YW
