/-! The reference: sets of singers. -/
theorem obN_full {p : Nat → Bool} {n : Nat} : obN p n = 2 ^ n - 1 ↔ al p n = true := by
  constructor
  · intro h
    apply al_t
    intro k hk
    have e := obN_tb (p := p) (n := n) (i := k)
    rw [h, Nat.testBit_two_pow_sub_one, decide_eq_true hk, Bool.true_and] at e
    exact e.symm
  · intro h
    have h := al_of h
    apply Nat.eq_of_testBit_eq
    intro i
    rw [obN_tb, Nat.testBit_two_pow_sub_one]
    by_cases hi : i < n
    · rw [decide_eq_true hi, h i hi]; rfl
    · rw [decide_eq_false hi]; rfl
theorem hz_mask : ∀ n, n < 21 → ((1 : Int32) <<< (nI n &&& 31)) - 1 = nI (2 ^ n - 1) := by decide +kernel
theorem ob_full {p : Nat → Bool} {n : Nat} (hn : n ≤ 20) : ob p n = ((1 : Int32) <<< (nI n &&& 31)) - 1 ↔ al p n = true := by
  have h20 : 2 ^ n ≤ 2 ^ 20 := Nat.pow_le_pow_right (by decide) hn
  have h1 := obN_lt p n
  rw [hz_mask n (by omega), ob_nI (by omega), nI_eq (by omega) (by omega), obN_full]
def BookM (w : Wd) (L : Bk) : Prop := w.1 40 0 33 = nI L.length ∧ L.length ≤ 20 ∧ ∀ i x, L[i]? = some x → w.1 62 i 0 = nI x.1 ∧ w.1 62 i 1 = bI x.2
theorem BookM.mv {w w' : Wd} {L : Bk} (h : BookM w L) (hs : Sm GM w w') : BookM w' L :=
  ⟨(hs.1 40 0 33 (by unfold GM; omega)).trans h.1, h.2.1, fun i x hx => ⟨(hs.1 62 i 0 (by unfold GM; omega)).trans (h.2.2 i x hx).1, (hs.1 62 i 1 (by unfold GM; omega)).trans (h.2.2 i x hx).2⟩⟩
theorem bI_inj {a b : Bool} : bI a = bI b ↔ a = b := by cases a <;> cases b <;> decide
theorem Jk.on {m i : Nat} {σ : Sg} (h : Jk σ) (hi : i ≤ 7) : Jk (onK m σ i) := by
  intro q hq
  unfold onK
  rw [if_neg (by omega)]
  exact h q hq
theorem Jk.ref {T : Tx} {σ : Sg} (hT : Tok T) (h : Jk σ) : Jk (refF T σ) := by
  have hS := hT.1
  intro q hq
  unfold refF
  rw [if_neg (by omega)]
  exact h q hq
section RD
variable {l : Launch} {G : Gx} {w w0 : Wd} {X : String → Wd → Prop} {T : Tx} {E : Ex} {σ τ : Sg} {L : Bk}
theorem m_would (hl : l.stackTraces = false) {a b c d e f g i : Int32} (h : RQ w T E σ) : C_X10_would l G w [.ref (G.2.1 40 0), .int a, .int b, .int c, .int d, .int e, .int f, .int g, .int i] (KM w (okW a b c d e f g i) 1 1 (clampE (E (f8 a b c d e f g i)))) noX := by
  refine e_X10_would hl (fun M kk hM hk F => ?_)
  subst hM
  rintro _ rfl
  have f95 : ∀ x : Bool, okW a b c d e f g i = !x → Z M G 0 (KM w (okW a b c d e f g i) 1 1 (clampE (E (f8 a b c d e f g i)))) noX (cl0 w) 95 [some (.ref (G.2.1 40 0)), some (.int a), some (.int b), some (.int c), some (.int d), some (.int e), some (.int f), some (.int g), some (.int i)] [.int (bI x), .ref (G.2.1 40 0)] := by
    intro x hx
    exact b_X10_would_95 F hk (con_q hl (rs := 1) (by decide) (by decide) hx (fun hok => con_iP (m_breathBy hl (f := f8 a b c d e f g i) h.cl.2.1.2 h.2.2.1 ⟨rfl, rfl, rfl, rfl, rfl, rfl, rfl, rfl⟩) (fun w2 h2 => km_n2 h hok h2)))
  have f90 : okW a b c d e f g i = false → Z M G 0 (KM w (okW a b c d e f g i) 1 1 (clampE (E (f8 a b c d e f g i)))) noX (cl0 w) 90 [some (.ref (G.2.1 40 0)), some (.int a), some (.int b), some (.int c), some (.int d), some (.int e), some (.int f), some (.int g), some (.int i)] [.ref (G.2.1 40 0)] :=
    fun hx => b_X10_would_90 F hk (f95 true hx)
  refine con_i (m_in hl) ⟨fun h1 => f90 ?_, fun h1 => con_i (m_in hl) ⟨fun h2 => f90 ?_, fun h2 => con_i (m_in hl) ⟨fun h3 => f90 ?_, fun h3 => con_i (m_in hl) ⟨fun h4 => f90 ?_, fun h4 => con_i (m_in hl) ⟨fun h5 => f90 ?_, fun h5 => con_i (m_isVowel hl) ⟨fun h6 => f90 ?_, fun h6 => con_i (m_in hl) ⟨fun h7 => f90 ?_, fun h7 => con_i (m_in hl) ⟨fun h8 => f95 false ?_, fun h8 => f90 ?_⟩⟩⟩⟩⟩⟩⟩⟩
  all_goals unfold okW
  · rw [show okB a 1 9 = false from bI_0 h1]; rfl
  · rw [show okB b 0 60 = false from bI_0 h2, Bool.and_false]; rfl
  · rw [show okB c 0 30 = false from bI_0 h3, Bool.false_and, Bool.and_false]; rfl
  · rw [show okB d 0 9999 = false from bI_0 h4, Bool.and_false, Bool.and_false]; rfl
  · rw [show okB e 0 19 = false from bI_0 h5, Bool.false_and, Bool.and_false]; rfl
  · rw [show okV f = false from bI_0 h6, Bool.and_false, Bool.and_false]; rfl
  · rw [show okB g 0 400 = false from bI_0 h7, Bool.false_and, Bool.and_false]
  · rw [show okB a 1 9 = true from bI_not.mp h1, show okB b 0 60 = true from bI_not.mp h2, show okB c 0 30 = true from bI_not.mp h3, show okB d 0 9999 = true from bI_not.mp h4, show okB e 0 19 = true from bI_not.mp h5, show okV f = true from bI_not.mp h6, show okB g 0 400 = true from bI_not.mp h7, show okB i 0 6 = true from bI_not.mp h8]; rfl
  · rw [show okB i 0 6 = false from bI_0 (Classical.not_not.mp h8), Bool.and_false, Bool.and_false]
theorem m_hasBy (hl : l.stackTraces = false) {a b v u : Int32} : C_X10_hasBy l G w [.int a, .int b, .int v, .int u] (fun r w' => r = some (.int (gn a b v u)) ∧ w' = w) noX := by
  refine e_X10_hasBy hl (fun M kk hM hk F => ⟨fun h => ⟨fun h2 => ⟨?_, rfl⟩, fun h2 => ⟨?_, rfl⟩⟩, fun h => ⟨fun h2 => ⟨?_, rfl⟩, fun h2 => ⟨?_, rfl⟩⟩⟩)
  · unfold gn; rw [if_neg h, if_neg h2]
  · unfold gn; rw [if_neg h, if_pos (Classical.not_not.mp h2)]
  · unfold gn; rw [if_pos (Classical.not_not.mp h), if_neg h2]
  · unfold gn; rw [if_pos (Classical.not_not.mp h), if_pos (Classical.not_not.mp h2)]
theorem m_isBest (hl : l.stackTraces = false) {a b v u : Int32} : C_X10_isBest l G w [.int a, .int b, .int v, .int u] (fun r w' => r = some (.int (bI (decide (gn (1 - a) b v u ≤ gn a b v u)))) ∧ w' = w) noX := by
  refine e_X10_isBest hl (fun M kk hM hk F => ?_)
  subst hM
  refine con_i (m_hasBy hl) (con_i (m_hasBy hl) ⟨fun h => ⟨?_, rfl⟩, fun h => ⟨?_, rfl⟩⟩)
  · rw [decide_eq_false (Int32.not_le.mpr h)]; rfl
  · rw [decide_eq_true (Int32.not_lt.mp h)]; rfl
theorem m_quarrel (hl : l.stackTraces = false) {v u o : Int32} (h : RQ w T E σ) : C_X10_quarrel l G w [.ref (G.2.1 40 0), .int v, .int u, .int o] (KM w (okB v 0 99 && okB u 0 99 && okB o 0 2) 1 1 (quF v u o)) noX := by
  refine e_X10_quarrel hl (fun M kk hM hk F => ?_)
  subst hM
  rintro _ rfl
  generalize hK : KM w (okB v 0 99 && okB u 0 99 && okB o 0 2) 1 1 (quF v u o) = K
  have f40 : ∀ b : Bool, (okB v 0 99 && okB u 0 99 && okB o 0 2) = !b → Z M G 0 K noX (cl0 w) 40 [none, some (.int v), some (.int u), some (.int o), none, none, none, none, none] [.int (bI b), .ref (G.2.1 40 0)] := by
    intro b hb
    refine b_X10_quarrel_40 F hk ?_
    rw [← hK]
    refine con_q hl (rs := 1) (by decide) (by decide) hb (fun hok => ?_)
    rw [hK]
    refine up_to (P := fun a => Z M G 0 K noX (cl0 w) 62 [none, some (.int v), some (.int u), some (.int o), some (.int (qF v u (2 * a)).1), some (.int (qF v u (2 * a)).2.1), some (.int (qF v u (2 * a)).2.2), some (.int (nI a)), none] []) 2 (fun a ha ih => ?_) ?_
    · refine b_X10_quarrel_62 F hk ⟨fun hc => absurd hc (nI_ge ha (by decide)), fun _ => ?_⟩
      refine up_to (P := fun c => Z M G 0 K noX (cl0 w) 71 [none, some (.int v), some (.int u), some (.int o), some (.int (qF v u (2 * a + c)).1), some (.int (qF v u (2 * a + c)).2.1), some (.int (qF v u (2 * a + c)).2.2), some (.int (nI a)), some (.int (nI c))] []) 2 (fun c hc ih2 => ?_) ?_
      · have eq1 : qF v u (2 * a + (c + 1)) = if qOk v u ((2 * a + c) / 2) ((2 * a + c) % 2) then ((qF v u (2 * a + c)).1 + 1, (if (qF v u (2 * a + c)).1 = 0 then 10 * nI ((2 * a + c) / 2) + nI ((2 * a + c) % 2) else (qF v u (2 * a + c)).2.1), (if (qF v u (2 * a + c)).1 = 0 then gn (nI ((2 * a + c) / 2)) (nI ((2 * a + c) % 2)) v u + gn (nI ((2 * a + c) % 2)) (nI ((2 * a + c) / 2)) v u else (qF v u (2 * a + c)).2.2)) else qF v u (2 * a + c) := rfl
        rw [eq1, show (2 * a + c) / 2 = a by omega, show (2 * a + c) % 2 = c by omega] at ih2
        refine b_X10_quarrel_71 F hk ⟨fun h1 => absurd h1 (nI_ge hc (by decide)), fun _ => con_i (m_isBest hl) ?_⟩
        rw [← nI_succ]
        refine ⟨fun h1 => ?_, fun h1 => con_i (m_isBest hl) ⟨fun h2 => ?_, fun h2 => ?_⟩⟩
        · have e : qOk v u a c = false := by
            unfold qOk
            rw [bI_0 h1]; rfl
          rw [e] at ih2
          exact ih2
        · have e : qOk v u a c = true := by
            unfold qOk
            rw [bI_not.mp h1, bI_not.mp h2]; rfl
          rw [e, if_pos rfl] at ih2
          refine ⟨fun h4 => b_X10_quarrel_133 F hk ?_, fun h4 => con_i (m_hasBy hl) (con_i (m_hasBy hl) (b_X10_quarrel_133 F hk ?_))⟩
          · rw [← nI_succ]
            rw [if_neg h4, if_neg h4] at ih2
            exact ⟨fun _ => ih2, fun hq => absurd h4 hq⟩
          · rw [← nI_succ]
            rw [if_pos (Classical.not_not.mp h4), if_pos (Classical.not_not.mp h4)] at ih2
            exact ⟨fun hq => absurd hq h4, fun _ => ih2⟩
        · have e : qOk v u a c = false := by
            unfold qOk
            rw [bI_0 (Classical.not_not.mp h2), Bool.and_false]
          rw [e] at ih2
          exact ih2
      · refine b_X10_quarrel_71 F hk ⟨fun _ => ?_, fun hq => absurd (by decide) hq⟩
        rw [← nI_succ]
        rw [show 2 * (a + 1) = 2 * a + 2 by omega] at ih
        exact ih
    · refine b_X10_quarrel_62 F hk ⟨fun _ => ⟨fun h2 => ⟨fun h3 => ?_, fun h3 => ?_⟩, fun h2 => ?_⟩, fun hc => absurd (by decide) hc⟩
      · rw [← hK]
        unfold quF
        rw [if_neg h2, if_neg h3]
        exact km_cl h hok
      · rw [← hK]
        unfold quF
        rw [if_neg h2, if_pos (Classical.not_not.mp h3)]
        exact km_cl h hok
      · rw [← hK]
        unfold quF
        rw [if_pos (Classical.not_not.mp h2)]
        exact km_cl h hok
  refine con_i (m_in hl) ⟨fun h1 => b_X10_quarrel_35 F hk (f40 true ?_), fun h1 => con_i (m_in hl) ⟨fun h2 => b_X10_quarrel_35 F hk (f40 true ?_), fun h2 => con_i (m_in hl) ⟨fun h3 => f40 false ?_, fun h3 => b_X10_quarrel_35 F hk (f40 true ?_)⟩⟩⟩
  · rw [show okB v 0 99 = false from bI_0 h1]; rfl
  · rw [show okB u 0 99 = false from bI_0 h2, Bool.and_false]; rfl
  · rw [show okB v 0 99 = true from bI_not.mp h1, show okB u 0 99 = true from bI_not.mp h2, show okB o 0 2 = true from bI_not.mp h3]; rfl
  · rw [show okB o 0 2 = false from bI_0 (Classical.not_not.mp h3), Bool.and_false]; rfl
theorem m_cast (hl : l.stackTraces = false) (h : RQ w T E σ) : C_X10_cast l G w [.ref (G.2.1 40 0)] (KM w true 1 1 (oI (csF T E σ (2 ^ tS T)))) noX := by
  have hS := h.1.1
  have hN := h.1.2.1
  have h128 := p2_7 hS
  have hp2 := Nat.two_pow_pos (tS T)
  refine e_X10_cast hl (fun M kk hM hk F => ?_)
  subst hM
  rintro _ rfl
  generalize hK : KM w true 1 1 (oI (csF T E σ (2 ^ tS T))) = K
  refine up_to (P := fun m => ∀ w' τ, Jk τ → TR w w' τ → Z M G 0 K noX w' 9 [some (.ref (G.2.1 40 0)), some (.int (oI (csF T E σ m))), some (.int (nI m)), none] []) (2 ^ tS T) (fun m hm ih w' τ hj t => ?_) (fun w' τ hj t => ?_) (cl0 w) (w.1 69 1) h.2.2.2.2.2 ⟨cl0_sm, cl0_0, cl0_69⟩
  · have q := t.rq h hj
    have er : csF T E σ (m + 1) = if chp T m (csF T E σ m) && ccB T E (onK m (refF T σ) (tS T)) then some m else csF T E σ m := rfl
    rw [er] at ih
    have skip : chp T m (csF T E σ m) = false → Z M G 0 K noX w' 9 [some (.ref (G.2.1 40 0)), some (.int (oI (csF T E σ m))), some (.int (nI m + 1)), none] [] := by
      intro hq
      rw [← nI_succ]
      rw [hq] at ih
      exact ih w' τ hj t
    have f60 : chp T m (csF T E σ m) = true → Z M G 0 K noX w' 60 [some (.ref (G.2.1 40 0)), some (.int (oI (csF T E σ m))), some (.int (nI m)), none] [] := by
      intro hq
      rw [hq, Bool.true_and] at ih
      refine b_X10_cast_60 F hk (con_vP (m_cp hl q) (fun w2 h2 => ?_))
      have t2 := t.nr h2.2 h2.1
      have q2 := t2.rq h h.2.2.2.2.1
      refine con_vP (m_breathes hl (by decide) h.1 q2.2.1.1 h2.1) (fun w3 h3 => ?_)
      have t3 := t2.nr h3.2 h3.1
      have j3 := h.2.2.2.2.1.ref h.1
      have q3 := t3.rq h j3
      refine con_vP (m_onlyThese hl (by omega) h.1 q3.2.1.1 h3.1) (fun w4 h4 => ?_)
      have t4 := t3.nr h4.2 h4.1
      have j4 := j3.on (m := m) hS
      have q4 := t4.rq h j4
      refine con_vP (m_hymns hl (by decide) h.1 q4.2.1 h.2.2.1 h4.1) (fun w5 h5 => ?_)
      have t5 := t4.nj h5.2.2 h5.1
      have j5 := j4.hym (E := E) h.1 (tN T)
      have q5 := t5.rq h j5
      have ih := ih w5 _ j5 t5
      rw [h5.2.1, q5.2.1.1.2.1, hym_ob, ob_full hN, ← nI_succ]
      refine ⟨fun hc => ?_, fun hc => ?_⟩
      · have e : ccB T E (onK m (refF T σ) (tS T)) = false := Bool.eq_false_iff.mpr hc
        rw [e] at ih
        exact ih
      · have e : ccB T E (onK m (refF T σ) (tS T)) = true := Classical.not_not.mp hc
        rw [e] at ih
        exact ih
    refine b_X10_cast_9 F hk (con_i (m_everySinger hl) ?_)
    rw [q.2.1.1.1, (hz_are (tS T) (by omega)).1]
    refine ⟨fun hc => absurd hc (nI_nlt (by omega) (by omega)), fun _ => ?_⟩
    cases hb : csF T E σ m with
    | none =>
      rw [hb] at skip f60
      refine ⟨fun hc => absurd rfl hc, fun _ => b_X10_cast_35 F hk ⟨fun hc => absurd hc (by decide), fun _ => ⟨fun _ => f60 rfl, fun hc => absurd (by decide) hc⟩⟩⟩
    | some c =>
      rw [hb] at skip f60
      have hc := csF_lt hb
      have l1 := popN_le m 7
      have l2 := popN_le c 7
      have ech : chp T m (some c) = (decide (popN m 7 < popN c 7) || (decide (popN m 7 = popN c 7) && decide (payK T m (tS T) < payK T c (tS T)))) := rfl
      refine ⟨fun _ => con_i (m_ones hl (by omega)) (con_i (m_ones hl (m := c) (by omega)) (b_X10_cast_35 F hk ?_)), fun hq => absurd (Classical.not_not.mp hq) (nI_neg1 (show c < 2 ^ 31 by omega))⟩
      have hcmp : ∀ a, a < 8 → ∀ b, b < 8 → ((0 < nI a - nI b ↔ b < a) ∧ (nI a - nI b = 0 ↔ a = b)) := by decide +kernel
      have k := hcmp (popN m 7) (by omega) (popN c 7) (by omega)
      rw [k.1, k.2]
      refine ⟨fun h1 => skip ?_, fun h1 => ⟨fun h2 => f60 ?_, fun h2 => con_i (m_payOf hl (by omega) h.1 q.2.1.1) (con_i (m_payOf hl (m := c) (by omega) h.1 q.2.1.1) ⟨fun h3 => f60 ?_, fun h3 => skip ?_⟩)⟩⟩
      · rw [ech, decide_eq_false (by omega), decide_eq_false (by omega)]; rfl
      · rw [ech, decide_eq_true (by omega)]; rfl
      · rw [ech, decide_eq_true (Classical.not_not.mp h2), decide_eq_true h3, Bool.and_true, Bool.or_true]
      · rw [ech, decide_eq_false (by omega), decide_eq_false h3, Bool.and_false]; rfl
  · have q := t.rq h hj
    refine b_X10_cast_9 F hk (con_i (m_everySinger hl) ?_)
    rw [q.2.1.1.1, (hz_are (tS T) (by omega)).1]
    refine ⟨fun _ => ?_, fun hc => absurd (nI_lt (by omega) (by omega)) hc⟩
    rw [← hK]
    exact t.km hj rfl
/-- is it heard so, were the singers of m hoarse -/
theorem m_isHeard (hl : l.stackTraces = false) {m : Nat} (h : RQ w0 T E σ) (hB : BookM w0 L) (hL : BookOk L (tN T)) (hm : m < 2 ^ tS T) (hj : Jk τ) (t : TR w0 w τ) : C_X10_isHeard l G w [.ref (G.2.1 40 0), .int (nI m)] (fun r w' => r = some (.int (bI (fitM T E σ L m))) ∧ w'.1 40 0 38 = ob (hp T E (hwS T σ m)) (tN T) ∧ ∃ τ', Jk τ' ∧ TR w0 w' τ') noX := by
  have hS := h.1.1
  have hN := h.1.2.1
  have h128 := p2_7 hS
  refine e_X10_isHeard hl (fun M kk hM hk F => ?_)
  subst hM
  have q := t.rq h hj
  refine con_vP (m_cp hl q) (fun w2 h2 => ?_)
  have t2 := t.nr h2.2 h2.1
  have q2 := t2.rq h h.2.2.2.2.1
  refine con_i (m_everySinger hl) ?_
  rw [q2.2.1.1.1, hz_not (tS T) (by omega) m (by omega) hm]
  refine con_vP (m_onlyThese hl (by omega) h.1 q2.2.1.1 h2.1) (fun w4 h4 => ?_)
  have t4 := t2.nr h4.2 h4.1
  have j4 : Jk (hwS T σ m) := h.2.2.2.2.1.on hS
  have q4 := t4.rq h j4
  refine con_vP (m_hymns hl (by decide) h.1 q4.2.1 h.2.2.1 h4.1) (fun w5 h5 => ?_)
  have t5 := t4.nj h5.2.2 h5.1
  have j5 := j4.hym (E := E) h.1 (tN T)
  have e38 : w5.1 40 0 38 = ob (hp T E (hwS T σ m)) (tN T) := h5.2.1.trans (hym_ob _ _ _ _)
  have b5 := hB.mv t5.1
  have hlen := b5.2.1
  refine up_to (P := fun i => (∀ j x, j < i → L[j]? = some x → (hp T E (hwS T σ m) x.1 == x.2) = true) → Z M G 0 (fun r w' => r = some (.int (bI (fitM T E σ L m))) ∧ w'.1 40 0 38 = ob (hp T E (hwS T σ m)) (tN T) ∧ ∃ τ', Jk τ' ∧ TR w0 w' τ') noX w5 33 [some (.ref (G.2.1 40 0)), none, some (.int (nI i))] []) L.length (fun i hi ih hall => ?_) (fun hall => ?_) (fun j x hj => absurd hj (Nat.not_lt_zero _))
  · have hii : vp_in (nI i) 20 := vp_in_nI (by omega) (by decide)
    obtain ⟨x, hx⟩ : ∃ x, L[i]? = some x := ⟨L[i], List.getElem?_eq_getElem hi⟩
    have hmem := List.mem_of_getElem? hx
    have hxN := hL.1 x hmem
    have bx := b5.2.2 i x hx
    refine b_X10_isHeard_33 F hk ⟨fun hc => ?_, fun _ => ⟨hii, hii, ?_⟩⟩
    · rw [b5.1] at hc
      exact absurd hc (nI_ge hi (by omega))
    · rw [nI_clamp (by omega), bx.1, bx.2, e38, bit_ob (by omega) (by omega), decide_eq_true hxN, Bool.true_and, bI_inj, ← nI_succ]
      refine ⟨fun he => ih (fun j y hj2 hy => ?_), fun hne => ⟨?_, rfl, _, j5, t5⟩⟩
      · by_cases hq : j = i
        · rw [hq, hx] at hy
          cases hy
          exact beq_iff_eq.mpr he
        · exact hall j y (by omega) hy
      · have : fitM T E σ L m = false := by
          cases hf : fitM T E σ L m with
          | false => rfl
          | true =>
            unfold fitM fitB at hf
            rw [List.all_eq_true] at hf
            exact absurd (beq_iff_eq.mp (hf x hmem)) hne
        rw [this]; rfl
  · refine b_X10_isHeard_33 F hk ⟨fun _ => ⟨?_, e38, _, j5, t5⟩, fun hc => ?_⟩
    · have : fitM T E σ L m = true := by
        unfold fitM fitB
        rw [List.all_eq_true]
        intro x hx
        obtain ⟨j, hj2⟩ := List.mem_iff_getElem?.mp hx
        have hjl : j < L.length := by
          have := List.getElem?_eq_some_iff.mp hj2
          exact this.1
        exact hall j x hjl hj2
      rw [this]; rfl
    · rw [b5.1] at hc
      exact absurd (nI_le (Nat.le_refl _) (by omega)) hc
end RD
