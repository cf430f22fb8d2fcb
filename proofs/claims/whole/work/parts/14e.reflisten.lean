/-! The reference: who, what to listen for. -/
section RE
variable {l : Launch} {G : Gx} {w w0 : Wd} {X : String → Wd → Prop} {T : Tx} {E : Ex} {σ τ : Sg} {L : Bk}
theorem m_who (hl : l.stackTraces = false) {v : Int32} (h : RQ w T E σ) (hB : BookM w L) (hL : BookOk L (tN T)) : C_X10_who l G w [.ref (G.2.1 40 0), .int v] (KM w (okB v 0 1) 1 1 (if v = 0 then nI (cn1 (fitM T E σ L) (2 ^ tS T)) else oI (whB T E σ L (2 ^ tS T)))) noX := by
  have hS := h.1.1
  have h128 := p2_7 hS
  have hp2 := Nat.two_pow_pos (tS T)
  refine e_X10_who hl (fun M kk hM hk F => ?_)
  subst hM
  rintro _ rfl
  generalize hK : KM w (okB v 0 1) 1 1 (if v = 0 then nI (cn1 (fitM T E σ L) (2 ^ tS T)) else oI (whB T E σ L (2 ^ tS T))) = K
  have f20 : ∀ b : Bool, okB v 0 1 = !b → Z M G 0 K noX (cl0 w) 20 [some (.ref (G.2.1 40 0)), some (.int v), none, none, none] [.int (bI b), .ref (G.2.1 40 0)] := by
    intro b hb
    refine b_X10_who_20 F hk ?_
    rw [← hK]
    refine con_q hl (rs := 1) (by decide) (by decide) hb (fun hok => ?_)
    rw [hK]
    refine up_to (P := fun m => ∀ w' τ, Jk τ → TR w w' τ → Z M G 0 K noX w' 37 [some (.ref (G.2.1 40 0)), some (.int v), some (.int (nI (cn1 (fitM T E σ L) m))), some (.int (oI (whB T E σ L m))), some (.int (nI m))] []) (2 ^ tS T) (fun m hm ih w' τ hj t => ?_) (fun w' τ hj t => ?_) (cl0 w) (w.1 69 1) h.2.2.2.2.2 ⟨cl0_sm, cl0_0, cl0_69⟩
    · have q := t.rq h hj
      refine b_X10_who_37 F hk (con_i (m_everySinger hl) ?_)
      rw [q.2.1.1.1, (hz_are (tS T) (by omega)).1]
      refine ⟨fun hc => absurd hc (nI_nlt (by omega) (by omega)), fun _ => con_iP (m_isHeard hl h hB hL hm hj t) ?_⟩
      rintro w2 ⟨-, τ2, j2, t2⟩
      have ih := ih w2 τ2 j2 t2
      have e1 : cn1 (fitM T E σ L) (m + 1) = if fitM T E σ L m then cn1 (fitM T E σ L) m + 1 else cn1 (fitM T E σ L) m := rfl
      have e2 : whB T E σ L (m + 1) = if fitM T E σ L m && fwr m (whB T E σ L m) then some m else whB T E σ L m := rfl
      rw [e1, e2] at ih
      rw [← nI_succ, ← nI_succ]
      refine ⟨fun h3 => ?_, fun h3 => ?_⟩
      · rw [bI_not.mp h3, if_pos rfl, Bool.true_and] at ih
        cases hw : whB T E σ L m with
        | none =>
          rw [hw] at ih
          exact ⟨fun _ => ih, fun hc => absurd rfl hc⟩
        | some c =>
          have hc := whB_lt hw
          rw [hw] at ih
          refine ⟨fun hq => absurd hq (nI_neg1 (show c < 2 ^ 31 by omega)), fun _ => con_i (m_ones hl (by omega)) (con_i (m_ones hl (m := c) (by omega)) ?_)⟩
          have l1 := popN_le m 7
          have l2 := popN_le c 7
          have ef : fwr m (some c) = decide (popN m 7 < popN c 7) := rfl
          rw [ef] at ih
          refine ⟨fun hle => ?_, fun hle => ?_⟩
          · rw [nI_leI (by omega) (by omega)] at hle
            rw [decide_eq_false (by omega)] at ih
            exact ih
          · rw [nI_leI (by omega) (by omega)] at hle
            rw [decide_eq_true (by omega)] at ih
            exact ih
      · rw [bI_0 (Classical.not_not.mp h3)] at ih
        exact ih
    · have q := t.rq h hj
      refine b_X10_who_37 F hk (con_i (m_everySinger hl) ?_)
      rw [q.2.1.1.1, (hz_are (tS T) (by omega)).1]
      refine ⟨fun _ => ⟨fun h3 => ?_, fun h3 => ?_⟩, fun hc => absurd (nI_lt (by omega) (by omega)) hc⟩
      · rw [← hK, if_neg h3]
        exact t.km hj hok
      · rw [← hK, if_pos (Classical.not_not.mp h3)]
        exact t.km hj hok
  exact con_i (m_in hl) ⟨fun h1 => f20 false (bI_not.mp h1), fun h1 => f20 true (bI_0 (Classical.not_not.mp h1))⟩
theorem m_isTold (hl : l.stackTraces = false) {n : Nat} (hn : n < 2 ^ 31) {N : Nat} (hB : BookM w L) (hL : BookOk L N) (hN : N ≤ 20) : C_X10_isTold l G w [.ref (G.2.1 40 0), .int (nI n)] (fun r w' => r = some (.int (bI (akB L n))) ∧ w' = w) noX := by
  have hlen := hB.2.1
  refine e_X10_isTold hl (fun M kk hM hk F => ?_)
  refine up_to (P := fun i => (∀ j x, j < i → L[j]? = some x → x.1 ≠ n) → Z M G 0 (fun r w' => r = some (.int (bI (akB L n))) ∧ w' = w) noX w 2 [some (.ref (G.2.1 40 0)), some (.int (nI n)), some (.int (nI i))] []) L.length (fun i hi ih hall => ?_) (fun hall => ?_) (fun j x hj => absurd hj (Nat.not_lt_zero _))
  · obtain ⟨x, hx⟩ : ∃ x, L[i]? = some x := ⟨L[i], List.getElem?_eq_getElem hi⟩
    have hmem := List.mem_of_getElem? hx
    have hxN := hL.1 x hmem
    have bx := hB.2.2 i x hx
    refine b_X10_isTold_2 F hk ⟨fun hc => ?_, fun _ => ⟨vp_in_nI (by omega) (by decide), ?_⟩⟩
    · rw [hB.1] at hc
      exact absurd hc (nI_ge hi (by omega))
    · rw [nI_clamp (by omega), bx.1, nI_eq (by omega) hn, ← nI_succ]
      refine ⟨fun hne => ih (fun j y hj2 hy => ?_), fun he => ⟨?_, rfl⟩⟩
      · by_cases hq : j = i
        · rw [hq, hx] at hy
          cases hy
          exact hne
        · exact hall j y (by omega) hy
      · have := mem_ak hmem
        rw [Classical.not_not.mp he] at this
        rw [this]; rfl
  · refine b_X10_isTold_2 F hk ⟨fun _ => ⟨?_, rfl⟩, fun hc => ?_⟩
    · have : akB L n = false := by
        cases ha : akB L n with
        | false => rfl
        | true =>
          obtain ⟨b, hb⟩ := ak_mem ha
          obtain ⟨j, hj2⟩ := List.mem_iff_getElem?.mp hb
          have hjl : j < L.length := (List.getElem?_eq_some_iff.mp hj2).1
          exact absurd rfl (hall j _ hjl hj2)
      rw [this]; rfl
    · rw [hB.1] at hc
      exact absurd (nI_le (Nat.le_refl _) (by omega)) hc
theorem m_worstOf (hl : l.stackTraces = false) {n : Nat} (h : RQ w0 T E σ) (hB : BookM w0 L) (hL : BookOk L (tN T)) (hn : n < tN T) (hj : Jk τ) (t : TR w0 w τ) : C_X10_worstOf l G w [.ref (G.2.1 40 0), .int (nI n)] (fun r w' => r = some (.int (nI (stN T E σ L n))) ∧ ∃ τ', Jk τ' ∧ TR w0 w' τ') noX := by
  have hS := h.1.1
  have hN := h.1.2.1
  have h128 := p2_7 hS
  have hp2 := Nat.two_pow_pos (tS T)
  refine e_X10_worstOf hl (fun M kk hM hk F => ?_)
  subst hM
  refine up_to (P := fun m => ∀ w' τ, Jk τ → TR w0 w' τ → Z M G 0 (fun r w' => r = some (.int (nI (stN T E σ L n))) ∧ ∃ τ', Jk τ' ∧ TR w0 w' τ') noX w' 7 [some (.ref (G.2.1 40 0)), some (.int (nI n)), some (.int (nI (tlN T E σ L n m))), some (.int (nI (cn1 (fitM T E σ L) m))), some (.int (nI m))] []) (2 ^ tS T) (fun m hm ih w' τ hj t => ?_) (fun w' τ hj t => ?_) w τ hj t
  · have q := t.rq h hj
    refine b_X10_worstOf_7 F hk (con_i (m_everySinger hl) ?_)
    rw [q.2.1.1.1, (hz_are (tS T) (by omega)).1]
    refine ⟨fun hc => absurd hc (nI_nlt (by omega) (by omega)), fun _ => con_iP (m_isHeard hl h hB hL hm hj t) ?_⟩
    rintro w2 ⟨e38, τ2, j2, t2⟩
    have ih := ih w2 τ2 j2 t2
    have e1 : cn1 (fitM T E σ L) (m + 1) = if fitM T E σ L m then cn1 (fitM T E σ L) m + 1 else cn1 (fitM T E σ L) m := rfl
    have e2 : tlN T E σ L n (m + 1) = if fitM T E σ L m && (decide (n < tN T) && hp T E (hwS T σ m) n) then tlN T E σ L n m + 1 else tlN T E σ L n m := rfl
    rw [e1, e2] at ih
    rw [e38, bit_ob (by omega) (by omega), ← nI_succ, ← nI_succ]
    refine ⟨fun h3 => ?_, fun h3 => ?_⟩
    · rw [bI_not.mp h3, if_pos rfl, Bool.true_and] at ih
      cases hb : (decide (n < tN T) && hp T E (hwS T σ m) n) with
      | false =>
        rw [hb] at ih
        rw [show bI false = 0 from rfl, Int32.add_zero]
        exact ih
      | true =>
        rw [hb] at ih
        rw [show nI (tlN T E σ L n m) + bI true = nI (tlN T E σ L n m + 1) from nI_add _ 1]
        exact ih
    · rw [bI_0 (Classical.not_not.mp h3)] at ih
      exact ih
  · have q := t.rq h hj
    have hcn := cn1_n (fitM T E σ L) (2 ^ tS T)
    have hle : tlN T E σ L n (2 ^ tS T) ≤ cn1 (fitM T E σ L) (2 ^ tS T) := cn1_and _ _ _
    refine b_X10_worstOf_7 F hk (con_i (m_everySinger hl) ?_)
    rw [q.2.1.1.1, (hz_are (tS T) (by omega)).1]
    refine ⟨fun _ => con_i (m_more hl) ⟨?_, τ, hj, t⟩, fun hc => absurd (nI_lt (by omega) (by omega)) hc⟩
    rw [fb_sub hle]
    unfold mxI stN
    by_cases hlt : cn1 (fitM T E σ L) (2 ^ tS T) - tlN T E σ L n (2 ^ tS T) < tlN T E σ L n (2 ^ tS T)
    · rw [if_pos (nI_lt hlt (by omega)), Nat.max_eq_left (by omega)]
    · rw [if_neg (nI_nlt (by omega) (by omega)), Nat.max_eq_right (by omega)]
theorem m_listen (hl : l.stackTraces = false) {v : Int32} (h : RQ w T E σ) (hB : BookM w L) (hL : BookOk L (tN T)) : C_X10_listen l G w [.ref (G.2.1 40 0), .int v] (KM w (okB v 0 1) 1 1 (if v = 0 then oI (liF T E σ L (tN T)).1 else (liF T E σ L (tN T)).2)) noX := by
  have hS := h.1.1
  have hN := h.1.2.1
  refine e_X10_listen hl (fun M kk hM hk F => ?_)
  subst hM
  rintro _ rfl
  generalize hK : KM w (okB v 0 1) 1 1 (if v = 0 then oI (liF T E σ L (tN T)).1 else (liF T E σ L (tN T)).2) = K
  have f20 : ∀ b : Bool, okB v 0 1 = !b → Z M G 0 K noX (cl0 w) 20 [some (.ref (G.2.1 40 0)), some (.int v), none, none, none, none] [.int (bI b), .ref (G.2.1 40 0)] := by
    intro b hb
    refine b_X10_listen_20 F hk ?_
    rw [← hK]
    refine con_q hl (rs := 1) (by decide) (by decide) hb (fun hok => ?_)
    rw [hK]
    refine up_to (P := fun i => ∀ w' τ, Jk τ → TR w w' τ → Z M G 0 K noX w' 37 [some (.ref (G.2.1 40 0)), some (.int v), some (.int (oI (liF T E σ L i).1)), some (.int (liF T E σ L i).2), some (.int (nI i)), none] []) (tN T) (fun i hi ih w' τ hj t => ?_) (fun w' τ hj t => ?_) (cl0 w) (w.1 69 1) h.2.2.2.2.2 ⟨cl0_sm, cl0_0, cl0_69⟩
    · have q := t.rq h hj
      have er : liF T E σ L (i + 1) = if !akB L i && ((liF T E σ L i).1.isNone || decide (nI (stN T E σ L i) < (liF T E σ L i).2)) then (some i, nI (stN T E σ L i)) else liF T E σ L i := rfl
      rw [er] at ih
      refine b_X10_listen_37 F hk ⟨fun hc => ?_, fun _ => con_i (m_isTold hl (by omega) (hB.mv t.1) hL hN) ?_⟩
      · rw [q.2.1.1.2.1] at hc
        exact absurd hc (nI_ge hi (by omega))
      · rw [← nI_succ]
        refine ⟨fun h1 => con_iP (m_worstOf hl h hB hL hi hj t) ?_, fun h1 => ?_⟩
        · rintro w2 ⟨τ2, j2, t2⟩
          have ih := ih w2 τ2 j2 t2
          rw [bI_0 h1, Bool.not_false, Bool.true_and] at ih
          cases hq : (liF T E σ L i).1 with
          | none =>
            rw [hq] at ih
            exact ⟨fun _ => ih, fun hc => absurd rfl hc⟩
          | some c =>
            have hc31 : ¬ oI (some c) = -1 := by
              have : ∀ n c, (liF T E σ L n).1 = some c → c < n := by
                intro n
                induction n with
                | zero => intro c hc; cases hc
                | succ n ihn =>
                  intro c hc
                  have er2 : liF T E σ L (n + 1) = if !akB L n && ((liF T E σ L n).1.isNone || decide (nI (stN T E σ L n) < (liF T E σ L n).2)) then (some n, nI (stN T E σ L n)) else liF T E σ L n := rfl
                  rw [er2] at hc
                  split at hc
                  · cases hc; omega
                  · have := ihn c hc
                    omega
              have := this i c hq
              exact nI_neg1 (by omega)
            refine ⟨fun hz => absurd hz hc31, fun _ => ?_⟩
            have en : (some c : Option Nat).isNone = false := rfl
            rw [hq, en, Bool.false_or] at ih
            refine ⟨fun hlt => ?_, fun hlt => ?_⟩
            · rw [decide_eq_true hlt, if_pos rfl] at ih
              exact ih
            · rw [decide_eq_false hlt, if_neg (by decide), hq] at ih
              exact ih
        · have ih := ih w' τ hj t
          rw [bI_not.mp h1, Bool.not_true, Bool.false_and, if_neg (by decide)] at ih
          exact ih
    · have q := t.rq h hj
      refine b_X10_listen_37 F hk ⟨fun _ => ⟨fun h3 => ?_, fun h3 => ?_⟩, fun hc => ?_⟩
      · rw [← hK, if_neg h3]
        exact t.km hj hok
      · rw [← hK, if_pos (Classical.not_not.mp h3)]
        exact t.km hj hok
      · rw [q.2.1.1.2.1] at hc
        exact absurd (nI_le (Nat.le_refl _) (by omega)) hc
  exact con_i (m_in hl) ⟨fun h1 => f20 false (bI_not.mp h1), fun h1 => f20 true (bI_0 (Classical.not_not.mp h1))⟩
end RE
