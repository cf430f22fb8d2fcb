/-! A question of the law: both sides answer the same, or refuse the same. -/
theorem GC_lt : ∀ κ b k, GC κ b k → κ < 40 := fun κ b k q => by unfold GC at q; omega
theorem GM_ge : ∀ κ b k, GM κ b k → 40 ≤ κ := fun κ b k q => by unfold GM at q; omega
theorem setL_80 {w : Wd} {v : Int64} : (setL w 80 0 0 v).2.1 80 0 0 = v := by simp [setL]
theorem bpM_ge {rs : Nat} : ∀ κ b k, ((κ = 40 ∧ k = 0) ∨ (κ = 42 ∧ b = 0 ∧ k = rs)) → 40 ≤ κ := fun κ b k q => by omega
theorem IM.bumpT' {P : Pv} {w : Wd} (h : IM P w) : IM P (bumpT w) := h.near sm_I.sn (fun κ b k q => by omega)
theorem IM.bumpF' {P : Pv} {w : Wd} (h : IM P w) : IM P (bumpF w) := h.near sm_I.sn (fun κ b k q => by omega)
section AK
variable {l : Launch} {G : Gx} {k mc nL k' mc' nL' : Nat} {y y' : MethodName} {cc cc' : ByteArray} {rt rt' : Option FieldType} {w : Wd} {as as' : List Value} {P : Pv}
theorem ask_g {w1 w2 : Wd} {v : Int64} (hS : IS P) (hC : IC P w) (hM : IM P w) (hs : Sm GC w w1) (h0 : w2.1 40 0 0 = 0) (hs2 : Sm GM (setL w1 80 0 0 v) w2) (hj : Jk (w2.1 69 1)) : w2.1 40 0 0 = 0 ∧ w2.2.1 80 0 0 = v ∧ Iv w2 :=
  ⟨h0, by rw [hs2.2.1 80 0 0 (by omega)]; exact setL_80, P, hS, (hC.gc hS hs).out.far hS hs2 GM_ge, (hM.near hs.sn GC_lt).out.gm hs2 hj⟩
theorem ask_T {ok : Bool} {v : Int32} (hS : IS P) (hC : IC P w) (hM : IM P w) (hc : Con l G k mc y cc nL rt w as (KC w ok v) (XT w ok)) (hm : ∀ w1, IM P w1 → Con l G k' mc' y' cc' nL' rt' w1 as' (KM w1 ok 1 1 v) noX) :
    Con l G k mc y cc nL rt w as (fun r w1 => ∃ v, r = some (.int v) ∧ Con l G k' mc' y' cc' nL' rt' (setL w1 80 0 0 v.toInt64) as' (fun r2 w2 => r2 = some (.int v) ∧ w2.1 40 0 0 = 0 ∧ w2.2.1 80 0 0 = v.toInt64 ∧ Iv w2) noX)
      (fun E w1 => E = nIae ∧ Con l G k' mc' y' cc' nL' rt' w1 as' (fun r2 w2 => (∃ v, r2 = some (.int v)) ∧ w2.1 40 0 0 = 1 ∧ Iv w2) noX) := by
  refine con_mono hc ?_ ?_
  · rintro r w1 ⟨hok, rfl, hs⟩
    refine ⟨v, rfl, con_mono (hm _ (hM.near hs.sn GC_lt).out) ?_ (fun _ _ h => h)⟩
    rintro r2 w2 ⟨b, rfl, h1, -⟩
    obtain ⟨rfl, h0, hs2, hj⟩ := h1 hok
    exact ⟨rfl, ask_g hS hC hM hs h0 hs2 hj⟩
  · rintro E w1 ⟨hok, rfl, rfl⟩
    refine ⟨rfl, con_mono (hm _ hM.bumpT') ?_ (fun _ _ h => h)⟩
    rintro r2 w2 ⟨b, rfl, -, h2⟩
    have e := h2 hok
    subst e
    exact ⟨⟨b, rfl⟩, bpM_0, pT P, hS, (hC.bT hS).far hS bpM_sm bpM_ge, hM.bumpT'.bT⟩
theorem ask_F {ok : Bool} {v : Int32} (hS : IS P) (hC : IC P w) (hM : IM P w) (hc : Con l G k mc y cc nL rt w as (KC w ok v) (XF w ok)) (hm : ∀ w1, IM P w1 → Con l G k' mc' y' cc' nL' rt' w1 as' (KM w1 ok 1 0 v) noX) :
    Con l G k mc y cc nL rt w as (fun r w1 => ∃ v, r = some (.int v) ∧ Con l G k' mc' y' cc' nL' rt' (setL w1 80 0 0 v.toInt64) as' (fun r2 w2 => r2 = some (.int v) ∧ w2.1 40 0 0 = 0 ∧ w2.2.1 80 0 0 = v.toInt64 ∧ Iv w2) noX)
      (fun E w1 => E = nNse ∧ Con l G k' mc' y' cc' nL' rt' w1 as' (fun r2 w2 => (∃ v, r2 = some (.int v)) ∧ w2.1 40 0 0 = 1 ∧ Iv w2) noX) := by
  refine con_mono hc ?_ ?_
  · rintro r w1 ⟨hok, rfl, hs⟩
    refine ⟨v, rfl, con_mono (hm _ (hM.near hs.sn GC_lt).out) ?_ (fun _ _ h => h)⟩
    rintro r2 w2 ⟨b, rfl, h1, -⟩
    obtain ⟨rfl, h0, hs2, hj⟩ := h1 hok
    exact ⟨rfl, ask_g hS hC hM hs h0 hs2 hj⟩
  · rintro E w1 ⟨hok, rfl, rfl⟩
    refine ⟨rfl, con_mono (hm _ hM.bumpF') ?_ (fun _ _ h => h)⟩
    rintro r2 w2 ⟨b, rfl, -, h2⟩
    have e := h2 hok
    subst e
    exact ⟨⟨b, rfl⟩, bpM_0, pF P, hS, (hC.bF hS).far hS bpM_sm bpM_ge, hM.bumpF'.bF⟩
theorem ask_X {f t : Bool} {v : Int32} (hS : IS P) (hC : IC P w) (hM : IM P w) (hc : Con l G k mc y cc nL rt w as (KC w (f && t) v) (XX w f t)) (hm : ∀ w1, IM P w1 → Con l G k' mc' y' cc' nL' rt' w1 as' (KM2 w1 f t v) noX) :
    Con l G k mc y cc nL rt w as (fun r w1 => ∃ v, r = some (.int v) ∧ Con l G k' mc' y' cc' nL' rt' (setL w1 80 0 0 v.toInt64) as' (fun r2 w2 => r2 = some (.int v) ∧ w2.1 40 0 0 = 0 ∧ w2.2.1 80 0 0 = v.toInt64 ∧ Iv w2) noX)
      (fun E w1 => (E = nNse ∧ Con l G k' mc' y' cc' nL' rt' w1 as' (fun r2 w2 => (∃ v, r2 = some (.int v)) ∧ w2.1 40 0 0 = 1 ∧ Iv w2) noX) ∨ (E = nIae ∧ Con l G k' mc' y' cc' nL' rt' w1 as' (fun r2 w2 => (∃ v, r2 = some (.int v)) ∧ w2.1 40 0 0 = 2 ∧ Iv w2) noX)) := by
  refine con_mono hc ?_ ?_
  · rintro r w1 ⟨hok, rfl, hs⟩
    rw [Bool.and_eq_true] at hok
    refine ⟨v, rfl, con_mono (hm _ (hM.near hs.sn GC_lt).out) ?_ (fun _ _ h => h)⟩
    rintro r2 w2 ⟨b, rfl, h1, -⟩
    obtain ⟨rfl, h0, hs2, hj⟩ := h1 hok.1 hok.2
    exact ⟨rfl, ask_g hS hC hM hs h0 hs2 hj⟩
  · rintro E w1 (⟨hf, rfl, rfl⟩ | ⟨hf, ht, rfl, rfl⟩)
    · refine Or.inl ⟨rfl, con_mono (hm _ hM.bumpF') ?_ (fun _ _ h => h)⟩
      rintro r2 w2 ⟨b, rfl, -, h2, -⟩
      have e := h2 hf
      subst e
      exact ⟨⟨b, rfl⟩, bpM_0, pF P, hS, (hC.bF hS).far hS bpM_sm bpM_ge, hM.bumpF'.bF⟩
    · refine Or.inr ⟨rfl, con_mono (hm _ hM.bumpT') ?_ (fun _ _ h => h)⟩
      rintro r2 w2 ⟨b, rfl, -, -, h2⟩
      have e := h2 hf ht
      subst e
      exact ⟨⟨b, rfl⟩, bpM_0, pT P, hS, (hC.bT hS).far hS bpM_sm bpM_ge, hM.bumpT'.bT⟩
theorem ask_L {ok : Bool} {v : Int64} (hS : IS P) (hC : IC P w) (hM : IM P w) (hc : Con l G k mc y cc nL rt w as (KCl w ok v) (XT w ok)) (hm : ∀ w1, IM P w1 → Con l G k' mc' y' cc' nL' rt' w1 as' (KMl w1 ok 1 1 v) noX) :
    Con l G k mc y cc nL rt w as (fun r w1 => ∃ v, r = some (.long v) ∧ Con l G k' mc' y' cc' nL' rt' (setL w1 80 0 0 v) as' (fun r2 w2 => r2 = some (.long v) ∧ w2.1 40 0 0 = 0 ∧ w2.2.1 80 0 0 = v ∧ Iv w2) noX)
      (fun E w1 => E = nIae ∧ Con l G k' mc' y' cc' nL' rt' w1 as' (fun r2 w2 => (∃ v, r2 = some (.long v)) ∧ w2.1 40 0 0 = 1 ∧ Iv w2) noX) := by
  refine con_mono hc ?_ ?_
  · rintro r w1 ⟨hok, rfl, hs⟩
    refine ⟨v, rfl, con_mono (hm _ (hM.near hs.sn GC_lt).out) ?_ (fun _ _ h => h)⟩
    rintro r2 w2 ⟨b, rfl, h1, -⟩
    obtain ⟨rfl, h0, hs2, hj⟩ := h1 hok
    exact ⟨rfl, ask_g hS hC hM hs h0 hs2 hj⟩
  · rintro E w1 ⟨hok, rfl, rfl⟩
    refine ⟨rfl, con_mono (hm _ hM.bumpT') ?_ (fun _ _ h => h)⟩
    rintro r2 w2 ⟨b, rfl, -, h2⟩
    have e := h2 hok
    subst e
    exact ⟨⟨b, rfl⟩, bpM_0, pT P, hS, (hC.bT hS).far hS bpM_sm bpM_ge, hM.bumpT'.bT⟩
theorem ask_D {v : Int32} (hS : IS P) (hC : IC P w) (hM : IM P w) (hc : Con l G k mc y cc nL rt w as (KC w true v) noX) (hm : ∀ w1, IM P w1 → Con l G k' mc' y' cc' nL' rt' w1 as' (KM w1 true 1 1 v) noX) :
    Con l G k mc y cc nL rt w as (fun r w1 => ∃ v, r = some (.int v) ∧ Con l G k' mc' y' cc' nL' rt' w1 as' (fun r2 w2 => r2 = some (.int v) ∧ Iv w2) noX) noX := by
  refine con_mono hc ?_ (fun _ _ h => h)
  rintro r w1 ⟨-, rfl, hs⟩
  have hM1 := hM.near hs.sn GC_lt
  refine ⟨v, rfl, con_mono (hm _ hM1) ?_ (fun _ _ h => h)⟩
  rintro r2 w2 ⟨b, rfl, h1, -⟩
  obtain ⟨rfl, h0, hs2, hj⟩ := h1 rfl
  exact ⟨rfl, P, hS, (hC.gc hS hs).far hS hs2 GM_ge, hM1.gm hs2 hj⟩
end AK
section QR
variable {M : Mx} {G : Gx} {b L : Nat} {xs : Nat → Int32} {Qp : State → Prop} {n ns : Nat} {w : Wd} {i : Nat} {P : Pv}

theorem r_singer (F : FL M G b L xs) (hi : i + 9 ≤ L) (hL : L ≤ 576) (hn : n + 16 ≤ 600128) (hns : ns + 96 ≤ 7301098) (hS : IS P) (hC : IC P w) (hM : IM P w) (hK : ∀ w2, Iv w2 → ZL M G Qp (n + 16) (ns + 96) w2 2606 (lB G b i) []) : ZL M G Qp n ns w 611 (lB G b i) [] :=
  q_singer F hi hL hn hns (ask_X hS hC hM (c_singer F.2.2.2.2.2.2.2.2.1 (cq hS hC)) (fun w1 h => m_singer F.2.2.2.2.2.2.2.2.1 (iq hS h))) hK
theorem r_note (F : FL M G b L xs) (hi : i + 9 ≤ L) (hL : L ≤ 576) (hn : n + 16 ≤ 600128) (hns : ns + 96 ≤ 7301098) (hS : IS P) (hC : IC P w) (hM : IM P w) (hK : ∀ w2, Iv w2 → ZL M G Qp (n + 16) (ns + 96) w2 2606 (lB G b i) []) : ZL M G Qp n ns w 679 (lB G b i) [] :=
  q_note F hi hL hn hns (ask_X hS hC hM (c_note F.2.2.2.2.2.2.2.2.1 (cq hS hC)) (fun w1 h => m_note F.2.2.2.2.2.2.2.2.1 (iq hS h))) hK
theorem r_like (F : FL M G b L xs) (hi : i + 9 ≤ L) (hL : L ≤ 576) (hn : n + 16 ≤ 600128) (hns : ns + 96 ≤ 7301098) (hS : IS P) (hC : IC P w) (hM : IM P w) (hK : ∀ w2, Iv w2 → ZL M G Qp (n + 16) (ns + 96) w2 2606 (lB G b i) []) : ZL M G Qp n ns w 747 (lB G b i) [] :=
  q_like F hi hL hn hns (ask_X hS hC hM (c_like F.2.2.2.2.2.2.2.2.1 (cq hS hC)) (fun w1 h => m_like F.2.2.2.2.2.2.2.2.1 (iq hS h))) hK
theorem r_takes (F : FL M G b L xs) (hi : i + 9 ≤ L) (hL : L ≤ 576) (hn : n + 16 ≤ 600128) (hns : ns + 96 ≤ 7301098) (hS : IS P) (hC : IC P w) (hM : IM P w) (hK : ∀ w2, Iv w2 → ZL M G Qp (n + 16) (ns + 96) w2 2606 (lB G b i) []) : ZL M G Qp n ns w 815 (lB G b i) [] :=
  q_takes F hi hL hn hns (ask_F hS hC hM (c_takes F.2.2.2.2.2.2.2.2.1 (cq hS hC)) (fun w1 h => m_takes F.2.2.2.2.2.2.2.2.1 (iq hS h))) hK
theorem r_would (F : FL M G b L xs) (hi : i + 9 ≤ L) (hL : L ≤ 576) (hn : n + 16 ≤ 600128) (hns : ns + 96 ≤ 7301098) (hS : IS P) (hC : IC P w) (hM : IM P w) (hK : ∀ w2, Iv w2 → ZL M G Qp (n + 16) (ns + 96) w2 2606 (lB G b i) []) : ZL M G Qp n ns w 883 (lB G b i) [] :=
  q_would F hi hL hn hns (ask_T hS hC hM (c_would F.2.2.2.2.2.2.2.2.1 (cq hS hC)) (fun w1 h => m_would F.2.2.2.2.2.2.2.2.1 (iq hS h))) hK
theorem r_ahead (F : FL M G b L xs) (hi : i + 9 ≤ L) (hL : L ≤ 576) (hn : n + 16 ≤ 600128) (hns : ns + 96 ≤ 7301098) (hS : IS P) (hC : IC P w) (hM : IM P w) (hK : ∀ w2, Iv w2 → ZL M G Qp (n + 16) (ns + 96) w2 2606 (lB G b i) []) : ZL M G Qp n ns w 1029 (lB G b i) [] :=
  q_ahead F hi hL hn hns (ask_T hS hC hM (c_ahead F.2.2.2.2.2.2.2.2.1 (cq hS hC) (ipd hS)) (fun w1 h => m_ahead F.2.2.2.2.2.2.2.2.1 (iq hS h))) hK
theorem r_cast (F : FL M G b L xs) (hi : i + 9 ≤ L) (hL : L ≤ 576) (hn : n + 16 ≤ 600128) (hns : ns + 96 ≤ 7301098) (hS : IS P) (hC : IC P w) (hM : IM P w) (hK : ∀ w2, Iv w2 → ZL M G Qp (n + 16) (ns + 96) w2 2606 (lB G b i) []) : ZL M G Qp n ns w 1097 (lB G b i) [] :=
  q_cast F hi hL hn hns (ask_D hS hC hM (c_cast F.2.2.2.2.2.2.2.2.1 (cq hS hC) (ipd hS)) (fun w1 h => m_cast F.2.2.2.2.2.2.2.2.1 (iq hS h))) hK
theorem r_handed (F : FL M G b L xs) (hi : i + 9 ≤ L) (hL : L ≤ 576) (hn : n + 16 ≤ 600128) (hns : ns + 96 ≤ 7301098) (hS : IS P) (hC : IC P w) (hM : IM P w) (hK : ∀ w2, Iv w2 → ZL M G Qp (n + 16) (ns + 96) w2 2606 (lB G b i) []) : ZL M G Qp n ns w 1110 (lB G b i) [] :=
  q_handed F hi hL hn hns (ask_T hS hC hM (c_handed F.2.2.2.2.2.2.2.2.1 (cq hS hC)) (fun w1 h => m_handed F.2.2.2.2.2.2.2.2.1 (iq hS h))) hK
theorem r_bench (F : FL M G b L xs) (hi : i + 9 ≤ L) (hL : L ≤ 576) (hn : n + 16 ≤ 600128) (hns : ns + 96 ≤ 7301098) (hS : IS P) (hC : IC P w) (hM : IM P w) (hK : ∀ w2, Iv w2 → ZL M G Qp (n + 16) (ns + 96) w2 2606 (lB G b i) []) : ZL M G Qp n ns w 1178 (lB G b i) [] :=
  q_bench F hi hL hn hns (ask_D hS hC hM (c_bench F.2.2.2.2.2.2.2.2.1 (cq hS hC)) (fun w1 h => m_bench F.2.2.2.2.2.2.2.2.1 (iq hS h))) hK
theorem r_benched (F : FL M G b L xs) (hi : i + 9 ≤ L) (hL : L ≤ 576) (hn : n + 16 ≤ 600128) (hns : ns + 96 ≤ 7301098) (hS : IS P) (hC : IC P w) (hM : IM P w) (hK : ∀ w2, Iv w2 → ZL M G Qp (n + 16) (ns + 96) w2 2606 (lB G b i) []) : ZL M G Qp n ns w 1191 (lB G b i) [] :=
  q_benched F hi hL hn hns (ask_T hS hC hM (c_benched F.2.2.2.2.2.2.2.2.1 (cq hS hC)) (fun w1 h => m_benched F.2.2.2.2.2.2.2.2.1 (iq hS h))) hK
theorem r_wording (F : FL M G b L xs) (hi : i + 9 ≤ L) (hL : L ≤ 576) (hn : n + 16 ≤ 600128) (hns : ns + 96 ≤ 7301098) (hS : IS P) (hC : IC P w) (hM : IM P w) (hK : ∀ w2, Iv w2 → ZL M G Qp (n + 16) (ns + 96) w2 2606 (lB G b i) []) : ZL M G Qp n ns w 1247 (lB G b i) [] :=
  q_wording F hi hL hn hns (ask_D hS hC hM (c_wording F.2.2.2.2.2.2.2.2.1 (cq hS hC)) (fun w1 h => m_wording F.2.2.2.2.2.2.2.2.1 (iq hS h))) hK
theorem r_wordings (F : FL M G b L xs) (hi : i + 9 ≤ L) (hL : L ≤ 576) (hn : n + 16 ≤ 600128) (hns : ns + 96 ≤ 7301098) (hS : IS P) (hC : IC P w) (hM : IM P w) (hK : ∀ w2, Iv w2 → ZL M G Qp (n + 16) (ns + 96) w2 2606 (lB G b i) []) : ZL M G Qp n ns w 1260 (lB G b i) [] :=
  q_wordings F hi hL hn hns (ask_L hS hC hM (c_wordings F.2.2.2.2.2.2.2.2.1 (cq hS hC)) (fun w1 h => m_wordings F.2.2.2.2.2.2.2.2.1 (iq hS h))) hK
theorem r_who (F : FL M G b L xs) (hi : i + 9 ≤ L) (hL : L ≤ 576) (hn : n + 16 ≤ 600128) (hns : ns + 96 ≤ 7301098) (hS : IS P) (hC : IC P w) (hM : IM P w) (hK : ∀ w2, Iv w2 → ZL M G Qp (n + 16) (ns + 96) w2 2606 (lB G b i) []) : ZL M G Qp n ns w 1315 (lB G b i) [] :=
  q_who F hi hL hn hns (ask_T hS hC hM (c_who F.2.2.2.2.2.2.2.2.1 (cq hS hC) (ipd hS) (cb hS hC)) (fun w1 h => m_who F.2.2.2.2.2.2.2.2.1 (iq hS h) (ibm h) (ibo hS))) hK
theorem r_listen (F : FL M G b L xs) (hi : i + 9 ≤ L) (hL : L ≤ 576) (hn : n + 16 ≤ 600128) (hns : ns + 96 ≤ 7301098) (hS : IS P) (hC : IC P w) (hM : IM P w) (hK : ∀ w2, Iv w2 → ZL M G Qp (n + 16) (ns + 96) w2 2606 (lB G b i) []) : ZL M G Qp n ns w 1371 (lB G b i) [] :=
  q_listen F hi hL hn hns (ask_T hS hC hM (c_listen F.2.2.2.2.2.2.2.2.1 (cq hS hC) (ipd hS) (cb hS hC)) (fun w1 h => m_listen F.2.2.2.2.2.2.2.2.1 (iq hS h) (ibm h) (ibo hS))) hK
theorem r_duty (F : FL M G b L xs) (hi : i + 9 ≤ L) (hL : L ≤ 576) (hn : n + 16 ≤ 600128) (hns : ns + 96 ≤ 7301098) (hS : IS P) (hC : IC P w) (hM : IM P w) (hK : ∀ w2, Iv w2 → ZL M G Qp (n + 16) (ns + 96) w2 2606 (lB G b i) []) : ZL M G Qp n ns w 1427 (lB G b i) [] :=
  q_duty F hi hL hn hns (ask_F hS hC hM (c_duty F.2.2.2.2.2.2.2.2.1 (cq hS hC)) (fun w1 h => m_duty F.2.2.2.2.2.2.2.2.1 (iq hS h))) hK
theorem r_range (F : FL M G b L xs) (hi : i + 9 ≤ L) (hL : L ≤ 576) (hn : n + 16 ≤ 600128) (hns : ns + 96 ≤ 7301098) (hS : IS P) (hC : IC P w) (hM : IM P w) (hK : ∀ w2, Iv w2 → ZL M G Qp (n + 16) (ns + 96) w2 2606 (lB G b i) []) : ZL M G Qp n ns w 1483 (lB G b i) [] :=
  q_range F hi hL hn hns (ask_F hS hC hM (c_range F.2.2.2.2.2.2.2.2.1 (cq hS hC)) (fun w1 h => m_range F.2.2.2.2.2.2.2.2.1 (iq hS h))) hK
theorem r_quarrel (F : FL M G b L xs) (hi : i + 9 ≤ L) (hL : L ≤ 576) (hn : n + 16 ≤ 600128) (hns : ns + 96 ≤ 7301098) (hS : IS P) (hC : IC P w) (hM : IM P w) (hK : ∀ w2, Iv w2 → ZL M G Qp (n + 16) (ns + 96) w2 2606 (lB G b i) []) : ZL M G Qp n ns w 1539 (lB G b i) [] :=
  q_quarrel F hi hL hn hns (ask_T hS hC hM (c_quarrel F.2.2.2.2.2.2.2.2.1 ) (fun w1 h => m_quarrel F.2.2.2.2.2.2.2.2.1 (iq hS h))) hK
theorem r_enough (F : FL M G b L xs) (hi : i + 9 ≤ L) (hL : L ≤ 576) (hn : n + 16 ≤ 600128) (hns : ns + 96 ≤ 7301098) (hS : IS P) (hC : IC P w) (hM : IM P w) (hK : ∀ w2, Iv w2 → ZL M G Qp (n + 16) (ns + 96) w2 2606 (lB G b i) []) : ZL M G Qp n ns w 1619 (lB G b i) [] :=
  q_enough F hi hL hn hns (ask_L hS hC hM (c_enough F.2.2.2.2.2.2.2.2.1 ) (fun w1 h => m_enough F.2.2.2.2.2.2.2.2.1 (iq hS h))) hK
theorem r_rent (F : FL M G b L xs) (hi : i + 9 ≤ L) (hL : L ≤ 576) (hn : n + 16 ≤ 600128) (hns : ns + 96 ≤ 7301098) (hS : IS P) (hC : IC P w) (hM : IM P w) (hK : ∀ w2, Iv w2 → ZL M G Qp (n + 16) (ns + 96) w2 2606 (lB G b i) []) : ZL M G Qp n ns w 1710 (lB G b i) [] :=
  q_rent F hi hL hn hns (ask_X hS hC hM (c_rent F.2.2.2.2.2.2.2.2.1 (cq hS hC)) (fun w1 h => m_rent F.2.2.2.2.2.2.2.2.1 (iq hS h))) hK
theorem r_dearest (F : FL M G b L xs) (hi : i + 9 ≤ L) (hL : L ≤ 576) (hn : n + 16 ≤ 600128) (hns : ns + 96 ≤ 7301098) (hS : IS P) (hC : IC P w) (hM : IM P w) (hK : ∀ w2, Iv w2 → ZL M G Qp (n + 16) (ns + 96) w2 2606 (lB G b i) []) : ZL M G Qp n ns w 1790 (lB G b i) [] :=
  q_dearest F hi hL hn hns (ask_T hS hC hM (c_dearest F.2.2.2.2.2.2.2.2.1 hS.1 hC.1.1.1) (fun w1 h => m_dearest F.2.2.2.2.2.2.2.2.1 (iq hS h))) hK
theorem r_voices (F : FL M G b L xs) (hi : i + 9 ≤ L) (hL : L ≤ 576) (hn : n + 16 ≤ 600128) (hns : ns + 96 ≤ 7301098) (hS : IS P) (hC : IC P w) (hM : IM P w) (hK : ∀ w2, Iv w2 → ZL M G Qp (n + 16) (ns + 96) w2 2606 (lB G b i) []) : ZL M G Qp n ns w 1846 (lB G b i) [] :=
  q_voices F hi hL hn hns (ask_T hS hC hM (c_voices F.2.2.2.2.2.2.2.2.1 hS.1 hC.1.1.1) (fun w1 h => m_voices F.2.2.2.2.2.2.2.2.1 (iq hS h))) hK
theorem r_sounds (F : FL M G b L xs) (hi : i + 9 ≤ L) (hL : L ≤ 576) (hn : n + 16 ≤ 600128) (hns : ns + 96 ≤ 7301098) (hS : IS P) (hC : IC P w) (hM : IM P w) (hK : ∀ w2, Iv w2 → ZL M G Qp (n + 16) (ns + 96) w2 2606 (lB G b i) []) : ZL M G Qp n ns w 1902 (lB G b i) [] :=
  q_sounds F hi hL hn hns (ask_T hS hC hM (c_sounds F.2.2.2.2.2.2.2.2.1 hS.1 hC.1.1.1 (cq hS hC).2.2) (fun w1 h => m_sounds F.2.2.2.2.2.2.2.2.1 (iq hS h))) hK
theorem r_beats (F : FL M G b L xs) (hi : i + 9 ≤ L) (hL : L ≤ 576) (hn : n + 16 ≤ 600128) (hns : ns + 96 ≤ 7301098) (hS : IS P) (hC : IC P w) (hM : IM P w) (hK : ∀ w2, Iv w2 → ZL M G Qp (n + 16) (ns + 96) w2 2606 (lB G b i) []) : ZL M G Qp n ns w 1958 (lB G b i) [] :=
  q_beats F hi hL hn hns (ask_T hS hC hM (c_beats F.2.2.2.2.2.2.2.2.1 hS.1 hC.1.1.1 (cq hS hC).2.2) (fun w1 h => m_beats F.2.2.2.2.2.2.2.2.1 (iq hS h))) hK
theorem r_words (F : FL M G b L xs) (hi : i + 9 ≤ L) (hL : L ≤ 576) (hn : n + 16 ≤ 600128) (hns : ns + 96 ≤ 7301098) (hS : IS P) (hC : IC P w) (hM : IM P w) (hK : ∀ w2, Iv w2 → ZL M G Qp (n + 16) (ns + 96) w2 2606 (lB G b i) []) : ZL M G Qp n ns w 2014 (lB G b i) [] :=
  q_words F hi hL hn hns (ask_F hS hC hM (c_words F.2.2.2.2.2.2.2.2.1 hS.1 hC.1.1.1) (fun w1 h => m_words F.2.2.2.2.2.2.2.2.1 (iq hS h))) hK
theorem r_mute (F : FL M G b L xs) (hi : i + 9 ≤ L) (hL : L ≤ 576) (hn : n + 16 ≤ 600128) (hns : ns + 96 ≤ 7301098) (hS : IS P) (hC : IC P w) (hM : IM P w) (hK : ∀ w2, Iv w2 → ZL M G Qp (n + 16) (ns + 96) w2 2606 (lB G b i) []) : ZL M G Qp n ns w 2070 (lB G b i) [] :=
  q_mute F hi hL hn hns (ask_D hS hC hM (c_mute F.2.2.2.2.2.2.2.2.1 (cq hS hC)) (fun w1 h => m_mute F.2.2.2.2.2.2.2.2.1 (iq hS h))) hK
theorem r_idle (F : FL M G b L xs) (hi : i + 9 ≤ L) (hL : L ≤ 576) (hn : n + 16 ≤ 600128) (hns : ns + 96 ≤ 7301098) (hS : IS P) (hC : IC P w) (hM : IM P w) (hK : ∀ w2, Iv w2 → ZL M G Qp (n + 16) (ns + 96) w2 2606 (lB G b i) []) : ZL M G Qp n ns w 2083 (lB G b i) [] :=
  q_idle F hi hL hn hns (ask_D hS hC hM (c_idle F.2.2.2.2.2.2.2.2.1 (cq hS hC)) (fun w1 h => m_idle F.2.2.2.2.2.2.2.2.1 (iq hS h))) hK
theorem r_alone (F : FL M G b L xs) (hi : i + 9 ≤ L) (hL : L ≤ 576) (hn : n + 16 ≤ 600128) (hns : ns + 96 ≤ 7301098) (hS : IS P) (hC : IC P w) (hM : IM P w) (hK : ∀ w2, Iv w2 → ZL M G Qp (n + 16) (ns + 96) w2 2606 (lB G b i) []) : ZL M G Qp n ns w 2096 (lB G b i) [] :=
  q_alone F hi hL hn hns (ask_T hS hC hM (c_alone F.2.2.2.2.2.2.2.2.1 (cq hS hC)) (fun w1 h => m_alone F.2.2.2.2.2.2.2.2.1 (iq hS h))) hK
theorem r_longest (F : FL M G b L xs) (hi : i + 9 ≤ L) (hL : L ≤ 576) (hn : n + 16 ≤ 600128) (hns : ns + 96 ≤ 7301098) (hS : IS P) (hC : IC P w) (hM : IM P w) (hK : ∀ w2, Iv w2 → ZL M G Qp (n + 16) (ns + 96) w2 2606 (lB G b i) []) : ZL M G Qp n ns w 2152 (lB G b i) [] :=
  q_longest F hi hL hn hns (ask_T hS hC hM (c_longest F.2.2.2.2.2.2.2.2.1 hS.1 hC.1.1.1) (fun w1 h => m_longest F.2.2.2.2.2.2.2.2.1 (iq hS h))) hK
theorem r_chorus (F : FL M G b L xs) (hi : i + 9 ≤ L) (hL : L ≤ 576) (hn : n + 16 ≤ 600128) (hns : ns + 96 ≤ 7301098) (hS : IS P) (hC : IC P w) (hM : IM P w) (hK : ∀ w2, Iv w2 → ZL M G Qp (n + 16) (ns + 96) w2 2606 (lB G b i) []) : ZL M G Qp n ns w 2208 (lB G b i) [] :=
  q_chorus F hi hL hn hns (ask_T hS hC hM (c_chorus F.2.2.2.2.2.2.2.2.1 (cq hS hC) (ipd hS)) (fun w1 h => m_chorus F.2.2.2.2.2.2.2.2.1 (iq hS h))) hK
theorem r_spare (F : FL M G b L xs) (hi : i + 9 ≤ L) (hL : L ≤ 576) (hn : n + 16 ≤ 600128) (hns : ns + 96 ≤ 7301098) (hS : IS P) (hC : IC P w) (hM : IM P w) (hK : ∀ w2, Iv w2 → ZL M G Qp (n + 16) (ns + 96) w2 2606 (lB G b i) []) : ZL M G Qp n ns w 2264 (lB G b i) [] :=
  q_spare F hi hL hn hns (ask_T hS hC hM (c_spare F.2.2.2.2.2.2.2.2.1 (cq hS hC)) (fun w1 h => m_spare F.2.2.2.2.2.2.2.2.1 (iq hS h))) hK
theorem r_sunday (F : FL M G b L xs) (hi : i + 9 ≤ L) (hL : L ≤ 576) (hn : n + 16 ≤ 600128) (hns : ns + 96 ≤ 7301098) (hS : IS P) (hC : IC P w) (hM : IM P w) (hK : ∀ w2, Iv w2 → ZL M G Qp (n + 16) (ns + 96) w2 2606 (lB G b i) []) : ZL M G Qp n ns w 2320 (lB G b i) [] :=
  q_sunday F hi hL hn hns (ask_T hS hC hM (c_sunday F.2.2.2.2.2.2.2.2.1 (cq hS hC) (ipd hS) (itd hS)) (fun w1 h => m_sunday F.2.2.2.2.2.2.2.2.1 (iq hS h) (ipd hS))) hK
theorem r_span (F : FL M G b L xs) (hi : i + 9 ≤ L) (hL : L ≤ 576) (hn : n + 16 ≤ 600128) (hns : ns + 96 ≤ 7301098) (hS : IS P) (hC : IC P w) (hM : IM P w) (hK : ∀ w2, Iv w2 → ZL M G Qp (n + 16) (ns + 96) w2 2606 (lB G b i) []) : ZL M G Qp n ns w 2412 (lB G b i) [] :=
  q_span F hi hL hn hns (ask_T hS hC hM (c_span F.2.2.2.2.2.2.2.2.1 (cq hS hC) (itd hS)) (fun w1 h => m_span F.2.2.2.2.2.2.2.2.1 (iq hS h) (ipd hS))) hK
theorem r_told (F : FL M G b L xs) (hi : i + 9 ≤ L) (hL : L ≤ 576) (hn : n + 16 ≤ 600128) (hns : ns + 96 ≤ 7301098) (hS : IS P) (hC : IC P w) (hM : IM P w) (hK : ∀ w2, Iv w2 → ZL M G Qp (n + 16) (ns + 96) w2 2606 (lB G b i) []) : ZL M G Qp n ns w 555 (lB G b i) [] := by
  have h1 := c_told (o := xs (i + 1)) (G := G) F.2.2.2.2.2.2.2.2.1 (cq hS hC) (ipd hS) (cb hS hC)
  rw [hC.1.2.2.2.2] at h1
  refine q_told F hi hL hn hns (ask_T hS hC hM h1 (fun w1 h => ?_)) hK
  have h2 := m_told (o := xs (i + 1)) (G := G) F.2.2.2.2.2.2.2.2.1 (iq hS h) (ibm h).1
  rw [h.1.2.2.2.2.2.2.2.2.2] at h2
  exact h2
end QR
