set_option maxRecDepth 20000 in
theorem e_X10_all {l : Launch} {G : Gx} {w : Wd} {jr0 : Nat} (hr0 : jr0 < cnt 69) {p1 : Int32} {K : Option Value → Wd → Prop} {X : String → Wd → Prop} (hl : l.stackTraces = false)
    (h : ∀ (M : Mx) (kk : Nat), mL M = l → 1 ≤ kk → Fx M G RX10 cX10_all 5 (some .int) kk 0 → Z M G 0 K X w 5 [some (.ref (G.2.1 40 0)), some (.ref (G.2.1 69 jr0)), some (.int p1), some (.int 0), some (.int 0)] []) :
    Con l G 1 0 yX10_all cX10_all 5 (some .int) w [.ref (G.2.1 40 0), .ref (G.2.1 69 jr0), .int p1] K X := by
  refine con_intro hl (by decide +kernel) (Nat.le_of_ble_eq_true rfl) (Nat.le_of_ble_eq_true rfl) (fun M kk hM hk F => ?_)
  have h := h M kk hM hk F
  show Z M G 0 K X w 0 [some (.ref (G.2.1 40 0)), some (.ref (G.2.1 69 jr0)), some (.int p1), none, none] []
  refine z_iconst F 0 dX10_all_0 (by decide) ?_
  refine z_istore_n F dX10_all_1 (Nat.le_of_ble_eq_true rfl) ?_
  refine z_iconst F 0 dX10_all_2 (by decide) ?_
  refine z_istore F dX10_all_3 (Nat.le_of_ble_eq_true rfl) ?_
  exact h
set_option maxRecDepth 20000 in
theorem b_X10_all_5 {M : Mx} {G : Gx} {kk : Nat} {w : Wd} {jr0 : Nat} (hr0 : jr0 < cnt 69) {x2 : Int32} {x3 : Int32} {x4 : Int32} {K : Option Value → Wd → Prop} {X : String → Wd → Prop} (F : Fx M G RX10 cX10_all 5 (some .int) kk 0) (hk : 1 ≤ kk)
    (h : (((w.1 44 0 0) ≤ x4 → K (some (.int x3)) w) ∧ (¬ ((w.1 44 0 0) ≤ x4) → (vp_in (x2 + x4) 57 ∧ Z M G 0 K X w 5 [some (.ref (G.2.1 40 0)), some (.ref (G.2.1 69 jr0)), some (.int x2), some (.int (x3 + (w.1 69 jr0 ((x2 + x4 : Int32).toNatClampNeg)))), some (.int (x4 + 1))] [])))) :
    Z M G 0 K X w 5 [some (.ref (G.2.1 40 0)), some (.ref (G.2.1 69 jr0)), some (.int x2), some (.int x3), some (.int x4)] [] := by
  refine z_iload F dX10_all_5 rfl ?_
  refine z_aload_n F dX10_all_7 rfl ?_
  refine z_getR F 12 44 0 rfl (by decide) (by decide) rfl rfl rfl lk_X10_23 dX10_all_8 ?_
  refine z_iconst F 0 dX10_all_11 (by decide) ?_
  refine z_ialdK F 0 (by decide) rfl (by decide) (by unfold vp_in; decide) dX10_all_12 ?_
  refine z_icmp_ge F 31 dX10_all_13 (by decide) ⟨fun hc => ?_, fun hc => ?_⟩
  · have h := h.1 hc
    refine z_iload_n F dX10_all_31 rfl ?_
    exact z_iret F dX10_all_32 (by decide) h
  · have h := h.2 hc
    refine z_iload_n F dX10_all_16 rfl ?_
    refine z_aload_n F dX10_all_17 rfl ?_
    refine z_iload_n F dX10_all_18 rfl ?_
    refine z_iload F dX10_all_19 rfl ?_
    refine z_iadd F dX10_all_21 ?_
    obtain ⟨hb, h⟩ := h
    refine z_ialdK F ((x2 + x4 : Int32).toNatClampNeg) rfl rfl hr0 hb dX10_all_22 ?_
    refine z_iadd F dX10_all_23 ?_
    refine z_istore_n F dX10_all_24 (Nat.le_of_ble_eq_true rfl) ?_
    refine z_iinc F (x4 + 1) dX10_all_25 rfl rfl (Nat.le_of_ble_eq_true rfl) ?_
    refine z_goto F 5 dX10_all_28 (by decide) ?_
    exact h
set_option maxRecDepth 20000 in
theorem e_X10_hoarse {l : Launch} {G : Gx} {w : Wd} {jr0 : Nat} (hr0 : jr0 < cnt 69) {K : Option Value → Wd → Prop} {X : String → Wd → Prop} (hl : l.stackTraces = false)
    (h : ∀ (M : Mx) (kk : Nat), mL M = l → 1 ≤ kk → Fx M G RX10 cX10_hoarse 4 (some .int) kk 0 → Z M G 0 K X w 4 [some (.ref (G.2.1 40 0)), some (.ref (G.2.1 69 jr0)), some (.int 0), some (.int 0)] []) :
    Con l G 1 0 yX10_hoarse cX10_hoarse 4 (some .int) w [.ref (G.2.1 40 0), .ref (G.2.1 69 jr0)] K X := by
  refine con_intro hl (by decide +kernel) (Nat.le_of_ble_eq_true rfl) (Nat.le_of_ble_eq_true rfl) (fun M kk hM hk F => ?_)
  have h := h M kk hM hk F
  show Z M G 0 K X w 0 [some (.ref (G.2.1 40 0)), some (.ref (G.2.1 69 jr0)), none, none] []
  refine z_iconst F 0 dX10_hoarse_0 (by decide) ?_
  refine z_istore_n F dX10_hoarse_1 (Nat.le_of_ble_eq_true rfl) ?_
  refine z_iconst F 0 dX10_hoarse_2 (by decide) ?_
  refine z_istore_n F dX10_hoarse_3 (Nat.le_of_ble_eq_true rfl) ?_
  exact h
set_option maxRecDepth 20000 in
theorem b_X10_hoarse_4 {M : Mx} {G : Gx} {kk : Nat} {w : Wd} {jr0 : Nat} (hr0 : jr0 < cnt 69) {x2 : Int32} {x3 : Int32} {K : Option Value → Wd → Prop} {X : String → Wd → Prop} (F : Fx M G RX10 cX10_hoarse 4 (some .int) kk 0) (hk : 1 ≤ kk)
    (h : (((w.1 44 0 0) ≤ x3 → K (some (.int x2)) w) ∧ (¬ ((w.1 44 0 0) ≤ x3) → (vp_in ((7 : Int32) + x3) 57 ∧ Z M G 0 K X w 4 [some (.ref (G.2.1 40 0)), some (.ref (G.2.1 69 jr0)), some (.int (x2 ||| ((w.1 69 jr0 (((7 : Int32) + x3 : Int32).toNatClampNeg)) <<< (x3 &&& 31)))), some (.int (x3 + 1))] [])))) :
    Z M G 0 K X w 4 [some (.ref (G.2.1 40 0)), some (.ref (G.2.1 69 jr0)), some (.int x2), some (.int x3)] [] := by
  refine z_iload_n F dX10_hoarse_4 rfl ?_
  refine z_aload_n F dX10_hoarse_5 rfl ?_
  refine z_getR F 12 44 0 rfl (by decide) (by decide) rfl rfl rfl lk_X10_23 dX10_hoarse_6 ?_
  refine z_iconst F 0 dX10_hoarse_9 (by decide) ?_
  refine z_ialdK F 0 (by decide) rfl (by decide) (by unfold vp_in; decide) dX10_hoarse_10 ?_
  refine z_icmp_ge F 31 dX10_hoarse_11 (by decide) ⟨fun hc => ?_, fun hc => ?_⟩
  · have h := h.1 hc
    refine z_iload_n F dX10_hoarse_31 rfl ?_
    exact z_iret F dX10_hoarse_32 (by decide) h
  · have h := h.2 hc
    refine z_iload_n F dX10_hoarse_14 rfl ?_
    refine z_aload_n F dX10_hoarse_15 rfl ?_
    refine z_bipush F 7 dX10_hoarse_16 (by decide) ?_
    refine z_iload_n F dX10_hoarse_18 rfl ?_
    refine z_iadd F dX10_hoarse_19 ?_
    obtain ⟨hb, h⟩ := h
    refine z_ialdK F (((7 : Int32) + x3 : Int32).toNatClampNeg) rfl rfl hr0 hb dX10_hoarse_20 ?_
    refine z_iload_n F dX10_hoarse_21 rfl ?_
    refine z_ishl F dX10_hoarse_22 ?_
    refine z_ior F dX10_hoarse_23 ?_
    refine z_istore_n F dX10_hoarse_24 (Nat.le_of_ble_eq_true rfl) ?_
    refine z_iinc F (x3 + 1) dX10_hoarse_25 rfl rfl (Nat.le_of_ble_eq_true rfl) ?_
    refine z_goto F 4 dX10_hoarse_28 (by decide) ?_
    exact h
set_option maxRecDepth 20000 in
theorem e_X10_told {l : Launch} {G : Gx} {w : Wd} {p0 : Int32} {K : Option Value → Wd → Prop} {X : String → Wd → Prop} (hl : l.stackTraces = false)
    (h : ∀ (M : Mx) (kk : Nat), mL M = l → 2 ≤ kk → Fx M G RX10 cX10_told 4 (some .int) kk 0 → (∀ w1 : Wd, w1 = setI w 40 0 0 0 → Con (mL M) G 1 0 yX10_in cX10_in 3 (some .boolean) w1 [.int p0, .int 0, .int 11] (fun r w3 => ∃ v2 : Int32, r = some (.int v2) ∧ ((¬ v2 = 0 → Z M G 0 K X w3 21 [some (.ref (G.2.1 40 0)), some (.int p0), none, none] [.int 0, .ref (G.2.1 40 0)]) ∧ (¬ (¬ v2 = 0) → Z M G 0 K X w3 21 [some (.ref (G.2.1 40 0)), some (.int p0), none, none] [.int 1, .ref (G.2.1 40 0)]))) X)) :
    Con l G 2 0 yX10_told cX10_told 4 (some .int) w [.ref (G.2.1 40 0), .int p0] K X := by
  refine con_intro hl (by decide +kernel) (Nat.le_of_ble_eq_true rfl) (Nat.le_of_ble_eq_true rfl) (fun M kk hM hk F => ?_)
  have h := h M kk hM hk F
  show Z M G 0 K X w 0 [some (.ref (G.2.1 40 0)), some (.int p0), none, none] []
  refine z_aload_n F dX10_told_0 rfl ?_
  refine z_iconst F 0 dX10_told_1 (by decide) ?_
  refine z_putIW F 0 rfl (by decide) (by decide) rfl lk_X10_95 dX10_told_2 (fun w1 hw1 => ?_)
  have h := h w1 hw1
  refine z_aload_n F dX10_told_5 rfl ?_
  refine z_iload_n F dX10_told_6 rfl ?_
  refine z_iconst F 0 dX10_told_7 (by decide) ?_
  refine z_bipush F 11 dX10_told_8 (by decide) ?_
  refine z_callS F (k' := 1) (mc' := 0) [.int p0, .int 0, .int 11] [.ref (G.2.1 40 0)] dX10_told_10 rfl cl_X10_129 hy_X10_in.2 (by omega) (by decide) (by decide) (Nat.le_of_ble_eq_true rfl) rfl (con_mono h ?_ (fun _ _ h => h))
  rintro _ w3 ⟨v2, rfl, h⟩
  show Z M G 0 K X w3 13 [some (.ref (G.2.1 40 0)), some (.int p0), none, none] [.int v2, .ref (G.2.1 40 0)]
  refine z_if_ne F 20 dX10_told_13 (by decide) ⟨fun hc => ?_, fun hc => ?_⟩
  · have h := h.1 hc
    refine z_iconst F 0 dX10_told_20 (by decide) ?_
    exact h
  · have h := h.2 hc
    refine z_iconst F 1 dX10_told_16 (by decide) ?_
    refine z_goto F 21 dX10_told_17 (by decide) ?_
    exact h
set_option maxRecDepth 20000 in
theorem b_X10_told_21 {M : Mx} {G : Gx} {kk : Nat} {w : Wd}  {x1 : Int32} {s0 : Int32} {K : Option Value → Wd → Prop} {X : String → Wd → Prop} (F : Fx M G RX10 cX10_told 4 (some .int) kk 0) (hk : 2 ≤ kk)
    (h : Con (mL M) G 1 0 yX10_bad cX10_bad 4 (some .boolean) w [.ref (G.2.1 40 0), .int s0, .int 1, .int 1] (fun r w2 => ∃ v1 : Int32, r = some (.int v1) ∧ ((v1 = 0 → Z M G 0 K X w2 35 [some (.ref (G.2.1 40 0)), some (.int x1), some (.int 0), some (.int 0)] []) ∧ (¬ (v1 = 0) → K (some (.int 0)) w2))) X) :
    Z M G 0 K X w 21 [some (.ref (G.2.1 40 0)), some (.int x1), none, none] [.int s0, .ref (G.2.1 40 0)] := by
  refine z_iconst F 1 dX10_told_21 (by decide) ?_
  refine z_iconst F 1 dX10_told_22 (by decide) ?_
  refine z_callV F (k' := 1) (mc' := 0) [.int s0, .int 1, .int 1] [] dX10_told_23 rfl rfl (by decide) rfl cl_X10_171 hy_X10_bad (by omega) (by decide) (by decide) (Nat.le_of_ble_eq_true rfl) rfl (con_mono h ?_ (fun _ _ h => h))
  rintro _ w2 ⟨v1, rfl, h⟩
  show Z M G 0 K X w2 26 [some (.ref (G.2.1 40 0)), some (.int x1), none, none] [.int v1]
  refine z_if_eq F 31 dX10_told_26 (by decide) ⟨fun hc => ?_, fun hc => ?_⟩
  · have h := h.1 hc
    refine z_iconst F 0 dX10_told_31 (by decide) ?_
    refine z_istore_n F dX10_told_32 (Nat.le_of_ble_eq_true rfl) ?_
    refine z_iconst F 0 dX10_told_33 (by decide) ?_
    refine z_istore_n F dX10_told_34 (Nat.le_of_ble_eq_true rfl) ?_
    exact h
  · have h := h.2 hc
    refine z_iconst F 0 dX10_told_29 (by decide) ?_
    exact z_iret F dX10_told_30 (by decide) h
set_option maxRecDepth 20000 in
theorem b_X10_told_35 {M : Mx} {G : Gx} {kk : Nat} {w : Wd}  {x1 : Int32} {x2 : Int32} {x3 : Int32} {K : Option Value → Wd → Prop} {X : String → Wd → Prop} (F : Fx M G RX10 cX10_told 4 (some .int) kk 0) (hk : 2 ≤ kk)
    (h : (((w.1 44 0 1) ≤ x3 → ((x1 = 0 → (vp_in x1 4 ∧ K (some (.int (w.1 44 0 ((x1 : Int32).toNatClampNeg)))) w)) ∧ (x1 = 1 → (vp_in x1 4 ∧ K (some (.int (w.1 44 0 ((x1 : Int32).toNatClampNeg)))) w)) ∧ (x1 = 2 → (vp_in x1 4 ∧ K (some (.int (w.1 44 0 ((x1 : Int32).toNatClampNeg)))) w)) ∧ (x1 = 3 → K (some (.int (w.1 69 0 56))) w) ∧ (x1 = 4 → Con (mL M) G 1 0 yX10_hoarse cX10_hoarse 4 (some .int) w [.ref (G.2.1 40 0), .ref (G.2.1 69 0)] (fun r w2 => ∃ v1 : Int32, r = some (.int v1) ∧ K (some (.int v1)) w2) X) ∧ (x1 = 5 → K (some (.int (w.1 69 0 55))) w) ∧ (x1 = 6 → Con (mL M) G 1 0 yX10_all cX10_all 5 (some .int) w [.ref (G.2.1 40 0), .ref (G.2.1 69 0), .int 14] (fun r w4 => ∃ v3 : Int32, r = some (.int v3) ∧ K (some (.int v3)) w4) X) ∧ (x1 = 7 → Con (mL M) G 1 0 yX10_all cX10_all 5 (some .int) w [.ref (G.2.1 40 0), .ref (G.2.1 69 0), .int 21] (fun r w6 => ∃ v5 : Int32, r = some (.int v5) ∧ K (some (.int v5)) w6) X) ∧ (x1 = 8 → Con (mL M) G 1 0 yX10_all cX10_all 5 (some .int) w [.ref (G.2.1 40 0), .ref (G.2.1 69 0), .int 0] (fun r w8 => ∃ v7 : Int32, r = some (.int v7) ∧ K (some (.int v7)) w8) X) ∧ (x1 = 9 → K (some (.int (w.1 40 0 33))) w) ∧ (x1 = 10 → K (some (.int (w.1 40 0 35))) w) ∧ (¬ x1 = 0 ∧ ¬ x1 = 1 ∧ ¬ x1 = 2 ∧ ¬ x1 = 3 ∧ ¬ x1 = 4 ∧ ¬ x1 = 5 ∧ ¬ x1 = 6 ∧ ¬ x1 = 7 ∧ ¬ x1 = 8 ∧ ¬ x1 = 9 ∧ ¬ x1 = 10 → K (some (.int x2)) w))) ∧ (¬ ((w.1 44 0 1) ≤ x3) → (vp_in ((35 : Int32) + x3) 57 ∧ (vp_in x3 20 ∧ ((¬ (w.1 69 0 (((35 : Int32) + x3 : Int32).toNatClampNeg)) = (w.1 52 ((x3 : Int32).toNatClampNeg) 0) → Z M G 0 K X w 35 [some (.ref (G.2.1 40 0)), some (.int x1), some (.int (x2 ||| ((1 : Int32) <<< (x3 &&& 31)))), some (.int (x3 + 1))] []) ∧ (¬ (¬ (w.1 69 0 (((35 : Int32) + x3 : Int32).toNatClampNeg)) = (w.1 52 ((x3 : Int32).toNatClampNeg) 0)) → Z M G 0 K X w 35 [some (.ref (G.2.1 40 0)), some (.int x1), some (.int (x2 ||| (0 : Int32))), some (.int (x3 + 1))] []))))))) :
    Z M G 0 K X w 35 [some (.ref (G.2.1 40 0)), some (.int x1), some (.int x2), some (.int x3)] [] := by
  refine z_iload_n F dX10_told_35 rfl ?_
  refine z_aload_n F dX10_told_36 rfl ?_
  refine z_getR F 12 44 0 rfl (by decide) (by decide) rfl rfl rfl lk_X10_23 dX10_told_37 ?_
  refine z_iconst F 1 dX10_told_40 (by decide) ?_
  refine z_ialdK F 1 (by decide) rfl (by decide) (by unfold vp_in; decide) dX10_told_41 ?_
  refine z_icmp_ge F 81 dX10_told_42 (by decide) ⟨fun hc => ?_, fun hc => ?_⟩
  · have h := h.1 hc
    refine z_iload_n F dX10_told_81 rfl ?_
    by_cases hc0 : x1 = 0
    · have h := h.1 hc0
      refine z_tabIn F 140 dX10_told_82 (by rw [hc0]; decide) (by rw [hc0]; decide) (by rw [hc0]; rfl) (by decide) ?_
      refine z_aload_n F dX10_told_140 rfl ?_
      refine z_getR F 12 44 0 rfl (by decide) (by decide) rfl rfl rfl lk_X10_23 dX10_told_141 ?_
      refine z_iload_n F dX10_told_144 rfl ?_
      obtain ⟨hb, h⟩ := h
      refine z_ialdK F ((x1 : Int32).toNatClampNeg) rfl rfl (by decide) hb dX10_told_145 ?_
      exact z_iret F dX10_told_146 (by decide) h
    by_cases hc1 : x1 = 1
    · have h := h.2.1 hc1
      refine z_tabIn F 140 dX10_told_82 (by rw [hc1]; decide) (by rw [hc1]; decide) (by rw [hc1]; rfl) (by decide) ?_
      refine z_aload_n F dX10_told_140 rfl ?_
      refine z_getR F 12 44 0 rfl (by decide) (by decide) rfl rfl rfl lk_X10_23 dX10_told_141 ?_
      refine z_iload_n F dX10_told_144 rfl ?_
      obtain ⟨hb, h⟩ := h
      refine z_ialdK F ((x1 : Int32).toNatClampNeg) rfl rfl (by decide) hb dX10_told_145 ?_
      exact z_iret F dX10_told_146 (by decide) h
    by_cases hc2 : x1 = 2
    · have h := h.2.2.1 hc2
      refine z_tabIn F 140 dX10_told_82 (by rw [hc2]; decide) (by rw [hc2]; decide) (by rw [hc2]; rfl) (by decide) ?_
      refine z_aload_n F dX10_told_140 rfl ?_
      refine z_getR F 12 44 0 rfl (by decide) (by decide) rfl rfl rfl lk_X10_23 dX10_told_141 ?_
      refine z_iload_n F dX10_told_144 rfl ?_
      obtain ⟨hb, h⟩ := h
      refine z_ialdK F ((x1 : Int32).toNatClampNeg) rfl rfl (by decide) hb dX10_told_145 ?_
      exact z_iret F dX10_told_146 (by decide) h
    by_cases hc3 : x1 = 3
    · have h := h.2.2.2.1 hc3
      refine z_tabIn F 147 dX10_told_82 (by rw [hc3]; decide) (by rw [hc3]; decide) (by rw [hc3]; rfl) (by decide) ?_
      refine z_aload_n F dX10_told_147 rfl ?_
      refine z_getR F 29 69 0 rfl (by decide) (by decide) rfl rfl rfl lk_X10_67 dX10_told_148 ?_
      refine z_bipush F 56 dX10_told_151 (by decide) ?_
      refine z_ialdK F 56 (by decide) rfl (by decide) (by unfold vp_in; decide) dX10_told_153 ?_
      exact z_iret F dX10_told_154 (by decide) h
    by_cases hc4 : x1 = 4
    · have h := h.2.2.2.2.1 hc4
      refine z_tabIn F 155 dX10_told_82 (by rw [hc4]; decide) (by rw [hc4]; decide) (by rw [hc4]; rfl) (by decide) ?_
      refine z_aload_n F dX10_told_155 rfl ?_
      refine z_aload_n F dX10_told_156 rfl ?_
      refine z_getR F 29 69 0 rfl (by decide) (by decide) rfl rfl rfl lk_X10_67 dX10_told_157 ?_
      refine z_callV F (k' := 1) (mc' := 0) [.ref (G.2.1 69 0)] [] dX10_told_160 rfl rfl (by decide) rfl cl_X10_314 hy_X10_hoarse (by omega) (by decide) (by decide) (Nat.le_of_ble_eq_true rfl) rfl (con_mono h ?_ (fun _ _ h => h))
      rintro _ w2 ⟨v1, rfl, h⟩
      show Z M G 0 K X w2 163 [some (.ref (G.2.1 40 0)), some (.int x1), some (.int x2), some (.int x3)] [.int v1]
      exact z_iret F dX10_told_163 (by decide) h
    by_cases hc5 : x1 = 5
    · have h := h.2.2.2.2.2.1 hc5
      refine z_tabIn F 164 dX10_told_82 (by rw [hc5]; decide) (by rw [hc5]; decide) (by rw [hc5]; rfl) (by decide) ?_
      refine z_aload_n F dX10_told_164 rfl ?_
      refine z_getR F 29 69 0 rfl (by decide) (by decide) rfl rfl rfl lk_X10_67 dX10_told_165 ?_
      refine z_bipush F 55 dX10_told_168 (by decide) ?_
      refine z_ialdK F 55 (by decide) rfl (by decide) (by unfold vp_in; decide) dX10_told_170 ?_
      exact z_iret F dX10_told_171 (by decide) h
    by_cases hc6 : x1 = 6
    · have h := h.2.2.2.2.2.2.1 hc6
      refine z_tabIn F 172 dX10_told_82 (by rw [hc6]; decide) (by rw [hc6]; decide) (by rw [hc6]; rfl) (by decide) ?_
      refine z_aload_n F dX10_told_172 rfl ?_
      refine z_aload_n F dX10_told_173 rfl ?_
      refine z_getR F 29 69 0 rfl (by decide) (by decide) rfl rfl rfl lk_X10_67 dX10_told_174 ?_
      refine z_bipush F 14 dX10_told_177 (by decide) ?_
      refine z_callV F (k' := 1) (mc' := 0) [.ref (G.2.1 69 0), .int 14] [] dX10_told_179 rfl rfl (by decide) rfl cl_X10_318 hy_X10_all (by omega) (by decide) (by decide) (Nat.le_of_ble_eq_true rfl) rfl (con_mono h ?_ (fun _ _ h => h))
      rintro _ w4 ⟨v3, rfl, h⟩
      show Z M G 0 K X w4 182 [some (.ref (G.2.1 40 0)), some (.int x1), some (.int x2), some (.int x3)] [.int v3]
      exact z_iret F dX10_told_182 (by decide) h
    by_cases hc7 : x1 = 7
    · have h := h.2.2.2.2.2.2.2.1 hc7
      refine z_tabIn F 183 dX10_told_82 (by rw [hc7]; decide) (by rw [hc7]; decide) (by rw [hc7]; rfl) (by decide) ?_
      refine z_aload_n F dX10_told_183 rfl ?_
      refine z_aload_n F dX10_told_184 rfl ?_
      refine z_getR F 29 69 0 rfl (by decide) (by decide) rfl rfl rfl lk_X10_67 dX10_told_185 ?_
      refine z_bipush F 21 dX10_told_188 (by decide) ?_
      refine z_callV F (k' := 1) (mc' := 0) [.ref (G.2.1 69 0), .int 21] [] dX10_told_190 rfl rfl (by decide) rfl cl_X10_318 hy_X10_all (by omega) (by decide) (by decide) (Nat.le_of_ble_eq_true rfl) rfl (con_mono h ?_ (fun _ _ h => h))
      rintro _ w6 ⟨v5, rfl, h⟩
      show Z M G 0 K X w6 193 [some (.ref (G.2.1 40 0)), some (.int x1), some (.int x2), some (.int x3)] [.int v5]
      exact z_iret F dX10_told_193 (by decide) h
    by_cases hc8 : x1 = 8
    · have h := h.2.2.2.2.2.2.2.2.1 hc8
      refine z_tabIn F 194 dX10_told_82 (by rw [hc8]; decide) (by rw [hc8]; decide) (by rw [hc8]; rfl) (by decide) ?_
      refine z_aload_n F dX10_told_194 rfl ?_
      refine z_aload_n F dX10_told_195 rfl ?_
      refine z_getR F 29 69 0 rfl (by decide) (by decide) rfl rfl rfl lk_X10_67 dX10_told_196 ?_
      refine z_iconst F 0 dX10_told_199 (by decide) ?_
      refine z_callV F (k' := 1) (mc' := 0) [.ref (G.2.1 69 0), .int 0] [] dX10_told_200 rfl rfl (by decide) rfl cl_X10_318 hy_X10_all (by omega) (by decide) (by decide) (Nat.le_of_ble_eq_true rfl) rfl (con_mono h ?_ (fun _ _ h => h))
      rintro _ w8 ⟨v7, rfl, h⟩
      show Z M G 0 K X w8 203 [some (.ref (G.2.1 40 0)), some (.int x1), some (.int x2), some (.int x3)] [.int v7]
      exact z_iret F dX10_told_203 (by decide) h
    by_cases hc9 : x1 = 9
    · have h := h.2.2.2.2.2.2.2.2.2.1 hc9
      refine z_tabIn F 204 dX10_told_82 (by rw [hc9]; decide) (by rw [hc9]; decide) (by rw [hc9]; rfl) (by decide) ?_
      refine z_aload_n F dX10_told_204 rfl ?_
      refine z_getI F 33 rfl (by decide) (by decide) rfl lk_X10_195 dX10_told_205 ?_
      exact z_iret F dX10_told_208 (by decide) h
    by_cases hc10 : x1 = 10
    · have h := h.2.2.2.2.2.2.2.2.2.2.1 hc10
      refine z_tabIn F 209 dX10_told_82 (by rw [hc10]; decide) (by rw [hc10]; decide) (by rw [hc10]; rfl) (by decide) ?_
      refine z_aload_n F dX10_told_209 rfl ?_
      refine z_getI F 35 rfl (by decide) (by decide) rfl lk_X10_201 dX10_told_210 ?_
      exact z_iret F dX10_told_213 (by decide) h
    have e0 := lv_neT hc0 (show (0 : Int32).toInt = 0 by decide)
    have e1 := lv_neT hc1 (show (1 : Int32).toInt = 1 by decide)
    have e2 := lv_neT hc2 (show (2 : Int32).toInt = 2 by decide)
    have e3 := lv_neT hc3 (show (3 : Int32).toInt = 3 by decide)
    have e4 := lv_neT hc4 (show (4 : Int32).toInt = 4 by decide)
    have e5 := lv_neT hc5 (show (5 : Int32).toInt = 5 by decide)
    have e6 := lv_neT hc6 (show (6 : Int32).toInt = 6 by decide)
    have e7 := lv_neT hc7 (show (7 : Int32).toInt = 7 by decide)
    have e8 := lv_neT hc8 (show (8 : Int32).toInt = 8 by decide)
    have e9 := lv_neT hc9 (show (9 : Int32).toInt = 9 by decide)
    have e10 := lv_neT hc10 (show (10 : Int32).toInt = 10 by decide)
    have h := h.2.2.2.2.2.2.2.2.2.2.2 ⟨hc0, hc1, hc2, hc3, hc4, hc5, hc6, hc7, hc8, hc9, hc10⟩
    refine z_tabOut F 214 dX10_told_82 (by omega) (by decide) ?_
    refine z_iload_n F dX10_told_214 rfl ?_
    exact z_iret F dX10_told_215 (by decide) h
  · have h := h.2 hc
    refine z_iload_n F dX10_told_45 rfl ?_
    refine z_aload_n F dX10_told_46 rfl ?_
    refine z_getR F 29 69 0 rfl (by decide) (by decide) rfl rfl rfl lk_X10_67 dX10_told_47 ?_
    refine z_bipush F 35 dX10_told_50 (by decide) ?_
    refine z_iload_n F dX10_told_52 rfl ?_
    refine z_iadd F dX10_told_53 ?_
    obtain ⟨hb, h⟩ := h
    refine z_ialdK F (((35 : Int32) + x3 : Int32).toNatClampNeg) rfl rfl (by decide) hb dX10_told_54 ?_
    refine z_aload_n F dX10_told_55 rfl ?_
    refine z_getR F 16 51 0 rfl (by decide) (by decide) rfl rfl rfl lk_X10_37 dX10_told_56 ?_
    refine z_iload_n F dX10_told_59 rfl ?_
    obtain ⟨hb, h⟩ := h
    refine z_aald F 52 ((x3 : Int32).toNatClampNeg) rfl (by decide) (by decide) (by decide) rfl rfl hb dX10_told_60 (fun hv9 => ?_)
    refine z_iconst F 0 dX10_told_61 (by decide) ?_
    refine z_ialdK F 0 (by decide) rfl hv9 (by unfold vp_in; decide) dX10_told_62 ?_
    refine z_icmp_ne F 70 dX10_told_63 (by decide) ⟨fun hc => ?_, fun hc => ?_⟩
    · have h := h.1 hc
      refine z_iconst F 1 dX10_told_70 (by decide) ?_
      refine z_iload_n F dX10_told_71 rfl ?_
      refine z_ishl F dX10_told_72 ?_
      refine z_ior F dX10_told_73 ?_
      refine z_istore_n F dX10_told_74 (Nat.le_of_ble_eq_true rfl) ?_
      refine z_iinc F (x3 + 1) dX10_told_75 rfl rfl (Nat.le_of_ble_eq_true rfl) ?_
      refine z_goto F 35 dX10_told_78 (by decide) ?_
      exact h
    · have h := h.2 hc
      refine z_iconst F 0 dX10_told_66 (by decide) ?_
      refine z_goto F 73 dX10_told_67 (by decide) ?_
      refine z_ior F dX10_told_73 ?_
      refine z_istore_n F dX10_told_74 (Nat.le_of_ble_eq_true rfl) ?_
      refine z_iinc F (x3 + 1) dX10_told_75 rfl rfl (Nat.le_of_ble_eq_true rfl) ?_
      refine z_goto F 35 dX10_told_78 (by decide) ?_
      exact h
set_option maxRecDepth 20000 in
theorem e_X10_isSinger {l : Launch} {G : Gx} {w : Wd} {p0 : Int32} {K : Option Value → Wd → Prop} {X : String → Wd → Prop} (hl : l.stackTraces = false)
    (h : ∀ (M : Mx) (kk : Nat), mL M = l → 2 ≤ kk → Fx M G RX10 cX10_isSinger 2 (some .boolean) kk 0 → Con (mL M) G 1 0 yX10_in cX10_in 3 (some .boolean) w [.int p0, .int 0, .int ((w.1 44 0 0) - (1 : Int32))] (fun r w2 => ∃ v1 : Int32, r = some (.int v1) ∧ (narrow .boolean (.int v1) = .int v1 ∧ K (some (.int v1)) w2)) X) :
    Con l G 2 0 yX10_isSinger cX10_isSinger 2 (some .boolean) w [.ref (G.2.1 40 0), .int p0] K X := by
  refine con_intro hl (by decide +kernel) (Nat.le_of_ble_eq_true rfl) (Nat.le_of_ble_eq_true rfl) (fun M kk hM hk F => ?_)
  have h := h M kk hM hk F
  show Z M G 0 K X w 0 [some (.ref (G.2.1 40 0)), some (.int p0)] []
  refine z_iload_n F dX10_isSinger_0 rfl ?_
  refine z_iconst F 0 dX10_isSinger_1 (by decide) ?_
  refine z_aload_n F dX10_isSinger_2 rfl ?_
  refine z_getR F 12 44 0 rfl (by decide) (by decide) rfl rfl rfl lk_X10_23 dX10_isSinger_3 ?_
  refine z_iconst F 0 dX10_isSinger_6 (by decide) ?_
  refine z_ialdK F 0 (by decide) rfl (by decide) (by unfold vp_in; decide) dX10_isSinger_7 ?_
  refine z_iconst F 1 dX10_isSinger_8 (by decide) ?_
  refine z_isub F dX10_isSinger_9 ?_
  refine z_callS F (k' := 1) (mc' := 0) [.int p0, .int 0, .int ((w.1 44 0 0) - (1 : Int32))] [] dX10_isSinger_10 rfl cl_X10_129 hy_X10_in.2 (by omega) (by decide) (by decide) (Nat.le_of_ble_eq_true rfl) rfl (con_mono h ?_ (fun _ _ h => h))
  rintro _ w2 ⟨v1, rfl, h⟩
  show Z M G 0 K X w2 13 [some (.ref (G.2.1 40 0)), some (.int p0)] [.int v1]
  exact z_zret F dX10_isSinger_13 (by decide) h.1 h.2
set_option maxRecDepth 20000 in
theorem e_X10_isNote {l : Launch} {G : Gx} {w : Wd} {p0 : Int32} {K : Option Value → Wd → Prop} {X : String → Wd → Prop} (hl : l.stackTraces = false)
    (h : ∀ (M : Mx) (kk : Nat), mL M = l → 2 ≤ kk → Fx M G RX10 cX10_isNote 2 (some .boolean) kk 0 → Con (mL M) G 1 0 yX10_in cX10_in 3 (some .boolean) w [.int p0, .int 0, .int ((w.1 44 0 1) - (1 : Int32))] (fun r w2 => ∃ v1 : Int32, r = some (.int v1) ∧ (narrow .boolean (.int v1) = .int v1 ∧ K (some (.int v1)) w2)) X) :
    Con l G 2 0 yX10_isNote cX10_isNote 2 (some .boolean) w [.ref (G.2.1 40 0), .int p0] K X := by
  refine con_intro hl (by decide +kernel) (Nat.le_of_ble_eq_true rfl) (Nat.le_of_ble_eq_true rfl) (fun M kk hM hk F => ?_)
  have h := h M kk hM hk F
  show Z M G 0 K X w 0 [some (.ref (G.2.1 40 0)), some (.int p0)] []
  refine z_iload_n F dX10_isNote_0 rfl ?_
  refine z_iconst F 0 dX10_isNote_1 (by decide) ?_
  refine z_aload_n F dX10_isNote_2 rfl ?_
  refine z_getR F 12 44 0 rfl (by decide) (by decide) rfl rfl rfl lk_X10_23 dX10_isNote_3 ?_
  refine z_iconst F 1 dX10_isNote_6 (by decide) ?_
  refine z_ialdK F 1 (by decide) rfl (by decide) (by unfold vp_in; decide) dX10_isNote_7 ?_
  refine z_iconst F 1 dX10_isNote_8 (by decide) ?_
  refine z_isub F dX10_isNote_9 ?_
  refine z_callS F (k' := 1) (mc' := 0) [.int p0, .int 0, .int ((w.1 44 0 1) - (1 : Int32))] [] dX10_isNote_10 rfl cl_X10_129 hy_X10_in.2 (by omega) (by decide) (by decide) (Nat.le_of_ble_eq_true rfl) rfl (con_mono h ?_ (fun _ _ h => h))
  rintro _ w2 ⟨v1, rfl, h⟩
  show Z M G 0 K X w2 13 [some (.ref (G.2.1 40 0)), some (.int p0)] [.int v1]
  exact z_zret F dX10_isNote_13 (by decide) h.1 h.2
set_option maxRecDepth 20000 in
theorem e_X10_isVowel {l : Launch} {G : Gx} {w : Wd} {p0 : Int32} {K : Option Value → Wd → Prop} {X : String → Wd → Prop} (hl : l.stackTraces = false)
    (h : ∀ (M : Mx) (kk : Nat), mL M = l → 2 ≤ kk → Fx M G RX10 cX10_isVowel 1 (some .boolean) kk 0 → Con (mL M) G 1 0 yX10_in cX10_in 3 (some .boolean) w [.int p0, .int 0, .int 5] (fun r w2 => ∃ v1 : Int32, r = some (.int v1) ∧ (narrow .boolean (.int v1) = .int v1 ∧ K (some (.int v1)) w2)) X) :
    Con l G 2 0 yX10_isVowel cX10_isVowel 1 (some .boolean) w [.int p0] K X := by
  refine con_intro hl (by decide +kernel) (Nat.le_of_ble_eq_true rfl) (Nat.le_of_ble_eq_true rfl) (fun M kk hM hk F => ?_)
  have h := h M kk hM hk F
  show Z M G 0 K X w 0 [some (.int p0)] []
  refine z_iload_n F dX10_isVowel_0 rfl ?_
  refine z_iconst F 0 dX10_isVowel_1 (by decide) ?_
  refine z_iconst F 5 dX10_isVowel_2 (by decide) ?_
  refine z_callS F (k' := 1) (mc' := 0) [.int p0, .int 0, .int 5] [] dX10_isVowel_3 rfl cl_X10_129 hy_X10_in.2 (by omega) (by decide) (by decide) (Nat.le_of_ble_eq_true rfl) rfl (con_mono h ?_ (fun _ _ h => h))
  rintro _ w2 ⟨v1, rfl, h⟩
  show Z M G 0 K X w2 6 [some (.int p0)] [.int v1]
  exact z_zret F dX10_isVowel_6 (by decide) h.1 h.2
set_option maxRecDepth 20000 in
theorem e_X10_singer {l : Launch} {G : Gx} {w : Wd} {p0 : Int32} {p1 : Int32} {K : Option Value → Wd → Prop} {X : String → Wd → Prop} (hl : l.stackTraces = false)
    (h : ∀ (M : Mx) (kk : Nat), mL M = l → 3 ≤ kk → Fx M G RX10 cX10_singer 3 (some .int) kk 0 → (∀ w1 : Wd, w1 = setI w 40 0 0 0 → Con (mL M) G 2 0 yX10_isSinger cX10_isSinger 2 (some .boolean) w1 [.ref (G.2.1 40 0), .int p0] (fun r w3 => ∃ v2 : Int32, r = some (.int v2) ∧ ((¬ v2 = 0 → Z M G 0 K X w3 19 [some (.ref (G.2.1 40 0)), some (.int p0), some (.int p1)] [.int 0, .ref (G.2.1 40 0)]) ∧ (¬ (¬ v2 = 0) → Z M G 0 K X w3 19 [some (.ref (G.2.1 40 0)), some (.int p0), some (.int p1)] [.int 1, .ref (G.2.1 40 0)]))) X)) :
    Con l G 3 0 yX10_singer cX10_singer 3 (some .int) w [.ref (G.2.1 40 0), .int p0, .int p1] K X := by
  refine con_intro hl (by decide +kernel) (Nat.le_of_ble_eq_true rfl) (Nat.le_of_ble_eq_true rfl) (fun M kk hM hk F => ?_)
  have h := h M kk hM hk F
  show Z M G 0 K X w 0 [some (.ref (G.2.1 40 0)), some (.int p0), some (.int p1)] []
  refine z_aload_n F dX10_singer_0 rfl ?_
  refine z_iconst F 0 dX10_singer_1 (by decide) ?_
  refine z_putIW F 0 rfl (by decide) (by decide) rfl lk_X10_95 dX10_singer_2 (fun w1 hw1 => ?_)
  have h := h w1 hw1
  refine z_aload_n F dX10_singer_5 rfl ?_
  refine z_aload_n F dX10_singer_6 rfl ?_
  refine z_iload_n F dX10_singer_7 rfl ?_
  refine z_callV F (k' := 2) (mc' := 0) [.int p0] [.ref (G.2.1 40 0)] dX10_singer_8 rfl rfl (by decide) rfl cl_X10_321 hy_X10_isSinger (by omega) (by decide) (by decide) (Nat.le_of_ble_eq_true rfl) rfl (con_mono h ?_ (fun _ _ h => h))
  rintro _ w3 ⟨v2, rfl, h⟩
  show Z M G 0 K X w3 11 [some (.ref (G.2.1 40 0)), some (.int p0), some (.int p1)] [.int v2, .ref (G.2.1 40 0)]
  refine z_if_ne F 18 dX10_singer_11 (by decide) ⟨fun hc => ?_, fun hc => ?_⟩
  · have h := h.1 hc
    refine z_iconst F 0 dX10_singer_18 (by decide) ?_
    exact h
  · have h := h.2 hc
    refine z_iconst F 1 dX10_singer_14 (by decide) ?_
    refine z_goto F 19 dX10_singer_15 (by decide) ?_
    exact h
set_option maxRecDepth 20000 in
theorem b_X10_singer_19 {M : Mx} {G : Gx} {kk : Nat} {w : Wd}  {x1 : Int32} {x2 : Int32} {s0 : Int32} {K : Option Value → Wd → Prop} {X : String → Wd → Prop} (F : Fx M G RX10 cX10_singer 3 (some .int) kk 0) (hk : 3 ≤ kk)
    (h : Con (mL M) G 1 0 yX10_bad cX10_bad 4 (some .boolean) w [.ref (G.2.1 40 0), .int s0, .int 1, .int 0] (fun r w2 => ∃ v1 : Int32, r = some (.int v1) ∧ ((¬ v1 = 0 → K (some (.int 0)) w2) ∧ (¬ (¬ v1 = 0) → Con (mL M) G 1 0 yX10_in cX10_in 3 (some .boolean) w2 [.int x2, .int 0, .int 7] (fun r w4 => ∃ v3 : Int32, r = some (.int v3) ∧ ((¬ v3 = 0 → Z M G 0 K X w4 43 [some (.ref (G.2.1 40 0)), some (.int x1), some (.int x2)] [.int 0, .ref (G.2.1 40 0)]) ∧ (¬ (¬ v3 = 0) → Z M G 0 K X w4 43 [some (.ref (G.2.1 40 0)), some (.int x1), some (.int x2)] [.int 1, .ref (G.2.1 40 0)]))) X))) X) :
    Z M G 0 K X w 19 [some (.ref (G.2.1 40 0)), some (.int x1), some (.int x2)] [.int s0, .ref (G.2.1 40 0)] := by
  refine z_iconst F 1 dX10_singer_19 (by decide) ?_
  refine z_iconst F 0 dX10_singer_20 (by decide) ?_
  refine z_callV F (k' := 1) (mc' := 0) [.int s0, .int 1, .int 0] [] dX10_singer_21 rfl rfl (by decide) rfl cl_X10_171 hy_X10_bad (by omega) (by decide) (by decide) (Nat.le_of_ble_eq_true rfl) rfl (con_mono h ?_ (fun _ _ h => h))
  rintro _ w2 ⟨v1, rfl, h⟩
  show Z M G 0 K X w2 24 [some (.ref (G.2.1 40 0)), some (.int x1), some (.int x2)] [.int v1]
  refine z_if_ne F 51 dX10_singer_24 (by decide) ⟨fun hc => ?_, fun hc => ?_⟩
  · have h := h.1 hc
    refine z_iconst F 0 dX10_singer_51 (by decide) ?_
    exact z_iret F dX10_singer_52 (by decide) h
  · have h := h.2 hc
    refine z_aload_n F dX10_singer_27 rfl ?_
    refine z_iload_n F dX10_singer_28 rfl ?_
    refine z_iconst F 0 dX10_singer_29 (by decide) ?_
    refine z_bipush F 7 dX10_singer_30 (by decide) ?_
    refine z_callS F (k' := 1) (mc' := 0) [.int x2, .int 0, .int 7] [.ref (G.2.1 40 0)] dX10_singer_32 rfl cl_X10_129 hy_X10_in.2 (by omega) (by decide) (by decide) (Nat.le_of_ble_eq_true rfl) rfl (con_mono h ?_ (fun _ _ h => h))
    rintro _ w4 ⟨v3, rfl, h⟩
    show Z M G 0 K X w4 35 [some (.ref (G.2.1 40 0)), some (.int x1), some (.int x2)] [.int v3, .ref (G.2.1 40 0)]
    refine z_if_ne F 42 dX10_singer_35 (by decide) ⟨fun hc => ?_, fun hc => ?_⟩
    · have h := h.1 hc
      refine z_iconst F 0 dX10_singer_42 (by decide) ?_
      exact h
    · have h := h.2 hc
      refine z_iconst F 1 dX10_singer_38 (by decide) ?_
      refine z_goto F 43 dX10_singer_39 (by decide) ?_
      exact h
set_option maxRecDepth 20000 in
theorem b_X10_singer_43 {M : Mx} {G : Gx} {kk : Nat} {w : Wd}  {x1 : Int32} {x2 : Int32} {s0 : Int32} {K : Option Value → Wd → Prop} {X : String → Wd → Prop} (F : Fx M G RX10 cX10_singer 3 (some .int) kk 0) (hk : 3 ≤ kk)
    (h : Con (mL M) G 1 0 yX10_bad cX10_bad 4 (some .boolean) w [.ref (G.2.1 40 0), .int s0, .int 2, .int 1] (fun r w2 => ∃ v1 : Int32, r = some (.int v1) ∧ ((v1 = 0 → ((x2 = 0 → (vp_in x1 7 ∧ (vp_in x2 3 ∧ K (some (.int (w2.1 48 ((x1 : Int32).toNatClampNeg) ((x2 : Int32).toNatClampNeg)))) w2))) ∧ (x2 = 1 → (vp_in x1 7 ∧ (vp_in x2 3 ∧ K (some (.int (w2.1 48 ((x1 : Int32).toNatClampNeg) ((x2 : Int32).toNatClampNeg)))) w2))) ∧ (x2 = 2 → (vp_in x1 7 ∧ (vp_in x2 3 ∧ K (some (.int (w2.1 48 ((x1 : Int32).toNatClampNeg) ((x2 : Int32).toNatClampNeg)))) w2))) ∧ (x2 = 3 → (vp_in ((0 : Int32) + x1) 57 ∧ K (some (.int (w2.1 69 0 (((0 : Int32) + x1 : Int32).toNatClampNeg)))) w2)) ∧ (x2 = 4 → (vp_in ((7 : Int32) + x1) 57 ∧ K (some (.int (w2.1 69 0 (((7 : Int32) + x1 : Int32).toNatClampNeg)))) w2)) ∧ (x2 = 5 → (vp_in ((14 : Int32) + x1) 57 ∧ K (some (.int (w2.1 69 0 (((14 : Int32) + x1 : Int32).toNatClampNeg)))) w2)) ∧ (x2 = 6 → (vp_in ((21 : Int32) + x1) 57 ∧ K (some (.int (w2.1 69 0 (((21 : Int32) + x1 : Int32).toNatClampNeg)))) w2)) ∧ (¬ x2 = 0 ∧ ¬ x2 = 1 ∧ ¬ x2 = 2 ∧ ¬ x2 = 3 ∧ ¬ x2 = 4 ∧ ¬ x2 = 5 ∧ ¬ x2 = 6 → (vp_in ((28 : Int32) + x1) 57 ∧ K (some (.int (w2.1 69 0 (((28 : Int32) + x1 : Int32).toNatClampNeg)))) w2)))) ∧ (¬ (v1 = 0) → K (some (.int 0)) w2))) X) :
    Z M G 0 K X w 43 [some (.ref (G.2.1 40 0)), some (.int x1), some (.int x2)] [.int s0, .ref (G.2.1 40 0)] := by
  refine z_iconst F 2 dX10_singer_43 (by decide) ?_
  refine z_iconst F 1 dX10_singer_44 (by decide) ?_
  refine z_callV F (k' := 1) (mc' := 0) [.int s0, .int 2, .int 1] [] dX10_singer_45 rfl rfl (by decide) rfl cl_X10_171 hy_X10_bad (by omega) (by decide) (by decide) (Nat.le_of_ble_eq_true rfl) rfl (con_mono h ?_ (fun _ _ h => h))
  rintro _ w2 ⟨v1, rfl, h⟩
  show Z M G 0 K X w2 48 [some (.ref (G.2.1 40 0)), some (.int x1), some (.int x2)] [.int v1]
  refine z_if_eq F 53 dX10_singer_48 (by decide) ⟨fun hc => ?_, fun hc => ?_⟩
  · have h := h.1 hc
    refine z_iload_n F dX10_singer_53 rfl ?_
    by_cases hc0 : x2 = 0
    · have h := h.1 hc0
      refine z_tabIn F 96 dX10_singer_54 (by rw [hc0]; decide) (by rw [hc0]; decide) (by rw [hc0]; rfl) (by decide) ?_
      refine z_aload_n F dX10_singer_96 rfl ?_
      refine z_getR F 14 47 0 rfl (by decide) (by decide) rfl rfl rfl lk_X10_31 dX10_singer_97 ?_
      refine z_iload_n F dX10_singer_100 rfl ?_
      obtain ⟨hb, h⟩ := h
      refine z_aald F 48 ((x1 : Int32).toNatClampNeg) rfl (by decide) (by decide) (by decide) rfl rfl hb dX10_singer_101 (fun hv3 => ?_)
      refine z_iload_n F dX10_singer_102 rfl ?_
      obtain ⟨hb, h⟩ := h
      refine z_ialdK F ((x2 : Int32).toNatClampNeg) rfl rfl hv3 hb dX10_singer_103 ?_
      exact z_iret F dX10_singer_104 (by decide) h
    by_cases hc1 : x2 = 1
    · have h := h.2.1 hc1
      refine z_tabIn F 96 dX10_singer_54 (by rw [hc1]; decide) (by rw [hc1]; decide) (by rw [hc1]; rfl) (by decide) ?_
      refine z_aload_n F dX10_singer_96 rfl ?_
      refine z_getR F 14 47 0 rfl (by decide) (by decide) rfl rfl rfl lk_X10_31 dX10_singer_97 ?_
      refine z_iload_n F dX10_singer_100 rfl ?_
      obtain ⟨hb, h⟩ := h
      refine z_aald F 48 ((x1 : Int32).toNatClampNeg) rfl (by decide) (by decide) (by decide) rfl rfl hb dX10_singer_101 (fun hv4 => ?_)
      refine z_iload_n F dX10_singer_102 rfl ?_
      obtain ⟨hb, h⟩ := h
      refine z_ialdK F ((x2 : Int32).toNatClampNeg) rfl rfl hv4 hb dX10_singer_103 ?_
      exact z_iret F dX10_singer_104 (by decide) h
    by_cases hc2 : x2 = 2
    · have h := h.2.2.1 hc2
      refine z_tabIn F 96 dX10_singer_54 (by rw [hc2]; decide) (by rw [hc2]; decide) (by rw [hc2]; rfl) (by decide) ?_
      refine z_aload_n F dX10_singer_96 rfl ?_
      refine z_getR F 14 47 0 rfl (by decide) (by decide) rfl rfl rfl lk_X10_31 dX10_singer_97 ?_
      refine z_iload_n F dX10_singer_100 rfl ?_
      obtain ⟨hb, h⟩ := h
      refine z_aald F 48 ((x1 : Int32).toNatClampNeg) rfl (by decide) (by decide) (by decide) rfl rfl hb dX10_singer_101 (fun hv5 => ?_)
      refine z_iload_n F dX10_singer_102 rfl ?_
      obtain ⟨hb, h⟩ := h
      refine z_ialdK F ((x2 : Int32).toNatClampNeg) rfl rfl hv5 hb dX10_singer_103 ?_
      exact z_iret F dX10_singer_104 (by decide) h
    by_cases hc3 : x2 = 3
    · have h := h.2.2.2.1 hc3
      refine z_tabIn F 105 dX10_singer_54 (by rw [hc3]; decide) (by rw [hc3]; decide) (by rw [hc3]; rfl) (by decide) ?_
      refine z_aload_n F dX10_singer_105 rfl ?_
      refine z_getR F 29 69 0 rfl (by decide) (by decide) rfl rfl rfl lk_X10_67 dX10_singer_106 ?_
      refine z_iconst F 0 dX10_singer_109 (by decide) ?_
      refine z_iload_n F dX10_singer_110 rfl ?_
      refine z_iadd F dX10_singer_111 ?_
      obtain ⟨hb, h⟩ := h
      refine z_ialdK F (((0 : Int32) + x1 : Int32).toNatClampNeg) rfl rfl (by decide) hb dX10_singer_112 ?_
      exact z_iret F dX10_singer_113 (by decide) h
    by_cases hc4 : x2 = 4
    · have h := h.2.2.2.2.1 hc4
      refine z_tabIn F 114 dX10_singer_54 (by rw [hc4]; decide) (by rw [hc4]; decide) (by rw [hc4]; rfl) (by decide) ?_
      refine z_aload_n F dX10_singer_114 rfl ?_
      refine z_getR F 29 69 0 rfl (by decide) (by decide) rfl rfl rfl lk_X10_67 dX10_singer_115 ?_
      refine z_bipush F 7 dX10_singer_118 (by decide) ?_
      refine z_iload_n F dX10_singer_120 rfl ?_
      refine z_iadd F dX10_singer_121 ?_
      obtain ⟨hb, h⟩ := h
      refine z_ialdK F (((7 : Int32) + x1 : Int32).toNatClampNeg) rfl rfl (by decide) hb dX10_singer_122 ?_
      exact z_iret F dX10_singer_123 (by decide) h
    by_cases hc5 : x2 = 5
    · have h := h.2.2.2.2.2.1 hc5
      refine z_tabIn F 124 dX10_singer_54 (by rw [hc5]; decide) (by rw [hc5]; decide) (by rw [hc5]; rfl) (by decide) ?_
      refine z_aload_n F dX10_singer_124 rfl ?_
      refine z_getR F 29 69 0 rfl (by decide) (by decide) rfl rfl rfl lk_X10_67 dX10_singer_125 ?_
      refine z_bipush F 14 dX10_singer_128 (by decide) ?_
      refine z_iload_n F dX10_singer_130 rfl ?_
      refine z_iadd F dX10_singer_131 ?_
      obtain ⟨hb, h⟩ := h
      refine z_ialdK F (((14 : Int32) + x1 : Int32).toNatClampNeg) rfl rfl (by decide) hb dX10_singer_132 ?_
      exact z_iret F dX10_singer_133 (by decide) h
    by_cases hc6 : x2 = 6
    · have h := h.2.2.2.2.2.2.1 hc6
      refine z_tabIn F 134 dX10_singer_54 (by rw [hc6]; decide) (by rw [hc6]; decide) (by rw [hc6]; rfl) (by decide) ?_
      refine z_aload_n F dX10_singer_134 rfl ?_
      refine z_getR F 29 69 0 rfl (by decide) (by decide) rfl rfl rfl lk_X10_67 dX10_singer_135 ?_
      refine z_bipush F 21 dX10_singer_138 (by decide) ?_
      refine z_iload_n F dX10_singer_140 rfl ?_
      refine z_iadd F dX10_singer_141 ?_
      obtain ⟨hb, h⟩ := h
      refine z_ialdK F (((21 : Int32) + x1 : Int32).toNatClampNeg) rfl rfl (by decide) hb dX10_singer_142 ?_
      exact z_iret F dX10_singer_143 (by decide) h
    have e0 := lv_neT hc0 (show (0 : Int32).toInt = 0 by decide)
    have e1 := lv_neT hc1 (show (1 : Int32).toInt = 1 by decide)
    have e2 := lv_neT hc2 (show (2 : Int32).toInt = 2 by decide)
    have e3 := lv_neT hc3 (show (3 : Int32).toInt = 3 by decide)
    have e4 := lv_neT hc4 (show (4 : Int32).toInt = 4 by decide)
    have e5 := lv_neT hc5 (show (5 : Int32).toInt = 5 by decide)
    have e6 := lv_neT hc6 (show (6 : Int32).toInt = 6 by decide)
    have h := h.2.2.2.2.2.2.2 ⟨hc0, hc1, hc2, hc3, hc4, hc5, hc6⟩
    refine z_tabOut F 144 dX10_singer_54 (by omega) (by decide) ?_
    refine z_aload_n F dX10_singer_144 rfl ?_
    refine z_getR F 29 69 0 rfl (by decide) (by decide) rfl rfl rfl lk_X10_67 dX10_singer_145 ?_
    refine z_bipush F 28 dX10_singer_148 (by decide) ?_
    refine z_iload_n F dX10_singer_150 rfl ?_
    refine z_iadd F dX10_singer_151 ?_
    obtain ⟨hb, h⟩ := h
    refine z_ialdK F (((28 : Int32) + x1 : Int32).toNatClampNeg) rfl rfl (by decide) hb dX10_singer_152 ?_
    exact z_iret F dX10_singer_153 (by decide) h
  · have h := h.2 hc
    refine z_iconst F 0 dX10_singer_51 (by decide) ?_
    exact z_iret F dX10_singer_52 (by decide) h
set_option maxRecDepth 20000 in
theorem e_X10_note {l : Launch} {G : Gx} {w : Wd} {p0 : Int32} {p1 : Int32} {K : Option Value → Wd → Prop} {X : String → Wd → Prop} (hl : l.stackTraces = false)
    (h : ∀ (M : Mx) (kk : Nat), mL M = l → 7 ≤ kk → Fx M G RX10 cX10_note 3 (some .int) kk 0 → (∀ w1 : Wd, w1 = setI w 40 0 0 0 → Con (mL M) G 2 0 yX10_isNote cX10_isNote 2 (some .boolean) w1 [.ref (G.2.1 40 0), .int p0] (fun r w3 => ∃ v2 : Int32, r = some (.int v2) ∧ ((¬ v2 = 0 → Z M G 0 K X w3 19 [some (.ref (G.2.1 40 0)), some (.int p0), some (.int p1)] [.int 0, .ref (G.2.1 40 0)]) ∧ (¬ (¬ v2 = 0) → Z M G 0 K X w3 19 [some (.ref (G.2.1 40 0)), some (.int p0), some (.int p1)] [.int 1, .ref (G.2.1 40 0)]))) X)) :
    Con l G 7 0 yX10_note cX10_note 3 (some .int) w [.ref (G.2.1 40 0), .int p0, .int p1] K X := by
  refine con_intro hl (by decide +kernel) (Nat.le_of_ble_eq_true rfl) (Nat.le_of_ble_eq_true rfl) (fun M kk hM hk F => ?_)
  have h := h M kk hM hk F
  show Z M G 0 K X w 0 [some (.ref (G.2.1 40 0)), some (.int p0), some (.int p1)] []
  refine z_aload_n F dX10_note_0 rfl ?_
  refine z_iconst F 0 dX10_note_1 (by decide) ?_
  refine z_putIW F 0 rfl (by decide) (by decide) rfl lk_X10_95 dX10_note_2 (fun w1 hw1 => ?_)
  have h := h w1 hw1
  refine z_aload_n F dX10_note_5 rfl ?_
  refine z_aload_n F dX10_note_6 rfl ?_
  refine z_iload_n F dX10_note_7 rfl ?_
  refine z_callV F (k' := 2) (mc' := 0) [.int p0] [.ref (G.2.1 40 0)] dX10_note_8 rfl rfl (by decide) rfl cl_X10_324 hy_X10_isNote (by omega) (by decide) (by decide) (Nat.le_of_ble_eq_true rfl) rfl (con_mono h ?_ (fun _ _ h => h))
  rintro _ w3 ⟨v2, rfl, h⟩
  show Z M G 0 K X w3 11 [some (.ref (G.2.1 40 0)), some (.int p0), some (.int p1)] [.int v2, .ref (G.2.1 40 0)]
  refine z_if_ne F 18 dX10_note_11 (by decide) ⟨fun hc => ?_, fun hc => ?_⟩
  · have h := h.1 hc
    refine z_iconst F 0 dX10_note_18 (by decide) ?_
    exact h
  · have h := h.2 hc
    refine z_iconst F 1 dX10_note_14 (by decide) ?_
    refine z_goto F 19 dX10_note_15 (by decide) ?_
    exact h
set_option maxRecDepth 20000 in
theorem b_X10_note_19 {M : Mx} {G : Gx} {kk : Nat} {w : Wd}  {x1 : Int32} {x2 : Int32} {s0 : Int32} {K : Option Value → Wd → Prop} {X : String → Wd → Prop} (F : Fx M G RX10 cX10_note 3 (some .int) kk 0) (hk : 7 ≤ kk)
    (h : Con (mL M) G 1 0 yX10_bad cX10_bad 4 (some .boolean) w [.ref (G.2.1 40 0), .int s0, .int 1, .int 0] (fun r w2 => ∃ v1 : Int32, r = some (.int v1) ∧ ((¬ v1 = 0 → K (some (.int 0)) w2) ∧ (¬ (¬ v1 = 0) → Con (mL M) G 1 0 yX10_in cX10_in 3 (some .boolean) w2 [.int x2, .int 0, .int 3] (fun r w4 => ∃ v3 : Int32, r = some (.int v3) ∧ ((¬ v3 = 0 → Z M G 0 K X w4 42 [some (.ref (G.2.1 40 0)), some (.int x1), some (.int x2)] [.int 0, .ref (G.2.1 40 0)]) ∧ (¬ (¬ v3 = 0) → Z M G 0 K X w4 42 [some (.ref (G.2.1 40 0)), some (.int x1), some (.int x2)] [.int 1, .ref (G.2.1 40 0)]))) X))) X) :
    Z M G 0 K X w 19 [some (.ref (G.2.1 40 0)), some (.int x1), some (.int x2)] [.int s0, .ref (G.2.1 40 0)] := by
  refine z_iconst F 1 dX10_note_19 (by decide) ?_
  refine z_iconst F 0 dX10_note_20 (by decide) ?_
  refine z_callV F (k' := 1) (mc' := 0) [.int s0, .int 1, .int 0] [] dX10_note_21 rfl rfl (by decide) rfl cl_X10_171 hy_X10_bad (by omega) (by decide) (by decide) (Nat.le_of_ble_eq_true rfl) rfl (con_mono h ?_ (fun _ _ h => h))
  rintro _ w2 ⟨v1, rfl, h⟩
  show Z M G 0 K X w2 24 [some (.ref (G.2.1 40 0)), some (.int x1), some (.int x2)] [.int v1]
  refine z_if_ne F 50 dX10_note_24 (by decide) ⟨fun hc => ?_, fun hc => ?_⟩
  · have h := h.1 hc
    refine z_iconst F 0 dX10_note_50 (by decide) ?_
    exact z_iret F dX10_note_51 (by decide) h
  · have h := h.2 hc
    refine z_aload_n F dX10_note_27 rfl ?_
    refine z_iload_n F dX10_note_28 rfl ?_
    refine z_iconst F 0 dX10_note_29 (by decide) ?_
    refine z_iconst F 3 dX10_note_30 (by decide) ?_
    refine z_callS F (k' := 1) (mc' := 0) [.int x2, .int 0, .int 3] [.ref (G.2.1 40 0)] dX10_note_31 rfl cl_X10_129 hy_X10_in.2 (by omega) (by decide) (by decide) (Nat.le_of_ble_eq_true rfl) rfl (con_mono h ?_ (fun _ _ h => h))
    rintro _ w4 ⟨v3, rfl, h⟩
    show Z M G 0 K X w4 34 [some (.ref (G.2.1 40 0)), some (.int x1), some (.int x2)] [.int v3, .ref (G.2.1 40 0)]
    refine z_if_ne F 41 dX10_note_34 (by decide) ⟨fun hc => ?_, fun hc => ?_⟩
    · have h := h.1 hc
      refine z_iconst F 0 dX10_note_41 (by decide) ?_
      exact h
    · have h := h.2 hc
      refine z_iconst F 1 dX10_note_37 (by decide) ?_
      refine z_goto F 42 dX10_note_38 (by decide) ?_
      exact h
set_option maxRecDepth 20000 in
theorem b_X10_note_42 {M : Mx} {G : Gx} {kk : Nat} {w : Wd}  {x1 : Int32} {x2 : Int32} {s0 : Int32} {K : Option Value → Wd → Prop} {X : String → Wd → Prop} (F : Fx M G RX10 cX10_note 3 (some .int) kk 0) (hk : 7 ≤ kk)
    (h : Con (mL M) G 1 0 yX10_bad cX10_bad 4 (some .boolean) w [.ref (G.2.1 40 0), .int s0, .int 2, .int 1] (fun r w2 => ∃ v1 : Int32, r = some (.int v1) ∧ ((v1 = 0 → ((¬ x2 = 0 → ((3 ≤ x2 → Con (mL M) G 6 0 yX10_sungBy cX10_sungBy 4 (some .int) w2 [.ref (G.2.1 40 0), .ref (G.2.1 69 0), .int x1] (fun r w4 => ∃ v3 : Int32, r = some (.int v3) ∧ K (some (.int v3)) w4) X) ∧ (¬ (3 ≤ x2) → (vp_in x1 20 ∧ (vp_in (x2 - (1 : Int32)) 2 ∧ K (some (.int (w2.1 52 ((x1 : Int32).toNatClampNeg) ((x2 - (1 : Int32) : Int32).toNatClampNeg)))) w2))))) ∧ (¬ (¬ x2 = 0) → (vp_in ((35 : Int32) + x1) 57 ∧ K (some (.int (w2.1 69 0 (((35 : Int32) + x1 : Int32).toNatClampNeg)))) w2)))) ∧ (¬ (v1 = 0) → K (some (.int 0)) w2))) X) :
    Z M G 0 K X w 42 [some (.ref (G.2.1 40 0)), some (.int x1), some (.int x2)] [.int s0, .ref (G.2.1 40 0)] := by
  refine z_iconst F 2 dX10_note_42 (by decide) ?_
  refine z_iconst F 1 dX10_note_43 (by decide) ?_
  refine z_callV F (k' := 1) (mc' := 0) [.int s0, .int 2, .int 1] [] dX10_note_44 rfl rfl (by decide) rfl cl_X10_171 hy_X10_bad (by omega) (by decide) (by decide) (Nat.le_of_ble_eq_true rfl) rfl (con_mono h ?_ (fun _ _ h => h))
  rintro _ w2 ⟨v1, rfl, h⟩
  show Z M G 0 K X w2 47 [some (.ref (G.2.1 40 0)), some (.int x1), some (.int x2)] [.int v1]
  refine z_if_eq F 52 dX10_note_47 (by decide) ⟨fun hc => ?_, fun hc => ?_⟩
  · have h := h.1 hc
    refine z_iload_n F dX10_note_52 rfl ?_
    refine z_if_ne F 68 dX10_note_53 (by decide) ⟨fun hc => ?_, fun hc => ?_⟩
    · have h := h.1 hc
      refine z_iload_n F dX10_note_68 rfl ?_
      refine z_iconst F 3 dX10_note_69 (by decide) ?_
      refine z_icmp_ge F 86 dX10_note_70 (by decide) ⟨fun hc => ?_, fun hc => ?_⟩
      · have h := h.1 hc
        refine z_aload_n F dX10_note_86 rfl ?_
        refine z_aload_n F dX10_note_87 rfl ?_
        refine z_getR F 29 69 0 rfl (by decide) (by decide) rfl rfl rfl lk_X10_67 dX10_note_88 ?_
        refine z_iload_n F dX10_note_91 rfl ?_
        refine z_callV F (k' := 6) (mc' := 0) [.ref (G.2.1 69 0), .int x1] [] dX10_note_92 rfl rfl (by decide) rfl cl_X10_269 hy_X10_sungBy (by omega) (by decide) (by decide) (Nat.le_of_ble_eq_true rfl) rfl (con_mono h ?_ (fun _ _ h => h))
        rintro _ w4 ⟨v3, rfl, h⟩
        show Z M G 0 K X w4 95 [some (.ref (G.2.1 40 0)), some (.int x1), some (.int x2)] [.int v3]
        exact z_iret F dX10_note_95 (by decide) h
      · have h := h.2 hc
        refine z_aload_n F dX10_note_73 rfl ?_
        refine z_getR F 16 51 0 rfl (by decide) (by decide) rfl rfl rfl lk_X10_37 dX10_note_74 ?_
        refine z_iload_n F dX10_note_77 rfl ?_
        obtain ⟨hb, h⟩ := h
        refine z_aald F 52 ((x1 : Int32).toNatClampNeg) rfl (by decide) (by decide) (by decide) rfl rfl hb dX10_note_78 (fun hv5 => ?_)
        refine z_iload_n F dX10_note_79 rfl ?_
        refine z_iconst F 1 dX10_note_80 (by decide) ?_
        refine z_isub F dX10_note_81 ?_
        obtain ⟨hb, h⟩ := h
        refine z_ialdK F ((x2 - (1 : Int32) : Int32).toNatClampNeg) rfl rfl hv5 hb dX10_note_82 ?_
        refine z_goto F 95 dX10_note_83 (by decide) ?_
        exact z_iret F dX10_note_95 (by decide) h
    · have h := h.2 hc
      refine z_aload_n F dX10_note_56 rfl ?_
      refine z_getR F 29 69 0 rfl (by decide) (by decide) rfl rfl rfl lk_X10_67 dX10_note_57 ?_
      refine z_bipush F 35 dX10_note_60 (by decide) ?_
      refine z_iload_n F dX10_note_62 rfl ?_
      refine z_iadd F dX10_note_63 ?_
      obtain ⟨hb, h⟩ := h
      refine z_ialdK F (((35 : Int32) + x1 : Int32).toNatClampNeg) rfl rfl (by decide) hb dX10_note_64 ?_
      refine z_goto F 95 dX10_note_65 (by decide) ?_
      exact z_iret F dX10_note_95 (by decide) h
  · have h := h.2 hc
    refine z_iconst F 0 dX10_note_50 (by decide) ?_
    exact z_iret F dX10_note_51 (by decide) h
set_option maxRecDepth 20000 in
theorem e_X10_like {l : Launch} {G : Gx} {w : Wd} {p0 : Int32} {p1 : Int32} {K : Option Value → Wd → Prop} {X : String → Wd → Prop} (hl : l.stackTraces = false)
    (h : ∀ (M : Mx) (kk : Nat), mL M = l → 2 ≤ kk → Fx M G RX10 cX10_like 3 (some .int) kk 0 → (∀ w1 : Wd, w1 = setI w 40 0 0 0 → Con (mL M) G 1 0 yX10_in cX10_in 3 (some .boolean) w1 [.int p0, .int 0, .int ((w1.1 44 0 2) - (1 : Int32))] (fun r w3 => ∃ v2 : Int32, r = some (.int v2) ∧ ((¬ v2 = 0 → Z M G 0 K X w3 27 [some (.ref (G.2.1 40 0)), some (.int p0), some (.int p1)] [.int 0, .ref (G.2.1 40 0)]) ∧ (¬ (¬ v2 = 0) → Z M G 0 K X w3 27 [some (.ref (G.2.1 40 0)), some (.int p0), some (.int p1)] [.int 1, .ref (G.2.1 40 0)]))) X)) :
    Con l G 2 0 yX10_like cX10_like 3 (some .int) w [.ref (G.2.1 40 0), .int p0, .int p1] K X := by
  refine con_intro hl (by decide +kernel) (Nat.le_of_ble_eq_true rfl) (Nat.le_of_ble_eq_true rfl) (fun M kk hM hk F => ?_)
  have h := h M kk hM hk F
  show Z M G 0 K X w 0 [some (.ref (G.2.1 40 0)), some (.int p0), some (.int p1)] []
  refine z_aload_n F dX10_like_0 rfl ?_
  refine z_iconst F 0 dX10_like_1 (by decide) ?_
  refine z_putIW F 0 rfl (by decide) (by decide) rfl lk_X10_95 dX10_like_2 (fun w1 hw1 => ?_)
  have h := h w1 hw1
  refine z_aload_n F dX10_like_5 rfl ?_
  refine z_iload_n F dX10_like_6 rfl ?_
  refine z_iconst F 0 dX10_like_7 (by decide) ?_
  refine z_aload_n F dX10_like_8 rfl ?_
  refine z_getR F 12 44 0 rfl (by decide) (by decide) rfl rfl rfl lk_X10_23 dX10_like_9 ?_
  refine z_iconst F 2 dX10_like_12 (by decide) ?_
  refine z_ialdK F 2 (by decide) rfl (by decide) (by unfold vp_in; decide) dX10_like_13 ?_
  refine z_iconst F 1 dX10_like_14 (by decide) ?_
  refine z_isub F dX10_like_15 ?_
  refine z_callS F (k' := 1) (mc' := 0) [.int p0, .int 0, .int ((w1.1 44 0 2) - (1 : Int32))] [.ref (G.2.1 40 0)] dX10_like_16 rfl cl_X10_129 hy_X10_in.2 (by omega) (by decide) (by decide) (Nat.le_of_ble_eq_true rfl) rfl (con_mono h ?_ (fun _ _ h => h))
  rintro _ w3 ⟨v2, rfl, h⟩
  show Z M G 0 K X w3 19 [some (.ref (G.2.1 40 0)), some (.int p0), some (.int p1)] [.int v2, .ref (G.2.1 40 0)]
  refine z_if_ne F 26 dX10_like_19 (by decide) ⟨fun hc => ?_, fun hc => ?_⟩
  · have h := h.1 hc
    refine z_iconst F 0 dX10_like_26 (by decide) ?_
    exact h
  · have h := h.2 hc
    refine z_iconst F 1 dX10_like_22 (by decide) ?_
    refine z_goto F 27 dX10_like_23 (by decide) ?_
    exact h
set_option maxRecDepth 20000 in
theorem b_X10_like_27 {M : Mx} {G : Gx} {kk : Nat} {w : Wd}  {x1 : Int32} {x2 : Int32} {s0 : Int32} {K : Option Value → Wd → Prop} {X : String → Wd → Prop} (F : Fx M G RX10 cX10_like 3 (some .int) kk 0) (hk : 2 ≤ kk)
    (h : Con (mL M) G 1 0 yX10_bad cX10_bad 4 (some .boolean) w [.ref (G.2.1 40 0), .int s0, .int 1, .int 0] (fun r w2 => ∃ v1 : Int32, r = some (.int v1) ∧ ((¬ v1 = 0 → K (some (.int 0)) w2) ∧ (¬ (¬ v1 = 0) → Con (mL M) G 1 0 yX10_in cX10_in 3 (some .boolean) w2 [.int x2, .int 0, .int 1] (fun r w4 => ∃ v3 : Int32, r = some (.int v3) ∧ ((¬ v3 = 0 → Z M G 0 K X w4 50 [some (.ref (G.2.1 40 0)), some (.int x1), some (.int x2)] [.int 0, .ref (G.2.1 40 0)]) ∧ (¬ (¬ v3 = 0) → Z M G 0 K X w4 50 [some (.ref (G.2.1 40 0)), some (.int x1), some (.int x2)] [.int 1, .ref (G.2.1 40 0)]))) X))) X) :
    Z M G 0 K X w 27 [some (.ref (G.2.1 40 0)), some (.int x1), some (.int x2)] [.int s0, .ref (G.2.1 40 0)] := by
  refine z_iconst F 1 dX10_like_27 (by decide) ?_
  refine z_iconst F 0 dX10_like_28 (by decide) ?_
  refine z_callV F (k' := 1) (mc' := 0) [.int s0, .int 1, .int 0] [] dX10_like_29 rfl rfl (by decide) rfl cl_X10_171 hy_X10_bad (by omega) (by decide) (by decide) (Nat.le_of_ble_eq_true rfl) rfl (con_mono h ?_ (fun _ _ h => h))
  rintro _ w2 ⟨v1, rfl, h⟩
  show Z M G 0 K X w2 32 [some (.ref (G.2.1 40 0)), some (.int x1), some (.int x2)] [.int v1]
  refine z_if_ne F 58 dX10_like_32 (by decide) ⟨fun hc => ?_, fun hc => ?_⟩
  · have h := h.1 hc
    refine z_iconst F 0 dX10_like_58 (by decide) ?_
    exact z_iret F dX10_like_59 (by decide) h
  · have h := h.2 hc
    refine z_aload_n F dX10_like_35 rfl ?_
    refine z_iload_n F dX10_like_36 rfl ?_
    refine z_iconst F 0 dX10_like_37 (by decide) ?_
    refine z_iconst F 1 dX10_like_38 (by decide) ?_
    refine z_callS F (k' := 1) (mc' := 0) [.int x2, .int 0, .int 1] [.ref (G.2.1 40 0)] dX10_like_39 rfl cl_X10_129 hy_X10_in.2 (by omega) (by decide) (by decide) (Nat.le_of_ble_eq_true rfl) rfl (con_mono h ?_ (fun _ _ h => h))
    rintro _ w4 ⟨v3, rfl, h⟩
    show Z M G 0 K X w4 42 [some (.ref (G.2.1 40 0)), some (.int x1), some (.int x2)] [.int v3, .ref (G.2.1 40 0)]
    refine z_if_ne F 49 dX10_like_42 (by decide) ⟨fun hc => ?_, fun hc => ?_⟩
    · have h := h.1 hc
      refine z_iconst F 0 dX10_like_49 (by decide) ?_
      exact h
    · have h := h.2 hc
      refine z_iconst F 1 dX10_like_45 (by decide) ?_
      refine z_goto F 50 dX10_like_46 (by decide) ?_
      exact h
set_option maxRecDepth 20000 in
theorem b_X10_like_50 {M : Mx} {G : Gx} {kk : Nat} {w : Wd}  {x1 : Int32} {x2 : Int32} {s0 : Int32} {K : Option Value → Wd → Prop} {X : String → Wd → Prop} (F : Fx M G RX10 cX10_like 3 (some .int) kk 0) (hk : 2 ≤ kk)
    (h : Con (mL M) G 1 0 yX10_bad cX10_bad 4 (some .boolean) w [.ref (G.2.1 40 0), .int s0, .int 2, .int 1] (fun r w2 => ∃ v1 : Int32, r = some (.int v1) ∧ ((v1 = 0 → (vp_in x1 12 ∧ (vp_in x2 2 ∧ K (some (.int (w2.1 56 ((x1 : Int32).toNatClampNeg) ((x2 : Int32).toNatClampNeg)))) w2))) ∧ (¬ (v1 = 0) → K (some (.int 0)) w2))) X) :
    Z M G 0 K X w 50 [some (.ref (G.2.1 40 0)), some (.int x1), some (.int x2)] [.int s0, .ref (G.2.1 40 0)] := by
  refine z_iconst F 2 dX10_like_50 (by decide) ?_
  refine z_iconst F 1 dX10_like_51 (by decide) ?_
  refine z_callV F (k' := 1) (mc' := 0) [.int s0, .int 2, .int 1] [] dX10_like_52 rfl rfl (by decide) rfl cl_X10_171 hy_X10_bad (by omega) (by decide) (by decide) (Nat.le_of_ble_eq_true rfl) rfl (con_mono h ?_ (fun _ _ h => h))
  rintro _ w2 ⟨v1, rfl, h⟩
  show Z M G 0 K X w2 55 [some (.ref (G.2.1 40 0)), some (.int x1), some (.int x2)] [.int v1]
  refine z_if_eq F 60 dX10_like_55 (by decide) ⟨fun hc => ?_, fun hc => ?_⟩
  · have h := h.1 hc
    refine z_aload_n F dX10_like_60 rfl ?_
    refine z_getR F 18 55 0 rfl (by decide) (by decide) rfl rfl rfl lk_X10_43 dX10_like_61 ?_
    refine z_iload_n F dX10_like_64 rfl ?_
    obtain ⟨hb, h⟩ := h
    refine z_aald F 56 ((x1 : Int32).toNatClampNeg) rfl (by decide) (by decide) (by decide) rfl rfl hb dX10_like_65 (fun hv3 => ?_)
    refine z_iload_n F dX10_like_66 rfl ?_
    obtain ⟨hb, h⟩ := h
    refine z_ialdK F ((x2 : Int32).toNatClampNeg) rfl rfl hv3 hb dX10_like_67 ?_
    exact z_iret F dX10_like_68 (by decide) h
  · have h := h.2 hc
    refine z_iconst F 0 dX10_like_58 (by decide) ?_
    exact z_iret F dX10_like_59 (by decide) h
set_option maxRecDepth 20000 in
theorem e_X10_takes {l : Launch} {G : Gx} {w : Wd} {p0 : Int32} {p1 : Int32} {K : Option Value → Wd → Prop} {X : String → Wd → Prop} (hl : l.stackTraces = false)
    (h : ∀ (M : Mx) (kk : Nat), mL M = l → 6 ≤ kk → Fx M G RX10 cX10_takes 3 (some .int) kk 0 → (∀ w1 : Wd, w1 = setI w 40 0 0 0 → Con (mL M) G 2 0 yX10_isNote cX10_isNote 2 (some .boolean) w1 [.ref (G.2.1 40 0), .int p0] (fun r w3 => ∃ v2 : Int32, r = some (.int v2) ∧ ((v2 = 0 → Z M G 0 K X w3 22 [some (.ref (G.2.1 40 0)), some (.int p0), some (.int p1)] [.ref (G.2.1 40 0)]) ∧ (¬ (v2 = 0) → Con (mL M) G 2 0 yX10_isSinger cX10_isSinger 2 (some .boolean) w3 [.ref (G.2.1 40 0), .int p1] (fun r w5 => ∃ v4 : Int32, r = some (.int v4) ∧ ((¬ v4 = 0 → Z M G 0 K X w5 27 [some (.ref (G.2.1 40 0)), some (.int p0), some (.int p1)] [.int 0, .ref (G.2.1 40 0)]) ∧ (¬ (¬ v4 = 0) → Z M G 0 K X w5 22 [some (.ref (G.2.1 40 0)), some (.int p0), some (.int p1)] [.ref (G.2.1 40 0)]))) X))) X)) :
    Con l G 6 0 yX10_takes cX10_takes 3 (some .int) w [.ref (G.2.1 40 0), .int p0, .int p1] K X := by
  refine con_intro hl (by decide +kernel) (Nat.le_of_ble_eq_true rfl) (Nat.le_of_ble_eq_true rfl) (fun M kk hM hk F => ?_)
  have h := h M kk hM hk F
  show Z M G 0 K X w 0 [some (.ref (G.2.1 40 0)), some (.int p0), some (.int p1)] []
  refine z_aload_n F dX10_takes_0 rfl ?_
  refine z_iconst F 0 dX10_takes_1 (by decide) ?_
  refine z_putIW F 0 rfl (by decide) (by decide) rfl lk_X10_95 dX10_takes_2 (fun w1 hw1 => ?_)
  have h := h w1 hw1
  refine z_aload_n F dX10_takes_5 rfl ?_
  refine z_aload_n F dX10_takes_6 rfl ?_
  refine z_iload_n F dX10_takes_7 rfl ?_
  refine z_callV F (k' := 2) (mc' := 0) [.int p0] [.ref (G.2.1 40 0)] dX10_takes_8 rfl rfl (by decide) rfl cl_X10_324 hy_X10_isNote (by omega) (by decide) (by decide) (Nat.le_of_ble_eq_true rfl) rfl (con_mono h ?_ (fun _ _ h => h))
  rintro _ w3 ⟨v2, rfl, h⟩
  show Z M G 0 K X w3 11 [some (.ref (G.2.1 40 0)), some (.int p0), some (.int p1)] [.int v2, .ref (G.2.1 40 0)]
  refine z_if_eq F 22 dX10_takes_11 (by decide) ⟨fun hc => ?_, fun hc => ?_⟩
  · have h := h.1 hc
    exact h
  · have h := h.2 hc
    refine z_aload_n F dX10_takes_14 rfl ?_
    refine z_iload_n F dX10_takes_15 rfl ?_
    refine z_callV F (k' := 2) (mc' := 0) [.int p1] [.ref (G.2.1 40 0)] dX10_takes_16 rfl rfl (by decide) rfl cl_X10_321 hy_X10_isSinger (by omega) (by decide) (by decide) (Nat.le_of_ble_eq_true rfl) rfl (con_mono h ?_ (fun _ _ h => h))
    rintro _ w5 ⟨v4, rfl, h⟩
    show Z M G 0 K X w5 19 [some (.ref (G.2.1 40 0)), some (.int p0), some (.int p1)] [.int v4, .ref (G.2.1 40 0)]
    refine z_if_ne F 26 dX10_takes_19 (by decide) ⟨fun hc => ?_, fun hc => ?_⟩
    · have h := h.1 hc
      refine z_iconst F 0 dX10_takes_26 (by decide) ?_
      exact h
    · have h := h.2 hc
      exact h
set_option maxRecDepth 20000 in
theorem b_X10_takes_22 {M : Mx} {G : Gx} {kk : Nat} {w : Wd}  {x1 : Int32} {x2 : Int32} {K : Option Value → Wd → Prop} {X : String → Wd → Prop} (F : Fx M G RX10 cX10_takes 3 (some .int) kk 0) (hk : 6 ≤ kk)
    (h : Z M G 0 K X w 27 [some (.ref (G.2.1 40 0)), some (.int x1), some (.int x2)] [.int 1, .ref (G.2.1 40 0)]) :
    Z M G 0 K X w 22 [some (.ref (G.2.1 40 0)), some (.int x1), some (.int x2)] [.ref (G.2.1 40 0)] := by
  refine z_iconst F 1 dX10_takes_22 (by decide) ?_
  refine z_goto F 27 dX10_takes_23 (by decide) ?_
  exact h
set_option maxRecDepth 20000 in
theorem b_X10_takes_27 {M : Mx} {G : Gx} {kk : Nat} {w : Wd}  {x1 : Int32} {x2 : Int32} {s0 : Int32} {K : Option Value → Wd → Prop} {X : String → Wd → Prop} (F : Fx M G RX10 cX10_takes 3 (some .int) kk 0) (hk : 6 ≤ kk)
    (h : Con (mL M) G 1 0 yX10_bad cX10_bad 4 (some .boolean) w [.ref (G.2.1 40 0), .int s0, .int 1, .int 0] (fun r w2 => ∃ v1 : Int32, r = some (.int v1) ∧ ((v1 = 0 → Con (mL M) G 5 0 yX10_breathOf cX10_breathOf 4 (some .int) w2 [.ref (G.2.1 40 0), .ref (G.2.1 69 0), .int x1, .int x2] (fun r w4 => ∃ v3 : Int32, r = some (.int v3) ∧ K (some (.int v3)) w4) X) ∧ (¬ (v1 = 0) → K (some (.int 0)) w2))) X) :
    Z M G 0 K X w 27 [some (.ref (G.2.1 40 0)), some (.int x1), some (.int x2)] [.int s0, .ref (G.2.1 40 0)] := by
  refine z_iconst F 1 dX10_takes_27 (by decide) ?_
  refine z_iconst F 0 dX10_takes_28 (by decide) ?_
  refine z_callV F (k' := 1) (mc' := 0) [.int s0, .int 1, .int 0] [] dX10_takes_29 rfl rfl (by decide) rfl cl_X10_171 hy_X10_bad (by omega) (by decide) (by decide) (Nat.le_of_ble_eq_true rfl) rfl (con_mono h ?_ (fun _ _ h => h))
  rintro _ w2 ⟨v1, rfl, h⟩
  show Z M G 0 K X w2 32 [some (.ref (G.2.1 40 0)), some (.int x1), some (.int x2)] [.int v1]
  refine z_if_eq F 37 dX10_takes_32 (by decide) ⟨fun hc => ?_, fun hc => ?_⟩
  · have h := h.1 hc
    refine z_aload_n F dX10_takes_37 rfl ?_
    refine z_aload_n F dX10_takes_38 rfl ?_
    refine z_getR F 29 69 0 rfl (by decide) (by decide) rfl rfl rfl lk_X10_67 dX10_takes_39 ?_
    refine z_iload_n F dX10_takes_42 rfl ?_
    refine z_iload_n F dX10_takes_43 rfl ?_
    refine z_callV F (k' := 5) (mc' := 0) [.ref (G.2.1 69 0), .int x1, .int x2] [] dX10_takes_44 rfl rfl (by decide) rfl cl_X10_265 hy_X10_breathOf (by omega) (by decide) (by decide) (Nat.le_of_ble_eq_true rfl) rfl (con_mono h ?_ (fun _ _ h => h))
    rintro _ w4 ⟨v3, rfl, h⟩
    show Z M G 0 K X w4 47 [some (.ref (G.2.1 40 0)), some (.int x1), some (.int x2)] [.int v3]
    exact z_iret F dX10_takes_47 (by decide) h
  · have h := h.2 hc
    refine z_iconst F 0 dX10_takes_35 (by decide) ?_
    exact z_iret F dX10_takes_36 (by decide) h
set_option maxRecDepth 20000 in
theorem e_X10_would {l : Launch} {G : Gx} {w : Wd} {p0 : Int32} {p1 : Int32} {p2 : Int32} {p3 : Int32} {p4 : Int32} {p5 : Int32} {p6 : Int32} {p7 : Int32} {K : Option Value → Wd → Prop} {X : String → Wd → Prop} (hl : l.stackTraces = false)
    (h : ∀ (M : Mx) (kk : Nat), mL M = l → 5 ≤ kk → Fx M G RX10 cX10_would 9 (some .int) kk 0 → (∀ w1 : Wd, w1 = setI w 40 0 0 0 → Con (mL M) G 1 0 yX10_in cX10_in 3 (some .boolean) w1 [.int p0, .int 1, .int 9] (fun r w3 => ∃ v2 : Int32, r = some (.int v2) ∧ ((v2 = 0 → Z M G 0 K X w3 90 [some (.ref (G.2.1 40 0)), some (.int p0), some (.int p1), some (.int p2), some (.int p3), some (.int p4), some (.int p5), some (.int p6), some (.int p7)] [.ref (G.2.1 40 0)]) ∧ (¬ (v2 = 0) → Con (mL M) G 1 0 yX10_in cX10_in 3 (some .boolean) w3 [.int p1, .int 0, .int 60] (fun r w5 => ∃ v4 : Int32, r = some (.int v4) ∧ ((v4 = 0 → Z M G 0 K X w5 90 [some (.ref (G.2.1 40 0)), some (.int p0), some (.int p1), some (.int p2), some (.int p3), some (.int p4), some (.int p5), some (.int p6), some (.int p7)] [.ref (G.2.1 40 0)]) ∧ (¬ (v4 = 0) → Con (mL M) G 1 0 yX10_in cX10_in 3 (some .boolean) w5 [.int p2, .int 0, .int 30] (fun r w7 => ∃ v6 : Int32, r = some (.int v6) ∧ ((v6 = 0 → Z M G 0 K X w7 90 [some (.ref (G.2.1 40 0)), some (.int p0), some (.int p1), some (.int p2), some (.int p3), some (.int p4), some (.int p5), some (.int p6), some (.int p7)] [.ref (G.2.1 40 0)]) ∧ (¬ (v6 = 0) → Con (mL M) G 1 0 yX10_in cX10_in 3 (some .boolean) w7 [.int p3, .int 0, .int 9999] (fun r w9 => ∃ v8 : Int32, r = some (.int v8) ∧ ((v8 = 0 → Z M G 0 K X w9 90 [some (.ref (G.2.1 40 0)), some (.int p0), some (.int p1), some (.int p2), some (.int p3), some (.int p4), some (.int p5), some (.int p6), some (.int p7)] [.ref (G.2.1 40 0)]) ∧ (¬ (v8 = 0) → Con (mL M) G 1 0 yX10_in cX10_in 3 (some .boolean) w9 [.int p4, .int 0, .int 19] (fun r w11 => ∃ v10 : Int32, r = some (.int v10) ∧ ((v10 = 0 → Z M G 0 K X w11 90 [some (.ref (G.2.1 40 0)), some (.int p0), some (.int p1), some (.int p2), some (.int p3), some (.int p4), some (.int p5), some (.int p6), some (.int p7)] [.ref (G.2.1 40 0)]) ∧ (¬ (v10 = 0) → Con (mL M) G 2 0 yX10_isVowel cX10_isVowel 1 (some .boolean) w11 [.int p5] (fun r w13 => ∃ v12 : Int32, r = some (.int v12) ∧ ((v12 = 0 → Z M G 0 K X w13 90 [some (.ref (G.2.1 40 0)), some (.int p0), some (.int p1), some (.int p2), some (.int p3), some (.int p4), some (.int p5), some (.int p6), some (.int p7)] [.ref (G.2.1 40 0)]) ∧ (¬ (v12 = 0) → Con (mL M) G 1 0 yX10_in cX10_in 3 (some .boolean) w13 [.int p6, .int 0, .int 400] (fun r w15 => ∃ v14 : Int32, r = some (.int v14) ∧ ((v14 = 0 → Z M G 0 K X w15 90 [some (.ref (G.2.1 40 0)), some (.int p0), some (.int p1), some (.int p2), some (.int p3), some (.int p4), some (.int p5), some (.int p6), some (.int p7)] [.ref (G.2.1 40 0)]) ∧ (¬ (v14 = 0) → Con (mL M) G 1 0 yX10_in cX10_in 3 (some .boolean) w15 [.int p7, .int 0, .int 6] (fun r w17 => ∃ v16 : Int32, r = some (.int v16) ∧ ((¬ v16 = 0 → Z M G 0 K X w17 95 [some (.ref (G.2.1 40 0)), some (.int p0), some (.int p1), some (.int p2), some (.int p3), some (.int p4), some (.int p5), some (.int p6), some (.int p7)] [.int 0, .ref (G.2.1 40 0)]) ∧ (¬ (¬ v16 = 0) → Z M G 0 K X w17 90 [some (.ref (G.2.1 40 0)), some (.int p0), some (.int p1), some (.int p2), some (.int p3), some (.int p4), some (.int p5), some (.int p6), some (.int p7)] [.ref (G.2.1 40 0)]))) X))) X))) X))) X))) X))) X))) X))) X)) :
    Con l G 5 0 yX10_would cX10_would 9 (some .int) w [.ref (G.2.1 40 0), .int p0, .int p1, .int p2, .int p3, .int p4, .int p5, .int p6, .int p7] K X := by
  refine con_intro hl (by decide +kernel) (Nat.le_of_ble_eq_true rfl) (Nat.le_of_ble_eq_true rfl) (fun M kk hM hk F => ?_)
  have h := h M kk hM hk F
  show Z M G 0 K X w 0 [some (.ref (G.2.1 40 0)), some (.int p0), some (.int p1), some (.int p2), some (.int p3), some (.int p4), some (.int p5), some (.int p6), some (.int p7)] []
  refine z_aload_n F dX10_would_0 rfl ?_
  refine z_iconst F 0 dX10_would_1 (by decide) ?_
  refine z_putIW F 0 rfl (by decide) (by decide) rfl lk_X10_95 dX10_would_2 (fun w1 hw1 => ?_)
  have h := h w1 hw1
  refine z_aload_n F dX10_would_5 rfl ?_
  refine z_iload_n F dX10_would_6 rfl ?_
  refine z_iconst F 1 dX10_would_7 (by decide) ?_
  refine z_bipush F 9 dX10_would_8 (by decide) ?_
  refine z_callS F (k' := 1) (mc' := 0) [.int p0, .int 1, .int 9] [.ref (G.2.1 40 0)] dX10_would_10 rfl cl_X10_129 hy_X10_in.2 (by omega) (by decide) (by decide) (Nat.le_of_ble_eq_true rfl) rfl (con_mono h ?_ (fun _ _ h => h))
  rintro _ w3 ⟨v2, rfl, h⟩
  show Z M G 0 K X w3 13 [some (.ref (G.2.1 40 0)), some (.int p0), some (.int p1), some (.int p2), some (.int p3), some (.int p4), some (.int p5), some (.int p6), some (.int p7)] [.int v2, .ref (G.2.1 40 0)]
  refine z_if_eq F 90 dX10_would_13 (by decide) ⟨fun hc => ?_, fun hc => ?_⟩
  · have h := h.1 hc
    exact h
  · have h := h.2 hc
    refine z_iload_n F dX10_would_16 rfl ?_
    refine z_iconst F 0 dX10_would_17 (by decide) ?_
    refine z_bipush F 60 dX10_would_18 (by decide) ?_
    refine z_callS F (k' := 1) (mc' := 0) [.int p1, .int 0, .int 60] [.ref (G.2.1 40 0)] dX10_would_20 rfl cl_X10_129 hy_X10_in.2 (by omega) (by decide) (by decide) (Nat.le_of_ble_eq_true rfl) rfl (con_mono h ?_ (fun _ _ h => h))
    rintro _ w5 ⟨v4, rfl, h⟩
    show Z M G 0 K X w5 23 [some (.ref (G.2.1 40 0)), some (.int p0), some (.int p1), some (.int p2), some (.int p3), some (.int p4), some (.int p5), some (.int p6), some (.int p7)] [.int v4, .ref (G.2.1 40 0)]
    refine z_if_eq F 90 dX10_would_23 (by decide) ⟨fun hc => ?_, fun hc => ?_⟩
    · have h := h.1 hc
      exact h
    · have h := h.2 hc
      refine z_iload_n F dX10_would_26 rfl ?_
      refine z_iconst F 0 dX10_would_27 (by decide) ?_
      refine z_bipush F 30 dX10_would_28 (by decide) ?_
      refine z_callS F (k' := 1) (mc' := 0) [.int p2, .int 0, .int 30] [.ref (G.2.1 40 0)] dX10_would_30 rfl cl_X10_129 hy_X10_in.2 (by omega) (by decide) (by decide) (Nat.le_of_ble_eq_true rfl) rfl (con_mono h ?_ (fun _ _ h => h))
      rintro _ w7 ⟨v6, rfl, h⟩
      show Z M G 0 K X w7 33 [some (.ref (G.2.1 40 0)), some (.int p0), some (.int p1), some (.int p2), some (.int p3), some (.int p4), some (.int p5), some (.int p6), some (.int p7)] [.int v6, .ref (G.2.1 40 0)]
      refine z_if_eq F 90 dX10_would_33 (by decide) ⟨fun hc => ?_, fun hc => ?_⟩
      · have h := h.1 hc
        exact h
      · have h := h.2 hc
        refine z_iload F dX10_would_36 rfl ?_
        refine z_iconst F 0 dX10_would_38 (by decide) ?_
        refine z_sipush F 9999 dX10_would_39 (by decide) ?_
        refine z_callS F (k' := 1) (mc' := 0) [.int p3, .int 0, .int 9999] [.ref (G.2.1 40 0)] dX10_would_42 rfl cl_X10_129 hy_X10_in.2 (by omega) (by decide) (by decide) (Nat.le_of_ble_eq_true rfl) rfl (con_mono h ?_ (fun _ _ h => h))
        rintro _ w9 ⟨v8, rfl, h⟩
        show Z M G 0 K X w9 45 [some (.ref (G.2.1 40 0)), some (.int p0), some (.int p1), some (.int p2), some (.int p3), some (.int p4), some (.int p5), some (.int p6), some (.int p7)] [.int v8, .ref (G.2.1 40 0)]
        refine z_if_eq F 90 dX10_would_45 (by decide) ⟨fun hc => ?_, fun hc => ?_⟩
        · have h := h.1 hc
          exact h
        · have h := h.2 hc
          refine z_iload F dX10_would_48 rfl ?_
          refine z_iconst F 0 dX10_would_50 (by decide) ?_
          refine z_bipush F 19 dX10_would_51 (by decide) ?_
          refine z_callS F (k' := 1) (mc' := 0) [.int p4, .int 0, .int 19] [.ref (G.2.1 40 0)] dX10_would_53 rfl cl_X10_129 hy_X10_in.2 (by omega) (by decide) (by decide) (Nat.le_of_ble_eq_true rfl) rfl (con_mono h ?_ (fun _ _ h => h))
          rintro _ w11 ⟨v10, rfl, h⟩
          show Z M G 0 K X w11 56 [some (.ref (G.2.1 40 0)), some (.int p0), some (.int p1), some (.int p2), some (.int p3), some (.int p4), some (.int p5), some (.int p6), some (.int p7)] [.int v10, .ref (G.2.1 40 0)]
          refine z_if_eq F 90 dX10_would_56 (by decide) ⟨fun hc => ?_, fun hc => ?_⟩
          · have h := h.1 hc
            exact h
          · have h := h.2 hc
            refine z_iload F dX10_would_59 rfl ?_
            refine z_callS F (k' := 2) (mc' := 0) [.int p5] [.ref (G.2.1 40 0)] dX10_would_61 rfl cl_X10_327 hy_X10_isVowel.2 (by omega) (by decide) (by decide) (Nat.le_of_ble_eq_true rfl) rfl (con_mono h ?_ (fun _ _ h => h))
            rintro _ w13 ⟨v12, rfl, h⟩
            show Z M G 0 K X w13 64 [some (.ref (G.2.1 40 0)), some (.int p0), some (.int p1), some (.int p2), some (.int p3), some (.int p4), some (.int p5), some (.int p6), some (.int p7)] [.int v12, .ref (G.2.1 40 0)]
            refine z_if_eq F 90 dX10_would_64 (by decide) ⟨fun hc => ?_, fun hc => ?_⟩
            · have h := h.1 hc
              exact h
            · have h := h.2 hc
              refine z_iload F dX10_would_67 rfl ?_
              refine z_iconst F 0 dX10_would_69 (by decide) ?_
              refine z_sipush F 400 dX10_would_70 (by decide) ?_
              refine z_callS F (k' := 1) (mc' := 0) [.int p6, .int 0, .int 400] [.ref (G.2.1 40 0)] dX10_would_73 rfl cl_X10_129 hy_X10_in.2 (by omega) (by decide) (by decide) (Nat.le_of_ble_eq_true rfl) rfl (con_mono h ?_ (fun _ _ h => h))
              rintro _ w15 ⟨v14, rfl, h⟩
              show Z M G 0 K X w15 76 [some (.ref (G.2.1 40 0)), some (.int p0), some (.int p1), some (.int p2), some (.int p3), some (.int p4), some (.int p5), some (.int p6), some (.int p7)] [.int v14, .ref (G.2.1 40 0)]
              refine z_if_eq F 90 dX10_would_76 (by decide) ⟨fun hc => ?_, fun hc => ?_⟩
              · have h := h.1 hc
                exact h
              · have h := h.2 hc
                refine z_iload F dX10_would_79 rfl ?_
                refine z_iconst F 0 dX10_would_81 (by decide) ?_
                refine z_bipush F 6 dX10_would_82 (by decide) ?_
                refine z_callS F (k' := 1) (mc' := 0) [.int p7, .int 0, .int 6] [.ref (G.2.1 40 0)] dX10_would_84 rfl cl_X10_129 hy_X10_in.2 (by omega) (by decide) (by decide) (Nat.le_of_ble_eq_true rfl) rfl (con_mono h ?_ (fun _ _ h => h))
                rintro _ w17 ⟨v16, rfl, h⟩
                show Z M G 0 K X w17 87 [some (.ref (G.2.1 40 0)), some (.int p0), some (.int p1), some (.int p2), some (.int p3), some (.int p4), some (.int p5), some (.int p6), some (.int p7)] [.int v16, .ref (G.2.1 40 0)]
                refine z_if_ne F 94 dX10_would_87 (by decide) ⟨fun hc => ?_, fun hc => ?_⟩
                · have h := h.1 hc
                  refine z_iconst F 0 dX10_would_94 (by decide) ?_
                  exact h
                · have h := h.2 hc
                  exact h
set_option maxRecDepth 20000 in
theorem b_X10_would_90 {M : Mx} {G : Gx} {kk : Nat} {w : Wd}  {x1 : Int32} {x2 : Int32} {x3 : Int32} {x4 : Int32} {x5 : Int32} {x6 : Int32} {x7 : Int32} {x8 : Int32} {K : Option Value → Wd → Prop} {X : String → Wd → Prop} (F : Fx M G RX10 cX10_would 9 (some .int) kk 0) (hk : 5 ≤ kk)
    (h : Z M G 0 K X w 95 [some (.ref (G.2.1 40 0)), some (.int x1), some (.int x2), some (.int x3), some (.int x4), some (.int x5), some (.int x6), some (.int x7), some (.int x8)] [.int 1, .ref (G.2.1 40 0)]) :
    Z M G 0 K X w 90 [some (.ref (G.2.1 40 0)), some (.int x1), some (.int x2), some (.int x3), some (.int x4), some (.int x5), some (.int x6), some (.int x7), some (.int x8)] [.ref (G.2.1 40 0)] := by
  refine z_iconst F 1 dX10_would_90 (by decide) ?_
  refine z_goto F 95 dX10_would_91 (by decide) ?_
  exact h
set_option maxRecDepth 20000 in
theorem b_X10_would_95 {M : Mx} {G : Gx} {kk : Nat} {w : Wd}  {x1 : Int32} {x2 : Int32} {x3 : Int32} {x4 : Int32} {x5 : Int32} {x6 : Int32} {x7 : Int32} {x8 : Int32} {s0 : Int32} {K : Option Value → Wd → Prop} {X : String → Wd → Prop} (F : Fx M G RX10 cX10_would 9 (some .int) kk 0) (hk : 5 ≤ kk)
    (h : Con (mL M) G 1 0 yX10_bad cX10_bad 4 (some .boolean) w [.ref (G.2.1 40 0), .int s0, .int 1, .int 1] (fun r w2 => ∃ v1 : Int32, r = some (.int v1) ∧ ((v1 = 0 → Con (mL M) G 4 0 yX10_breathBy cX10_breathBy 9 (some .int) w2 [.ref (G.2.1 40 0), .int x1, .int x2, .int x3, .int x4, .int x5, .int x6, .int x7, .int x8] (fun r w4 => ∃ v3 : Int32, r = some (.int v3) ∧ K (some (.int v3)) w4) X) ∧ (¬ (v1 = 0) → K (some (.int 0)) w2))) X) :
    Z M G 0 K X w 95 [some (.ref (G.2.1 40 0)), some (.int x1), some (.int x2), some (.int x3), some (.int x4), some (.int x5), some (.int x6), some (.int x7), some (.int x8)] [.int s0, .ref (G.2.1 40 0)] := by
  refine z_iconst F 1 dX10_would_95 (by decide) ?_
  refine z_iconst F 1 dX10_would_96 (by decide) ?_
  refine z_callV F (k' := 1) (mc' := 0) [.int s0, .int 1, .int 1] [] dX10_would_97 rfl rfl (by decide) rfl cl_X10_171 hy_X10_bad (by omega) (by decide) (by decide) (Nat.le_of_ble_eq_true rfl) rfl (con_mono h ?_ (fun _ _ h => h))
  rintro _ w2 ⟨v1, rfl, h⟩
  show Z M G 0 K X w2 100 [some (.ref (G.2.1 40 0)), some (.int x1), some (.int x2), some (.int x3), some (.int x4), some (.int x5), some (.int x6), some (.int x7), some (.int x8)] [.int v1]
  refine z_if_eq F 105 dX10_would_100 (by decide) ⟨fun hc => ?_, fun hc => ?_⟩
  · have h := h.1 hc
    refine z_aload_n F dX10_would_105 rfl ?_
    refine z_iload_n F dX10_would_106 rfl ?_
    refine z_iload_n F dX10_would_107 rfl ?_
    refine z_iload_n F dX10_would_108 rfl ?_
    refine z_iload F dX10_would_109 rfl ?_
    refine z_iload F dX10_would_111 rfl ?_
    refine z_iload F dX10_would_113 rfl ?_
    refine z_iload F dX10_would_115 rfl ?_
    refine z_iload F dX10_would_117 rfl ?_
    refine z_callV F (k' := 4) (mc' := 0) [.int x1, .int x2, .int x3, .int x4, .int x5, .int x6, .int x7, .int x8] [] dX10_would_119 rfl rfl (by decide) rfl cl_X10_261 hy_X10_breathBy (by omega) (by decide) (by decide) (Nat.le_of_ble_eq_true rfl) rfl (con_mono h ?_ (fun _ _ h => h))
    rintro _ w4 ⟨v3, rfl, h⟩
    show Z M G 0 K X w4 122 [some (.ref (G.2.1 40 0)), some (.int x1), some (.int x2), some (.int x3), some (.int x4), some (.int x5), some (.int x6), some (.int x7), some (.int x8)] [.int v3]
    exact z_iret F dX10_would_122 (by decide) h
  · have h := h.2 hc
    refine z_iconst F 0 dX10_would_103 (by decide) ?_
    exact z_iret F dX10_would_104 (by decide) h
set_option maxRecDepth 20000 in
theorem e_X10_ahead {l : Launch} {G : Gx} {w : Wd} {p0 : Int32} {p1 : Int32} {K : Option Value → Wd → Prop} {X : String → Wd → Prop} (hl : l.stackTraces = false)
    (h : ∀ (M : Mx) (kk : Nat), mL M = l → 9 ≤ kk → Fx M G RX10 cX10_ahead 5 (some .int) kk 0 → (∀ w1 : Wd, w1 = setI w 40 0 0 0 → Con (mL M) G 1 0 yX10_in cX10_in 3 (some .boolean) w1 [.int p0, .int 0, .int 20] (fun r w3 => ∃ v2 : Int32, r = some (.int v2) ∧ ((v2 = 0 → Z M G 0 K X w3 25 [some (.ref (G.2.1 40 0)), some (.int p0), some (.int p1), none, none] [.ref (G.2.1 40 0)]) ∧ (¬ (v2 = 0) → Con (mL M) G 1 0 yX10_in cX10_in 3 (some .boolean) w3 [.int p1, .int 0, .int 2] (fun r w5 => ∃ v4 : Int32, r = some (.int v4) ∧ ((¬ v4 = 0 → Z M G 0 K X w5 30 [some (.ref (G.2.1 40 0)), some (.int p0), some (.int p1), none, none] [.int 0, .ref (G.2.1 40 0)]) ∧ (¬ (¬ v4 = 0) → Z M G 0 K X w5 25 [some (.ref (G.2.1 40 0)), some (.int p0), some (.int p1), none, none] [.ref (G.2.1 40 0)]))) X))) X)) :
    Con l G 9 0 yX10_ahead cX10_ahead 5 (some .int) w [.ref (G.2.1 40 0), .int p0, .int p1] K X := by
  refine con_intro hl (by decide +kernel) (Nat.le_of_ble_eq_true rfl) (Nat.le_of_ble_eq_true rfl) (fun M kk hM hk F => ?_)
  have h := h M kk hM hk F
  show Z M G 0 K X w 0 [some (.ref (G.2.1 40 0)), some (.int p0), some (.int p1), none, none] []
  refine z_aload_n F dX10_ahead_0 rfl ?_
  refine z_iconst F 0 dX10_ahead_1 (by decide) ?_
  refine z_putIW F 0 rfl (by decide) (by decide) rfl lk_X10_95 dX10_ahead_2 (fun w1 hw1 => ?_)
  have h := h w1 hw1
  refine z_aload_n F dX10_ahead_5 rfl ?_
  refine z_iload_n F dX10_ahead_6 rfl ?_
  refine z_iconst F 0 dX10_ahead_7 (by decide) ?_
  refine z_bipush F 20 dX10_ahead_8 (by decide) ?_
  refine z_callS F (k' := 1) (mc' := 0) [.int p0, .int 0, .int 20] [.ref (G.2.1 40 0)] dX10_ahead_10 rfl cl_X10_129 hy_X10_in.2 (by omega) (by decide) (by decide) (Nat.le_of_ble_eq_true rfl) rfl (con_mono h ?_ (fun _ _ h => h))
  rintro _ w3 ⟨v2, rfl, h⟩
  show Z M G 0 K X w3 13 [some (.ref (G.2.1 40 0)), some (.int p0), some (.int p1), none, none] [.int v2, .ref (G.2.1 40 0)]
  refine z_if_eq F 25 dX10_ahead_13 (by decide) ⟨fun hc => ?_, fun hc => ?_⟩
  · have h := h.1 hc
    exact h
  · have h := h.2 hc
    refine z_iload_n F dX10_ahead_16 rfl ?_
    refine z_iconst F 0 dX10_ahead_17 (by decide) ?_
    refine z_iconst F 2 dX10_ahead_18 (by decide) ?_
    refine z_callS F (k' := 1) (mc' := 0) [.int p1, .int 0, .int 2] [.ref (G.2.1 40 0)] dX10_ahead_19 rfl cl_X10_129 hy_X10_in.2 (by omega) (by decide) (by decide) (Nat.le_of_ble_eq_true rfl) rfl (con_mono h ?_ (fun _ _ h => h))
    rintro _ w5 ⟨v4, rfl, h⟩
    show Z M G 0 K X w5 22 [some (.ref (G.2.1 40 0)), some (.int p0), some (.int p1), none, none] [.int v4, .ref (G.2.1 40 0)]
    refine z_if_ne F 29 dX10_ahead_22 (by decide) ⟨fun hc => ?_, fun hc => ?_⟩
    · have h := h.1 hc
      refine z_iconst F 0 dX10_ahead_29 (by decide) ?_
      exact h
    · have h := h.2 hc
      exact h
set_option maxRecDepth 20000 in
theorem b_X10_ahead_25 {M : Mx} {G : Gx} {kk : Nat} {w : Wd}  {x1 : Int32} {x2 : Int32} {K : Option Value → Wd → Prop} {X : String → Wd → Prop} (F : Fx M G RX10 cX10_ahead 5 (some .int) kk 0) (hk : 9 ≤ kk)
    (h : Z M G 0 K X w 30 [some (.ref (G.2.1 40 0)), some (.int x1), some (.int x2), none, none] [.int 1, .ref (G.2.1 40 0)]) :
    Z M G 0 K X w 25 [some (.ref (G.2.1 40 0)), some (.int x1), some (.int x2), none, none] [.ref (G.2.1 40 0)] := by
  refine z_iconst F 1 dX10_ahead_25 (by decide) ?_
  refine z_goto F 30 dX10_ahead_26 (by decide) ?_
  exact h
set_option maxRecDepth 20000 in
theorem b_X10_ahead_30 {M : Mx} {G : Gx} {kk : Nat} {w : Wd}  {x1 : Int32} {x2 : Int32} {s0 : Int32} {K : Option Value → Wd → Prop} {X : String → Wd → Prop} (F : Fx M G RX10 cX10_ahead 5 (some .int) kk 0) (hk : 9 ≤ kk)
    (h : Con (mL M) G 1 0 yX10_bad cX10_bad 4 (some .boolean) w [.ref (G.2.1 40 0), .int s0, .int 1, .int 1] (fun r w2 => ∃ v1 : Int32, r = some (.int v1) ∧ ((v1 = 0 → Con (mL M) G 1 0 yX10_copies cX10_copies 3 none w2 [.ref (G.2.1 69 0), .ref (G.2.1 69 1)] (fun r w4 => r = none ∧ Z M G 0 K X w4 53 [some (.ref (G.2.1 40 0)), some (.int x1), some (.int x2), some (.int 0), none] []) X) ∧ (¬ (v1 = 0) → K (some (.int 0)) w2))) X) :
    Z M G 0 K X w 30 [some (.ref (G.2.1 40 0)), some (.int x1), some (.int x2), none, none] [.int s0, .ref (G.2.1 40 0)] := by
  refine z_iconst F 1 dX10_ahead_30 (by decide) ?_
  refine z_iconst F 1 dX10_ahead_31 (by decide) ?_
  refine z_callV F (k' := 1) (mc' := 0) [.int s0, .int 1, .int 1] [] dX10_ahead_32 rfl rfl (by decide) rfl cl_X10_171 hy_X10_bad (by omega) (by decide) (by decide) (Nat.le_of_ble_eq_true rfl) rfl (con_mono h ?_ (fun _ _ h => h))
  rintro _ w2 ⟨v1, rfl, h⟩
  show Z M G 0 K X w2 35 [some (.ref (G.2.1 40 0)), some (.int x1), some (.int x2), none, none] [.int v1]
  refine z_if_eq F 40 dX10_ahead_35 (by decide) ⟨fun hc => ?_, fun hc => ?_⟩
  · have h := h.1 hc
    refine z_aload_n F dX10_ahead_40 rfl ?_
    refine z_getR F 29 69 0 rfl (by decide) (by decide) rfl rfl rfl lk_X10_67 dX10_ahead_41 ?_
    refine z_aload_n F dX10_ahead_44 rfl ?_
    refine z_getR F 30 69 1 rfl (by decide) (by decide) rfl rfl rfl lk_X10_70 dX10_ahead_45 ?_
    refine z_callS F (k' := 1) (mc' := 0) [.ref (G.2.1 69 0), .ref (G.2.1 69 1)] [] dX10_ahead_48 rfl cl_X10_310 hy_X10_copies.2 (by omega) (by decide) (by decide) (Nat.le_of_ble_eq_true rfl) rfl (con_mono h ?_ (fun _ _ h => h))
    rintro _ w4 ⟨rfl, h⟩
    show Z M G 0 K X w4 51 [some (.ref (G.2.1 40 0)), some (.int x1), some (.int x2), none, none] []
    refine z_iconst F 0 dX10_ahead_51 (by decide) ?_
    refine z_istore_n F dX10_ahead_52 (Nat.le_of_ble_eq_true rfl) ?_
    exact h
  · have h := h.2 hc
    refine z_iconst F 0 dX10_ahead_38 (by decide) ?_
    exact z_iret F dX10_ahead_39 (by decide) h
set_option maxRecDepth 20000 in
theorem b_X10_ahead_53 {M : Mx} {G : Gx} {kk : Nat} {w : Wd}  {x1 : Int32} {x2 : Int32} {x3 : Int32} {K : Option Value → Wd → Prop} {X : String → Wd → Prop} (F : Fx M G RX10 cX10_ahead 5 (some .int) kk 0) (hk : 9 ≤ kk)
    (h : ((x1 ≤ x3 → Z M G 0 K X w 77 [some (.ref (G.2.1 40 0)), none, some (.int x2), some (.int 0), some (.int 0)] []) ∧ (¬ (x1 ≤ x3) → Con (mL M) G 8 0 yX10_hymns cX10_hymns 4 none w [.ref (G.2.1 40 0), .ref (G.2.1 69 1)] (fun r w2 => r = none ∧ Z M G 0 K X w2 53 [some (.ref (G.2.1 40 0)), some (.int x1), some (.int x2), some (.int (x3 + 1)), none] []) X))) :
    Z M G 0 K X w 53 [some (.ref (G.2.1 40 0)), some (.int x1), some (.int x2), some (.int x3), none] [] := by
  refine z_iload_n F dX10_ahead_53 rfl ?_
  refine z_iload_n F dX10_ahead_54 rfl ?_
  refine z_icmp_ge F 72 dX10_ahead_55 (by decide) ⟨fun hc => ?_, fun hc => ?_⟩
  · have h := h.1 hc
    refine z_iconst F 0 dX10_ahead_72 (by decide) ?_
    refine z_istore_n F dX10_ahead_73 (Nat.le_of_ble_eq_true rfl) ?_
    refine z_iconst F 0 dX10_ahead_74 (by decide) ?_
    refine z_istore F dX10_ahead_75 (Nat.le_of_ble_eq_true rfl) ?_
    exact z_weak h (⟨rfl, ⟨rfl, ⟨rfl, ⟨rfl, trivial⟩⟩⟩⟩)
  · have h := h.2 hc
    refine z_aload_n F dX10_ahead_58 rfl ?_
    refine z_aload_n F dX10_ahead_59 rfl ?_
    refine z_getR F 30 69 1 rfl (by decide) (by decide) rfl rfl rfl lk_X10_70 dX10_ahead_60 ?_
    refine z_callV F (k' := 8) (mc' := 0) [.ref (G.2.1 69 1)] [] dX10_ahead_63 rfl rfl (by decide) rfl cl_X10_280 hy_X10_hymns (by omega) (by decide) (by decide) (Nat.le_of_ble_eq_true rfl) rfl (con_mono h ?_ (fun _ _ h => h))
    rintro _ w2 ⟨rfl, h⟩
    show Z M G 0 K X w2 66 [some (.ref (G.2.1 40 0)), some (.int x1), some (.int x2), some (.int x3), none] []
    refine z_iinc F (x3 + 1) dX10_ahead_66 rfl rfl (Nat.le_of_ble_eq_true rfl) ?_
    refine z_goto F 53 dX10_ahead_69 (by decide) ?_
    exact h
set_option maxRecDepth 20000 in
theorem b_X10_ahead_77 {M : Mx} {G : Gx} {kk : Nat} {w : Wd}  {x2 : Int32} {x3 : Int32} {x4 : Int32} {K : Option Value → Wd → Prop} {X : String → Wd → Prop} (F : Fx M G RX10 cX10_ahead 5 (some .int) kk 0) (hk : 9 ≤ kk)
    (h : (((w.1 44 0 0) ≤ x4 → ((¬ x2 = 0 → ((¬ x2 = 1 → K (some (.int x3)) w) ∧ (¬ (¬ x2 = 1) → Con (mL M) G 1 0 yX10_all cX10_all 5 (some .int) w [.ref (G.2.1 40 0), .ref (G.2.1 69 1), .int 0] (fun r w2 => ∃ v1 : Int32, r = some (.int v1) ∧ K (some (.int v1)) w2) X))) ∧ (¬ (¬ x2 = 0) → K (some (.int ((w.1 69 1 55) - (w.1 69 0 55)))) w))) ∧ (¬ ((w.1 44 0 0) ≤ x4) → (vp_in ((0 : Int32) + x4) 57 ∧ ((¬ (w.1 69 1 (((0 : Int32) + x4 : Int32).toNatClampNeg)) = 0 → Z M G 0 K X w 77 [some (.ref (G.2.1 40 0)), none, some (.int x2), some (.int (x3 ||| (0 : Int32))), some (.int (x4 + 1))] []) ∧ (¬ (¬ (w.1 69 1 (((0 : Int32) + x4 : Int32).toNatClampNeg)) = 0) → Z M G 0 K X w 77 [some (.ref (G.2.1 40 0)), none, some (.int x2), some (.int (x3 ||| ((1 : Int32) <<< (x4 &&& 31)))), some (.int (x4 + 1))] [])))))) :
    Z M G 0 K X w 77 [some (.ref (G.2.1 40 0)), none, some (.int x2), some (.int x3), some (.int x4)] [] := by
  refine z_iload F dX10_ahead_77 rfl ?_
  refine z_aload_n F dX10_ahead_79 rfl ?_
  refine z_getR F 12 44 0 rfl (by decide) (by decide) rfl rfl rfl lk_X10_23 dX10_ahead_80 ?_
  refine z_iconst F 0 dX10_ahead_83 (by decide) ?_
  refine z_ialdK F 0 (by decide) rfl (by decide) (by unfold vp_in; decide) dX10_ahead_84 ?_
  refine z_icmp_ge F 117 dX10_ahead_85 (by decide) ⟨fun hc => ?_, fun hc => ?_⟩
  · have h := h.1 hc
    refine z_iload_n F dX10_ahead_117 rfl ?_
    refine z_if_ne F 139 dX10_ahead_118 (by decide) ⟨fun hc => ?_, fun hc => ?_⟩
    · have h := h.1 hc
      refine z_iload_n F dX10_ahead_139 rfl ?_
      refine z_iconst F 1 dX10_ahead_140 (by decide) ?_
      refine z_icmp_ne F 156 dX10_ahead_141 (by decide) ⟨fun hc => ?_, fun hc => ?_⟩
      · have h := h.1 hc
        refine z_iload_n F dX10_ahead_156 rfl ?_
        exact z_iret F dX10_ahead_157 (by decide) h
      · have h := h.2 hc
        refine z_aload_n F dX10_ahead_144 rfl ?_
        refine z_aload_n F dX10_ahead_145 rfl ?_
        refine z_getR F 30 69 1 rfl (by decide) (by decide) rfl rfl rfl lk_X10_70 dX10_ahead_146 ?_
        refine z_iconst F 0 dX10_ahead_149 (by decide) ?_
        refine z_callV F (k' := 1) (mc' := 0) [.ref (G.2.1 69 1), .int 0] [] dX10_ahead_150 rfl rfl (by decide) rfl cl_X10_318 hy_X10_all (by omega) (by decide) (by decide) (Nat.le_of_ble_eq_true rfl) rfl (con_mono h ?_ (fun _ _ h => h))
        rintro _ w2 ⟨v1, rfl, h⟩
        show Z M G 0 K X w2 153 [some (.ref (G.2.1 40 0)), none, some (.int x2), some (.int x3), some (.int x4)] [.int v1]
        refine z_goto F 157 dX10_ahead_153 (by decide) ?_
        exact z_iret F dX10_ahead_157 (by decide) h
    · have h := h.2 hc
      refine z_aload_n F dX10_ahead_121 rfl ?_
      refine z_getR F 30 69 1 rfl (by decide) (by decide) rfl rfl rfl lk_X10_70 dX10_ahead_122 ?_
      refine z_bipush F 55 dX10_ahead_125 (by decide) ?_
      refine z_ialdK F 55 (by decide) rfl (by decide) (by unfold vp_in; decide) dX10_ahead_127 ?_
      refine z_aload_n F dX10_ahead_128 rfl ?_
      refine z_getR F 29 69 0 rfl (by decide) (by decide) rfl rfl rfl lk_X10_67 dX10_ahead_129 ?_
      refine z_bipush F 55 dX10_ahead_132 (by decide) ?_
      refine z_ialdK F 55 (by decide) rfl (by decide) (by unfold vp_in; decide) dX10_ahead_134 ?_
      refine z_isub F dX10_ahead_135 ?_
      refine z_goto F 157 dX10_ahead_136 (by decide) ?_
      exact z_iret F dX10_ahead_157 (by decide) h
  · have h := h.2 hc
    refine z_iload_n F dX10_ahead_88 rfl ?_
    refine z_aload_n F dX10_ahead_89 rfl ?_
    refine z_getR F 30 69 1 rfl (by decide) (by decide) rfl rfl rfl lk_X10_70 dX10_ahead_90 ?_
    refine z_iconst F 0 dX10_ahead_93 (by decide) ?_
    refine z_iload F dX10_ahead_94 rfl ?_
    refine z_iadd F dX10_ahead_96 ?_
    obtain ⟨hb, h⟩ := h
    refine z_ialdK F (((0 : Int32) + x4 : Int32).toNatClampNeg) rfl rfl (by decide) hb dX10_ahead_97 ?_
    refine z_if_ne F 108 dX10_ahead_98 (by decide) ⟨fun hc => ?_, fun hc => ?_⟩
    · have h := h.1 hc
      refine z_iconst F 0 dX10_ahead_108 (by decide) ?_
      refine z_ior F dX10_ahead_109 ?_
      refine z_istore_n F dX10_ahead_110 (Nat.le_of_ble_eq_true rfl) ?_
      refine z_iinc F (x4 + 1) dX10_ahead_111 rfl rfl (Nat.le_of_ble_eq_true rfl) ?_
      refine z_goto F 77 dX10_ahead_114 (by decide) ?_
      exact h
    · have h := h.2 hc
      refine z_iconst F 1 dX10_ahead_101 (by decide) ?_
      refine z_iload F dX10_ahead_102 rfl ?_
      refine z_ishl F dX10_ahead_104 ?_
      refine z_goto F 109 dX10_ahead_105 (by decide) ?_
      refine z_ior F dX10_ahead_109 ?_
      refine z_istore_n F dX10_ahead_110 (Nat.le_of_ble_eq_true rfl) ?_
      refine z_iinc F (x4 + 1) dX10_ahead_111 rfl rfl (Nat.le_of_ble_eq_true rfl) ?_
      refine z_goto F 77 dX10_ahead_114 (by decide) ?_
      exact h
set_option maxRecDepth 20000 in
theorem e_X10_everySinger {l : Launch} {G : Gx} {w : Wd}  {K : Option Value → Wd → Prop} {X : String → Wd → Prop} (hl : l.stackTraces = false)
    (h : ∀ (M : Mx) (kk : Nat), mL M = l → 1 ≤ kk → Fx M G RX10 cX10_everySinger 1 (some .int) kk 0 → K (some (.int (((1 : Int32) <<< ((w.1 44 0 0) &&& 31)) - (1 : Int32)))) w) :
    Con l G 1 0 yX10_everySinger cX10_everySinger 1 (some .int) w [.ref (G.2.1 40 0)] K X := by
  refine con_intro hl (by decide +kernel) (Nat.le_of_ble_eq_true rfl) (Nat.le_of_ble_eq_true rfl) (fun M kk hM hk F => ?_)
  have h := h M kk hM hk F
  show Z M G 0 K X w 0 [some (.ref (G.2.1 40 0))] []
  refine z_iconst F 1 dX10_everySinger_0 (by decide) ?_
  refine z_aload_n F dX10_everySinger_1 rfl ?_
  refine z_getR F 12 44 0 rfl (by decide) (by decide) rfl rfl rfl lk_X10_23 dX10_everySinger_2 ?_
  refine z_iconst F 0 dX10_everySinger_5 (by decide) ?_
  refine z_ialdK F 0 (by decide) rfl (by decide) (by unfold vp_in; decide) dX10_everySinger_6 ?_
  refine z_ishl F dX10_everySinger_7 ?_
  refine z_iconst F 1 dX10_everySinger_8 (by decide) ?_
  refine z_isub F dX10_everySinger_9 ?_
  exact z_iret F dX10_everySinger_10 (by decide) h
set_option maxRecDepth 20000 in
theorem e_X10_onlyThese {l : Launch} {G : Gx} {w : Wd} {p0 : Int32} {K : Option Value → Wd → Prop} {X : String → Wd → Prop} (hl : l.stackTraces = false)
    (h : ∀ (M : Mx) (kk : Nat), mL M = l → 2 ≤ kk → Fx M G RX10 cX10_onlyThese 3 none kk 0 → Z M G 0 K X w 2 [some (.ref (G.2.1 40 0)), some (.int p0), some (.int 0)] []) :
    Con l G 2 0 yX10_onlyThese cX10_onlyThese 3 none w [.ref (G.2.1 40 0), .int p0] K X := by
  refine con_intro hl (by decide +kernel) (Nat.le_of_ble_eq_true rfl) (Nat.le_of_ble_eq_true rfl) (fun M kk hM hk F => ?_)
  have h := h M kk hM hk F
  show Z M G 0 K X w 0 [some (.ref (G.2.1 40 0)), some (.int p0), none] []
  refine z_iconst F 0 dX10_onlyThese_0 (by decide) ?_
  refine z_istore_n F dX10_onlyThese_1 (Nat.le_of_ble_eq_true rfl) ?_
  exact h
set_option maxRecDepth 20000 in
theorem b_X10_onlyThese_2 {M : Mx} {G : Gx} {kk : Nat} {w : Wd}  {x1 : Int32} {x2 : Int32} {K : Option Value → Wd → Prop} {X : String → Wd → Prop} (F : Fx M G RX10 cX10_onlyThese 3 none kk 0) (hk : 2 ≤ kk)
    (h : (((w.1 44 0 0) ≤ x2 → K none w) ∧ (¬ ((w.1 44 0 0) ≤ x2) → Con (mL M) G 1 0 yX10_has cX10_has 2 (some .boolean) w [.int x1, .int x2] (fun r w2 => ∃ v1 : Int32, r = some (.int v1) ∧ ((v1 = 0 → (vp_in ((7 : Int32) + x2) 57 ∧ ∀ w3 : Wd, w3 = setI w2 69 1 (((7 : Int32) + x2 : Int32).toNatClampNeg) 1 → Z M G 0 K X w3 2 [some (.ref (G.2.1 40 0)), some (.int x1), some (.int (x2 + 1))] [])) ∧ (¬ (v1 = 0) → (vp_in ((7 : Int32) + x2) 57 ∧ ∀ w4 : Wd, w4 = setI w2 69 1 (((7 : Int32) + x2 : Int32).toNatClampNeg) 0 → Z M G 0 K X w4 2 [some (.ref (G.2.1 40 0)), some (.int x1), some (.int (x2 + 1))] [])))) X))) :
    Z M G 0 K X w 2 [some (.ref (G.2.1 40 0)), some (.int x1), some (.int x2)] [] := by
  refine z_iload_n F dX10_onlyThese_2 rfl ?_
  refine z_aload_n F dX10_onlyThese_3 rfl ?_
  refine z_getR F 12 44 0 rfl (by decide) (by decide) rfl rfl rfl lk_X10_23 dX10_onlyThese_4 ?_
  refine z_iconst F 0 dX10_onlyThese_7 (by decide) ?_
  refine z_ialdK F 0 (by decide) rfl (by decide) (by unfold vp_in; decide) dX10_onlyThese_8 ?_
  refine z_icmp_ge F 40 dX10_onlyThese_9 (by decide) ⟨fun hc => ?_, fun hc => ?_⟩
  · have h := h.1 hc
    exact z_vret F dX10_onlyThese_40 (by decide) h
  · have h := h.2 hc
    refine z_aload_n F dX10_onlyThese_12 rfl ?_
    refine z_getR F 30 69 1 rfl (by decide) (by decide) rfl rfl rfl lk_X10_70 dX10_onlyThese_13 ?_
    refine z_bipush F 7 dX10_onlyThese_16 (by decide) ?_
    refine z_iload_n F dX10_onlyThese_18 rfl ?_
    refine z_iadd F dX10_onlyThese_19 ?_
    refine z_iload_n F dX10_onlyThese_20 rfl ?_
    refine z_iload_n F dX10_onlyThese_21 rfl ?_
    refine z_callS F (k' := 1) (mc' := 0) [.int x1, .int x2] [.int ((7 : Int32) + x2), .ref (G.2.1 69 1)] dX10_onlyThese_22 rfl cl_X10_254 hy_X10_has.2 (by omega) (by decide) (by decide) (Nat.le_of_ble_eq_true rfl) rfl (con_mono h ?_ (fun _ _ h => h))
    rintro _ w2 ⟨v1, rfl, h⟩
    show Z M G 0 K X w2 25 [some (.ref (G.2.1 40 0)), some (.int x1), some (.int x2)] [.int v1, .int ((7 : Int32) + x2), .ref (G.2.1 69 1)]
    refine z_if_eq F 32 dX10_onlyThese_25 (by decide) ⟨fun hc => ?_, fun hc => ?_⟩
    · have h := h.1 hc
      refine z_iconst F 1 dX10_onlyThese_32 (by decide) ?_
      obtain ⟨hb, h⟩ := h
      refine z_iastW F (((7 : Int32) + x2 : Int32).toNatClampNeg) rfl rfl (by decide) hb dX10_onlyThese_33 (fun w3 hw3 => ?_)
      have h := h w3 hw3
      refine z_iinc F (x2 + 1) dX10_onlyThese_34 rfl rfl (Nat.le_of_ble_eq_true rfl) ?_
      refine z_goto F 2 dX10_onlyThese_37 (by decide) ?_
      exact h
    · have h := h.2 hc
      refine z_iconst F 0 dX10_onlyThese_28 (by decide) ?_
      refine z_goto F 33 dX10_onlyThese_29 (by decide) ?_
      obtain ⟨hb, h⟩ := h
      refine z_iastW F (((7 : Int32) + x2 : Int32).toNatClampNeg) rfl rfl (by decide) hb dX10_onlyThese_33 (fun w4 hw4 => ?_)
      have h := h w4 hw4
      refine z_iinc F (x2 + 1) dX10_onlyThese_34 rfl rfl (Nat.le_of_ble_eq_true rfl) ?_
      refine z_goto F 2 dX10_onlyThese_37 (by decide) ?_
      exact h
set_option maxRecDepth 20000 in
theorem e_X10_payOf {l : Launch} {G : Gx} {w : Wd} {p0 : Int32} {K : Option Value → Wd → Prop} {X : String → Wd → Prop} (hl : l.stackTraces = false)
    (h : ∀ (M : Mx) (kk : Nat), mL M = l → 2 ≤ kk → Fx M G RX10 cX10_payOf 4 (some .int) kk 0 → Z M G 0 K X w 4 [some (.ref (G.2.1 40 0)), some (.int p0), some (.int 0), some (.int 0)] []) :
    Con l G 2 0 yX10_payOf cX10_payOf 4 (some .int) w [.ref (G.2.1 40 0), .int p0] K X := by
  refine con_intro hl (by decide +kernel) (Nat.le_of_ble_eq_true rfl) (Nat.le_of_ble_eq_true rfl) (fun M kk hM hk F => ?_)
  have h := h M kk hM hk F
  show Z M G 0 K X w 0 [some (.ref (G.2.1 40 0)), some (.int p0), none, none] []
  refine z_iconst F 0 dX10_payOf_0 (by decide) ?_
  refine z_istore_n F dX10_payOf_1 (Nat.le_of_ble_eq_true rfl) ?_
  refine z_iconst F 0 dX10_payOf_2 (by decide) ?_
  refine z_istore_n F dX10_payOf_3 (Nat.le_of_ble_eq_true rfl) ?_
  exact h
set_option maxRecDepth 20000 in
theorem b_X10_payOf_4 {M : Mx} {G : Gx} {kk : Nat} {w : Wd}  {x1 : Int32} {x2 : Int32} {x3 : Int32} {K : Option Value → Wd → Prop} {X : String → Wd → Prop} (F : Fx M G RX10 cX10_payOf 4 (some .int) kk 0) (hk : 2 ≤ kk)
    (h : (((w.1 44 0 0) ≤ x3 → K (some (.int x2)) w) ∧ (¬ ((w.1 44 0 0) ≤ x3) → Con (mL M) G 1 0 yX10_has cX10_has 2 (some .boolean) w [.int x1, .int x3] (fun r w2 => ∃ v1 : Int32, r = some (.int v1) ∧ ((v1 = 0 → Z M G 0 K X w2 4 [some (.ref (G.2.1 40 0)), some (.int x1), some (.int (x2 + (0 : Int32))), some (.int (x3 + 1))] []) ∧ (¬ (v1 = 0) → (vp_in x3 7 ∧ Z M G 0 K X w2 4 [some (.ref (G.2.1 40 0)), some (.int x1), some (.int (x2 + (w2.1 48 ((x3 : Int32).toNatClampNeg) 1))), some (.int (x3 + 1))] [])))) X))) :
    Z M G 0 K X w 4 [some (.ref (G.2.1 40 0)), some (.int x1), some (.int x2), some (.int x3)] [] := by
  refine z_iload_n F dX10_payOf_4 rfl ?_
  refine z_aload_n F dX10_payOf_5 rfl ?_
  refine z_getR F 12 44 0 rfl (by decide) (by decide) rfl rfl rfl lk_X10_23 dX10_payOf_6 ?_
  refine z_iconst F 0 dX10_payOf_9 (by decide) ?_
  refine z_ialdK F 0 (by decide) rfl (by decide) (by unfold vp_in; decide) dX10_payOf_10 ?_
  refine z_icmp_ge F 43 dX10_payOf_11 (by decide) ⟨fun hc => ?_, fun hc => ?_⟩
  · have h := h.1 hc
    refine z_iload_n F dX10_payOf_43 rfl ?_
    exact z_iret F dX10_payOf_44 (by decide) h
  · have h := h.2 hc
    refine z_iload_n F dX10_payOf_14 rfl ?_
    refine z_iload_n F dX10_payOf_15 rfl ?_
    refine z_iload_n F dX10_payOf_16 rfl ?_
    refine z_callS F (k' := 1) (mc' := 0) [.int x1, .int x3] [.int x2] dX10_payOf_17 rfl cl_X10_254 hy_X10_has.2 (by omega) (by decide) (by decide) (Nat.le_of_ble_eq_true rfl) rfl (con_mono h ?_ (fun _ _ h => h))
    rintro _ w2 ⟨v1, rfl, h⟩
    show Z M G 0 K X w2 20 [some (.ref (G.2.1 40 0)), some (.int x1), some (.int x2), some (.int x3)] [.int v1, .int x2]
    refine z_if_eq F 34 dX10_payOf_20 (by decide) ⟨fun hc => ?_, fun hc => ?_⟩
    · have h := h.1 hc
      refine z_iconst F 0 dX10_payOf_34 (by decide) ?_
      refine z_iadd F dX10_payOf_35 ?_
      refine z_istore_n F dX10_payOf_36 (Nat.le_of_ble_eq_true rfl) ?_
      refine z_iinc F (x3 + 1) dX10_payOf_37 rfl rfl (Nat.le_of_ble_eq_true rfl) ?_
      refine z_goto F 4 dX10_payOf_40 (by decide) ?_
      exact h
    · have h := h.2 hc
      refine z_aload_n F dX10_payOf_23 rfl ?_
      refine z_getR F 14 47 0 rfl (by decide) (by decide) rfl rfl rfl lk_X10_31 dX10_payOf_24 ?_
      refine z_iload_n F dX10_payOf_27 rfl ?_
      obtain ⟨hb, h⟩ := h
      refine z_aald F 48 ((x3 : Int32).toNatClampNeg) rfl (by decide) (by decide) (by decide) rfl rfl hb dX10_payOf_28 (fun hv3 => ?_)
      refine z_iconst F 1 dX10_payOf_29 (by decide) ?_
      refine z_ialdK F 1 (by decide) rfl hv3 (by unfold vp_in; decide) dX10_payOf_30 ?_
      refine z_goto F 35 dX10_payOf_31 (by decide) ?_
      refine z_iadd F dX10_payOf_35 ?_
      refine z_istore_n F dX10_payOf_36 (Nat.le_of_ble_eq_true rfl) ?_
      refine z_iinc F (x3 + 1) dX10_payOf_37 rfl rfl (Nat.le_of_ble_eq_true rfl) ?_
      refine z_goto F 4 dX10_payOf_40 (by decide) ?_
      exact h
set_option maxRecDepth 20000 in
theorem e_X10_cast {l : Launch} {G : Gx} {w : Wd}  {K : Option Value → Wd → Prop} {X : String → Wd → Prop} (hl : l.stackTraces = false)
    (h : ∀ (M : Mx) (kk : Nat), mL M = l → 9 ≤ kk → Fx M G RX10 cX10_cast 4 (some .int) kk 0 → (∀ w1 : Wd, w1 = setI w 40 0 0 0 → Z M G 0 K X w1 9 [some (.ref (G.2.1 40 0)), some (.int (-1)), some (.int 0), none] [])) :
    Con l G 9 0 yX10_cast cX10_cast 4 (some .int) w [.ref (G.2.1 40 0)] K X := by
  refine con_intro hl (by decide +kernel) (Nat.le_of_ble_eq_true rfl) (Nat.le_of_ble_eq_true rfl) (fun M kk hM hk F => ?_)
  have h := h M kk hM hk F
  show Z M G 0 K X w 0 [some (.ref (G.2.1 40 0)), none, none, none] []
  refine z_aload_n F dX10_cast_0 rfl ?_
  refine z_iconst F 0 dX10_cast_1 (by decide) ?_
  refine z_putIW F 0 rfl (by decide) (by decide) rfl lk_X10_95 dX10_cast_2 (fun w1 hw1 => ?_)
  have h := h w1 hw1
  refine z_iconst F (-1) dX10_cast_5 (by decide) ?_
  refine z_istore_n F dX10_cast_6 (Nat.le_of_ble_eq_true rfl) ?_
  refine z_iconst F 0 dX10_cast_7 (by decide) ?_
  refine z_istore_n F dX10_cast_8 (Nat.le_of_ble_eq_true rfl) ?_
  exact h
set_option maxRecDepth 20000 in
theorem b_X10_cast_9 {M : Mx} {G : Gx} {kk : Nat} {w : Wd}  {x1 : Int32} {x2 : Int32} {K : Option Value → Wd → Prop} {X : String → Wd → Prop} (F : Fx M G RX10 cX10_cast 4 (some .int) kk 0) (hk : 9 ≤ kk)
    (h : Con (mL M) G 1 0 yX10_everySinger cX10_everySinger 1 (some .int) w [.ref (G.2.1 40 0)] (fun r w2 => ∃ v1 : Int32, r = some (.int v1) ∧ ((v1 < x2 → K (some (.int x1)) w2) ∧ (¬ (v1 < x2) → ((¬ x1 = (-1) → Con (mL M) G 1 0 yX10_ones cX10_ones 3 (some .int) w2 [.int x2] (fun r w4 => ∃ v3 : Int32, r = some (.int v3) ∧ Con (mL M) G 1 0 yX10_ones cX10_ones 3 (some .int) w4 [.int x1] (fun r w6 => ∃ v5 : Int32, r = some (.int v5) ∧ Z M G 0 K X w6 35 [some (.ref (G.2.1 40 0)), some (.int x1), some (.int x2), none] [.int (v3 - v5)]) X) X) ∧ (¬ (¬ x1 = (-1)) → Z M G 0 K X w2 35 [some (.ref (G.2.1 40 0)), some (.int x1), some (.int x2), none] [.int (-1)]))))) X) :
    Z M G 0 K X w 9 [some (.ref (G.2.1 40 0)), some (.int x1), some (.int x2), none] [] := by
  refine z_iload_n F dX10_cast_9 rfl ?_
  refine z_aload_n F dX10_cast_10 rfl ?_
  refine z_callV F (k' := 1) (mc' := 0) [] [.int x2] dX10_cast_11 rfl rfl (by decide) rfl cl_X10_330 hy_X10_everySinger (by omega) (by decide) (by decide) (Nat.le_of_ble_eq_true rfl) rfl (con_mono h ?_ (fun _ _ h => h))
  rintro _ w2 ⟨v1, rfl, h⟩
  show Z M G 0 K X w2 14 [some (.ref (G.2.1 40 0)), some (.int x1), some (.int x2), none] [.int v1, .int x2]
  refine z_icmp_gt F 121 dX10_cast_14 (by decide) ⟨fun hc => ?_, fun hc => ?_⟩
  · have h := h.1 hc
    refine z_iload_n F dX10_cast_121 rfl ?_
    exact z_iret F dX10_cast_122 (by decide) h
  · have h := h.2 hc
    refine z_iload_n F dX10_cast_17 rfl ?_
    refine z_iconst F (-1) dX10_cast_18 (by decide) ?_
    refine z_icmp_ne F 26 dX10_cast_19 (by decide) ⟨fun hc => ?_, fun hc => ?_⟩
    · have h := h.1 hc
      refine z_iload_n F dX10_cast_26 rfl ?_
      refine z_callS F (k' := 1) (mc' := 0) [.int x2] [] dX10_cast_27 rfl cl_X10_333 hy_X10_ones.2 (by omega) (by decide) (by decide) (Nat.le_of_ble_eq_true rfl) rfl (con_mono h ?_ (fun _ _ h => h))
      rintro _ w4 ⟨v3, rfl, h⟩
      show Z M G 0 K X w4 30 [some (.ref (G.2.1 40 0)), some (.int x1), some (.int x2), none] [.int v3]
      refine z_iload_n F dX10_cast_30 rfl ?_
      refine z_callS F (k' := 1) (mc' := 0) [.int x1] [.int v3] dX10_cast_31 rfl cl_X10_333 hy_X10_ones.2 (by omega) (by decide) (by decide) (Nat.le_of_ble_eq_true rfl) rfl (con_mono h ?_ (fun _ _ h => h))
      rintro _ w6 ⟨v5, rfl, h⟩
      show Z M G 0 K X w6 34 [some (.ref (G.2.1 40 0)), some (.int x1), some (.int x2), none] [.int v5, .int v3]
      refine z_isub F dX10_cast_34 ?_
      exact h
    · have h := h.2 hc
      refine z_iconst F (-1) dX10_cast_22 (by decide) ?_
      refine z_goto F 35 dX10_cast_23 (by decide) ?_
      exact h
set_option maxRecDepth 20000 in
theorem b_X10_cast_35 {M : Mx} {G : Gx} {kk : Nat} {w : Wd}  {x1 : Int32} {x2 : Int32} {s0 : Int32} {K : Option Value → Wd → Prop} {X : String → Wd → Prop} (F : Fx M G RX10 cX10_cast 4 (some .int) kk 0) (hk : 9 ≤ kk)
    (h : ((0 < s0 → Z M G 0 K X w 9 [some (.ref (G.2.1 40 0)), some (.int x1), some (.int (x2 + 1)), none] []) ∧ (¬ (0 < s0) → ((¬ s0 = 0 → Z M G 0 K X w 60 [some (.ref (G.2.1 40 0)), some (.int x1), some (.int x2), none] []) ∧ (¬ (¬ s0 = 0) → Con (mL M) G 2 0 yX10_payOf cX10_payOf 4 (some .int) w [.ref (G.2.1 40 0), .int x2] (fun r w2 => ∃ v1 : Int32, r = some (.int v1) ∧ Con (mL M) G 2 0 yX10_payOf cX10_payOf 4 (some .int) w2 [.ref (G.2.1 40 0), .int x1] (fun r w4 => ∃ v3 : Int32, r = some (.int v3) ∧ ((v1 < v3 → Z M G 0 K X w4 60 [some (.ref (G.2.1 40 0)), some (.int x1), some (.int x2), none] []) ∧ (¬ (v1 < v3) → Z M G 0 K X w4 9 [some (.ref (G.2.1 40 0)), some (.int x1), some (.int (x2 + 1)), none] []))) X) X))))) :
    Z M G 0 K X w 35 [some (.ref (G.2.1 40 0)), some (.int x1), some (.int x2), none] [.int s0] := by
  refine z_istore_n F dX10_cast_35 (Nat.le_of_ble_eq_true rfl) ?_
  refine z_iload_n F dX10_cast_36 rfl ?_
  refine z_if_gt F 115 dX10_cast_37 (by decide) ⟨fun hc => ?_, fun hc => ?_⟩
  · have h := h.1 hc
    refine z_iinc F (x2 + 1) dX10_cast_115 rfl rfl (Nat.le_of_ble_eq_true rfl) ?_
    refine z_goto F 9 dX10_cast_118 (by decide) ?_
    exact z_weak h (⟨rfl, ⟨rfl, ⟨rfl, trivial⟩⟩⟩)
  · have h := h.2 hc
    refine z_iload_n F dX10_cast_40 rfl ?_
    refine z_if_ne F 60 dX10_cast_41 (by decide) ⟨fun hc => ?_, fun hc => ?_⟩
    · have h := h.1 hc
      exact z_weak h (⟨rfl, ⟨rfl, ⟨rfl, trivial⟩⟩⟩)
    · have h := h.2 hc
      refine z_aload_n F dX10_cast_44 rfl ?_
      refine z_iload_n F dX10_cast_45 rfl ?_
      refine z_callV F (k' := 2) (mc' := 0) [.int x2] [] dX10_cast_46 rfl rfl (by decide) rfl cl_X10_336 hy_X10_payOf (by omega) (by decide) (by decide) (Nat.le_of_ble_eq_true rfl) rfl (con_mono h ?_ (fun _ _ h => h))
      rintro _ w2 ⟨v1, rfl, h⟩
      show Z M G 0 K X w2 49 [some (.ref (G.2.1 40 0)), some (.int x1), some (.int x2), some (.int s0)] [.int v1]
      refine z_aload_n F dX10_cast_49 rfl ?_
      refine z_iload_n F dX10_cast_50 rfl ?_
      refine z_callV F (k' := 2) (mc' := 0) [.int x1] [.int v1] dX10_cast_51 rfl rfl (by decide) rfl cl_X10_336 hy_X10_payOf (by omega) (by decide) (by decide) (Nat.le_of_ble_eq_true rfl) rfl (con_mono h ?_ (fun _ _ h => h))
      rintro _ w4 ⟨v3, rfl, h⟩
      show Z M G 0 K X w4 54 [some (.ref (G.2.1 40 0)), some (.int x1), some (.int x2), some (.int s0)] [.int v3, .int v1]
      refine z_icmp_lt F 60 dX10_cast_54 (by decide) ⟨fun hc => ?_, fun hc => ?_⟩
      · have h := h.1 hc
        exact z_weak h (⟨rfl, ⟨rfl, ⟨rfl, trivial⟩⟩⟩)
      · have h := h.2 hc
        refine z_goto F 115 dX10_cast_57 (by decide) ?_
        refine z_iinc F (x2 + 1) dX10_cast_115 rfl rfl (Nat.le_of_ble_eq_true rfl) ?_
        refine z_goto F 9 dX10_cast_118 (by decide) ?_
        exact z_weak h (⟨rfl, ⟨rfl, ⟨rfl, trivial⟩⟩⟩)
set_option maxRecDepth 20000 in
theorem b_X10_cast_60 {M : Mx} {G : Gx} {kk : Nat} {w : Wd}  {x1 : Int32} {x2 : Int32} {K : Option Value → Wd → Prop} {X : String → Wd → Prop} (F : Fx M G RX10 cX10_cast 4 (some .int) kk 0) (hk : 9 ≤ kk)
    (h : Con (mL M) G 1 0 yX10_copies cX10_copies 3 none w [.ref (G.2.1 69 0), .ref (G.2.1 69 1)] (fun r w2 => r = none ∧ Con (mL M) G 1 0 yX10_breathes cX10_breathes 3 none w2 [.ref (G.2.1 40 0), .ref (G.2.1 69 1)] (fun r w4 => r = none ∧ Con (mL M) G 2 0 yX10_onlyThese cX10_onlyThese 3 none w4 [.ref (G.2.1 40 0), .int x2] (fun r w6 => r = none ∧ Con (mL M) G 8 0 yX10_hymns cX10_hymns 4 none w6 [.ref (G.2.1 40 0), .ref (G.2.1 69 1)] (fun r w8 => r = none ∧ ((¬ (w8.1 40 0 38) = (((1 : Int32) <<< ((w8.1 44 0 1) &&& 31)) - (1 : Int32)) → Z M G 0 K X w8 9 [some (.ref (G.2.1 40 0)), some (.int x1), some (.int (x2 + 1)), none] []) ∧ (¬ (¬ (w8.1 40 0 38) = (((1 : Int32) <<< ((w8.1 44 0 1) &&& 31)) - (1 : Int32))) → Z M G 0 K X w8 9 [some (.ref (G.2.1 40 0)), some (.int x2), some (.int (x2 + 1)), none] []))) X) X) X) X) :
    Z M G 0 K X w 60 [some (.ref (G.2.1 40 0)), some (.int x1), some (.int x2), none] [] := by
  refine z_aload_n F dX10_cast_60 rfl ?_
  refine z_getR F 29 69 0 rfl (by decide) (by decide) rfl rfl rfl lk_X10_67 dX10_cast_61 ?_
  refine z_aload_n F dX10_cast_64 rfl ?_
  refine z_getR F 30 69 1 rfl (by decide) (by decide) rfl rfl rfl lk_X10_70 dX10_cast_65 ?_
  refine z_callS F (k' := 1) (mc' := 0) [.ref (G.2.1 69 0), .ref (G.2.1 69 1)] [] dX10_cast_68 rfl cl_X10_310 hy_X10_copies.2 (by omega) (by decide) (by decide) (Nat.le_of_ble_eq_true rfl) rfl (con_mono h ?_ (fun _ _ h => h))
  rintro _ w2 ⟨rfl, h⟩
  show Z M G 0 K X w2 71 [some (.ref (G.2.1 40 0)), some (.int x1), some (.int x2), none] []
  refine z_aload_n F dX10_cast_71 rfl ?_
  refine z_aload_n F dX10_cast_72 rfl ?_
  refine z_getR F 30 69 1 rfl (by decide) (by decide) rfl rfl rfl lk_X10_70 dX10_cast_73 ?_
  refine z_callV F (k' := 1) (mc' := 0) [.ref (G.2.1 69 1)] [] dX10_cast_76 rfl rfl (by decide) rfl cl_X10_188 hy_X10_breathes (by omega) (by decide) (by decide) (Nat.le_of_ble_eq_true rfl) rfl (con_mono h ?_ (fun _ _ h => h))
  rintro _ w4 ⟨rfl, h⟩
  show Z M G 0 K X w4 79 [some (.ref (G.2.1 40 0)), some (.int x1), some (.int x2), none] []
  refine z_aload_n F dX10_cast_79 rfl ?_
  refine z_iload_n F dX10_cast_80 rfl ?_
  refine z_callV F (k' := 2) (mc' := 0) [.int x2] [] dX10_cast_81 rfl rfl (by decide) rfl cl_X10_339 hy_X10_onlyThese (by omega) (by decide) (by decide) (Nat.le_of_ble_eq_true rfl) rfl (con_mono h ?_ (fun _ _ h => h))
  rintro _ w6 ⟨rfl, h⟩
  show Z M G 0 K X w6 84 [some (.ref (G.2.1 40 0)), some (.int x1), some (.int x2), none] []
  refine z_aload_n F dX10_cast_84 rfl ?_
  refine z_aload_n F dX10_cast_85 rfl ?_
  refine z_getR F 30 69 1 rfl (by decide) (by decide) rfl rfl rfl lk_X10_70 dX10_cast_86 ?_
  refine z_callV F (k' := 8) (mc' := 0) [.ref (G.2.1 69 1)] [] dX10_cast_89 rfl rfl (by decide) rfl cl_X10_280 hy_X10_hymns (by omega) (by decide) (by decide) (Nat.le_of_ble_eq_true rfl) rfl (con_mono h ?_ (fun _ _ h => h))
  rintro _ w8 ⟨rfl, h⟩
  show Z M G 0 K X w8 92 [some (.ref (G.2.1 40 0)), some (.int x1), some (.int x2), none] []
  refine z_aload_n F dX10_cast_92 rfl ?_
  refine z_getI F 38 rfl (by decide) (by decide) rfl lk_X10_273 dX10_cast_93 ?_
  refine z_iconst F 1 dX10_cast_96 (by decide) ?_
  refine z_aload_n F dX10_cast_97 rfl ?_
  refine z_getR F 12 44 0 rfl (by decide) (by decide) rfl rfl rfl lk_X10_23 dX10_cast_98 ?_
  refine z_iconst F 1 dX10_cast_101 (by decide) ?_
  refine z_ialdK F 1 (by decide) rfl (by decide) (by unfold vp_in; decide) dX10_cast_102 ?_
  refine z_ishl F dX10_cast_103 ?_
  refine z_iconst F 1 dX10_cast_104 (by decide) ?_
  refine z_isub F dX10_cast_105 ?_
  refine z_icmp_ne F 113 dX10_cast_106 (by decide) ⟨fun hc => ?_, fun hc => ?_⟩
  · have h := h.1 hc
    refine z_iload_n F dX10_cast_113 rfl ?_
    refine z_istore_n F dX10_cast_114 (Nat.le_of_ble_eq_true rfl) ?_
    refine z_iinc F (x2 + 1) dX10_cast_115 rfl rfl (Nat.le_of_ble_eq_true rfl) ?_
    refine z_goto F 9 dX10_cast_118 (by decide) ?_
    exact h
  · have h := h.2 hc
    refine z_iload_n F dX10_cast_109 rfl ?_
    refine z_goto F 114 dX10_cast_110 (by decide) ?_
    refine z_istore_n F dX10_cast_114 (Nat.le_of_ble_eq_true rfl) ?_
    refine z_iinc F (x2 + 1) dX10_cast_115 rfl rfl (Nat.le_of_ble_eq_true rfl) ?_
    refine z_goto F 9 dX10_cast_118 (by decide) ?_
    exact h
set_option maxRecDepth 20000 in
theorem e_X10_handedOf {l : Launch} {G : Gx} {w : Wd} {p0 : Int32} {p1 : Int32} {K : Option Value → Wd → Prop} {X : String → Wd → Prop} (hl : l.stackTraces = false)
    (h : ∀ (M : Mx) (kk : Nat), mL M = l → 1 ≤ kk → Fx M G RX10 cX10_handedOf 7 (some .int) kk 0 → Z M G 0 K X w 5 [some (.ref (G.2.1 40 0)), some (.int p0), some (.int p1), some (.int 0), some (.int 0), none, none] []) :
    Con l G 1 0 yX10_handedOf cX10_handedOf 7 (some .int) w [.ref (G.2.1 40 0), .int p0, .int p1] K X := by
  refine con_intro hl (by decide +kernel) (Nat.le_of_ble_eq_true rfl) (Nat.le_of_ble_eq_true rfl) (fun M kk hM hk F => ?_)
  have h := h M kk hM hk F
  show Z M G 0 K X w 0 [some (.ref (G.2.1 40 0)), some (.int p0), some (.int p1), none, none, none, none] []
  refine z_iconst F 0 dX10_handedOf_0 (by decide) ?_
  refine z_istore_n F dX10_handedOf_1 (Nat.le_of_ble_eq_true rfl) ?_
  refine z_iconst F 0 dX10_handedOf_2 (by decide) ?_
  refine z_istore F dX10_handedOf_3 (Nat.le_of_ble_eq_true rfl) ?_
  exact h
set_option maxRecDepth 20000 in
theorem b_X10_handedOf_5 {M : Mx} {G : Gx} {kk : Nat} {w : Wd}  {x1 : Int32} {x2 : Int32} {x3 : Int32} {x4 : Int32} {K : Option Value → Wd → Prop} {X : String → Wd → Prop} (F : Fx M G RX10 cX10_handedOf 7 (some .int) kk 0) (hk : 1 ≤ kk)
    (h : (((w.1 44 0 1) ≤ (x4 + (1 : Int32)) → K (some (.int x3)) w) ∧ (¬ ((w.1 44 0 1) ≤ (x4 + (1 : Int32))) → ((x1 = x2 → K (some (.int x3)) w) ∧ (¬ (x1 = x2) → (vp_in ((35 : Int32) + x4) 57 ∧ (vp_in (((35 : Int32) + x4) + (1 : Int32)) 57 ∧ ((¬ (w.1 69 0 (((35 : Int32) + x4 : Int32).toNatClampNeg)) = x1 → Z M G 0 K X w 62 [some (.ref (G.2.1 40 0)), some (.int x1), some (.int x2), none, some (.int x4), some (.int (w.1 69 0 (((35 : Int32) + x4 : Int32).toNatClampNeg))), some (.int (w.1 69 0 ((((35 : Int32) + x4) + (1 : Int32) : Int32).toNatClampNeg)))] [.int x3]) ∧ (¬ (¬ (w.1 69 0 (((35 : Int32) + x4 : Int32).toNatClampNeg)) = x1) → (((w.1 69 0 ((((35 : Int32) + x4) + (1 : Int32) : Int32).toNatClampNeg)) = x2 → Z M G 0 K X w 5 [some (.ref (G.2.1 40 0)), some (.int x1), some (.int x2), some (.int (x3 + (1 : Int32))), some (.int (x4 + 1)), none, none] []) ∧ (¬ ((w.1 69 0 ((((35 : Int32) + x4) + (1 : Int32) : Int32).toNatClampNeg)) = x2) → Z M G 0 K X w 62 [some (.ref (G.2.1 40 0)), some (.int x1), some (.int x2), none, some (.int x4), some (.int (w.1 69 0 (((35 : Int32) + x4 : Int32).toNatClampNeg))), some (.int (w.1 69 0 ((((35 : Int32) + x4) + (1 : Int32) : Int32).toNatClampNeg)))] [.int x3]))))))))))) :
    Z M G 0 K X w 5 [some (.ref (G.2.1 40 0)), some (.int x1), some (.int x2), some (.int x3), some (.int x4), none, none] [] := by
  refine z_iload F dX10_handedOf_5 rfl ?_
  refine z_iconst F 1 dX10_handedOf_7 (by decide) ?_
  refine z_iadd F dX10_handedOf_8 ?_
  refine z_aload_n F dX10_handedOf_9 rfl ?_
  refine z_getR F 12 44 0 rfl (by decide) (by decide) rfl rfl rfl lk_X10_23 dX10_handedOf_10 ?_
  refine z_iconst F 1 dX10_handedOf_13 (by decide) ?_
  refine z_ialdK F 1 (by decide) rfl (by decide) (by unfold vp_in; decide) dX10_handedOf_14 ?_
  refine z_icmp_ge F 87 dX10_handedOf_15 (by decide) ⟨fun hc => ?_, fun hc => ?_⟩
  · have h := h.1 hc
    refine z_iload_n F dX10_handedOf_87 rfl ?_
    exact z_iret F dX10_handedOf_88 (by decide) h
  · have h := h.2 hc
    refine z_iload_n F dX10_handedOf_18 rfl ?_
    refine z_iload_n F dX10_handedOf_19 rfl ?_
    refine z_icmp_eq F 87 dX10_handedOf_20 (by decide) ⟨fun hc => ?_, fun hc => ?_⟩
    · have h := h.1 hc
      refine z_iload_n F dX10_handedOf_87 rfl ?_
      exact z_iret F dX10_handedOf_88 (by decide) h
    · have h := h.2 hc
      refine z_aload_n F dX10_handedOf_23 rfl ?_
      refine z_getR F 29 69 0 rfl (by decide) (by decide) rfl rfl rfl lk_X10_67 dX10_handedOf_24 ?_
      refine z_bipush F 35 dX10_handedOf_27 (by decide) ?_
      refine z_iload F dX10_handedOf_29 rfl ?_
      refine z_iadd F dX10_handedOf_31 ?_
      obtain ⟨hb, h⟩ := h
      refine z_ialdK F (((35 : Int32) + x4 : Int32).toNatClampNeg) rfl rfl (by decide) hb dX10_handedOf_32 ?_
      refine z_istore F dX10_handedOf_33 (Nat.le_of_ble_eq_true rfl) ?_
      refine z_aload_n F dX10_handedOf_35 rfl ?_
      refine z_getR F 29 69 0 rfl (by decide) (by decide) rfl rfl rfl lk_X10_67 dX10_handedOf_36 ?_
      refine z_bipush F 35 dX10_handedOf_39 (by decide) ?_
      refine z_iload F dX10_handedOf_41 rfl ?_
      refine z_iadd F dX10_handedOf_43 ?_
      refine z_iconst F 1 dX10_handedOf_44 (by decide) ?_
      refine z_iadd F dX10_handedOf_45 ?_
      obtain ⟨hb, h⟩ := h
      refine z_ialdK F ((((35 : Int32) + x4) + (1 : Int32) : Int32).toNatClampNeg) rfl rfl (by decide) hb dX10_handedOf_46 ?_
      refine z_istore F dX10_handedOf_47 (Nat.le_of_ble_eq_true rfl) ?_
      refine z_iload_n F dX10_handedOf_49 rfl ?_
      refine z_iload F dX10_handedOf_50 rfl ?_
      refine z_iload_n F dX10_handedOf_52 rfl ?_
      refine z_icmp_ne F 62 dX10_handedOf_53 (by decide) ⟨fun hc => ?_, fun hc => ?_⟩
      · have h := h.1 hc
        exact z_weak h (⟨rfl, ⟨rfl, ⟨rfl, ⟨rfl, ⟨rfl, ⟨rfl, trivial⟩⟩⟩⟩⟩⟩)
      · have h := h.2 hc
        refine z_iload F dX10_handedOf_56 rfl ?_
        refine z_iload_n F dX10_handedOf_58 rfl ?_
        refine z_icmp_eq F 74 dX10_handedOf_59 (by decide) ⟨fun hc => ?_, fun hc => ?_⟩
        · have h := h.1 hc
          refine z_iconst F 1 dX10_handedOf_74 (by decide) ?_
          refine z_goto F 79 dX10_handedOf_75 (by decide) ?_
          refine z_iadd F dX10_handedOf_79 ?_
          refine z_istore_n F dX10_handedOf_80 (Nat.le_of_ble_eq_true rfl) ?_
          refine z_iinc F (x4 + 1) dX10_handedOf_81 rfl rfl (Nat.le_of_ble_eq_true rfl) ?_
          refine z_goto F 5 dX10_handedOf_84 (by decide) ?_
          exact z_weak h (⟨rfl, ⟨rfl, ⟨rfl, ⟨rfl, ⟨rfl, trivial⟩⟩⟩⟩⟩)
        · have h := h.2 hc
          exact z_weak h (⟨rfl, ⟨rfl, ⟨rfl, ⟨rfl, ⟨rfl, ⟨rfl, trivial⟩⟩⟩⟩⟩⟩)
set_option maxRecDepth 20000 in
theorem b_X10_handedOf_62 {M : Mx} {G : Gx} {kk : Nat} {w : Wd}  {x1 : Int32} {x2 : Int32} {x4 : Int32} {x5 : Int32} {x6 : Int32} {s0 : Int32} {K : Option Value → Wd → Prop} {X : String → Wd → Prop} (F : Fx M G RX10 cX10_handedOf 7 (some .int) kk 0) (hk : 1 ≤ kk)
    (h : ((¬ x5 = x2 → Z M G 0 K X w 5 [some (.ref (G.2.1 40 0)), some (.int x1), some (.int x2), some (.int (s0 + (0 : Int32))), some (.int (x4 + 1)), none, none] []) ∧ (¬ (¬ x5 = x2) → ((¬ x6 = x1 → Z M G 0 K X w 5 [some (.ref (G.2.1 40 0)), some (.int x1), some (.int x2), some (.int (s0 + (0 : Int32))), some (.int (x4 + 1)), none, none] []) ∧ (¬ (¬ x6 = x1) → Z M G 0 K X w 5 [some (.ref (G.2.1 40 0)), some (.int x1), some (.int x2), some (.int (s0 + (1 : Int32))), some (.int (x4 + 1)), none, none] []))))) :
    Z M G 0 K X w 62 [some (.ref (G.2.1 40 0)), some (.int x1), some (.int x2), none, some (.int x4), some (.int x5), some (.int x6)] [.int s0] := by
  refine z_iload F dX10_handedOf_62 rfl ?_
  refine z_iload_n F dX10_handedOf_64 rfl ?_
  refine z_icmp_ne F 78 dX10_handedOf_65 (by decide) ⟨fun hc => ?_, fun hc => ?_⟩
  · have h := h.1 hc
    refine z_iconst F 0 dX10_handedOf_78 (by decide) ?_
    refine z_iadd F dX10_handedOf_79 ?_
    refine z_istore_n F dX10_handedOf_80 (Nat.le_of_ble_eq_true rfl) ?_
    refine z_iinc F (x4 + 1) dX10_handedOf_81 rfl rfl (Nat.le_of_ble_eq_true rfl) ?_
    refine z_goto F 5 dX10_handedOf_84 (by decide) ?_
    exact z_weak h (⟨rfl, ⟨rfl, ⟨rfl, ⟨rfl, ⟨rfl, trivial⟩⟩⟩⟩⟩)
  · have h := h.2 hc
    refine z_iload F dX10_handedOf_68 rfl ?_
    refine z_iload_n F dX10_handedOf_70 rfl ?_
    refine z_icmp_ne F 78 dX10_handedOf_71 (by decide) ⟨fun hc => ?_, fun hc => ?_⟩
    · have h := h.1 hc
      refine z_iconst F 0 dX10_handedOf_78 (by decide) ?_
      refine z_iadd F dX10_handedOf_79 ?_
      refine z_istore_n F dX10_handedOf_80 (Nat.le_of_ble_eq_true rfl) ?_
      refine z_iinc F (x4 + 1) dX10_handedOf_81 rfl rfl (Nat.le_of_ble_eq_true rfl) ?_
      refine z_goto F 5 dX10_handedOf_84 (by decide) ?_
      exact z_weak h (⟨rfl, ⟨rfl, ⟨rfl, ⟨rfl, ⟨rfl, trivial⟩⟩⟩⟩⟩)
    · have h := h.2 hc
      refine z_iconst F 1 dX10_handedOf_74 (by decide) ?_
      refine z_goto F 79 dX10_handedOf_75 (by decide) ?_
      refine z_iadd F dX10_handedOf_79 ?_
      refine z_istore_n F dX10_handedOf_80 (Nat.le_of_ble_eq_true rfl) ?_
      refine z_iinc F (x4 + 1) dX10_handedOf_81 rfl rfl (Nat.le_of_ble_eq_true rfl) ?_
      refine z_goto F 5 dX10_handedOf_84 (by decide) ?_
      exact z_weak h (⟨rfl, ⟨rfl, ⟨rfl, ⟨rfl, ⟨rfl, trivial⟩⟩⟩⟩⟩)
set_option maxRecDepth 20000 in
theorem e_X10_handed {l : Launch} {G : Gx} {w : Wd} {p0 : Int32} {p1 : Int32} {K : Option Value → Wd → Prop} {X : String → Wd → Prop} (hl : l.stackTraces = false)
    (h : ∀ (M : Mx) (kk : Nat), mL M = l → 3 ≤ kk → Fx M G RX10 cX10_handed 3 (some .int) kk 0 → (∀ w1 : Wd, w1 = setI w 40 0 0 0 → Con (mL M) G 2 0 yX10_isVowel cX10_isVowel 1 (some .boolean) w1 [.int p0] (fun r w3 => ∃ v2 : Int32, r = some (.int v2) ∧ ((v2 = 0 → Z M G 0 K X w3 20 [some (.ref (G.2.1 40 0)), some (.int p0), some (.int p1)] [.ref (G.2.1 40 0)]) ∧ (¬ (v2 = 0) → Con (mL M) G 2 0 yX10_isVowel cX10_isVowel 1 (some .boolean) w3 [.int p1] (fun r w5 => ∃ v4 : Int32, r = some (.int v4) ∧ ((¬ v4 = 0 → Z M G 0 K X w5 25 [some (.ref (G.2.1 40 0)), some (.int p0), some (.int p1)] [.int 0, .ref (G.2.1 40 0)]) ∧ (¬ (¬ v4 = 0) → Z M G 0 K X w5 20 [some (.ref (G.2.1 40 0)), some (.int p0), some (.int p1)] [.ref (G.2.1 40 0)]))) X))) X)) :
    Con l G 3 0 yX10_handed cX10_handed 3 (some .int) w [.ref (G.2.1 40 0), .int p0, .int p1] K X := by
  refine con_intro hl (by decide +kernel) (Nat.le_of_ble_eq_true rfl) (Nat.le_of_ble_eq_true rfl) (fun M kk hM hk F => ?_)
  have h := h M kk hM hk F
  show Z M G 0 K X w 0 [some (.ref (G.2.1 40 0)), some (.int p0), some (.int p1)] []
  refine z_aload_n F dX10_handed_0 rfl ?_
  refine z_iconst F 0 dX10_handed_1 (by decide) ?_
  refine z_putIW F 0 rfl (by decide) (by decide) rfl lk_X10_95 dX10_handed_2 (fun w1 hw1 => ?_)
  have h := h w1 hw1
  refine z_aload_n F dX10_handed_5 rfl ?_
  refine z_iload_n F dX10_handed_6 rfl ?_
  refine z_callS F (k' := 2) (mc' := 0) [.int p0] [.ref (G.2.1 40 0)] dX10_handed_7 rfl cl_X10_327 hy_X10_isVowel.2 (by omega) (by decide) (by decide) (Nat.le_of_ble_eq_true rfl) rfl (con_mono h ?_ (fun _ _ h => h))
  rintro _ w3 ⟨v2, rfl, h⟩
  show Z M G 0 K X w3 10 [some (.ref (G.2.1 40 0)), some (.int p0), some (.int p1)] [.int v2, .ref (G.2.1 40 0)]
  refine z_if_eq F 20 dX10_handed_10 (by decide) ⟨fun hc => ?_, fun hc => ?_⟩
  · have h := h.1 hc
    exact h
  · have h := h.2 hc
    refine z_iload_n F dX10_handed_13 rfl ?_
    refine z_callS F (k' := 2) (mc' := 0) [.int p1] [.ref (G.2.1 40 0)] dX10_handed_14 rfl cl_X10_327 hy_X10_isVowel.2 (by omega) (by decide) (by decide) (Nat.le_of_ble_eq_true rfl) rfl (con_mono h ?_ (fun _ _ h => h))
    rintro _ w5 ⟨v4, rfl, h⟩
    show Z M G 0 K X w5 17 [some (.ref (G.2.1 40 0)), some (.int p0), some (.int p1)] [.int v4, .ref (G.2.1 40 0)]
    refine z_if_ne F 24 dX10_handed_17 (by decide) ⟨fun hc => ?_, fun hc => ?_⟩
    · have h := h.1 hc
      refine z_iconst F 0 dX10_handed_24 (by decide) ?_
      exact h
    · have h := h.2 hc
      exact h
set_option maxRecDepth 20000 in
theorem b_X10_handed_20 {M : Mx} {G : Gx} {kk : Nat} {w : Wd}  {x1 : Int32} {x2 : Int32} {K : Option Value → Wd → Prop} {X : String → Wd → Prop} (F : Fx M G RX10 cX10_handed 3 (some .int) kk 0) (hk : 3 ≤ kk)
    (h : Z M G 0 K X w 25 [some (.ref (G.2.1 40 0)), some (.int x1), some (.int x2)] [.int 1, .ref (G.2.1 40 0)]) :
    Z M G 0 K X w 20 [some (.ref (G.2.1 40 0)), some (.int x1), some (.int x2)] [.ref (G.2.1 40 0)] := by
  refine z_iconst F 1 dX10_handed_20 (by decide) ?_
  refine z_goto F 25 dX10_handed_21 (by decide) ?_
  exact h
set_option maxRecDepth 20000 in
theorem b_X10_handed_25 {M : Mx} {G : Gx} {kk : Nat} {w : Wd}  {x1 : Int32} {x2 : Int32} {s0 : Int32} {K : Option Value → Wd → Prop} {X : String → Wd → Prop} (F : Fx M G RX10 cX10_handed 3 (some .int) kk 0) (hk : 3 ≤ kk)
    (h : Con (mL M) G 1 0 yX10_bad cX10_bad 4 (some .boolean) w [.ref (G.2.1 40 0), .int s0, .int 1, .int 1] (fun r w2 => ∃ v1 : Int32, r = some (.int v1) ∧ ((v1 = 0 → Con (mL M) G 1 0 yX10_handedOf cX10_handedOf 7 (some .int) w2 [.ref (G.2.1 40 0), .int x1, .int x2] (fun r w4 => ∃ v3 : Int32, r = some (.int v3) ∧ K (some (.int v3)) w4) X) ∧ (¬ (v1 = 0) → K (some (.int 0)) w2))) X) :
    Z M G 0 K X w 25 [some (.ref (G.2.1 40 0)), some (.int x1), some (.int x2)] [.int s0, .ref (G.2.1 40 0)] := by
  refine z_iconst F 1 dX10_handed_25 (by decide) ?_
  refine z_iconst F 1 dX10_handed_26 (by decide) ?_
  refine z_callV F (k' := 1) (mc' := 0) [.int s0, .int 1, .int 1] [] dX10_handed_27 rfl rfl (by decide) rfl cl_X10_171 hy_X10_bad (by omega) (by decide) (by decide) (Nat.le_of_ble_eq_true rfl) rfl (con_mono h ?_ (fun _ _ h => h))
  rintro _ w2 ⟨v1, rfl, h⟩
  show Z M G 0 K X w2 30 [some (.ref (G.2.1 40 0)), some (.int x1), some (.int x2)] [.int v1]
  refine z_if_eq F 35 dX10_handed_30 (by decide) ⟨fun hc => ?_, fun hc => ?_⟩
  · have h := h.1 hc
    refine z_aload_n F dX10_handed_35 rfl ?_
    refine z_iload_n F dX10_handed_36 rfl ?_
    refine z_iload_n F dX10_handed_37 rfl ?_
    refine z_callV F (k' := 1) (mc' := 0) [.int x1, .int x2] [] dX10_handed_38 rfl rfl (by decide) rfl cl_X10_342 hy_X10_handedOf (by omega) (by decide) (by decide) (Nat.le_of_ble_eq_true rfl) rfl (con_mono h ?_ (fun _ _ h => h))
    rintro _ w4 ⟨v3, rfl, h⟩
    show Z M G 0 K X w4 41 [some (.ref (G.2.1 40 0)), some (.int x1), some (.int x2)] [.int v3]
    exact z_iret F dX10_handed_41 (by decide) h
  · have h := h.2 hc
    refine z_iconst F 0 dX10_handed_33 (by decide) ?_
    exact z_iret F dX10_handed_34 (by decide) h
set_option maxRecDepth 20000 in
theorem e_X10_benches {l : Launch} {G : Gx} {w : Wd} {p0 : Int32} {p1 : Int32} {p2 : Int32} {kr : Nat} (hkb : 2 ≤ kr) {K : Option Value → Wd → Prop} {X : String → Wd → Prop} (hl : l.stackTraces = false)
    (h : ∀ (M : Mx) (kk : Nat), mL M = l → (kr + 1) ≤ kk → Fx M G RX10 cX10_benches 5 none kk 0 → ((¬ p0 = (w.1 44 0 0) → Z M G 0 K X w 57 [some (.ref (G.2.1 40 0)), some (.int p0), some (.int p1), some (.int p2), some (.int 0)] []) ∧ (¬ (¬ p0 = (w.1 44 0 0)) → (((w.1 40 0 43) < p2 → (∀ w1 : Wd, w1 = setI w 40 0 43 p2 → Z M G 0 K X w1 27 [some (.ref (G.2.1 40 0)), some (.int p0), none, none, some (.int 0)] [])) ∧ (¬ ((w.1 40 0 43) < p2) → K none w))))) :
    Con l G (kr + 1) 0 yX10_benches cX10_benches 5 none w [.ref (G.2.1 40 0), .int p0, .int p1, .int p2] K X := by
  refine con_intro hl (by decide +kernel) (Nat.le_of_ble_eq_true rfl) (Nat.le_of_ble_eq_true rfl) (fun M kk hM hk F => ?_)
  have h := h M kk hM hk F
  show Z M G 0 K X w 0 [some (.ref (G.2.1 40 0)), some (.int p0), some (.int p1), some (.int p2), none] []
  refine z_iload_n F dX10_benches_0 rfl ?_
  refine z_aload_n F dX10_benches_1 rfl ?_
  refine z_getR F 12 44 0 rfl (by decide) (by decide) rfl rfl rfl lk_X10_23 dX10_benches_2 ?_
  refine z_iconst F 0 dX10_benches_5 (by decide) ?_
  refine z_ialdK F 0 (by decide) rfl (by decide) (by unfold vp_in; decide) dX10_benches_6 ?_
  refine z_icmp_ne F 54 dX10_benches_7 (by decide) ⟨fun hc => ?_, fun hc => ?_⟩
  · have h := h.1 hc
    refine z_iconst F 0 dX10_benches_54 (by decide) ?_
    refine z_istore F dX10_benches_55 (Nat.le_of_ble_eq_true rfl) ?_
    exact h
  · have h := h.2 hc
    refine z_iload_n F dX10_benches_10 rfl ?_
    refine z_aload_n F dX10_benches_11 rfl ?_
    refine z_getI F 43 rfl (by decide) (by decide) rfl lk_X10_345 dX10_benches_12 ?_
    refine z_icmp_gt F 19 dX10_benches_15 (by decide) ⟨fun hc => ?_, fun hc => ?_⟩
    · have h := h.1 hc
      refine z_aload_n F dX10_benches_19 rfl ?_
      refine z_iload_n F dX10_benches_20 rfl ?_
      refine z_putIW F 43 rfl (by decide) (by decide) rfl lk_X10_345 dX10_benches_21 (fun w1 hw1 => ?_)
      have h := h w1 hw1
      refine z_iconst F 0 dX10_benches_24 (by decide) ?_
      refine z_istore F dX10_benches_25 (Nat.le_of_ble_eq_true rfl) ?_
      exact z_weak h (⟨rfl, ⟨rfl, ⟨rfl, trivial⟩⟩⟩)
    · have h := h.2 hc
      exact z_vret F dX10_benches_18 (by decide) h
set_option maxRecDepth 20000 in
theorem b_X10_benches_27 {M : Mx} {G : Gx} {kk : Nat} {w : Wd}  {kr : Nat} (hkb : 2 ≤ kr) {x1 : Int32} {x4 : Int32} {K : Option Value → Wd → Prop} {X : String → Wd → Prop} (F : Fx M G RX10 cX10_benches 5 none kk 0) (hk : (kr + 1) ≤ kk)
    (h : ((x1 ≤ x4 → K none w) ∧ (¬ (x1 ≤ x4) → (vp_in x4 7 ∧ (vp_in x4 7 ∧ ∀ w1 : Wd, w1 = setI w 74 0 ((x4 : Int32).toNatClampNeg) (w.1 73 0 ((x4 : Int32).toNatClampNeg)) → Z M G 0 K X w1 27 [some (.ref (G.2.1 40 0)), some (.int x1), none, none, some (.int (x4 + 1))] []))))) :
    Z M G 0 K X w 27 [some (.ref (G.2.1 40 0)), some (.int x1), none, none, some (.int x4)] [] := by
  refine z_iload F dX10_benches_27 rfl ?_
  refine z_iload_n F dX10_benches_29 rfl ?_
  refine z_icmp_ge F 53 dX10_benches_30 (by decide) ⟨fun hc => ?_, fun hc => ?_⟩
  · have h := h.1 hc
    exact z_vret F dX10_benches_53 (by decide) h
  · have h := h.2 hc
    refine z_aload_n F dX10_benches_33 rfl ?_
    refine z_getR F 42 74 0 rfl (by decide) (by decide) rfl rfl rfl lk_X10_82 dX10_benches_34 ?_
    refine z_iload F dX10_benches_37 rfl ?_
    refine z_aload_n F dX10_benches_39 rfl ?_
    refine z_getR F 41 73 0 rfl (by decide) (by decide) rfl rfl rfl lk_X10_79 dX10_benches_40 ?_
    refine z_iload F dX10_benches_43 rfl ?_
    obtain ⟨hb, h⟩ := h
    refine z_ialdK F ((x4 : Int32).toNatClampNeg) rfl rfl (by decide) hb dX10_benches_45 ?_
    obtain ⟨hb, h⟩ := h
    refine z_iastW F ((x4 : Int32).toNatClampNeg) rfl rfl (by decide) hb dX10_benches_46 (fun w1 hw1 => ?_)
    have h := h w1 hw1
    refine z_iinc F (x4 + 1) dX10_benches_47 rfl rfl (Nat.le_of_ble_eq_true rfl) ?_
    refine z_goto F 27 dX10_benches_50 (by decide) ?_
    exact h
set_option maxRecDepth 20000 in
theorem b_X10_benches_57 {M : Mx} {G : Gx} {kk : Nat} {w : Wd}  {kr : Nat} (hkb : 2 ≤ kr) {x1 : Int32} {x2 : Int32} {x3 : Int32} {x4 : Int32} {K : Option Value → Wd → Prop} {X : String → Wd → Prop} (F : Fx M G RX10 cX10_benches 5 none kk 0) (hk : (kr + 1) ≤ kk)
    (h : (((w.1 44 0 0) ≤ x4 → K none w) ∧ (¬ ((w.1 44 0 0) ≤ x4) → Con (mL M) G 1 0 yX10_has cX10_has 2 (some .boolean) w [.int x2, .int x4] (fun r w2 => ∃ v1 : Int32, r = some (.int v1) ∧ ((v1 = 0 → (vp_in x1 7 ∧ ∀ w3 : Wd, w3 = setI w2 73 0 ((x1 : Int32).toNatClampNeg) x4 → ((¬ x1 = 0 → (vp_in (x1 - (1 : Int32)) 7 ∧ (vp_in (w3.1 73 0 ((x1 - (1 : Int32) : Int32).toNatClampNeg)) 7 ∧ (vp_in x4 7 ∧ Con (mL M) G 1 0 yX10_handedOf cX10_handedOf 7 (some .int) w3 [.ref (G.2.1 40 0), .int (w3.1 48 ((w3.1 73 0 ((x1 - (1 : Int32) : Int32).toNatClampNeg) : Int32).toNatClampNeg) 0), .int (w3.1 48 ((x4 : Int32).toNatClampNeg) 0)] (fun r w7 => ∃ v6 : Int32, r = some (.int v6) ∧ Z M G 0 K X w7 135 [some (.ref (G.2.1 40 0)), some (.int x1), some (.int x2), some (.int x3), some (.int x4)] [.int v6, .int x3, .int (x2 ||| ((1 : Int32) <<< (x4 &&& 31))), .int (x1 + (1 : Int32)), .ref (G.2.1 40 0)]) X)))) ∧ (¬ (¬ x1 = 0) → Z M G 0 K X w3 135 [some (.ref (G.2.1 40 0)), some (.int x1), some (.int x2), some (.int x3), some (.int x4)] [.int 0, .int x3, .int (x2 ||| ((1 : Int32) <<< (x4 &&& 31))), .int (x1 + (1 : Int32)), .ref (G.2.1 40 0)])))) ∧ (¬ (v1 = 0) → Z M G 0 K X w2 57 [some (.ref (G.2.1 40 0)), some (.int x1), some (.int x2), some (.int x3), some (.int (x4 + 1))] []))) X))) :
    Z M G 0 K X w 57 [some (.ref (G.2.1 40 0)), some (.int x1), some (.int x2), some (.int x3), some (.int x4)] [] := by
  refine z_iload F dX10_benches_57 rfl ?_
  refine z_aload_n F dX10_benches_59 rfl ?_
  refine z_getR F 12 44 0 rfl (by decide) (by decide) rfl rfl rfl lk_X10_23 dX10_benches_60 ?_
  refine z_iconst F 0 dX10_benches_63 (by decide) ?_
  refine z_ialdK F 0 (by decide) rfl (by decide) (by unfold vp_in; decide) dX10_benches_64 ?_
  refine z_icmp_ge F 145 dX10_benches_65 (by decide) ⟨fun hc => ?_, fun hc => ?_⟩
  · have h := h.1 hc
    exact z_vret F dX10_benches_145 (by decide) h
  · have h := h.2 hc
    refine z_iload_n F dX10_benches_68 rfl ?_
    refine z_iload F dX10_benches_69 rfl ?_
    refine z_callS F (k' := 1) (mc' := 0) [.int x2, .int x4] [] dX10_benches_71 rfl cl_X10_254 hy_X10_has.2 (by omega) (by decide) (by decide) (Nat.le_of_ble_eq_true rfl) rfl (con_mono h ?_ (fun _ _ h => h))
    rintro _ w2 ⟨v1, rfl, h⟩
    show Z M G 0 K X w2 74 [some (.ref (G.2.1 40 0)), some (.int x1), some (.int x2), some (.int x3), some (.int x4)] [.int v1]
    refine z_if_eq F 80 dX10_benches_74 (by decide) ⟨fun hc => ?_, fun hc => ?_⟩
    · have h := h.1 hc
      refine z_aload_n F dX10_benches_80 rfl ?_
      refine z_getR F 41 73 0 rfl (by decide) (by decide) rfl rfl rfl lk_X10_79 dX10_benches_81 ?_
      refine z_iload_n F dX10_benches_84 rfl ?_
      refine z_iload F dX10_benches_85 rfl ?_
      obtain ⟨hb, h⟩ := h
      refine z_iastW F ((x1 : Int32).toNatClampNeg) rfl rfl (by decide) hb dX10_benches_87 (fun w3 hw3 => ?_)
      have h := h w3 hw3
      refine z_aload_n F dX10_benches_88 rfl ?_
      refine z_iload_n F dX10_benches_89 rfl ?_
      refine z_iconst F 1 dX10_benches_90 (by decide) ?_
      refine z_iadd F dX10_benches_91 ?_
      refine z_iload_n F dX10_benches_92 rfl ?_
      refine z_iconst F 1 dX10_benches_93 (by decide) ?_
      refine z_iload F dX10_benches_94 rfl ?_
      refine z_ishl F dX10_benches_96 ?_
      refine z_ior F dX10_benches_97 ?_
      refine z_iload_n F dX10_benches_98 rfl ?_
      refine z_iload_n F dX10_benches_99 rfl ?_
      refine z_if_ne F 107 dX10_benches_100 (by decide) ⟨fun hc => ?_, fun hc => ?_⟩
      · have h := h.1 hc
        refine z_aload_n F dX10_benches_107 rfl ?_
        refine z_aload_n F dX10_benches_108 rfl ?_
        refine z_getR F 14 47 0 rfl (by decide) (by decide) rfl rfl rfl lk_X10_31 dX10_benches_109 ?_
        refine z_aload_n F dX10_benches_112 rfl ?_
        refine z_getR F 41 73 0 rfl (by decide) (by decide) rfl rfl rfl lk_X10_79 dX10_benches_113 ?_
        refine z_iload_n F dX10_benches_116 rfl ?_
        refine z_iconst F 1 dX10_benches_117 (by decide) ?_
        refine z_isub F dX10_benches_118 ?_
        obtain ⟨hb, h⟩ := h
        refine z_ialdK F ((x1 - (1 : Int32) : Int32).toNatClampNeg) rfl rfl (by decide) hb dX10_benches_119 ?_
        obtain ⟨hb, h⟩ := h
        refine z_aald F 48 ((w3.1 73 0 ((x1 - (1 : Int32) : Int32).toNatClampNeg) : Int32).toNatClampNeg) rfl (by decide) (by decide) (by decide) rfl rfl hb dX10_benches_120 (fun hv4 => ?_)
        refine z_iconst F 0 dX10_benches_121 (by decide) ?_
        refine z_ialdK F 0 (by decide) rfl hv4 (by unfold vp_in; decide) dX10_benches_122 ?_
        refine z_aload_n F dX10_benches_123 rfl ?_
        refine z_getR F 14 47 0 rfl (by decide) (by decide) rfl rfl rfl lk_X10_31 dX10_benches_124 ?_
        refine z_iload F dX10_benches_127 rfl ?_
        obtain ⟨hb, h⟩ := h
        refine z_aald F 48 ((x4 : Int32).toNatClampNeg) rfl (by decide) (by decide) (by decide) rfl rfl hb dX10_benches_129 (fun hv5 => ?_)
        refine z_iconst F 0 dX10_benches_130 (by decide) ?_
        refine z_ialdK F 0 (by decide) rfl hv5 (by unfold vp_in; decide) dX10_benches_131 ?_
        refine z_callV F (k' := 1) (mc' := 0) [.int (w3.1 48 ((w3.1 73 0 ((x1 - (1 : Int32) : Int32).toNatClampNeg) : Int32).toNatClampNeg) 0), .int (w3.1 48 ((x4 : Int32).toNatClampNeg) 0)] [.int x3, .int (x2 ||| ((1 : Int32) <<< (x4 &&& 31))), .int (x1 + (1 : Int32)), .ref (G.2.1 40 0)] dX10_benches_132 rfl rfl (by decide) rfl cl_X10_342 hy_X10_handedOf (by omega) (by decide) (by decide) (Nat.le_of_ble_eq_true rfl) rfl (con_mono h ?_ (fun _ _ h => h))
        rintro _ w7 ⟨v6, rfl, h⟩
        show Z M G 0 K X w7 135 [some (.ref (G.2.1 40 0)), some (.int x1), some (.int x2), some (.int x3), some (.int x4)] [.int v6, .int x3, .int (x2 ||| ((1 : Int32) <<< (x4 &&& 31))), .int (x1 + (1 : Int32)), .ref (G.2.1 40 0)]
        exact h
      · have h := h.2 hc
        refine z_iconst F 0 dX10_benches_103 (by decide) ?_
        refine z_goto F 135 dX10_benches_104 (by decide) ?_
        exact h
    · have h := h.2 hc
      refine z_goto F 139 dX10_benches_77 (by decide) ?_
      refine z_iinc F (x4 + 1) dX10_benches_139 rfl rfl (Nat.le_of_ble_eq_true rfl) ?_
      refine z_goto F 57 dX10_benches_142 (by decide) ?_
      exact h
set_option maxRecDepth 20000 in
theorem b_X10_benches_135 {M : Mx} {G : Gx} {kk : Nat} {w : Wd}  {kr : Nat} (hkb : 2 ≤ kr) {x1 : Int32} {x2 : Int32} {x3 : Int32} {x4 : Int32} {s0 : Int32} {s1 : Int32} {s2 : Int32} {s3 : Int32} {K : Option Value → Wd → Prop} {X : String → Wd → Prop} (F : Fx M G RX10 cX10_benches 5 none kk 0) (hk : (kr + 1) ≤ kk)
    (h : Con (mL M) G kr 0 yX10_benches cX10_benches 5 none w [.ref (G.2.1 40 0), .int s3, .int s2, .int (s1 + s0)] (fun r w2 => r = none ∧ Z M G 0 K X w2 57 [some (.ref (G.2.1 40 0)), some (.int x1), some (.int x2), some (.int x3), some (.int (x4 + 1))] []) X) :
    Z M G 0 K X w 135 [some (.ref (G.2.1 40 0)), some (.int x1), some (.int x2), some (.int x3), some (.int x4)] [.int s0, .int s1, .int s2, .int s3, .ref (G.2.1 40 0)] := by
  refine z_iadd F dX10_benches_135 ?_
  refine z_callV F (k' := kr) (mc' := 0) [.int s3, .int s2, .int (s1 + s0)] [] dX10_benches_136 rfl rfl (by decide) rfl cl_X10_348 hy_X10_benches (by omega) (by decide) (by decide) (Nat.le_of_ble_eq_true rfl) rfl (con_mono h ?_ (fun _ _ h => h))
  rintro _ w2 ⟨rfl, h⟩
  show Z M G 0 K X w2 139 [some (.ref (G.2.1 40 0)), some (.int x1), some (.int x2), some (.int x3), some (.int x4)] []
  refine z_iinc F (x4 + 1) dX10_benches_139 rfl rfl (Nat.le_of_ble_eq_true rfl) ?_
  refine z_goto F 57 dX10_benches_142 (by decide) ?_
  exact h
set_option maxRecDepth 20000 in
theorem e_X10_laysBench {l : Launch} {G : Gx} {w : Wd}  {K : Option Value → Wd → Prop} {X : String → Wd → Prop} (hl : l.stackTraces = false)
    (h : ∀ (M : Mx) (kk : Nat), mL M = l → 43 ≤ kk → Fx M G RX10 cX10_laysBench 1 none kk 0 → (∀ w1 : Wd, w1 = setI w 40 0 43 (-1) → Con (mL M) G 42 0 yX10_benches cX10_benches 5 none w1 [.ref (G.2.1 40 0), .int 0, .int 0, .int 0] (fun r w3 => r = none ∧ K none w3) X)) :
    Con l G 43 0 yX10_laysBench cX10_laysBench 1 none w [.ref (G.2.1 40 0)] K X := by
  refine con_intro hl (by decide +kernel) (Nat.le_of_ble_eq_true rfl) (Nat.le_of_ble_eq_true rfl) (fun M kk hM hk F => ?_)
  have h := h M kk hM hk F
  show Z M G 0 K X w 0 [some (.ref (G.2.1 40 0))] []
  refine z_aload_n F dX10_laysBench_0 rfl ?_
  refine z_iconst F (-1) dX10_laysBench_1 (by decide) ?_
  refine z_putIW F 43 rfl (by decide) (by decide) rfl lk_X10_345 dX10_laysBench_2 (fun w1 hw1 => ?_)
  have h := h w1 hw1
  refine z_aload_n F dX10_laysBench_5 rfl ?_
  refine z_iconst F 0 dX10_laysBench_6 (by decide) ?_
  refine z_iconst F 0 dX10_laysBench_7 (by decide) ?_
  refine z_iconst F 0 dX10_laysBench_8 (by decide) ?_
  refine z_callV F (k' := 42) (mc' := 0) [.int 0, .int 0, .int 0] [] dX10_laysBench_9 rfl rfl (by decide) rfl cl_X10_348 hy_X10_benches (by omega) (by decide) (by decide) (Nat.le_of_ble_eq_true rfl) rfl (con_mono h ?_ (fun _ _ h => h))
  rintro _ w3 ⟨rfl, h⟩
  show Z M G 0 K X w3 12 [some (.ref (G.2.1 40 0))] []
  exact z_vret F dX10_laysBench_12 (by decide) h
set_option maxRecDepth 20000 in
theorem e_X10_bench {l : Launch} {G : Gx} {w : Wd}  {K : Option Value → Wd → Prop} {X : String → Wd → Prop} (hl : l.stackTraces = false)
    (h : ∀ (M : Mx) (kk : Nat), mL M = l → 44 ≤ kk → Fx M G RX10 cX10_bench 1 (some .int) kk 0 → (∀ w1 : Wd, w1 = setI w 40 0 0 0 → Con (mL M) G 43 0 yX10_laysBench cX10_laysBench 1 none w1 [.ref (G.2.1 40 0)] (fun r w3 => r = none ∧ K (some (.int (w3.1 40 0 43))) w3) X)) :
    Con l G 44 0 yX10_bench cX10_bench 1 (some .int) w [.ref (G.2.1 40 0)] K X := by
  refine con_intro hl (by decide +kernel) (Nat.le_of_ble_eq_true rfl) (Nat.le_of_ble_eq_true rfl) (fun M kk hM hk F => ?_)
  have h := h M kk hM hk F
  show Z M G 0 K X w 0 [some (.ref (G.2.1 40 0))] []
  refine z_aload_n F dX10_bench_0 rfl ?_
  refine z_iconst F 0 dX10_bench_1 (by decide) ?_
  refine z_putIW F 0 rfl (by decide) (by decide) rfl lk_X10_95 dX10_bench_2 (fun w1 hw1 => ?_)
  have h := h w1 hw1
  refine z_aload_n F dX10_bench_5 rfl ?_
  refine z_callV F (k' := 43) (mc' := 0) [] [] dX10_bench_6 rfl rfl (by decide) rfl cl_X10_352 hy_X10_laysBench (by omega) (by decide) (by decide) (Nat.le_of_ble_eq_true rfl) rfl (con_mono h ?_ (fun _ _ h => h))
  rintro _ w3 ⟨rfl, h⟩
  show Z M G 0 K X w3 9 [some (.ref (G.2.1 40 0))] []
  refine z_aload_n F dX10_bench_9 rfl ?_
  refine z_getI F 43 rfl (by decide) (by decide) rfl lk_X10_345 dX10_bench_10 ?_
  exact z_iret F dX10_bench_13 (by decide) h
set_option maxRecDepth 20000 in
theorem e_X10_benched {l : Launch} {G : Gx} {w : Wd} {p0 : Int32} {K : Option Value → Wd → Prop} {X : String → Wd → Prop} (hl : l.stackTraces = false)
    (h : ∀ (M : Mx) (kk : Nat), mL M = l → 44 ≤ kk → Fx M G RX10 cX10_benched 2 (some .int) kk 0 → (∀ w1 : Wd, w1 = setI w 40 0 0 0 → ((0 ≤ p0 → Z M G 0 K X w1 15 [some (.ref (G.2.1 40 0)), some (.int p0)] [.int 0, .ref (G.2.1 40 0)]) ∧ (¬ (0 ≤ p0) → Z M G 0 K X w1 15 [some (.ref (G.2.1 40 0)), some (.int p0)] [.int 1, .ref (G.2.1 40 0)])))) :
    Con l G 44 0 yX10_benched cX10_benched 2 (some .int) w [.ref (G.2.1 40 0), .int p0] K X := by
  refine con_intro hl (by decide +kernel) (Nat.le_of_ble_eq_true rfl) (Nat.le_of_ble_eq_true rfl) (fun M kk hM hk F => ?_)
  have h := h M kk hM hk F
  show Z M G 0 K X w 0 [some (.ref (G.2.1 40 0)), some (.int p0)] []
  refine z_aload_n F dX10_benched_0 rfl ?_
  refine z_iconst F 0 dX10_benched_1 (by decide) ?_
  refine z_putIW F 0 rfl (by decide) (by decide) rfl lk_X10_95 dX10_benched_2 (fun w1 hw1 => ?_)
  have h := h w1 hw1
  refine z_aload_n F dX10_benched_5 rfl ?_
  refine z_iload_n F dX10_benched_6 rfl ?_
  refine z_if_ge F 14 dX10_benched_7 (by decide) ⟨fun hc => ?_, fun hc => ?_⟩
  · have h := h.1 hc
    refine z_iconst F 0 dX10_benched_14 (by decide) ?_
    exact h
  · have h := h.2 hc
    refine z_iconst F 1 dX10_benched_10 (by decide) ?_
    refine z_goto F 15 dX10_benched_11 (by decide) ?_
    exact h
set_option maxRecDepth 20000 in
theorem b_X10_benched_15 {M : Mx} {G : Gx} {kk : Nat} {w : Wd}  {x1 : Int32} {s0 : Int32} {K : Option Value → Wd → Prop} {X : String → Wd → Prop} (F : Fx M G RX10 cX10_benched 2 (some .int) kk 0) (hk : 44 ≤ kk)
    (h : Con (mL M) G 1 0 yX10_bad cX10_bad 4 (some .boolean) w [.ref (G.2.1 40 0), .int s0, .int 1, .int 1] (fun r w2 => ∃ v1 : Int32, r = some (.int v1) ∧ ((v1 = 0 → Con (mL M) G 43 0 yX10_laysBench cX10_laysBench 1 none w2 [.ref (G.2.1 40 0)] (fun r w4 => r = none ∧ (((w4.1 44 0 0) ≤ x1 → K (some (.int (-1))) w4) ∧ (¬ ((w4.1 44 0 0) ≤ x1) → (vp_in x1 7 ∧ K (some (.int (w4.1 74 0 ((x1 : Int32).toNatClampNeg)))) w4)))) X) ∧ (¬ (v1 = 0) → K (some (.int 0)) w2))) X) :
    Z M G 0 K X w 15 [some (.ref (G.2.1 40 0)), some (.int x1)] [.int s0, .ref (G.2.1 40 0)] := by
  refine z_iconst F 1 dX10_benched_15 (by decide) ?_
  refine z_iconst F 1 dX10_benched_16 (by decide) ?_
  refine z_callV F (k' := 1) (mc' := 0) [.int s0, .int 1, .int 1] [] dX10_benched_17 rfl rfl (by decide) rfl cl_X10_171 hy_X10_bad (by omega) (by decide) (by decide) (Nat.le_of_ble_eq_true rfl) rfl (con_mono h ?_ (fun _ _ h => h))
  rintro _ w2 ⟨v1, rfl, h⟩
  show Z M G 0 K X w2 20 [some (.ref (G.2.1 40 0)), some (.int x1)] [.int v1]
  refine z_if_eq F 25 dX10_benched_20 (by decide) ⟨fun hc => ?_, fun hc => ?_⟩
  · have h := h.1 hc
    refine z_aload_n F dX10_benched_25 rfl ?_
    refine z_callV F (k' := 43) (mc' := 0) [] [] dX10_benched_26 rfl rfl (by decide) rfl cl_X10_352 hy_X10_laysBench (by omega) (by decide) (by decide) (Nat.le_of_ble_eq_true rfl) rfl (con_mono h ?_ (fun _ _ h => h))
    rintro _ w4 ⟨rfl, h⟩
    show Z M G 0 K X w4 29 [some (.ref (G.2.1 40 0)), some (.int x1)] []
    refine z_iload_n F dX10_benched_29 rfl ?_
    refine z_aload_n F dX10_benched_30 rfl ?_
    refine z_getR F 12 44 0 rfl (by decide) (by decide) rfl rfl rfl lk_X10_23 dX10_benched_31 ?_
    refine z_iconst F 0 dX10_benched_34 (by decide) ?_
    refine z_ialdK F 0 (by decide) rfl (by decide) (by unfold vp_in; decide) dX10_benched_35 ?_
    refine z_icmp_ge F 48 dX10_benched_36 (by decide) ⟨fun hc => ?_, fun hc => ?_⟩
    · have h := h.1 hc
      refine z_iconst F (-1) dX10_benched_48 (by decide) ?_
      exact z_iret F dX10_benched_49 (by decide) h
    · have h := h.2 hc
      refine z_aload_n F dX10_benched_39 rfl ?_
      refine z_getR F 42 74 0 rfl (by decide) (by decide) rfl rfl rfl lk_X10_82 dX10_benched_40 ?_
      refine z_iload_n F dX10_benched_43 rfl ?_
      obtain ⟨hb, h⟩ := h
      refine z_ialdK F ((x1 : Int32).toNatClampNeg) rfl rfl (by decide) hb dX10_benched_44 ?_
      refine z_goto F 49 dX10_benched_45 (by decide) ?_
      exact z_iret F dX10_benched_49 (by decide) h
  · have h := h.2 hc
    refine z_iconst F 0 dX10_benched_23 (by decide) ?_
    exact z_iret F dX10_benched_24 (by decide) h
set_option maxRecDepth 20000 in
theorem e_X10_wording {l : Launch} {G : Gx} {w : Wd}  {K : Option Value → Wd → Prop} {X : String → Wd → Prop} (hl : l.stackTraces = false)
    (h : ∀ (M : Mx) (kk : Nat), mL M = l → 2 ≤ kk → Fx M G RX10 cX10_wording 5 (some .int) kk 0 → (∀ w1 : Wd, w1 = setI w 40 0 0 0 → Z M G 0 K X w1 10 [some (.ref (G.2.1 40 0)), some (.int 63), some (.int 63), none, none] [])) :
    Con l G 2 0 yX10_wording cX10_wording 5 (some .int) w [.ref (G.2.1 40 0)] K X := by
  refine con_intro hl (by decide +kernel) (Nat.le_of_ble_eq_true rfl) (Nat.le_of_ble_eq_true rfl) (fun M kk hM hk F => ?_)
  have h := h M kk hM hk F
  show Z M G 0 K X w 0 [some (.ref (G.2.1 40 0)), none, none, none, none] []
  refine z_aload_n F dX10_wording_0 rfl ?_
  refine z_iconst F 0 dX10_wording_1 (by decide) ?_
  refine z_putIW F 0 rfl (by decide) (by decide) rfl lk_X10_95 dX10_wording_2 (fun w1 hw1 => ?_)
  have h := h w1 hw1
  refine z_bipush F 63 dX10_wording_5 (by decide) ?_
  refine z_istore_n F dX10_wording_7 (Nat.le_of_ble_eq_true rfl) ?_
  refine z_iload_n F dX10_wording_8 rfl ?_
  refine z_istore_n F dX10_wording_9 (Nat.le_of_ble_eq_true rfl) ?_
  exact h
set_option maxRecDepth 20000 in
theorem b_X10_wording_10 {M : Mx} {G : Gx} {kk : Nat} {w : Wd}  {x1 : Int32} {x2 : Int32} {K : Option Value → Wd → Prop} {X : String → Wd → Prop} (F : Fx M G RX10 cX10_wording 5 (some .int) kk 0) (hk : 2 ≤ kk)
    (h : ((x2 < 0 → K (some (.int x1)) w) ∧ (¬ (x2 < 0) → Con (mL M) G 1 0 yX10_ones cX10_ones 3 (some .int) w [.int x2] (fun r w2 => ∃ v1 : Int32, r = some (.int v1) ∧ Con (mL M) G 1 0 yX10_ones cX10_ones 3 (some .int) w2 [.int x1] (fun r w4 => ∃ v3 : Int32, r = some (.int v3) ∧ ((v3 < v1 → Z M G 0 K X w4 34 [some (.ref (G.2.1 40 0)), some (.int x1), some (.int x2), some (.int 0), some (.int 0)] []) ∧ (¬ (v3 < v1) → Z M G 0 K X w4 34 [some (.ref (G.2.1 40 0)), some (.int x1), some (.int x2), some (.int 1), some (.int 0)] []))) X) X))) :
    Z M G 0 K X w 10 [some (.ref (G.2.1 40 0)), some (.int x1), some (.int x2), none, none] [] := by
  refine z_iload_n F dX10_wording_10 rfl ?_
  refine z_if_lt F 86 dX10_wording_11 (by decide) ⟨fun hc => ?_, fun hc => ?_⟩
  · have h := h.1 hc
    refine z_iload_n F dX10_wording_86 rfl ?_
    exact z_iret F dX10_wording_87 (by decide) h
  · have h := h.2 hc
    refine z_iload_n F dX10_wording_14 rfl ?_
    refine z_callS F (k' := 1) (mc' := 0) [.int x2] [] dX10_wording_15 rfl cl_X10_333 hy_X10_ones.2 (by omega) (by decide) (by decide) (Nat.le_of_ble_eq_true rfl) rfl (con_mono h ?_ (fun _ _ h => h))
    rintro _ w2 ⟨v1, rfl, h⟩
    show Z M G 0 K X w2 18 [some (.ref (G.2.1 40 0)), some (.int x1), some (.int x2), none, none] [.int v1]
    refine z_iload_n F dX10_wording_18 rfl ?_
    refine z_callS F (k' := 1) (mc' := 0) [.int x1] [.int v1] dX10_wording_19 rfl cl_X10_333 hy_X10_ones.2 (by omega) (by decide) (by decide) (Nat.le_of_ble_eq_true rfl) rfl (con_mono h ?_ (fun _ _ h => h))
    rintro _ w4 ⟨v3, rfl, h⟩
    show Z M G 0 K X w4 22 [some (.ref (G.2.1 40 0)), some (.int x1), some (.int x2), none, none] [.int v3, .int v1]
    refine z_icmp_gt F 29 dX10_wording_22 (by decide) ⟨fun hc => ?_, fun hc => ?_⟩
    · have h := h.1 hc
      refine z_iconst F 0 dX10_wording_29 (by decide) ?_
      refine z_istore_n F dX10_wording_30 (Nat.le_of_ble_eq_true rfl) ?_
      refine z_iconst F 0 dX10_wording_31 (by decide) ?_
      refine z_istore F dX10_wording_32 (Nat.le_of_ble_eq_true rfl) ?_
      exact h
    · have h := h.2 hc
      refine z_iconst F 1 dX10_wording_25 (by decide) ?_
      refine z_goto F 30 dX10_wording_26 (by decide) ?_
      refine z_istore_n F dX10_wording_30 (Nat.le_of_ble_eq_true rfl) ?_
      refine z_iconst F 0 dX10_wording_31 (by decide) ?_
      refine z_istore F dX10_wording_32 (Nat.le_of_ble_eq_true rfl) ?_
      exact h
set_option maxRecDepth 20000 in
theorem b_X10_wording_34 {M : Mx} {G : Gx} {kk : Nat} {w : Wd}  {x1 : Int32} {x2 : Int32} {x3 : Int32} {x4 : Int32} {K : Option Value → Wd → Prop} {X : String → Wd → Prop} (F : Fx M G RX10 cX10_wording 5 (some .int) kk 0) (hk : 2 ≤ kk)
    (h : (((w.1 44 0 1) ≤ x4 → ((x3 = 0 → Z M G 0 K X w 10 [some (.ref (G.2.1 40 0)), some (.int x1), some (.int (x2 + (-1))), none, none] []) ∧ (¬ (x3 = 0) → Z M G 0 K X w 10 [some (.ref (G.2.1 40 0)), some (.int x2), some (.int (x2 + (-1))), none, none] []))) ∧ (¬ ((w.1 44 0 1) ≤ x4) → Con (mL M) G 1 0 yX10_wordsOf cX10_wordsOf 4 (some .int) w [.ref (G.2.1 40 0), .int x4] (fun r w2 => ∃ v1 : Int32, r = some (.int v1) ∧ (((v1 &&& x2) = 0 → Z M G 0 K X w2 34 [some (.ref (G.2.1 40 0)), some (.int x1), some (.int x2), some (.int (x3 &&& (0 : Int32))), some (.int (x4 + 1))] []) ∧ (¬ ((v1 &&& x2) = 0) → Z M G 0 K X w2 34 [some (.ref (G.2.1 40 0)), some (.int x1), some (.int x2), some (.int (x3 &&& (1 : Int32))), some (.int (x4 + 1))] []))) X))) :
    Z M G 0 K X w 34 [some (.ref (G.2.1 40 0)), some (.int x1), some (.int x2), some (.int x3), some (.int x4)] [] := by
  refine z_iload F dX10_wording_34 rfl ?_
  refine z_aload_n F dX10_wording_36 rfl ?_
  refine z_getR F 12 44 0 rfl (by decide) (by decide) rfl rfl rfl lk_X10_23 dX10_wording_37 ?_
  refine z_iconst F 1 dX10_wording_40 (by decide) ?_
  refine z_ialdK F 1 (by decide) rfl (by decide) (by unfold vp_in; decide) dX10_wording_41 ?_
  refine z_icmp_ge F 70 dX10_wording_42 (by decide) ⟨fun hc => ?_, fun hc => ?_⟩
  · have h := h.1 hc
    refine z_iload_n F dX10_wording_70 rfl ?_
    refine z_if_eq F 78 dX10_wording_71 (by decide) ⟨fun hc => ?_, fun hc => ?_⟩
    · have h := h.1 hc
      refine z_iload_n F dX10_wording_78 rfl ?_
      refine z_istore_n F dX10_wording_79 (Nat.le_of_ble_eq_true rfl) ?_
      refine z_iinc F (x2 + (-1)) dX10_wording_80 rfl rfl (Nat.le_of_ble_eq_true rfl) ?_
      refine z_goto F 10 dX10_wording_83 (by decide) ?_
      exact z_weak h (⟨rfl, ⟨rfl, ⟨rfl, trivial⟩⟩⟩)
    · have h := h.2 hc
      refine z_iload_n F dX10_wording_74 rfl ?_
      refine z_goto F 79 dX10_wording_75 (by decide) ?_
      refine z_istore_n F dX10_wording_79 (Nat.le_of_ble_eq_true rfl) ?_
      refine z_iinc F (x2 + (-1)) dX10_wording_80 rfl rfl (Nat.le_of_ble_eq_true rfl) ?_
      refine z_goto F 10 dX10_wording_83 (by decide) ?_
      exact z_weak h (⟨rfl, ⟨rfl, ⟨rfl, trivial⟩⟩⟩)
  · have h := h.2 hc
    refine z_iload_n F dX10_wording_45 rfl ?_
    refine z_aload_n F dX10_wording_46 rfl ?_
    refine z_iload F dX10_wording_47 rfl ?_
    refine z_callV F (k' := 1) (mc' := 0) [.int x4] [.int x3] dX10_wording_49 rfl rfl (by decide) rfl cl_X10_291 hy_X10_wordsOf (by omega) (by decide) (by decide) (Nat.le_of_ble_eq_true rfl) rfl (con_mono h ?_ (fun _ _ h => h))
    rintro _ w2 ⟨v1, rfl, h⟩
    show Z M G 0 K X w2 52 [some (.ref (G.2.1 40 0)), some (.int x1), some (.int x2), some (.int x3), some (.int x4)] [.int v1, .int x3]
    refine z_iload_n F dX10_wording_52 rfl ?_
    refine z_iand F dX10_wording_53 ?_
    refine z_if_eq F 61 dX10_wording_54 (by decide) ⟨fun hc => ?_, fun hc => ?_⟩
    · have h := h.1 hc
      refine z_iconst F 0 dX10_wording_61 (by decide) ?_
      refine z_iand F dX10_wording_62 ?_
      refine z_istore_n F dX10_wording_63 (Nat.le_of_ble_eq_true rfl) ?_
      refine z_iinc F (x4 + 1) dX10_wording_64 rfl rfl (Nat.le_of_ble_eq_true rfl) ?_
      refine z_goto F 34 dX10_wording_67 (by decide) ?_
      exact h
    · have h := h.2 hc
      refine z_iconst F 1 dX10_wording_57 (by decide) ?_
      refine z_goto F 62 dX10_wording_58 (by decide) ?_
      refine z_iand F dX10_wording_62 ?_
      refine z_istore_n F dX10_wording_63 (Nat.le_of_ble_eq_true rfl) ?_
      refine z_iinc F (x4 + 1) dX10_wording_64 rfl rfl (Nat.le_of_ble_eq_true rfl) ?_
      refine z_goto F 34 dX10_wording_67 (by decide) ?_
      exact h
set_option maxRecDepth 20000 in
theorem e_X10_wordings {l : Launch} {G : Gx} {w : Wd} {p0 : Int32} {K : Option Value → Wd → Prop} {X : String → Wd → Prop} (hl : l.stackTraces = false)
    (h : ∀ (M : Mx) (kk : Nat), mL M = l → 2 ≤ kk → Fx M G RX10 cX10_wordings 5 (some .long) kk 0 → (∀ w1 : Wd, w1 = setI w 40 0 0 0 → Con (mL M) G 1 0 yX10_in cX10_in 3 (some .boolean) w1 [.int p0, .int 0, .int 63] (fun r w3 => ∃ v2 : Int32, r = some (.int v2) ∧ ((¬ v2 = 0 → Z M G 0 K X w3 21 [some (.ref (G.2.1 40 0)), some (.int p0), none, none, none] [.int 0, .ref (G.2.1 40 0)]) ∧ (¬ (¬ v2 = 0) → Z M G 0 K X w3 21 [some (.ref (G.2.1 40 0)), some (.int p0), none, none, none] [.int 1, .ref (G.2.1 40 0)]))) X)) :
    Con l G 2 0 yX10_wordings cX10_wordings 5 (some .long) w [.ref (G.2.1 40 0), .int p0] K X := by
  refine con_intro hl (by decide +kernel) (Nat.le_of_ble_eq_true rfl) (Nat.le_of_ble_eq_true rfl) (fun M kk hM hk F => ?_)
  have h := h M kk hM hk F
  show Z M G 0 K X w 0 [some (.ref (G.2.1 40 0)), some (.int p0), none, none, none] []
  refine z_aload_n F dX10_wordings_0 rfl ?_
  refine z_iconst F 0 dX10_wordings_1 (by decide) ?_
  refine z_putIW F 0 rfl (by decide) (by decide) rfl lk_X10_95 dX10_wordings_2 (fun w1 hw1 => ?_)
  have h := h w1 hw1
  refine z_aload_n F dX10_wordings_5 rfl ?_
  refine z_iload_n F dX10_wordings_6 rfl ?_
  refine z_iconst F 0 dX10_wordings_7 (by decide) ?_
  refine z_bipush F 63 dX10_wordings_8 (by decide) ?_
  refine z_callS F (k' := 1) (mc' := 0) [.int p0, .int 0, .int 63] [.ref (G.2.1 40 0)] dX10_wordings_10 rfl cl_X10_129 hy_X10_in.2 (by omega) (by decide) (by decide) (Nat.le_of_ble_eq_true rfl) rfl (con_mono h ?_ (fun _ _ h => h))
  rintro _ w3 ⟨v2, rfl, h⟩
  show Z M G 0 K X w3 13 [some (.ref (G.2.1 40 0)), some (.int p0), none, none, none] [.int v2, .ref (G.2.1 40 0)]
  refine z_if_ne F 20 dX10_wordings_13 (by decide) ⟨fun hc => ?_, fun hc => ?_⟩
  · have h := h.1 hc
    refine z_iconst F 0 dX10_wordings_20 (by decide) ?_
    exact h
  · have h := h.2 hc
    refine z_iconst F 1 dX10_wordings_16 (by decide) ?_
    refine z_goto F 21 dX10_wordings_17 (by decide) ?_
    exact h
set_option maxRecDepth 20000 in
theorem b_X10_wordings_21 {M : Mx} {G : Gx} {kk : Nat} {w : Wd}  {x1 : Int32} {s0 : Int32} {K : Option Value → Wd → Prop} {X : String → Wd → Prop} (F : Fx M G RX10 cX10_wordings 5 (some .long) kk 0) (hk : 2 ≤ kk)
    (h : Con (mL M) G 1 0 yX10_bad cX10_bad 4 (some .boolean) w [.ref (G.2.1 40 0), .int s0, .int 1, .int 1] (fun r w2 => ∃ v1 : Int32, r = some (.int v1) ∧ ((v1 = 0 → Z M G 0 K X w2 36 [some (.ref (G.2.1 40 0)), some (.int x1), some (.long 1), none, some (.int 0)] []) ∧ (¬ (v1 = 0) → K (some (.long 0)) w2))) X) :
    Z M G 0 K X w 21 [some (.ref (G.2.1 40 0)), some (.int x1), none, none, none] [.int s0, .ref (G.2.1 40 0)] := by
  refine z_iconst F 1 dX10_wordings_21 (by decide) ?_
  refine z_iconst F 1 dX10_wordings_22 (by decide) ?_
  refine z_callV F (k' := 1) (mc' := 0) [.int s0, .int 1, .int 1] [] dX10_wordings_23 rfl rfl (by decide) rfl cl_X10_171 hy_X10_bad (by omega) (by decide) (by decide) (Nat.le_of_ble_eq_true rfl) rfl (con_mono h ?_ (fun _ _ h => h))
  rintro _ w2 ⟨v1, rfl, h⟩
  show Z M G 0 K X w2 26 [some (.ref (G.2.1 40 0)), some (.int x1), none, none, none] [.int v1]
  refine z_if_eq F 31 dX10_wordings_26 (by decide) ⟨fun hc => ?_, fun hc => ?_⟩
  · have h := h.1 hc
    refine z_lconst F 1 dX10_wordings_31 (by decide) ?_
    refine z_lstore_n F dX10_wordings_32 (Nat.le_of_ble_eq_true rfl) ?_
    refine z_iconst F 0 dX10_wordings_33 (by decide) ?_
    refine z_istore F dX10_wordings_34 (Nat.le_of_ble_eq_true rfl) ?_
    exact h
  · have h := h.2 hc
    refine z_lconst F 0 dX10_wordings_29 (by decide) ?_
    exact z_lret F dX10_wordings_30 (by decide) h
set_option maxRecDepth 20000 in
theorem b_X10_wordings_36 {M : Mx} {G : Gx} {kk : Nat} {w : Wd}  {x1 : Int32} {x2 : Int64} {x4 : Int32} {K : Option Value → Wd → Prop} {X : String → Wd → Prop} (F : Fx M G RX10 cX10_wordings 5 (some .long) kk 0) (hk : 2 ≤ kk)
    (h : (((w.1 44 0 1) ≤ x4 → K (some (.long x2)) w) ∧ (¬ ((w.1 44 0 1) ≤ x4) → Con (mL M) G 1 0 yX10_wordsOf cX10_wordsOf 4 (some .int) w [.ref (G.2.1 40 0), .int x4] (fun r w2 => ∃ v1 : Int32, r = some (.int v1) ∧ Con (mL M) G 1 0 yX10_ones cX10_ones 3 (some .int) w2 [.int (v1 &&& x1)] (fun r w4 => ∃ v3 : Int32, r = some (.int v3) ∧ Z M G 0 K X w4 36 [some (.ref (G.2.1 40 0)), some (.int x1), some (.long (x2 * ((v3 : Int32).toInt64))), none, some (.int (x4 + 1))] []) X) X))) :
    Z M G 0 K X w 36 [some (.ref (G.2.1 40 0)), some (.int x1), some (.long x2), none, some (.int x4)] [] := by
  refine z_iload F dX10_wordings_36 rfl ?_
  refine z_aload_n F dX10_wordings_38 rfl ?_
  refine z_getR F 12 44 0 rfl (by decide) (by decide) rfl rfl rfl lk_X10_23 dX10_wordings_39 ?_
  refine z_iconst F 1 dX10_wordings_42 (by decide) ?_
  refine z_ialdK F 1 (by decide) rfl (by decide) (by unfold vp_in; decide) dX10_wordings_43 ?_
  refine z_icmp_ge F 68 dX10_wordings_44 (by decide) ⟨fun hc => ?_, fun hc => ?_⟩
  · have h := h.1 hc
    refine z_lload_n F dX10_wordings_68 rfl ?_
    exact z_lret F dX10_wordings_69 (by decide) h
  · have h := h.2 hc
    refine z_lload_n F dX10_wordings_47 rfl ?_
    refine z_aload_n F dX10_wordings_48 rfl ?_
    refine z_iload F dX10_wordings_49 rfl ?_
    refine z_callV F (k' := 1) (mc' := 0) [.int x4] [.long x2] dX10_wordings_51 rfl rfl (by decide) rfl cl_X10_291 hy_X10_wordsOf (by omega) (by decide) (by decide) (Nat.le_of_ble_eq_true rfl) rfl (con_mono h ?_ (fun _ _ h => h))
    rintro _ w2 ⟨v1, rfl, h⟩
    show Z M G 0 K X w2 54 [some (.ref (G.2.1 40 0)), some (.int x1), some (.long x2), none, some (.int x4)] [.int v1, .long x2]
    refine z_iload_n F dX10_wordings_54 rfl ?_
    refine z_iand F dX10_wordings_55 ?_
    refine z_callS F (k' := 1) (mc' := 0) [.int (v1 &&& x1)] [.long x2] dX10_wordings_56 rfl cl_X10_333 hy_X10_ones.2 (by omega) (by decide) (by decide) (Nat.le_of_ble_eq_true rfl) rfl (con_mono h ?_ (fun _ _ h => h))
    rintro _ w4 ⟨v3, rfl, h⟩
    show Z M G 0 K X w4 59 [some (.ref (G.2.1 40 0)), some (.int x1), some (.long x2), none, some (.int x4)] [.int v3, .long x2]
    refine z_i2l F dX10_wordings_59 ?_
    refine z_lmul F dX10_wordings_60 ?_
    refine z_lstore_n F dX10_wordings_61 (Nat.le_of_ble_eq_true rfl) ?_
    refine z_iinc F (x4 + 1) dX10_wordings_62 rfl rfl (Nat.le_of_ble_eq_true rfl) ?_
    refine z_goto F 36 dX10_wordings_65 (by decide) ?_
    exact h
set_option maxRecDepth 20000 in
theorem e_X10_isHeard {l : Launch} {G : Gx} {w : Wd} {p0 : Int32} {K : Option Value → Wd → Prop} {X : String → Wd → Prop} (hl : l.stackTraces = false)
    (h : ∀ (M : Mx) (kk : Nat), mL M = l → 9 ≤ kk → Fx M G RX10 cX10_isHeard 3 (some .boolean) kk 0 → Con (mL M) G 1 0 yX10_copies cX10_copies 3 none w [.ref (G.2.1 69 0), .ref (G.2.1 69 1)] (fun r w2 => r = none ∧ Con (mL M) G 1 0 yX10_everySinger cX10_everySinger 1 (some .int) w2 [.ref (G.2.1 40 0)] (fun r w4 => ∃ v3 : Int32, r = some (.int v3) ∧ Con (mL M) G 2 0 yX10_onlyThese cX10_onlyThese 3 none w4 [.ref (G.2.1 40 0), .int (v3 &&& (p0 ^^^ ((-1) : Int32)))] (fun r w6 => r = none ∧ Con (mL M) G 8 0 yX10_hymns cX10_hymns 4 none w6 [.ref (G.2.1 40 0), .ref (G.2.1 69 1)] (fun r w8 => r = none ∧ Z M G 0 K X w8 33 [some (.ref (G.2.1 40 0)), none, some (.int 0)] []) X) X) X) X) :
    Con l G 9 0 yX10_isHeard cX10_isHeard 3 (some .boolean) w [.ref (G.2.1 40 0), .int p0] K X := by
  refine con_intro hl (by decide +kernel) (Nat.le_of_ble_eq_true rfl) (Nat.le_of_ble_eq_true rfl) (fun M kk hM hk F => ?_)
  have h := h M kk hM hk F
  show Z M G 0 K X w 0 [some (.ref (G.2.1 40 0)), some (.int p0), none] []
  refine z_aload_n F dX10_isHeard_0 rfl ?_
  refine z_getR F 29 69 0 rfl (by decide) (by decide) rfl rfl rfl lk_X10_67 dX10_isHeard_1 ?_
  refine z_aload_n F dX10_isHeard_4 rfl ?_
  refine z_getR F 30 69 1 rfl (by decide) (by decide) rfl rfl rfl lk_X10_70 dX10_isHeard_5 ?_
  refine z_callS F (k' := 1) (mc' := 0) [.ref (G.2.1 69 0), .ref (G.2.1 69 1)] [] dX10_isHeard_8 rfl cl_X10_310 hy_X10_copies.2 (by omega) (by decide) (by decide) (Nat.le_of_ble_eq_true rfl) rfl (con_mono h ?_ (fun _ _ h => h))
  rintro _ w2 ⟨rfl, h⟩
  show Z M G 0 K X w2 11 [some (.ref (G.2.1 40 0)), some (.int p0), none] []
  refine z_aload_n F dX10_isHeard_11 rfl ?_
  refine z_aload_n F dX10_isHeard_12 rfl ?_
  refine z_callV F (k' := 1) (mc' := 0) [] [.ref (G.2.1 40 0)] dX10_isHeard_13 rfl rfl (by decide) rfl cl_X10_330 hy_X10_everySinger (by omega) (by decide) (by decide) (Nat.le_of_ble_eq_true rfl) rfl (con_mono h ?_ (fun _ _ h => h))
  rintro _ w4 ⟨v3, rfl, h⟩
  show Z M G 0 K X w4 16 [some (.ref (G.2.1 40 0)), some (.int p0), none] [.int v3, .ref (G.2.1 40 0)]
  refine z_iload_n F dX10_isHeard_16 rfl ?_
  refine z_iconst F (-1) dX10_isHeard_17 (by decide) ?_
  refine z_ixor F dX10_isHeard_18 ?_
  refine z_iand F dX10_isHeard_19 ?_
  refine z_callV F (k' := 2) (mc' := 0) [.int (v3 &&& (p0 ^^^ ((-1) : Int32)))] [] dX10_isHeard_20 rfl rfl (by decide) rfl cl_X10_339 hy_X10_onlyThese (by omega) (by decide) (by decide) (Nat.le_of_ble_eq_true rfl) rfl (con_mono h ?_ (fun _ _ h => h))
  rintro _ w6 ⟨rfl, h⟩
  show Z M G 0 K X w6 23 [some (.ref (G.2.1 40 0)), some (.int p0), none] []
  refine z_aload_n F dX10_isHeard_23 rfl ?_
  refine z_aload_n F dX10_isHeard_24 rfl ?_
  refine z_getR F 30 69 1 rfl (by decide) (by decide) rfl rfl rfl lk_X10_70 dX10_isHeard_25 ?_
  refine z_callV F (k' := 8) (mc' := 0) [.ref (G.2.1 69 1)] [] dX10_isHeard_28 rfl rfl (by decide) rfl cl_X10_280 hy_X10_hymns (by omega) (by decide) (by decide) (Nat.le_of_ble_eq_true rfl) rfl (con_mono h ?_ (fun _ _ h => h))
  rintro _ w8 ⟨rfl, h⟩
  show Z M G 0 K X w8 31 [some (.ref (G.2.1 40 0)), some (.int p0), none] []
  refine z_iconst F 0 dX10_isHeard_31 (by decide) ?_
  refine z_istore_n F dX10_isHeard_32 (Nat.le_of_ble_eq_true rfl) ?_
  exact z_weak h (⟨rfl, ⟨rfl, trivial⟩⟩)
set_option maxRecDepth 20000 in
theorem b_X10_isHeard_33 {M : Mx} {G : Gx} {kk : Nat} {w : Wd}  {x2 : Int32} {K : Option Value → Wd → Prop} {X : String → Wd → Prop} (F : Fx M G RX10 cX10_isHeard 3 (some .boolean) kk 0) (hk : 9 ≤ kk)
    (h : (((w.1 40 0 33) ≤ x2 → K (some (.int 1)) w) ∧ (¬ ((w.1 40 0 33) ≤ x2) → (vp_in x2 20 ∧ (vp_in x2 20 ∧ (((((w.1 40 0 38) >>> ((w.1 62 ((x2 : Int32).toNatClampNeg) 0) &&& 31)) &&& (1 : Int32)) = (w.1 62 ((x2 : Int32).toNatClampNeg) 1) → Z M G 0 K X w 33 [some (.ref (G.2.1 40 0)), none, some (.int (x2 + 1))] []) ∧ (¬ ((((w.1 40 0 38) >>> ((w.1 62 ((x2 : Int32).toNatClampNeg) 0) &&& 31)) &&& (1 : Int32)) = (w.1 62 ((x2 : Int32).toNatClampNeg) 1)) → K (some (.int 0)) w))))))) :
    Z M G 0 K X w 33 [some (.ref (G.2.1 40 0)), none, some (.int x2)] [] := by
  refine z_iload_n F dX10_isHeard_33 rfl ?_
  refine z_aload_n F dX10_isHeard_34 rfl ?_
  refine z_getI F 33 rfl (by decide) (by decide) rfl lk_X10_195 dX10_isHeard_35 ?_
  refine z_icmp_ge F 75 dX10_isHeard_38 (by decide) ⟨fun hc => ?_, fun hc => ?_⟩
  · have h := h.1 hc
    refine z_iconst F 1 dX10_isHeard_75 (by decide) ?_
    exact z_zret F dX10_isHeard_76 (by decide) rfl h
  · have h := h.2 hc
    refine z_aload_n F dX10_isHeard_41 rfl ?_
    refine z_getI F 38 rfl (by decide) (by decide) rfl lk_X10_273 dX10_isHeard_42 ?_
    refine z_aload_n F dX10_isHeard_45 rfl ?_
    refine z_getR F 23 61 0 rfl (by decide) (by decide) rfl rfl rfl lk_X10_52 dX10_isHeard_46 ?_
    refine z_iload_n F dX10_isHeard_49 rfl ?_
    obtain ⟨hb, h⟩ := h
    refine z_aald F 62 ((x2 : Int32).toNatClampNeg) rfl (by decide) (by decide) (by decide) rfl rfl hb dX10_isHeard_50 (fun hv1 => ?_)
    refine z_iconst F 0 dX10_isHeard_51 (by decide) ?_
    refine z_ialdK F 0 (by decide) rfl hv1 (by unfold vp_in; decide) dX10_isHeard_52 ?_
    refine z_ishr F dX10_isHeard_53 ?_
    refine z_iconst F 1 dX10_isHeard_54 (by decide) ?_
    refine z_iand F dX10_isHeard_55 ?_
    refine z_aload_n F dX10_isHeard_56 rfl ?_
    refine z_getR F 23 61 0 rfl (by decide) (by decide) rfl rfl rfl lk_X10_52 dX10_isHeard_57 ?_
    refine z_iload_n F dX10_isHeard_60 rfl ?_
    obtain ⟨hb, h⟩ := h
    refine z_aald F 62 ((x2 : Int32).toNatClampNeg) rfl (by decide) (by decide) (by decide) rfl rfl hb dX10_isHeard_61 (fun hv2 => ?_)
    refine z_iconst F 1 dX10_isHeard_62 (by decide) ?_
    refine z_ialdK F 1 (by decide) rfl hv2 (by unfold vp_in; decide) dX10_isHeard_63 ?_
    refine z_icmp_eq F 69 dX10_isHeard_64 (by decide) ⟨fun hc => ?_, fun hc => ?_⟩
    · have h := h.1 hc
      refine z_iinc F (x2 + 1) dX10_isHeard_69 rfl rfl (Nat.le_of_ble_eq_true rfl) ?_
      refine z_goto F 33 dX10_isHeard_72 (by decide) ?_
      exact h
    · have h := h.2 hc
      refine z_iconst F 0 dX10_isHeard_67 (by decide) ?_
      exact z_zret F dX10_isHeard_68 (by decide) rfl h
set_option maxRecDepth 20000 in
theorem e_X10_who {l : Launch} {G : Gx} {w : Wd} {p0 : Int32} {K : Option Value → Wd → Prop} {X : String → Wd → Prop} (hl : l.stackTraces = false)
    (h : ∀ (M : Mx) (kk : Nat), mL M = l → 10 ≤ kk → Fx M G RX10 cX10_who 5 (some .int) kk 0 → (∀ w1 : Wd, w1 = setI w 40 0 0 0 → Con (mL M) G 1 0 yX10_in cX10_in 3 (some .boolean) w1 [.int p0, .int 0, .int 1] (fun r w3 => ∃ v2 : Int32, r = some (.int v2) ∧ ((¬ v2 = 0 → Z M G 0 K X w3 20 [some (.ref (G.2.1 40 0)), some (.int p0), none, none, none] [.int 0, .ref (G.2.1 40 0)]) ∧ (¬ (¬ v2 = 0) → Z M G 0 K X w3 20 [some (.ref (G.2.1 40 0)), some (.int p0), none, none, none] [.int 1, .ref (G.2.1 40 0)]))) X)) :
    Con l G 10 0 yX10_who cX10_who 5 (some .int) w [.ref (G.2.1 40 0), .int p0] K X := by
  refine con_intro hl (by decide +kernel) (Nat.le_of_ble_eq_true rfl) (Nat.le_of_ble_eq_true rfl) (fun M kk hM hk F => ?_)
  have h := h M kk hM hk F
  show Z M G 0 K X w 0 [some (.ref (G.2.1 40 0)), some (.int p0), none, none, none] []
  refine z_aload_n F dX10_who_0 rfl ?_
  refine z_iconst F 0 dX10_who_1 (by decide) ?_
  refine z_putIW F 0 rfl (by decide) (by decide) rfl lk_X10_95 dX10_who_2 (fun w1 hw1 => ?_)
  have h := h w1 hw1
  refine z_aload_n F dX10_who_5 rfl ?_
  refine z_iload_n F dX10_who_6 rfl ?_
  refine z_iconst F 0 dX10_who_7 (by decide) ?_
  refine z_iconst F 1 dX10_who_8 (by decide) ?_
  refine z_callS F (k' := 1) (mc' := 0) [.int p0, .int 0, .int 1] [.ref (G.2.1 40 0)] dX10_who_9 rfl cl_X10_129 hy_X10_in.2 (by omega) (by decide) (by decide) (Nat.le_of_ble_eq_true rfl) rfl (con_mono h ?_ (fun _ _ h => h))
  rintro _ w3 ⟨v2, rfl, h⟩
  show Z M G 0 K X w3 12 [some (.ref (G.2.1 40 0)), some (.int p0), none, none, none] [.int v2, .ref (G.2.1 40 0)]
  refine z_if_ne F 19 dX10_who_12 (by decide) ⟨fun hc => ?_, fun hc => ?_⟩
  · have h := h.1 hc
    refine z_iconst F 0 dX10_who_19 (by decide) ?_
    exact h
  · have h := h.2 hc
    refine z_iconst F 1 dX10_who_15 (by decide) ?_
    refine z_goto F 20 dX10_who_16 (by decide) ?_
    exact h
set_option maxRecDepth 20000 in
theorem b_X10_who_20 {M : Mx} {G : Gx} {kk : Nat} {w : Wd}  {x1 : Int32} {s0 : Int32} {K : Option Value → Wd → Prop} {X : String → Wd → Prop} (F : Fx M G RX10 cX10_who 5 (some .int) kk 0) (hk : 10 ≤ kk)
    (h : Con (mL M) G 1 0 yX10_bad cX10_bad 4 (some .boolean) w [.ref (G.2.1 40 0), .int s0, .int 1, .int 1] (fun r w2 => ∃ v1 : Int32, r = some (.int v1) ∧ ((v1 = 0 → Z M G 0 K X w2 37 [some (.ref (G.2.1 40 0)), some (.int x1), some (.int 0), some (.int (-1)), some (.int 0)] []) ∧ (¬ (v1 = 0) → K (some (.int 0)) w2))) X) :
    Z M G 0 K X w 20 [some (.ref (G.2.1 40 0)), some (.int x1), none, none, none] [.int s0, .ref (G.2.1 40 0)] := by
  refine z_iconst F 1 dX10_who_20 (by decide) ?_
  refine z_iconst F 1 dX10_who_21 (by decide) ?_
  refine z_callV F (k' := 1) (mc' := 0) [.int s0, .int 1, .int 1] [] dX10_who_22 rfl rfl (by decide) rfl cl_X10_171 hy_X10_bad (by omega) (by decide) (by decide) (Nat.le_of_ble_eq_true rfl) rfl (con_mono h ?_ (fun _ _ h => h))
  rintro _ w2 ⟨v1, rfl, h⟩
  show Z M G 0 K X w2 25 [some (.ref (G.2.1 40 0)), some (.int x1), none, none, none] [.int v1]
  refine z_if_eq F 30 dX10_who_25 (by decide) ⟨fun hc => ?_, fun hc => ?_⟩
  · have h := h.1 hc
    refine z_iconst F 0 dX10_who_30 (by decide) ?_
    refine z_istore_n F dX10_who_31 (Nat.le_of_ble_eq_true rfl) ?_
    refine z_iconst F (-1) dX10_who_32 (by decide) ?_
    refine z_istore_n F dX10_who_33 (Nat.le_of_ble_eq_true rfl) ?_
    refine z_iconst F 0 dX10_who_34 (by decide) ?_
    refine z_istore F dX10_who_35 (Nat.le_of_ble_eq_true rfl) ?_
    exact h
  · have h := h.2 hc
    refine z_iconst F 0 dX10_who_28 (by decide) ?_
    exact z_iret F dX10_who_29 (by decide) h
set_option maxRecDepth 20000 in
theorem b_X10_who_37 {M : Mx} {G : Gx} {kk : Nat} {w : Wd}  {x1 : Int32} {x2 : Int32} {x3 : Int32} {x4 : Int32} {K : Option Value → Wd → Prop} {X : String → Wd → Prop} (F : Fx M G RX10 cX10_who 5 (some .int) kk 0) (hk : 10 ≤ kk)
    (h : Con (mL M) G 1 0 yX10_everySinger cX10_everySinger 1 (some .int) w [.ref (G.2.1 40 0)] (fun r w2 => ∃ v1 : Int32, r = some (.int v1) ∧ ((v1 < x4 → ((¬ x1 = 0 → K (some (.int x3)) w2) ∧ (¬ (¬ x1 = 0) → K (some (.int x2)) w2))) ∧ (¬ (v1 < x4) → Con (mL M) G 9 0 yX10_isHeard cX10_isHeard 3 (some .boolean) w2 [.ref (G.2.1 40 0), .int x4] (fun r w4 => ∃ v3 : Int32, r = some (.int v3) ∧ ((¬ v3 = 0 → ((x3 = (-1) → Z M G 0 K X w4 37 [some (.ref (G.2.1 40 0)), some (.int x1), some (.int (x2 + 1)), some (.int x4), some (.int (x4 + 1))] []) ∧ (¬ (x3 = (-1)) → Con (mL M) G 1 0 yX10_ones cX10_ones 3 (some .int) w4 [.int x4] (fun r w6 => ∃ v5 : Int32, r = some (.int v5) ∧ Con (mL M) G 1 0 yX10_ones cX10_ones 3 (some .int) w6 [.int x3] (fun r w8 => ∃ v7 : Int32, r = some (.int v7) ∧ ((v7 ≤ v5 → Z M G 0 K X w8 37 [some (.ref (G.2.1 40 0)), some (.int x1), some (.int (x2 + 1)), some (.int x3), some (.int (x4 + 1))] []) ∧ (¬ (v7 ≤ v5) → Z M G 0 K X w8 37 [some (.ref (G.2.1 40 0)), some (.int x1), some (.int (x2 + 1)), some (.int x4), some (.int (x4 + 1))] []))) X) X))) ∧ (¬ (¬ v3 = 0) → Z M G 0 K X w4 37 [some (.ref (G.2.1 40 0)), some (.int x1), some (.int x2), some (.int x3), some (.int (x4 + 1))] []))) X))) X) :
    Z M G 0 K X w 37 [some (.ref (G.2.1 40 0)), some (.int x1), some (.int x2), some (.int x3), some (.int x4)] [] := by
  refine z_iload F dX10_who_37 rfl ?_
  refine z_aload_n F dX10_who_39 rfl ?_
  refine z_callV F (k' := 1) (mc' := 0) [] [.int x4] dX10_who_40 rfl rfl (by decide) rfl cl_X10_330 hy_X10_everySinger (by omega) (by decide) (by decide) (Nat.le_of_ble_eq_true rfl) rfl (con_mono h ?_ (fun _ _ h => h))
  rintro _ w2 ⟨v1, rfl, h⟩
  show Z M G 0 K X w2 43 [some (.ref (G.2.1 40 0)), some (.int x1), some (.int x2), some (.int x3), some (.int x4)] [.int v1, .int x4]
  refine z_icmp_gt F 91 dX10_who_43 (by decide) ⟨fun hc => ?_, fun hc => ?_⟩
  · have h := h.1 hc
    refine z_iload_n F dX10_who_91 rfl ?_
    refine z_if_ne F 99 dX10_who_92 (by decide) ⟨fun hc => ?_, fun hc => ?_⟩
    · have h := h.1 hc
      refine z_iload_n F dX10_who_99 rfl ?_
      exact z_iret F dX10_who_100 (by decide) h
    · have h := h.2 hc
      refine z_iload_n F dX10_who_95 rfl ?_
      refine z_goto F 100 dX10_who_96 (by decide) ?_
      exact z_iret F dX10_who_100 (by decide) h
  · have h := h.2 hc
    refine z_aload_n F dX10_who_46 rfl ?_
    refine z_iload F dX10_who_47 rfl ?_
    refine z_callV F (k' := 9) (mc' := 0) [.int x4] [] dX10_who_49 rfl rfl (by decide) rfl cl_X10_355 hy_X10_isHeard (by omega) (by decide) (by decide) (Nat.le_of_ble_eq_true rfl) rfl (con_mono h ?_ (fun _ _ h => h))
    rintro _ w4 ⟨v3, rfl, h⟩
    show Z M G 0 K X w4 52 [some (.ref (G.2.1 40 0)), some (.int x1), some (.int x2), some (.int x3), some (.int x4)] [.int v3]
    refine z_if_ne F 58 dX10_who_52 (by decide) ⟨fun hc => ?_, fun hc => ?_⟩
    · have h := h.1 hc
      refine z_iinc F (x2 + 1) dX10_who_58 rfl rfl (Nat.le_of_ble_eq_true rfl) ?_
      refine z_iload_n F dX10_who_61 rfl ?_
      refine z_iconst F (-1) dX10_who_62 (by decide) ?_
      refine z_icmp_eq F 78 dX10_who_63 (by decide) ⟨fun hc => ?_, fun hc => ?_⟩
      · have h := h.1 hc
        refine z_iload F dX10_who_78 rfl ?_
        refine z_goto F 84 dX10_who_80 (by decide) ?_
        refine z_istore_n F dX10_who_84 (Nat.le_of_ble_eq_true rfl) ?_
        refine z_iinc F (x4 + 1) dX10_who_85 rfl rfl (Nat.le_of_ble_eq_true rfl) ?_
        refine z_goto F 37 dX10_who_88 (by decide) ?_
        exact h
      · have h := h.2 hc
        refine z_iload F dX10_who_66 rfl ?_
        refine z_callS F (k' := 1) (mc' := 0) [.int x4] [] dX10_who_68 rfl cl_X10_333 hy_X10_ones.2 (by omega) (by decide) (by decide) (Nat.le_of_ble_eq_true rfl) rfl (con_mono h ?_ (fun _ _ h => h))
        rintro _ w6 ⟨v5, rfl, h⟩
        show Z M G 0 K X w6 71 [some (.ref (G.2.1 40 0)), some (.int x1), some (.int (x2 + 1)), some (.int x3), some (.int x4)] [.int v5]
        refine z_iload_n F dX10_who_71 rfl ?_
        refine z_callS F (k' := 1) (mc' := 0) [.int x3] [.int v5] dX10_who_72 rfl cl_X10_333 hy_X10_ones.2 (by omega) (by decide) (by decide) (Nat.le_of_ble_eq_true rfl) rfl (con_mono h ?_ (fun _ _ h => h))
        rintro _ w8 ⟨v7, rfl, h⟩
        show Z M G 0 K X w8 75 [some (.ref (G.2.1 40 0)), some (.int x1), some (.int (x2 + 1)), some (.int x3), some (.int x4)] [.int v7, .int v5]
        refine z_icmp_ge F 83 dX10_who_75 (by decide) ⟨fun hc => ?_, fun hc => ?_⟩
        · have h := h.1 hc
          refine z_iload_n F dX10_who_83 rfl ?_
          refine z_istore_n F dX10_who_84 (Nat.le_of_ble_eq_true rfl) ?_
          refine z_iinc F (x4 + 1) dX10_who_85 rfl rfl (Nat.le_of_ble_eq_true rfl) ?_
          refine z_goto F 37 dX10_who_88 (by decide) ?_
          exact h
        · have h := h.2 hc
          refine z_iload F dX10_who_78 rfl ?_
          refine z_goto F 84 dX10_who_80 (by decide) ?_
          refine z_istore_n F dX10_who_84 (Nat.le_of_ble_eq_true rfl) ?_
          refine z_iinc F (x4 + 1) dX10_who_85 rfl rfl (Nat.le_of_ble_eq_true rfl) ?_
          refine z_goto F 37 dX10_who_88 (by decide) ?_
          exact h
    · have h := h.2 hc
      refine z_goto F 85 dX10_who_55 (by decide) ?_
      refine z_iinc F (x4 + 1) dX10_who_85 rfl rfl (Nat.le_of_ble_eq_true rfl) ?_
      refine z_goto F 37 dX10_who_88 (by decide) ?_
      exact h
set_option maxRecDepth 20000 in
theorem e_X10_isTold {l : Launch} {G : Gx} {w : Wd} {p0 : Int32} {K : Option Value → Wd → Prop} {X : String → Wd → Prop} (hl : l.stackTraces = false)
    (h : ∀ (M : Mx) (kk : Nat), mL M = l → 1 ≤ kk → Fx M G RX10 cX10_isTold 3 (some .boolean) kk 0 → Z M G 0 K X w 2 [some (.ref (G.2.1 40 0)), some (.int p0), some (.int 0)] []) :
    Con l G 1 0 yX10_isTold cX10_isTold 3 (some .boolean) w [.ref (G.2.1 40 0), .int p0] K X := by
  refine con_intro hl (by decide +kernel) (Nat.le_of_ble_eq_true rfl) (Nat.le_of_ble_eq_true rfl) (fun M kk hM hk F => ?_)
  have h := h M kk hM hk F
  show Z M G 0 K X w 0 [some (.ref (G.2.1 40 0)), some (.int p0), none] []
  refine z_iconst F 0 dX10_isTold_0 (by decide) ?_
  refine z_istore_n F dX10_isTold_1 (Nat.le_of_ble_eq_true rfl) ?_
  exact h
set_option maxRecDepth 20000 in
theorem b_X10_isTold_2 {M : Mx} {G : Gx} {kk : Nat} {w : Wd}  {x1 : Int32} {x2 : Int32} {K : Option Value → Wd → Prop} {X : String → Wd → Prop} (F : Fx M G RX10 cX10_isTold 3 (some .boolean) kk 0) (hk : 1 ≤ kk)
    (h : (((w.1 40 0 33) ≤ x2 → K (some (.int 0)) w) ∧ (¬ ((w.1 40 0 33) ≤ x2) → (vp_in x2 20 ∧ ((¬ (w.1 62 ((x2 : Int32).toNatClampNeg) 0) = x1 → Z M G 0 K X w 2 [some (.ref (G.2.1 40 0)), some (.int x1), some (.int (x2 + 1))] []) ∧ (¬ (¬ (w.1 62 ((x2 : Int32).toNatClampNeg) 0) = x1) → K (some (.int 1)) w)))))) :
    Z M G 0 K X w 2 [some (.ref (G.2.1 40 0)), some (.int x1), some (.int x2)] [] := by
  refine z_iload_n F dX10_isTold_2 rfl ?_
  refine z_aload_n F dX10_isTold_3 rfl ?_
  refine z_getI F 33 rfl (by decide) (by decide) rfl lk_X10_195 dX10_isTold_4 ?_
  refine z_icmp_ge F 30 dX10_isTold_7 (by decide) ⟨fun hc => ?_, fun hc => ?_⟩
  · have h := h.1 hc
    refine z_iconst F 0 dX10_isTold_30 (by decide) ?_
    exact z_zret F dX10_isTold_31 (by decide) rfl h
  · have h := h.2 hc
    refine z_aload_n F dX10_isTold_10 rfl ?_
    refine z_getR F 23 61 0 rfl (by decide) (by decide) rfl rfl rfl lk_X10_52 dX10_isTold_11 ?_
    refine z_iload_n F dX10_isTold_14 rfl ?_
    obtain ⟨hb, h⟩ := h
    refine z_aald F 62 ((x2 : Int32).toNatClampNeg) rfl (by decide) (by decide) (by decide) rfl rfl hb dX10_isTold_15 (fun hv1 => ?_)
    refine z_iconst F 0 dX10_isTold_16 (by decide) ?_
    refine z_ialdK F 0 (by decide) rfl hv1 (by unfold vp_in; decide) dX10_isTold_17 ?_
    refine z_iload_n F dX10_isTold_18 rfl ?_
    refine z_icmp_ne F 24 dX10_isTold_19 (by decide) ⟨fun hc => ?_, fun hc => ?_⟩
    · have h := h.1 hc
      refine z_iinc F (x2 + 1) dX10_isTold_24 rfl rfl (Nat.le_of_ble_eq_true rfl) ?_
      refine z_goto F 2 dX10_isTold_27 (by decide) ?_
      exact h
    · have h := h.2 hc
      refine z_iconst F 1 dX10_isTold_22 (by decide) ?_
      exact z_zret F dX10_isTold_23 (by decide) rfl h
set_option maxRecDepth 20000 in
theorem e_X10_worstOf {l : Launch} {G : Gx} {w : Wd} {p0 : Int32} {K : Option Value → Wd → Prop} {X : String → Wd → Prop} (hl : l.stackTraces = false)
    (h : ∀ (M : Mx) (kk : Nat), mL M = l → 10 ≤ kk → Fx M G RX10 cX10_worstOf 5 (some .int) kk 0 → Z M G 0 K X w 7 [some (.ref (G.2.1 40 0)), some (.int p0), some (.int 0), some (.int 0), some (.int 0)] []) :
    Con l G 10 0 yX10_worstOf cX10_worstOf 5 (some .int) w [.ref (G.2.1 40 0), .int p0] K X := by
  refine con_intro hl (by decide +kernel) (Nat.le_of_ble_eq_true rfl) (Nat.le_of_ble_eq_true rfl) (fun M kk hM hk F => ?_)
  have h := h M kk hM hk F
  show Z M G 0 K X w 0 [some (.ref (G.2.1 40 0)), some (.int p0), none, none, none] []
  refine z_iconst F 0 dX10_worstOf_0 (by decide) ?_
  refine z_istore_n F dX10_worstOf_1 (Nat.le_of_ble_eq_true rfl) ?_
  refine z_iconst F 0 dX10_worstOf_2 (by decide) ?_
  refine z_istore_n F dX10_worstOf_3 (Nat.le_of_ble_eq_true rfl) ?_
  refine z_iconst F 0 dX10_worstOf_4 (by decide) ?_
  refine z_istore F dX10_worstOf_5 (Nat.le_of_ble_eq_true rfl) ?_
  exact h
set_option maxRecDepth 20000 in
theorem b_X10_worstOf_7 {M : Mx} {G : Gx} {kk : Nat} {w : Wd}  {x1 : Int32} {x2 : Int32} {x3 : Int32} {x4 : Int32} {K : Option Value → Wd → Prop} {X : String → Wd → Prop} (F : Fx M G RX10 cX10_worstOf 5 (some .int) kk 0) (hk : 10 ≤ kk)
    (h : Con (mL M) G 1 0 yX10_everySinger cX10_everySinger 1 (some .int) w [.ref (G.2.1 40 0)] (fun r w2 => ∃ v1 : Int32, r = some (.int v1) ∧ ((v1 < x4 → Con (mL M) G 1 0 yX10_more cX10_more 2 (some .int) w2 [.int x2, .int (x3 - x2)] (fun r w4 => ∃ v3 : Int32, r = some (.int v3) ∧ K (some (.int v3)) w4) X) ∧ (¬ (v1 < x4) → Con (mL M) G 9 0 yX10_isHeard cX10_isHeard 3 (some .boolean) w2 [.ref (G.2.1 40 0), .int x4] (fun r w6 => ∃ v5 : Int32, r = some (.int v5) ∧ ((¬ v5 = 0 → Z M G 0 K X w6 7 [some (.ref (G.2.1 40 0)), some (.int x1), some (.int (x2 + (((w6.1 40 0 38) >>> (x1 &&& 31)) &&& (1 : Int32)))), some (.int (x3 + 1)), some (.int (x4 + 1))] []) ∧ (¬ (¬ v5 = 0) → Z M G 0 K X w6 7 [some (.ref (G.2.1 40 0)), some (.int x1), some (.int x2), some (.int x3), some (.int (x4 + 1))] []))) X))) X) :
    Z M G 0 K X w 7 [some (.ref (G.2.1 40 0)), some (.int x1), some (.int x2), some (.int x3), some (.int x4)] [] := by
  refine z_iload F dX10_worstOf_7 rfl ?_
  refine z_aload_n F dX10_worstOf_9 rfl ?_
  refine z_callV F (k' := 1) (mc' := 0) [] [.int x4] dX10_worstOf_10 rfl rfl (by decide) rfl cl_X10_330 hy_X10_everySinger (by omega) (by decide) (by decide) (Nat.le_of_ble_eq_true rfl) rfl (con_mono h ?_ (fun _ _ h => h))
  rintro _ w2 ⟨v1, rfl, h⟩
  show Z M G 0 K X w2 13 [some (.ref (G.2.1 40 0)), some (.int x1), some (.int x2), some (.int x3), some (.int x4)] [.int v1, .int x4]
  refine z_icmp_gt F 48 dX10_worstOf_13 (by decide) ⟨fun hc => ?_, fun hc => ?_⟩
  · have h := h.1 hc
    refine z_iload_n F dX10_worstOf_48 rfl ?_
    refine z_iload_n F dX10_worstOf_49 rfl ?_
    refine z_iload_n F dX10_worstOf_50 rfl ?_
    refine z_isub F dX10_worstOf_51 ?_
    refine z_callS F (k' := 1) (mc' := 0) [.int x2, .int (x3 - x2)] [] dX10_worstOf_52 rfl cl_X10_238 hy_X10_more.2 (by omega) (by decide) (by decide) (Nat.le_of_ble_eq_true rfl) rfl (con_mono h ?_ (fun _ _ h => h))
    rintro _ w4 ⟨v3, rfl, h⟩
    show Z M G 0 K X w4 55 [some (.ref (G.2.1 40 0)), some (.int x1), some (.int x2), some (.int x3), some (.int x4)] [.int v3]
    exact z_iret F dX10_worstOf_55 (by decide) h
  · have h := h.2 hc
    refine z_aload_n F dX10_worstOf_16 rfl ?_
    refine z_iload F dX10_worstOf_17 rfl ?_
    refine z_callV F (k' := 9) (mc' := 0) [.int x4] [] dX10_worstOf_19 rfl rfl (by decide) rfl cl_X10_355 hy_X10_isHeard (by omega) (by decide) (by decide) (Nat.le_of_ble_eq_true rfl) rfl (con_mono h ?_ (fun _ _ h => h))
    rintro _ w6 ⟨v5, rfl, h⟩
    show Z M G 0 K X w6 22 [some (.ref (G.2.1 40 0)), some (.int x1), some (.int x2), some (.int x3), some (.int x4)] [.int v5]
    refine z_if_ne F 28 dX10_worstOf_22 (by decide) ⟨fun hc => ?_, fun hc => ?_⟩
    · have h := h.1 hc
      refine z_iinc F (x3 + 1) dX10_worstOf_28 rfl rfl (Nat.le_of_ble_eq_true rfl) ?_
      refine z_iload_n F dX10_worstOf_31 rfl ?_
      refine z_aload_n F dX10_worstOf_32 rfl ?_
      refine z_getI F 38 rfl (by decide) (by decide) rfl lk_X10_273 dX10_worstOf_33 ?_
      refine z_iload_n F dX10_worstOf_36 rfl ?_
      refine z_ishr F dX10_worstOf_37 ?_
      refine z_iconst F 1 dX10_worstOf_38 (by decide) ?_
      refine z_iand F dX10_worstOf_39 ?_
      refine z_iadd F dX10_worstOf_40 ?_
      refine z_istore_n F dX10_worstOf_41 (Nat.le_of_ble_eq_true rfl) ?_
      refine z_iinc F (x4 + 1) dX10_worstOf_42 rfl rfl (Nat.le_of_ble_eq_true rfl) ?_
      refine z_goto F 7 dX10_worstOf_45 (by decide) ?_
      exact h
    · have h := h.2 hc
      refine z_goto F 42 dX10_worstOf_25 (by decide) ?_
      refine z_iinc F (x4 + 1) dX10_worstOf_42 rfl rfl (Nat.le_of_ble_eq_true rfl) ?_
      refine z_goto F 7 dX10_worstOf_45 (by decide) ?_
      exact h
set_option maxRecDepth 20000 in
theorem e_X10_listen {l : Launch} {G : Gx} {w : Wd} {p0 : Int32} {K : Option Value → Wd → Prop} {X : String → Wd → Prop} (hl : l.stackTraces = false)
    (h : ∀ (M : Mx) (kk : Nat), mL M = l → 11 ≤ kk → Fx M G RX10 cX10_listen 6 (some .int) kk 0 → (∀ w1 : Wd, w1 = setI w 40 0 0 0 → Con (mL M) G 1 0 yX10_in cX10_in 3 (some .boolean) w1 [.int p0, .int 0, .int 1] (fun r w3 => ∃ v2 : Int32, r = some (.int v2) ∧ ((¬ v2 = 0 → Z M G 0 K X w3 20 [some (.ref (G.2.1 40 0)), some (.int p0), none, none, none, none] [.int 0, .ref (G.2.1 40 0)]) ∧ (¬ (¬ v2 = 0) → Z M G 0 K X w3 20 [some (.ref (G.2.1 40 0)), some (.int p0), none, none, none, none] [.int 1, .ref (G.2.1 40 0)]))) X)) :
    Con l G 11 0 yX10_listen cX10_listen 6 (some .int) w [.ref (G.2.1 40 0), .int p0] K X := by
  refine con_intro hl (by decide +kernel) (Nat.le_of_ble_eq_true rfl) (Nat.le_of_ble_eq_true rfl) (fun M kk hM hk F => ?_)
  have h := h M kk hM hk F
  show Z M G 0 K X w 0 [some (.ref (G.2.1 40 0)), some (.int p0), none, none, none, none] []
  refine z_aload_n F dX10_listen_0 rfl ?_
  refine z_iconst F 0 dX10_listen_1 (by decide) ?_
  refine z_putIW F 0 rfl (by decide) (by decide) rfl lk_X10_95 dX10_listen_2 (fun w1 hw1 => ?_)
  have h := h w1 hw1
  refine z_aload_n F dX10_listen_5 rfl ?_
  refine z_iload_n F dX10_listen_6 rfl ?_
  refine z_iconst F 0 dX10_listen_7 (by decide) ?_
  refine z_iconst F 1 dX10_listen_8 (by decide) ?_
  refine z_callS F (k' := 1) (mc' := 0) [.int p0, .int 0, .int 1] [.ref (G.2.1 40 0)] dX10_listen_9 rfl cl_X10_129 hy_X10_in.2 (by omega) (by decide) (by decide) (Nat.le_of_ble_eq_true rfl) rfl (con_mono h ?_ (fun _ _ h => h))
  rintro _ w3 ⟨v2, rfl, h⟩
  show Z M G 0 K X w3 12 [some (.ref (G.2.1 40 0)), some (.int p0), none, none, none, none] [.int v2, .ref (G.2.1 40 0)]
  refine z_if_ne F 19 dX10_listen_12 (by decide) ⟨fun hc => ?_, fun hc => ?_⟩
  · have h := h.1 hc
    refine z_iconst F 0 dX10_listen_19 (by decide) ?_
    exact h
  · have h := h.2 hc
    refine z_iconst F 1 dX10_listen_15 (by decide) ?_
    refine z_goto F 20 dX10_listen_16 (by decide) ?_
    exact h
set_option maxRecDepth 20000 in
theorem b_X10_listen_20 {M : Mx} {G : Gx} {kk : Nat} {w : Wd}  {x1 : Int32} {s0 : Int32} {K : Option Value → Wd → Prop} {X : String → Wd → Prop} (F : Fx M G RX10 cX10_listen 6 (some .int) kk 0) (hk : 11 ≤ kk)
    (h : Con (mL M) G 1 0 yX10_bad cX10_bad 4 (some .boolean) w [.ref (G.2.1 40 0), .int s0, .int 1, .int 1] (fun r w2 => ∃ v1 : Int32, r = some (.int v1) ∧ ((v1 = 0 → Z M G 0 K X w2 37 [some (.ref (G.2.1 40 0)), some (.int x1), some (.int (-1)), some (.int (-1)), some (.int 0), none] []) ∧ (¬ (v1 = 0) → K (some (.int 0)) w2))) X) :
    Z M G 0 K X w 20 [some (.ref (G.2.1 40 0)), some (.int x1), none, none, none, none] [.int s0, .ref (G.2.1 40 0)] := by
  refine z_iconst F 1 dX10_listen_20 (by decide) ?_
  refine z_iconst F 1 dX10_listen_21 (by decide) ?_
  refine z_callV F (k' := 1) (mc' := 0) [.int s0, .int 1, .int 1] [] dX10_listen_22 rfl rfl (by decide) rfl cl_X10_171 hy_X10_bad (by omega) (by decide) (by decide) (Nat.le_of_ble_eq_true rfl) rfl (con_mono h ?_ (fun _ _ h => h))
  rintro _ w2 ⟨v1, rfl, h⟩
  show Z M G 0 K X w2 25 [some (.ref (G.2.1 40 0)), some (.int x1), none, none, none, none] [.int v1]
  refine z_if_eq F 30 dX10_listen_25 (by decide) ⟨fun hc => ?_, fun hc => ?_⟩
  · have h := h.1 hc
    refine z_iconst F (-1) dX10_listen_30 (by decide) ?_
    refine z_istore_n F dX10_listen_31 (Nat.le_of_ble_eq_true rfl) ?_
    refine z_iconst F (-1) dX10_listen_32 (by decide) ?_
    refine z_istore_n F dX10_listen_33 (Nat.le_of_ble_eq_true rfl) ?_
    refine z_iconst F 0 dX10_listen_34 (by decide) ?_
    refine z_istore F dX10_listen_35 (Nat.le_of_ble_eq_true rfl) ?_
    exact h
  · have h := h.2 hc
    refine z_iconst F 0 dX10_listen_28 (by decide) ?_
    exact z_iret F dX10_listen_29 (by decide) h
set_option maxRecDepth 20000 in
theorem b_X10_listen_37 {M : Mx} {G : Gx} {kk : Nat} {w : Wd}  {x1 : Int32} {x2 : Int32} {x3 : Int32} {x4 : Int32} {K : Option Value → Wd → Prop} {X : String → Wd → Prop} (F : Fx M G RX10 cX10_listen 6 (some .int) kk 0) (hk : 11 ≤ kk)
    (h : (((w.1 44 0 1) ≤ x4 → ((¬ x1 = 0 → K (some (.int x3)) w) ∧ (¬ (¬ x1 = 0) → K (some (.int x2)) w))) ∧ (¬ ((w.1 44 0 1) ≤ x4) → Con (mL M) G 1 0 yX10_isTold cX10_isTold 3 (some .boolean) w [.ref (G.2.1 40 0), .int x4] (fun r w2 => ∃ v1 : Int32, r = some (.int v1) ∧ ((v1 = 0 → Con (mL M) G 10 0 yX10_worstOf cX10_worstOf 5 (some .int) w2 [.ref (G.2.1 40 0), .int x4] (fun r w4 => ∃ v3 : Int32, r = some (.int v3) ∧ ((x2 = (-1) → Z M G 0 K X w4 37 [some (.ref (G.2.1 40 0)), some (.int x1), some (.int x4), some (.int v3), some (.int (x4 + 1)), none] []) ∧ (¬ (x2 = (-1)) → ((v3 < x3 → Z M G 0 K X w4 37 [some (.ref (G.2.1 40 0)), some (.int x1), some (.int x4), some (.int v3), some (.int (x4 + 1)), none] []) ∧ (¬ (v3 < x3) → Z M G 0 K X w4 37 [some (.ref (G.2.1 40 0)), some (.int x1), some (.int x2), some (.int x3), some (.int (x4 + 1)), none] []))))) X) ∧ (¬ (v1 = 0) → Z M G 0 K X w2 37 [some (.ref (G.2.1 40 0)), some (.int x1), some (.int x2), some (.int x3), some (.int (x4 + 1)), none] []))) X))) :
    Z M G 0 K X w 37 [some (.ref (G.2.1 40 0)), some (.int x1), some (.int x2), some (.int x3), some (.int x4), none] [] := by
  refine z_iload F dX10_listen_37 rfl ?_
  refine z_aload_n F dX10_listen_39 rfl ?_
  refine z_getR F 12 44 0 rfl (by decide) (by decide) rfl rfl rfl lk_X10_23 dX10_listen_40 ?_
  refine z_iconst F 1 dX10_listen_43 (by decide) ?_
  refine z_ialdK F 1 (by decide) rfl (by decide) (by unfold vp_in; decide) dX10_listen_44 ?_
  refine z_icmp_ge F 94 dX10_listen_45 (by decide) ⟨fun hc => ?_, fun hc => ?_⟩
  · have h := h.1 hc
    refine z_iload_n F dX10_listen_94 rfl ?_
    refine z_if_ne F 102 dX10_listen_95 (by decide) ⟨fun hc => ?_, fun hc => ?_⟩
    · have h := h.1 hc
      refine z_iload_n F dX10_listen_102 rfl ?_
      exact z_iret F dX10_listen_103 (by decide) h
    · have h := h.2 hc
      refine z_iload_n F dX10_listen_98 rfl ?_
      refine z_goto F 103 dX10_listen_99 (by decide) ?_
      exact z_iret F dX10_listen_103 (by decide) h
  · have h := h.2 hc
    refine z_aload_n F dX10_listen_48 rfl ?_
    refine z_iload F dX10_listen_49 rfl ?_
    refine z_callV F (k' := 1) (mc' := 0) [.int x4] [] dX10_listen_51 rfl rfl (by decide) rfl cl_X10_358 hy_X10_isTold (by omega) (by decide) (by decide) (Nat.le_of_ble_eq_true rfl) rfl (con_mono h ?_ (fun _ _ h => h))
    rintro _ w2 ⟨v1, rfl, h⟩
    show Z M G 0 K X w2 54 [some (.ref (G.2.1 40 0)), some (.int x1), some (.int x2), some (.int x3), some (.int x4), none] [.int v1]
    refine z_if_eq F 60 dX10_listen_54 (by decide) ⟨fun hc => ?_, fun hc => ?_⟩
    · have h := h.1 hc
      refine z_aload_n F dX10_listen_60 rfl ?_
      refine z_iload F dX10_listen_61 rfl ?_
      refine z_callV F (k' := 10) (mc' := 0) [.int x4] [] dX10_listen_63 rfl rfl (by decide) rfl cl_X10_361 hy_X10_worstOf (by omega) (by decide) (by decide) (Nat.le_of_ble_eq_true rfl) rfl (con_mono h ?_ (fun _ _ h => h))
      rintro _ w4 ⟨v3, rfl, h⟩
      show Z M G 0 K X w4 66 [some (.ref (G.2.1 40 0)), some (.int x1), some (.int x2), some (.int x3), some (.int x4), none] [.int v3]
      refine z_istore F dX10_listen_66 (Nat.le_of_ble_eq_true rfl) ?_
      refine z_iload_n F dX10_listen_68 rfl ?_
      refine z_iconst F (-1) dX10_listen_69 (by decide) ?_
      refine z_icmp_eq F 82 dX10_listen_70 (by decide) ⟨fun hc => ?_, fun hc => ?_⟩
      · have h := h.1 hc
        refine z_iload F dX10_listen_82 rfl ?_
        refine z_istore_n F dX10_listen_84 (Nat.le_of_ble_eq_true rfl) ?_
        refine z_iload F dX10_listen_85 rfl ?_
        refine z_istore_n F dX10_listen_87 (Nat.le_of_ble_eq_true rfl) ?_
        refine z_iinc F (x4 + 1) dX10_listen_88 rfl rfl (Nat.le_of_ble_eq_true rfl) ?_
        refine z_goto F 37 dX10_listen_91 (by decide) ?_
        exact z_weak h (⟨rfl, ⟨rfl, ⟨rfl, ⟨rfl, ⟨rfl, trivial⟩⟩⟩⟩⟩)
      · have h := h.2 hc
        refine z_iload F dX10_listen_73 rfl ?_
        refine z_iload_n F dX10_listen_75 rfl ?_
        refine z_icmp_lt F 82 dX10_listen_76 (by decide) ⟨fun hc => ?_, fun hc => ?_⟩
        · have h := h.1 hc
          refine z_iload F dX10_listen_82 rfl ?_
          refine z_istore_n F dX10_listen_84 (Nat.le_of_ble_eq_true rfl) ?_
          refine z_iload F dX10_listen_85 rfl ?_
          refine z_istore_n F dX10_listen_87 (Nat.le_of_ble_eq_true rfl) ?_
          refine z_iinc F (x4 + 1) dX10_listen_88 rfl rfl (Nat.le_of_ble_eq_true rfl) ?_
          refine z_goto F 37 dX10_listen_91 (by decide) ?_
          exact z_weak h (⟨rfl, ⟨rfl, ⟨rfl, ⟨rfl, ⟨rfl, trivial⟩⟩⟩⟩⟩)
        · have h := h.2 hc
          refine z_goto F 88 dX10_listen_79 (by decide) ?_
          refine z_iinc F (x4 + 1) dX10_listen_88 rfl rfl (Nat.le_of_ble_eq_true rfl) ?_
          refine z_goto F 37 dX10_listen_91 (by decide) ?_
          exact z_weak h (⟨rfl, ⟨rfl, ⟨rfl, ⟨rfl, ⟨rfl, trivial⟩⟩⟩⟩⟩)
    · have h := h.2 hc
      refine z_goto F 88 dX10_listen_57 (by decide) ?_
      refine z_iinc F (x4 + 1) dX10_listen_88 rfl rfl (Nat.le_of_ble_eq_true rfl) ?_
      refine z_goto F 37 dX10_listen_91 (by decide) ?_
      exact h
