set_option maxRecDepth 20000 in
theorem e_X2_plain {l : Launch} {G : Gx} {w : Wd} {j0 : Nat} (hj0 : j0 < cnt 8) {K : Option Value → Wd → Prop} {X : String → Wd → Prop} (hl : l.stackTraces = false)
    (h : ∀ (M : Mx) (kk : Nat), mL M = l → 2 ≤ kk → Fx M G RX2 cX2_plain 1 none kk 0 → (∀ w1 : Wd, w1 = setI w 8 j0 5 0 → Con (mL M) G 1 0 yX2_add cX2_add 4 (some .int) w1 [.ref (G.2.1 8 j0), .int 0, .int 0, .int 0] (fun r w3 => ∃ v2 : Int32, r = some (.int v2) ∧ K none w3) X)) :
    Con l G 2 0 yX2_plain cX2_plain 1 none w [.ref (G.2.1 8 j0)] K X := by
  refine con_intro hl (by decide +kernel) (Nat.le_of_ble_eq_true rfl) (Nat.le_of_ble_eq_true rfl) (fun M kk hM hk F => ?_)
  have h := h M kk hM hk F
  show Z M G 0 K X w 0 [some (.ref (G.2.1 8 j0))] []
  refine z_aload_n F dX2_plain_0 rfl ?_
  refine z_iconst F 0 dX2_plain_1 (by decide) ?_
  refine z_putIW F 5 rfl hj0 (by decide) rfl lk_X2_27 dX2_plain_2 (fun w1 hw1 => ?_)
  have h := h w1 hw1
  refine z_aload_n F dX2_plain_5 rfl ?_
  refine z_iconst F 0 dX2_plain_6 (by decide) ?_
  refine z_iconst F 0 dX2_plain_7 (by decide) ?_
  refine z_iconst F 0 dX2_plain_8 (by decide) ?_
  refine z_callV F (k' := 1) (mc' := 0) [.int 0, .int 0, .int 0] [] dX2_plain_9 rfl rfl hj0 rfl cl_X2_31 hy_X2_add (by omega) (by decide) (by decide) (Nat.le_of_ble_eq_true rfl) rfl (con_mono h ?_ (fun _ _ h => h))
  rintro _ w3 ⟨v2, rfl, h⟩
  show Z M G 0 K X w3 12 [some (.ref (G.2.1 8 j0))] [.int v2]
  refine z_pop F dX2_plain_12 rfl ?_
  exact z_vret F dX2_plain_13 (by decide) h
set_option maxRecDepth 20000 in
theorem e_X2_read {l : Launch} {G : Gx} {w : Wd} {j0 : Nat} (hj0 : j0 < cnt 8) {K : Option Value → Wd → Prop} {X : String → Wd → Prop} (hl : l.stackTraces = false)
    (h : ∀ (M : Mx) (kk : Nat), mL M = l → 50 ≤ kk → Fx M G RX2 cX2_read 2 none kk 0 → (∀ w1 : Wd, w1 = setI w 8 j0 5 0 → Con (mL M) G 49 0 yX2_sum cX2_sum 6 (some .int) w1 [.ref (G.2.1 8 j0), .ref (G.2.1 1 0), .int 0] (fun r w3 => ∃ v2 : Int32, r = some (.int v2) ∧ Con (mL M) G 2 0 yX8_more cX8_more 1 (some .boolean) w3 [.ref (G.2.1 1 0)] (fun r w5 => ∃ v4 : Int32, r = some (.int v4) ∧ ((v4 = 0 → K none w5) ∧ (¬ (v4 = 0) → Con (mL M) G 1 0 yX8_fail cX8_fail 3 none w5 [.ref (G.2.1 1 0), .int 1, .int (w5.1 1 0 3)] (fun r w7 => r = none ∧ K none w7) X))) X) X)) :
    Con l G 50 0 yX2_read cX2_read 2 none w [.ref (G.2.1 8 j0), .ref (G.2.1 1 0)] K X := by
  refine con_intro hl (by decide +kernel) (Nat.le_of_ble_eq_true rfl) (Nat.le_of_ble_eq_true rfl) (fun M kk hM hk F => ?_)
  have h := h M kk hM hk F
  show Z M G 0 K X w 0 [some (.ref (G.2.1 8 j0)), some (.ref (G.2.1 1 0))] []
  refine z_aload_n F dX2_read_0 rfl ?_
  refine z_iconst F 0 dX2_read_1 (by decide) ?_
  refine z_putIW F 5 rfl hj0 (by decide) rfl lk_X2_27 dX2_read_2 (fun w1 hw1 => ?_)
  have h := h w1 hw1
  refine z_aload_n F dX2_read_5 rfl ?_
  refine z_aload_n F dX2_read_6 rfl ?_
  refine z_iconst F 0 dX2_read_7 (by decide) ?_
  refine z_callV F (k' := 49) (mc' := 0) [.ref (G.2.1 1 0), .int 0] [] dX2_read_8 rfl rfl hj0 rfl cl_X2_35 hy_X2_sum (by omega) (by decide) (by decide) (Nat.le_of_ble_eq_true rfl) rfl (con_mono h ?_ (fun _ _ h => h))
  rintro _ w3 ⟨v2, rfl, h⟩
  show Z M G 0 K X w3 11 [some (.ref (G.2.1 8 j0)), some (.ref (G.2.1 1 0))] [.int v2]
  refine z_pop F dX2_read_11 rfl ?_
  refine z_aload_n F dX2_read_12 rfl ?_
  refine z_callV F (k' := 2) (mc' := 0) [] [] dX2_read_13 rfl rfl (by decide) rfl cl_X2_39 hy_X8_more (by omega) (by decide) (by decide) (Nat.le_of_ble_eq_true rfl) rfl (con_mono h ?_ (fun _ _ h => h))
  rintro _ w5 ⟨v4, rfl, h⟩
  show Z M G 0 K X w5 16 [some (.ref (G.2.1 8 j0)), some (.ref (G.2.1 1 0))] [.int v4]
  refine z_if_eq F 28 dX2_read_16 (by decide) ⟨fun hc => ?_, fun hc => ?_⟩
  · have h := h.1 hc
    exact z_vret F dX2_read_28 (by decide) h
  · have h := h.2 hc
    refine z_aload_n F dX2_read_19 rfl ?_
    refine z_iconst F 1 dX2_read_20 (by decide) ?_
    refine z_aload_n F dX2_read_21 rfl ?_
    refine z_getI F 3 rfl (by decide) (by decide) rfl lk_X2_45 dX2_read_22 ?_
    refine z_callV F (k' := 1) (mc' := 0) [.int 1, .int (w5.1 1 0 3)] [] dX2_read_25 rfl rfl (by decide) rfl cl_X2_48 hy_X8_fail (by omega) (by decide) (by decide) (Nat.le_of_ble_eq_true rfl) rfl (con_mono h ?_ (fun _ _ h => h))
    rintro _ w7 ⟨rfl, h⟩
    show Z M G 0 K X w7 28 [some (.ref (G.2.1 8 j0)), some (.ref (G.2.1 1 0))] []
    exact z_vret F dX2_read_28 (by decide) h
set_option maxRecDepth 20000 in
theorem e_X2_add {l : Launch} {G : Gx} {w : Wd} {j0 : Nat} (hj0 : j0 < cnt 8) {p0 : Int32} {p1 : Int32} {p2 : Int32} {K : Option Value → Wd → Prop} {X : String → Wd → Prop} (hl : l.stackTraces = false)
    (h : ∀ (M : Mx) (kk : Nat), mL M = l → 1 ≤ kk → Fx M G RX2 cX2_add 4 (some .int) kk 0 → (((w.1 8 j0 5) < 150 → (vp_in (w.1 8 j0 5) 150 ∧ ∀ w1 : Wd, w1 = setI w 34 j0 ((w.1 8 j0 5 : Int32).toNatClampNeg) p0 → (vp_in (w1.1 8 j0 5) 150 ∧ ∀ w2 : Wd, w2 = setI w1 35 j0 ((w1.1 8 j0 5 : Int32).toNatClampNeg) p1 → (vp_in (w2.1 8 j0 5) 150 ∧ ∀ w3 : Wd, w3 = setI w2 36 j0 ((w2.1 8 j0 5 : Int32).toNatClampNeg) p2 → (∀ w4 : Wd, w4 = setI w3 8 j0 5 ((w3.1 8 j0 5) + (1 : Int32)) → K (some (.int ((w4.1 8 j0 5) - (1 : Int32)))) w4))))) ∧ (¬ ((w.1 8 j0 5) < 150) → K (some (.int 0)) w))) :
    Con l G 1 0 yX2_add cX2_add 4 (some .int) w [.ref (G.2.1 8 j0), .int p0, .int p1, .int p2] K X := by
  refine con_intro hl (by decide +kernel) (Nat.le_of_ble_eq_true rfl) (Nat.le_of_ble_eq_true rfl) (fun M kk hM hk F => ?_)
  have h := h M kk hM hk F
  show Z M G 0 K X w 0 [some (.ref (G.2.1 8 j0)), some (.int p0), some (.int p1), some (.int p2)] []
  refine z_aload_n F dX2_add_0 rfl ?_
  refine z_getI F 5 rfl hj0 (by decide) rfl lk_X2_27 dX2_add_1 ?_
  refine z_sipush F 150 dX2_add_4 (by decide) ?_
  refine z_icmp_lt F 12 dX2_add_7 (by decide) ⟨fun hc => ?_, fun hc => ?_⟩
  · have h := h.1 hc
    refine z_aload_n F dX2_add_12 rfl ?_
    refine z_getR F 1 34 j0 rfl hj0 (by decide) rfl rfl rfl lk_X2_15 dX2_add_13 ?_
    refine z_aload_n F dX2_add_16 rfl ?_
    refine z_getI F 5 rfl hj0 (by decide) rfl lk_X2_27 dX2_add_17 ?_
    refine z_iload_n F dX2_add_20 rfl ?_
    obtain ⟨hb, h⟩ := h
    refine z_iastW F ((w.1 8 j0 5 : Int32).toNatClampNeg) rfl rfl (fix_lt 8 j0 1 hj0 (by decide) rfl rfl) hb dX2_add_21 (fun w1 hw1 => ?_)
    have h := h w1 hw1
    refine z_aload_n F dX2_add_22 rfl ?_
    refine z_getR F 2 35 j0 rfl hj0 (by decide) rfl rfl rfl lk_X2_18 dX2_add_23 ?_
    refine z_aload_n F dX2_add_26 rfl ?_
    refine z_getI F 5 rfl hj0 (by decide) rfl lk_X2_27 dX2_add_27 ?_
    refine z_iload_n F dX2_add_30 rfl ?_
    obtain ⟨hb, h⟩ := h
    refine z_iastW F ((w1.1 8 j0 5 : Int32).toNatClampNeg) rfl rfl (fix_lt 8 j0 2 hj0 (by decide) rfl rfl) hb dX2_add_31 (fun w2 hw2 => ?_)
    have h := h w2 hw2
    refine z_aload_n F dX2_add_32 rfl ?_
    refine z_getR F 3 36 j0 rfl hj0 (by decide) rfl rfl rfl lk_X2_21 dX2_add_33 ?_
    refine z_aload_n F dX2_add_36 rfl ?_
    refine z_getI F 5 rfl hj0 (by decide) rfl lk_X2_27 dX2_add_37 ?_
    refine z_iload_n F dX2_add_40 rfl ?_
    obtain ⟨hb, h⟩ := h
    refine z_iastW F ((w2.1 8 j0 5 : Int32).toNatClampNeg) rfl rfl (fix_lt 8 j0 3 hj0 (by decide) rfl rfl) hb dX2_add_41 (fun w3 hw3 => ?_)
    have h := h w3 hw3
    refine z_aload_n F dX2_add_42 rfl ?_
    refine z_dup F dX2_add_43 rfl ?_
    refine z_getI F 5 rfl hj0 (by decide) rfl lk_X2_27 dX2_add_44 ?_
    refine z_iconst F 1 dX2_add_47 (by decide) ?_
    refine z_iadd F dX2_add_48 ?_
    refine z_putIW F 5 rfl hj0 (by decide) rfl lk_X2_27 dX2_add_49 (fun w4 hw4 => ?_)
    have h := h w4 hw4
    refine z_aload_n F dX2_add_52 rfl ?_
    refine z_getI F 5 rfl hj0 (by decide) rfl lk_X2_27 dX2_add_53 ?_
    refine z_iconst F 1 dX2_add_56 (by decide) ?_
    refine z_isub F dX2_add_57 ?_
    exact z_iret F dX2_add_58 (by decide) h
  · have h := h.2 hc
    refine z_iconst F 0 dX2_add_10 (by decide) ?_
    exact z_iret F dX2_add_11 (by decide) h
set_option maxRecDepth 20000 in
theorem e_X2_sum {l : Launch} {G : Gx} {w : Wd} {j0 : Nat} (hj0 : j0 < cnt 8) {p1 : Int32} {kr : Nat} (hkb : 9 ≤ kr) {K : Option Value → Wd → Prop} {X : String → Wd → Prop} (hl : l.stackTraces = false)
    (h : ∀ (M : Mx) (kk : Nat), mL M = l → (kr + 1) ≤ kk → Fx M G RX2 cX2_sum 6 (some .int) kk 0 → Con (mL M) G kr 0 yX2_product cX2_product 6 (some .int) w [.ref (G.2.1 8 j0), .ref (G.2.1 1 0), .int p1] (fun r w2 => ∃ v1 : Int32, r = some (.int v1) ∧ Z M G 0 K X w2 10 [some (.ref (G.2.1 8 j0)), some (.ref (G.2.1 1 0)), some (.int p1), some (.int v1), some (.int 0), none] []) X) :
    Con l G (kr + 1) 0 yX2_sum cX2_sum 6 (some .int) w [.ref (G.2.1 8 j0), .ref (G.2.1 1 0), .int p1] K X := by
  refine con_intro hl (by decide +kernel) (Nat.le_of_ble_eq_true rfl) (Nat.le_of_ble_eq_true rfl) (fun M kk hM hk F => ?_)
  have h := h M kk hM hk F
  show Z M G 0 K X w 0 [some (.ref (G.2.1 8 j0)), some (.ref (G.2.1 1 0)), some (.int p1), none, none, none] []
  refine z_aload_n F dX2_sum_0 rfl ?_
  refine z_aload_n F dX2_sum_1 rfl ?_
  refine z_iload_n F dX2_sum_2 rfl ?_
  refine z_callV F (k' := kr) (mc' := 0) [.ref (G.2.1 1 0), .int p1] [] dX2_sum_3 rfl rfl hj0 rfl cl_X2_52 hy_X2_product (by omega) (by decide) (by decide) (Nat.le_of_ble_eq_true rfl) rfl (con_mono h ?_ (fun _ _ h => h))
  rintro _ w2 ⟨v1, rfl, h⟩
  show Z M G 0 K X w2 6 [some (.ref (G.2.1 8 j0)), some (.ref (G.2.1 1 0)), some (.int p1), none, none, none] [.int v1]
  refine z_istore_n F dX2_sum_6 (Nat.le_of_ble_eq_true rfl) ?_
  refine z_iconst F 0 dX2_sum_7 (by decide) ?_
  refine z_istore F dX2_sum_8 (Nat.le_of_ble_eq_true rfl) ?_
  exact h
set_option maxRecDepth 20000 in
theorem b_X2_sum_10 {M : Mx} {G : Gx} {kk : Nat} {w : Wd} {j0 : Nat} (hj0 : j0 < cnt 8) {kr : Nat} (hkb : 9 ≤ kr) {x2 : Int32} {x3 : Int32} {x4 : Int32} {K : Option Value → Wd → Prop} {X : String → Wd → Prop} (F : Fx M G RX2 cX2_sum 6 (some .int) kk 0) (hk : (kr + 1) ≤ kk)
    (h : ((150 ≤ x4 → K (some (.int x3)) w) ∧ (¬ (150 ≤ x4) → Con (mL M) G 1 0 yX8_peek cX8_peek 1 (some .int) w [.ref (G.2.1 1 0)] (fun r w2 => ∃ v1 : Int32, r = some (.int v1) ∧ ((v1 = 43 → Z M G 0 K X w2 41 [some (.ref (G.2.1 8 j0)), some (.ref (G.2.1 1 0)), some (.int x2), some (.int x3), some (.int x4), some (.int v1)] []) ∧ (¬ (v1 = 43) → ((v1 = 45 → Z M G 0 K X w2 41 [some (.ref (G.2.1 8 j0)), some (.ref (G.2.1 1 0)), some (.int x2), some (.int x3), some (.int x4), some (.int v1)] []) ∧ (¬ (v1 = 45) → K (some (.int x3)) w2))))) X))) :
    Z M G 0 K X w 10 [some (.ref (G.2.1 8 j0)), some (.ref (G.2.1 1 0)), some (.int x2), some (.int x3), some (.int x4), none] [] := by
  refine z_iload F dX2_sum_10 rfl ?_
  refine z_sipush F 150 dX2_sum_12 (by decide) ?_
  refine z_icmp_ge F 67 dX2_sum_15 (by decide) ⟨fun hc => ?_, fun hc => ?_⟩
  · have h := h.1 hc
    refine z_iload_n F dX2_sum_67 rfl ?_
    exact z_iret F dX2_sum_68 (by decide) h
  · have h := h.2 hc
    refine z_aload_n F dX2_sum_18 rfl ?_
    refine z_callV F (k' := 1) (mc' := 0) [] [] dX2_sum_19 rfl rfl (by decide) rfl cl_X2_55 hy_X8_peek (by omega) (by decide) (by decide) (Nat.le_of_ble_eq_true rfl) rfl (con_mono h ?_ (fun _ _ h => h))
    rintro _ w2 ⟨v1, rfl, h⟩
    show Z M G 0 K X w2 22 [some (.ref (G.2.1 8 j0)), some (.ref (G.2.1 1 0)), some (.int x2), some (.int x3), some (.int x4), none] [.int v1]
    refine z_istore F dX2_sum_22 (Nat.le_of_ble_eq_true rfl) ?_
    refine z_iload F dX2_sum_24 rfl ?_
    refine z_bipush F 43 dX2_sum_26 (by decide) ?_
    refine z_icmp_eq F 41 dX2_sum_28 (by decide) ⟨fun hc => ?_, fun hc => ?_⟩
    · have h := h.1 hc
      exact h
    · have h := h.2 hc
      refine z_iload F dX2_sum_31 rfl ?_
      refine z_bipush F 45 dX2_sum_33 (by decide) ?_
      refine z_icmp_eq F 41 dX2_sum_35 (by decide) ⟨fun hc => ?_, fun hc => ?_⟩
      · have h := h.1 hc
        exact h
      · have h := h.2 hc
        refine z_goto F 67 dX2_sum_38 (by decide) ?_
        refine z_iload_n F dX2_sum_67 rfl ?_
        exact z_iret F dX2_sum_68 (by decide) h
set_option maxRecDepth 20000 in
theorem b_X2_sum_41 {M : Mx} {G : Gx} {kk : Nat} {w : Wd} {j0 : Nat} (hj0 : j0 < cnt 8) {kr : Nat} (hkb : 9 ≤ kr) {x2 : Int32} {x3 : Int32} {x4 : Int32} {x5 : Int32} {K : Option Value → Wd → Prop} {X : String → Wd → Prop} (F : Fx M G RX2 cX2_sum 6 (some .int) kk 0) (hk : (kr + 1) ≤ kk)
    (h : Con (mL M) G 2 0 yX8_sign cX8_sign 2 none w [.ref (G.2.1 1 0), .int x5] (fun r w2 => r = none ∧ Con (mL M) G kr 0 yX2_product cX2_product 6 (some .int) w2 [.ref (G.2.1 8 j0), .ref (G.2.1 1 0), .int x2] (fun r w4 => ∃ v3 : Int32, r = some (.int v3) ∧ Con (mL M) G 1 0 yX2_add cX2_add 4 (some .int) w4 [.ref (G.2.1 8 j0), .int x5, .int x3, .int v3] (fun r w6 => ∃ v5 : Int32, r = some (.int v5) ∧ Z M G 0 K X w6 10 [some (.ref (G.2.1 8 j0)), some (.ref (G.2.1 1 0)), some (.int x2), some (.int v5), some (.int (x4 + 1)), none] []) X) X) X) :
    Z M G 0 K X w 41 [some (.ref (G.2.1 8 j0)), some (.ref (G.2.1 1 0)), some (.int x2), some (.int x3), some (.int x4), some (.int x5)] [] := by
  refine z_aload_n F dX2_sum_41 rfl ?_
  refine z_iload F dX2_sum_42 rfl ?_
  refine z_callV F (k' := 2) (mc' := 0) [.int x5] [] dX2_sum_44 rfl rfl (by decide) rfl cl_X2_59 hy_X8_sign (by omega) (by decide) (by decide) (Nat.le_of_ble_eq_true rfl) rfl (con_mono h ?_ (fun _ _ h => h))
  rintro _ w2 ⟨rfl, h⟩
  show Z M G 0 K X w2 47 [some (.ref (G.2.1 8 j0)), some (.ref (G.2.1 1 0)), some (.int x2), some (.int x3), some (.int x4), some (.int x5)] []
  refine z_aload_n F dX2_sum_47 rfl ?_
  refine z_iload F dX2_sum_48 rfl ?_
  refine z_iload_n F dX2_sum_50 rfl ?_
  refine z_aload_n F dX2_sum_51 rfl ?_
  refine z_aload_n F dX2_sum_52 rfl ?_
  refine z_iload_n F dX2_sum_53 rfl ?_
  refine z_callV F (k' := kr) (mc' := 0) [.ref (G.2.1 1 0), .int x2] [.int x3, .int x5, .ref (G.2.1 8 j0)] dX2_sum_54 rfl rfl hj0 rfl cl_X2_52 hy_X2_product (by omega) (by decide) (by decide) (Nat.le_of_ble_eq_true rfl) rfl (con_mono h ?_ (fun _ _ h => h))
  rintro _ w4 ⟨v3, rfl, h⟩
  show Z M G 0 K X w4 57 [some (.ref (G.2.1 8 j0)), some (.ref (G.2.1 1 0)), some (.int x2), some (.int x3), some (.int x4), some (.int x5)] [.int v3, .int x3, .int x5, .ref (G.2.1 8 j0)]
  refine z_callV F (k' := 1) (mc' := 0) [.int x5, .int x3, .int v3] [] dX2_sum_57 rfl rfl hj0 rfl cl_X2_31 hy_X2_add (by omega) (by decide) (by decide) (Nat.le_of_ble_eq_true rfl) rfl (con_mono h ?_ (fun _ _ h => h))
  rintro _ w6 ⟨v5, rfl, h⟩
  show Z M G 0 K X w6 60 [some (.ref (G.2.1 8 j0)), some (.ref (G.2.1 1 0)), some (.int x2), some (.int x3), some (.int x4), some (.int x5)] [.int v5]
  refine z_istore_n F dX2_sum_60 (Nat.le_of_ble_eq_true rfl) ?_
  refine z_iinc F (x4 + 1) dX2_sum_61 rfl rfl (Nat.le_of_ble_eq_true rfl) ?_
  refine z_goto F 10 dX2_sum_64 (by decide) ?_
  exact z_weak h (⟨rfl, ⟨rfl, ⟨rfl, ⟨rfl, ⟨rfl, trivial⟩⟩⟩⟩⟩)
set_option maxRecDepth 20000 in
theorem e_X2_product {l : Launch} {G : Gx} {w : Wd} {j0 : Nat} (hj0 : j0 < cnt 8) {p1 : Int32} {kr : Nat} (hkb : 9 ≤ kr) {K : Option Value → Wd → Prop} {X : String → Wd → Prop} (hl : l.stackTraces = false)
    (h : ∀ (M : Mx) (kk : Nat), mL M = l → (kr + 1) ≤ kk → Fx M G RX2 cX2_product 6 (some .int) kk 0 → Con (mL M) G kr 0 yX2_unit cX2_unit 5 (some .int) w [.ref (G.2.1 8 j0), .ref (G.2.1 1 0), .int p1] (fun r w2 => ∃ v1 : Int32, r = some (.int v1) ∧ Z M G 0 K X w2 10 [some (.ref (G.2.1 8 j0)), some (.ref (G.2.1 1 0)), some (.int p1), some (.int v1), some (.int 0), none] []) X) :
    Con l G (kr + 1) 0 yX2_product cX2_product 6 (some .int) w [.ref (G.2.1 8 j0), .ref (G.2.1 1 0), .int p1] K X := by
  refine con_intro hl (by decide +kernel) (Nat.le_of_ble_eq_true rfl) (Nat.le_of_ble_eq_true rfl) (fun M kk hM hk F => ?_)
  have h := h M kk hM hk F
  show Z M G 0 K X w 0 [some (.ref (G.2.1 8 j0)), some (.ref (G.2.1 1 0)), some (.int p1), none, none, none] []
  refine z_aload_n F dX2_product_0 rfl ?_
  refine z_aload_n F dX2_product_1 rfl ?_
  refine z_iload_n F dX2_product_2 rfl ?_
  refine z_callV F (k' := kr) (mc' := 0) [.ref (G.2.1 1 0), .int p1] [] dX2_product_3 rfl rfl hj0 rfl cl_X2_63 hy_X2_unit (by omega) (by decide) (by decide) (Nat.le_of_ble_eq_true rfl) rfl (con_mono h ?_ (fun _ _ h => h))
  rintro _ w2 ⟨v1, rfl, h⟩
  show Z M G 0 K X w2 6 [some (.ref (G.2.1 8 j0)), some (.ref (G.2.1 1 0)), some (.int p1), none, none, none] [.int v1]
  refine z_istore_n F dX2_product_6 (Nat.le_of_ble_eq_true rfl) ?_
  refine z_iconst F 0 dX2_product_7 (by decide) ?_
  refine z_istore F dX2_product_8 (Nat.le_of_ble_eq_true rfl) ?_
  exact h
set_option maxRecDepth 20000 in
theorem b_X2_product_10 {M : Mx} {G : Gx} {kk : Nat} {w : Wd} {j0 : Nat} (hj0 : j0 < cnt 8) {kr : Nat} (hkb : 9 ≤ kr) {x2 : Int32} {x3 : Int32} {x4 : Int32} {K : Option Value → Wd → Prop} {X : String → Wd → Prop} (F : Fx M G RX2 cX2_product 6 (some .int) kk 0) (hk : (kr + 1) ≤ kk)
    (h : ((150 ≤ x4 → K (some (.int x3)) w) ∧ (¬ (150 ≤ x4) → Con (mL M) G 1 0 yX8_peek cX8_peek 1 (some .int) w [.ref (G.2.1 1 0)] (fun r w2 => ∃ v1 : Int32, r = some (.int v1) ∧ ((v1 = 42 → Z M G 0 K X w2 48 [some (.ref (G.2.1 8 j0)), some (.ref (G.2.1 1 0)), some (.int x2), some (.int x3), some (.int x4), some (.int v1)] []) ∧ (¬ (v1 = 42) → ((v1 = 47 → Z M G 0 K X w2 48 [some (.ref (G.2.1 8 j0)), some (.ref (G.2.1 1 0)), some (.int x2), some (.int x3), some (.int x4), some (.int v1)] []) ∧ (¬ (v1 = 47) → ((v1 = 37 → Z M G 0 K X w2 48 [some (.ref (G.2.1 8 j0)), some (.ref (G.2.1 1 0)), some (.int x2), some (.int x3), some (.int x4), some (.int v1)] []) ∧ (¬ (v1 = 37) → K (some (.int x3)) w2))))))) X))) :
    Z M G 0 K X w 10 [some (.ref (G.2.1 8 j0)), some (.ref (G.2.1 1 0)), some (.int x2), some (.int x3), some (.int x4), none] [] := by
  refine z_iload F dX2_product_10 rfl ?_
  refine z_sipush F 150 dX2_product_12 (by decide) ?_
  refine z_icmp_ge F 74 dX2_product_15 (by decide) ⟨fun hc => ?_, fun hc => ?_⟩
  · have h := h.1 hc
    refine z_iload_n F dX2_product_74 rfl ?_
    exact z_iret F dX2_product_75 (by decide) h
  · have h := h.2 hc
    refine z_aload_n F dX2_product_18 rfl ?_
    refine z_callV F (k' := 1) (mc' := 0) [] [] dX2_product_19 rfl rfl (by decide) rfl cl_X2_55 hy_X8_peek (by omega) (by decide) (by decide) (Nat.le_of_ble_eq_true rfl) rfl (con_mono h ?_ (fun _ _ h => h))
    rintro _ w2 ⟨v1, rfl, h⟩
    show Z M G 0 K X w2 22 [some (.ref (G.2.1 8 j0)), some (.ref (G.2.1 1 0)), some (.int x2), some (.int x3), some (.int x4), none] [.int v1]
    refine z_istore F dX2_product_22 (Nat.le_of_ble_eq_true rfl) ?_
    refine z_iload F dX2_product_24 rfl ?_
    refine z_bipush F 42 dX2_product_26 (by decide) ?_
    refine z_icmp_eq F 48 dX2_product_28 (by decide) ⟨fun hc => ?_, fun hc => ?_⟩
    · have h := h.1 hc
      exact h
    · have h := h.2 hc
      refine z_iload F dX2_product_31 rfl ?_
      refine z_bipush F 47 dX2_product_33 (by decide) ?_
      refine z_icmp_eq F 48 dX2_product_35 (by decide) ⟨fun hc => ?_, fun hc => ?_⟩
      · have h := h.1 hc
        exact h
      · have h := h.2 hc
        refine z_iload F dX2_product_38 rfl ?_
        refine z_bipush F 37 dX2_product_40 (by decide) ?_
        refine z_icmp_eq F 48 dX2_product_42 (by decide) ⟨fun hc => ?_, fun hc => ?_⟩
        · have h := h.1 hc
          exact h
        · have h := h.2 hc
          refine z_goto F 74 dX2_product_45 (by decide) ?_
          refine z_iload_n F dX2_product_74 rfl ?_
          exact z_iret F dX2_product_75 (by decide) h
set_option maxRecDepth 20000 in
theorem b_X2_product_48 {M : Mx} {G : Gx} {kk : Nat} {w : Wd} {j0 : Nat} (hj0 : j0 < cnt 8) {kr : Nat} (hkb : 9 ≤ kr) {x2 : Int32} {x3 : Int32} {x4 : Int32} {x5 : Int32} {K : Option Value → Wd → Prop} {X : String → Wd → Prop} (F : Fx M G RX2 cX2_product 6 (some .int) kk 0) (hk : (kr + 1) ≤ kk)
    (h : Con (mL M) G 2 0 yX8_sign cX8_sign 2 none w [.ref (G.2.1 1 0), .int x5] (fun r w2 => r = none ∧ Con (mL M) G kr 0 yX2_unit cX2_unit 5 (some .int) w2 [.ref (G.2.1 8 j0), .ref (G.2.1 1 0), .int x2] (fun r w4 => ∃ v3 : Int32, r = some (.int v3) ∧ Con (mL M) G 1 0 yX2_add cX2_add 4 (some .int) w4 [.ref (G.2.1 8 j0), .int x5, .int x3, .int v3] (fun r w6 => ∃ v5 : Int32, r = some (.int v5) ∧ Z M G 0 K X w6 10 [some (.ref (G.2.1 8 j0)), some (.ref (G.2.1 1 0)), some (.int x2), some (.int v5), some (.int (x4 + 1)), none] []) X) X) X) :
    Z M G 0 K X w 48 [some (.ref (G.2.1 8 j0)), some (.ref (G.2.1 1 0)), some (.int x2), some (.int x3), some (.int x4), some (.int x5)] [] := by
  refine z_aload_n F dX2_product_48 rfl ?_
  refine z_iload F dX2_product_49 rfl ?_
  refine z_callV F (k' := 2) (mc' := 0) [.int x5] [] dX2_product_51 rfl rfl (by decide) rfl cl_X2_59 hy_X8_sign (by omega) (by decide) (by decide) (Nat.le_of_ble_eq_true rfl) rfl (con_mono h ?_ (fun _ _ h => h))
  rintro _ w2 ⟨rfl, h⟩
  show Z M G 0 K X w2 54 [some (.ref (G.2.1 8 j0)), some (.ref (G.2.1 1 0)), some (.int x2), some (.int x3), some (.int x4), some (.int x5)] []
  refine z_aload_n F dX2_product_54 rfl ?_
  refine z_iload F dX2_product_55 rfl ?_
  refine z_iload_n F dX2_product_57 rfl ?_
  refine z_aload_n F dX2_product_58 rfl ?_
  refine z_aload_n F dX2_product_59 rfl ?_
  refine z_iload_n F dX2_product_60 rfl ?_
  refine z_callV F (k' := kr) (mc' := 0) [.ref (G.2.1 1 0), .int x2] [.int x3, .int x5, .ref (G.2.1 8 j0)] dX2_product_61 rfl rfl hj0 rfl cl_X2_63 hy_X2_unit (by omega) (by decide) (by decide) (Nat.le_of_ble_eq_true rfl) rfl (con_mono h ?_ (fun _ _ h => h))
  rintro _ w4 ⟨v3, rfl, h⟩
  show Z M G 0 K X w4 64 [some (.ref (G.2.1 8 j0)), some (.ref (G.2.1 1 0)), some (.int x2), some (.int x3), some (.int x4), some (.int x5)] [.int v3, .int x3, .int x5, .ref (G.2.1 8 j0)]
  refine z_callV F (k' := 1) (mc' := 0) [.int x5, .int x3, .int v3] [] dX2_product_64 rfl rfl hj0 rfl cl_X2_31 hy_X2_add (by omega) (by decide) (by decide) (Nat.le_of_ble_eq_true rfl) rfl (con_mono h ?_ (fun _ _ h => h))
  rintro _ w6 ⟨v5, rfl, h⟩
  show Z M G 0 K X w6 67 [some (.ref (G.2.1 8 j0)), some (.ref (G.2.1 1 0)), some (.int x2), some (.int x3), some (.int x4), some (.int x5)] [.int v5]
  refine z_istore_n F dX2_product_67 (Nat.le_of_ble_eq_true rfl) ?_
  refine z_iinc F (x4 + 1) dX2_product_68 rfl rfl (Nat.le_of_ble_eq_true rfl) ?_
  refine z_goto F 10 dX2_product_71 (by decide) ?_
  exact z_weak h (⟨rfl, ⟨rfl, ⟨rfl, ⟨rfl, ⟨rfl, trivial⟩⟩⟩⟩⟩)
set_option maxRecDepth 20000 in
theorem e_X2_unit {l : Launch} {G : Gx} {w : Wd} {j0 : Nat} (hj0 : j0 < cnt 8) {p1 : Int32} {kr : Nat} (hkb : 9 ≤ kr) {K : Option Value → Wd → Prop} {X : String → Wd → Prop} (hl : l.stackTraces = false)
    (h : ∀ (M : Mx) (kk : Nat), mL M = l → (kr + 1) ≤ kk → Fx M G RX2 cX2_unit 5 (some .int) kk 0 → Con (mL M) G 1 0 yX8_peek cX8_peek 1 (some .int) w [.ref (G.2.1 1 0)] (fun r w2 => ∃ v1 : Int32, r = some (.int v1) ∧ ((v1 < 48 → Z M G 0 K X w2 33 [some (.ref (G.2.1 8 j0)), some (.ref (G.2.1 1 0)), some (.int p1), some (.int v1), none] []) ∧ (¬ (v1 < 48) → ((57 < v1 → Z M G 0 K X w2 33 [some (.ref (G.2.1 8 j0)), some (.ref (G.2.1 1 0)), some (.int p1), some (.int v1), none] []) ∧ (¬ (57 < v1) → Con (mL M) G 2 0 yX8_figure cX8_figure 4 (some .int) w2 [.ref (G.2.1 1 0), .int 0, .int 999] (fun r w4 => ∃ v3 : Int32, r = some (.int v3) ∧ Con (mL M) G 1 0 yX2_add cX2_add 4 (some .int) w4 [.ref (G.2.1 8 j0), .int 8, .int v3, .int 0] (fun r w6 => ∃ v5 : Int32, r = some (.int v5) ∧ K (some (.int v5)) w6) X) X))))) X) :
    Con l G (kr + 1) 0 yX2_unit cX2_unit 5 (some .int) w [.ref (G.2.1 8 j0), .ref (G.2.1 1 0), .int p1] K X := by
  refine con_intro hl (by decide +kernel) (Nat.le_of_ble_eq_true rfl) (Nat.le_of_ble_eq_true rfl) (fun M kk hM hk F => ?_)
  have h := h M kk hM hk F
  show Z M G 0 K X w 0 [some (.ref (G.2.1 8 j0)), some (.ref (G.2.1 1 0)), some (.int p1), none, none] []
  refine z_aload_n F dX2_unit_0 rfl ?_
  refine z_callV F (k' := 1) (mc' := 0) [] [] dX2_unit_1 rfl rfl (by decide) rfl cl_X2_55 hy_X8_peek (by omega) (by decide) (by decide) (Nat.le_of_ble_eq_true rfl) rfl (con_mono h ?_ (fun _ _ h => h))
  rintro _ w2 ⟨v1, rfl, h⟩
  show Z M G 0 K X w2 4 [some (.ref (G.2.1 8 j0)), some (.ref (G.2.1 1 0)), some (.int p1), none, none] [.int v1]
  refine z_istore_n F dX2_unit_4 (Nat.le_of_ble_eq_true rfl) ?_
  refine z_iload_n F dX2_unit_5 rfl ?_
  refine z_bipush F 48 dX2_unit_6 (by decide) ?_
  refine z_icmp_lt F 33 dX2_unit_8 (by decide) ⟨fun hc => ?_, fun hc => ?_⟩
  · have h := h.1 hc
    exact h
  · have h := h.2 hc
    refine z_iload_n F dX2_unit_11 rfl ?_
    refine z_bipush F 57 dX2_unit_12 (by decide) ?_
    refine z_icmp_gt F 33 dX2_unit_14 (by decide) ⟨fun hc => ?_, fun hc => ?_⟩
    · have h := h.1 hc
      exact h
    · have h := h.2 hc
      refine z_aload_n F dX2_unit_17 rfl ?_
      refine z_bipush F 8 dX2_unit_18 (by decide) ?_
      refine z_aload_n F dX2_unit_20 rfl ?_
      refine z_iconst F 0 dX2_unit_21 (by decide) ?_
      refine z_sipush F 999 dX2_unit_22 (by decide) ?_
      refine z_callV F (k' := 2) (mc' := 0) [.int 0, .int 999] [.int 8, .ref (G.2.1 8 j0)] dX2_unit_25 rfl rfl (by decide) rfl cl_X2_66 hy_X8_figure (by omega) (by decide) (by decide) (Nat.le_of_ble_eq_true rfl) rfl (con_mono h ?_ (fun _ _ h => h))
      rintro _ w4 ⟨v3, rfl, h⟩
      show Z M G 0 K X w4 28 [some (.ref (G.2.1 8 j0)), some (.ref (G.2.1 1 0)), some (.int p1), some (.int v1), none] [.int v3, .int 8, .ref (G.2.1 8 j0)]
      refine z_iconst F 0 dX2_unit_28 (by decide) ?_
      refine z_callV F (k' := 1) (mc' := 0) [.int 8, .int v3, .int 0] [] dX2_unit_29 rfl rfl hj0 rfl cl_X2_31 hy_X2_add (by omega) (by decide) (by decide) (Nat.le_of_ble_eq_true rfl) rfl (con_mono h ?_ (fun _ _ h => h))
      rintro _ w6 ⟨v5, rfl, h⟩
      show Z M G 0 K X w6 32 [some (.ref (G.2.1 8 j0)), some (.ref (G.2.1 1 0)), some (.int p1), some (.int v1), none] [.int v5]
      exact z_iret F dX2_unit_32 (by decide) h
set_option maxRecDepth 20000 in
theorem b_X2_unit_33 {M : Mx} {G : Gx} {kk : Nat} {w : Wd} {j0 : Nat} (hj0 : j0 < cnt 8) {kr : Nat} (hkb : 9 ≤ kr) {x2 : Int32} {x3 : Int32} {K : Option Value → Wd → Prop} {X : String → Wd → Prop} (F : Fx M G RX2 cX2_unit 5 (some .int) kk 0) (hk : (kr + 1) ≤ kk)
    (h : ((¬ x3 = 40 → Con (mL M) G 2 0 yX8_word cX8_word 1 none w [.ref (G.2.1 1 0)] (fun r w2 => r = none ∧ Con (mL M) G 7 0 yX8_says cX8_says 3 (some .boolean) w2 [.ref (G.2.1 1 0), .ref (G.2.2.2.2.1 4)] (fun r w4 => ∃ v3 : Int32, r = some (.int v3) ∧ ((v3 = 0 → Con (mL M) G 7 0 yX8_says cX8_says 3 (some .boolean) w4 [.ref (G.2.1 1 0), .ref (G.2.2.2.2.1 5)] (fun r w6 => ∃ v5 : Int32, r = some (.int v5) ∧ ((v5 = 0 → Con (mL M) G 8 0 yX2_factNamed cX2_factNamed 1 (some .int) w6 [.ref (G.2.1 1 0)] (fun r w8 => ∃ v7 : Int32, r = some (.int v7) ∧ ((¬ v7 = (-1) → Con (mL M) G 1 0 yX2_add cX2_add 4 (some .int) w8 [.ref (G.2.1 8 j0), .int v7, .int 0, .int 0] (fun r w10 => ∃ v9 : Int32, r = some (.int v9) ∧ K (some (.int v9)) w10) X) ∧ (¬ (¬ v7 = (-1)) → Con (mL M) G 1 0 yX8_fail cX8_fail 3 none w8 [.ref (G.2.1 1 0), .int 1, .int (w8.1 1 0 4)] (fun r w12 => r = none ∧ K (some (.int 0)) w12) X))) X) ∧ (¬ (v5 = 0) → Con (mL M) G kr 0 yX2_pair cX2_pair 6 (some .int) w6 [.ref (G.2.1 8 j0), .ref (G.2.1 1 0), .int x2, .int 10] (fun r w14 => ∃ v13 : Int32, r = some (.int v13) ∧ K (some (.int v13)) w14) X))) X) ∧ (¬ (v3 = 0) → Con (mL M) G kr 0 yX2_pair cX2_pair 6 (some .int) w4 [.ref (G.2.1 8 j0), .ref (G.2.1 1 0), .int x2, .int 9] (fun r w16 => ∃ v15 : Int32, r = some (.int v15) ∧ K (some (.int v15)) w16) X))) X) X) ∧ (¬ (¬ x3 = 40) → Con (mL M) G kr 0 yX2_inner cX2_inner 4 (some .int) w [.ref (G.2.1 8 j0), .ref (G.2.1 1 0), .int x2] (fun r w18 => ∃ v17 : Int32, r = some (.int v17) ∧ K (some (.int v17)) w18) X))) :
    Z M G 0 K X w 33 [some (.ref (G.2.1 8 j0)), some (.ref (G.2.1 1 0)), some (.int x2), some (.int x3), none] [] := by
  refine z_iload_n F dX2_unit_33 rfl ?_
  refine z_bipush F 40 dX2_unit_34 (by decide) ?_
  refine z_icmp_ne F 46 dX2_unit_36 (by decide) ⟨fun hc => ?_, fun hc => ?_⟩
  · have h := h.1 hc
    refine z_aload_n F dX2_unit_46 rfl ?_
    refine z_callV F (k' := 2) (mc' := 0) [] [] dX2_unit_47 rfl rfl (by decide) rfl cl_X2_73 hy_X8_word (by omega) (by decide) (by decide) (Nat.le_of_ble_eq_true rfl) rfl (con_mono h ?_ (fun _ _ h => h))
    rintro _ w2 ⟨rfl, h⟩
    show Z M G 0 K X w2 50 [some (.ref (G.2.1 8 j0)), some (.ref (G.2.1 1 0)), some (.int x2), some (.int x3), none] []
    refine z_aload_n F dX2_unit_50 rfl ?_
    refine z_ldcS F 4 dX2_unit_51 (by decide) ?_
    refine z_callV F (k' := 7) (mc' := 0) [.ref (G.2.2.2.2.1 4)] [] dX2_unit_53 rfl rfl (by decide) rfl cl_X2_78 hy_X8_says (by omega) (by decide) (by decide) (Nat.le_of_ble_eq_true rfl) rfl (con_mono h ?_ (fun _ _ h => h))
    rintro _ w4 ⟨v3, rfl, h⟩
    show Z M G 0 K X w4 56 [some (.ref (G.2.1 8 j0)), some (.ref (G.2.1 1 0)), some (.int x2), some (.int x3), none] [.int v3]
    refine z_if_eq F 68 dX2_unit_56 (by decide) ⟨fun hc => ?_, fun hc => ?_⟩
    · have h := h.1 hc
      refine z_aload_n F dX2_unit_68 rfl ?_
      refine z_ldcS F 5 dX2_unit_69 (by decide) ?_
      refine z_callV F (k' := 7) (mc' := 0) [.ref (G.2.2.2.2.1 5)] [] dX2_unit_71 rfl rfl (by decide) rfl cl_X2_78 hy_X8_says (by omega) (by decide) (by decide) (Nat.le_of_ble_eq_true rfl) rfl (con_mono h ?_ (fun _ _ h => h))
      rintro _ w6 ⟨v5, rfl, h⟩
      show Z M G 0 K X w6 74 [some (.ref (G.2.1 8 j0)), some (.ref (G.2.1 1 0)), some (.int x2), some (.int x3), none] [.int v5]
      refine z_if_eq F 86 dX2_unit_74 (by decide) ⟨fun hc => ?_, fun hc => ?_⟩
      · have h := h.1 hc
        refine z_aload_n F dX2_unit_86 rfl ?_
        refine z_callS F (k' := 8) (mc' := 0) [.ref (G.2.1 1 0)] [] dX2_unit_87 rfl cl_X2_88 hy_X2_factNamed.2 (by omega) (by decide) (by decide) (Nat.le_of_ble_eq_true rfl) rfl (con_mono h ?_ (fun _ _ h => h))
        rintro _ w8 ⟨v7, rfl, h⟩
        show Z M G 0 K X w8 90 [some (.ref (G.2.1 8 j0)), some (.ref (G.2.1 1 0)), some (.int x2), some (.int x3), none] [.int v7]
        refine z_istore F dX2_unit_90 (Nat.le_of_ble_eq_true rfl) ?_
        refine z_iload F dX2_unit_92 rfl ?_
        refine z_iconst F (-1) dX2_unit_94 (by decide) ?_
        refine z_icmp_ne F 109 dX2_unit_95 (by decide) ⟨fun hc => ?_, fun hc => ?_⟩
        · have h := h.1 hc
          refine z_aload_n F dX2_unit_109 rfl ?_
          refine z_iload F dX2_unit_110 rfl ?_
          refine z_iconst F 0 dX2_unit_112 (by decide) ?_
          refine z_iconst F 0 dX2_unit_113 (by decide) ?_
          refine z_callV F (k' := 1) (mc' := 0) [.int v7, .int 0, .int 0] [] dX2_unit_114 rfl rfl hj0 rfl cl_X2_31 hy_X2_add (by omega) (by decide) (by decide) (Nat.le_of_ble_eq_true rfl) rfl (con_mono h ?_ (fun _ _ h => h))
          rintro _ w10 ⟨v9, rfl, h⟩
          show Z M G 0 K X w10 117 [some (.ref (G.2.1 8 j0)), some (.ref (G.2.1 1 0)), some (.int x2), some (.int x3), some (.int v7)] [.int v9]
          exact z_iret F dX2_unit_117 (by decide) h
        · have h := h.2 hc
          refine z_aload_n F dX2_unit_98 rfl ?_
          refine z_iconst F 1 dX2_unit_99 (by decide) ?_
          refine z_aload_n F dX2_unit_100 rfl ?_
          refine z_getI F 4 rfl (by decide) (by decide) rfl lk_X2_92 dX2_unit_101 ?_
          refine z_callV F (k' := 1) (mc' := 0) [.int 1, .int (w8.1 1 0 4)] [] dX2_unit_104 rfl rfl (by decide) rfl cl_X2_48 hy_X8_fail (by omega) (by decide) (by decide) (Nat.le_of_ble_eq_true rfl) rfl (con_mono h ?_ (fun _ _ h => h))
          rintro _ w12 ⟨rfl, h⟩
          show Z M G 0 K X w12 107 [some (.ref (G.2.1 8 j0)), some (.ref (G.2.1 1 0)), some (.int x2), some (.int x3), some (.int v7)] []
          refine z_iconst F 0 dX2_unit_107 (by decide) ?_
          exact z_iret F dX2_unit_108 (by decide) h
      · have h := h.2 hc
        refine z_aload_n F dX2_unit_77 rfl ?_
        refine z_aload_n F dX2_unit_78 rfl ?_
        refine z_iload_n F dX2_unit_79 rfl ?_
        refine z_bipush F 10 dX2_unit_80 (by decide) ?_
        refine z_callV F (k' := kr) (mc' := 0) [.ref (G.2.1 1 0), .int x2, .int 10] [] dX2_unit_82 rfl rfl hj0 rfl cl_X2_82 hy_X2_pair (by omega) (by decide) (by decide) (Nat.le_of_ble_eq_true rfl) rfl (con_mono h ?_ (fun _ _ h => h))
        rintro _ w14 ⟨v13, rfl, h⟩
        show Z M G 0 K X w14 85 [some (.ref (G.2.1 8 j0)), some (.ref (G.2.1 1 0)), some (.int x2), some (.int x3), none] [.int v13]
        exact z_iret F dX2_unit_85 (by decide) h
    · have h := h.2 hc
      refine z_aload_n F dX2_unit_59 rfl ?_
      refine z_aload_n F dX2_unit_60 rfl ?_
      refine z_iload_n F dX2_unit_61 rfl ?_
      refine z_bipush F 9 dX2_unit_62 (by decide) ?_
      refine z_callV F (k' := kr) (mc' := 0) [.ref (G.2.1 1 0), .int x2, .int 9] [] dX2_unit_64 rfl rfl hj0 rfl cl_X2_82 hy_X2_pair (by omega) (by decide) (by decide) (Nat.le_of_ble_eq_true rfl) rfl (con_mono h ?_ (fun _ _ h => h))
      rintro _ w16 ⟨v15, rfl, h⟩
      show Z M G 0 K X w16 67 [some (.ref (G.2.1 8 j0)), some (.ref (G.2.1 1 0)), some (.int x2), some (.int x3), none] [.int v15]
      exact z_iret F dX2_unit_67 (by decide) h
  · have h := h.2 hc
    refine z_aload_n F dX2_unit_39 rfl ?_
    refine z_aload_n F dX2_unit_40 rfl ?_
    refine z_iload_n F dX2_unit_41 rfl ?_
    refine z_callV F (k' := kr) (mc' := 0) [.ref (G.2.1 1 0), .int x2] [] dX2_unit_42 rfl rfl hj0 rfl cl_X2_70 hy_X2_inner (by omega) (by decide) (by decide) (Nat.le_of_ble_eq_true rfl) rfl (con_mono h ?_ (fun _ _ h => h))
    rintro _ w18 ⟨v17, rfl, h⟩
    show Z M G 0 K X w18 45 [some (.ref (G.2.1 8 j0)), some (.ref (G.2.1 1 0)), some (.int x2), some (.int x3), none] [.int v17]
    exact z_iret F dX2_unit_45 (by decide) h
set_option maxRecDepth 20000 in
theorem e_X2_inner {l : Launch} {G : Gx} {w : Wd} {j0 : Nat} (hj0 : j0 < cnt 8) {p1 : Int32} {kr : Nat} (hkb : 9 ≤ kr) {K : Option Value → Wd → Prop} {X : String → Wd → Prop} (hl : l.stackTraces = false)
    (h : ∀ (M : Mx) (kk : Nat), mL M = l → (kr + 1) ≤ kk → Fx M G RX2 cX2_inner 4 (some .int) kk 0 → ((p1 < 6 → Con (mL M) G 2 0 yX8_sign cX8_sign 2 none w [.ref (G.2.1 1 0), .int 40] (fun r w2 => r = none ∧ Con (mL M) G kr 0 yX2_sum cX2_sum 6 (some .int) w2 [.ref (G.2.1 8 j0), .ref (G.2.1 1 0), .int (p1 + (1 : Int32))] (fun r w4 => ∃ v3 : Int32, r = some (.int v3) ∧ Con (mL M) G 2 0 yX8_sign cX8_sign 2 none w4 [.ref (G.2.1 1 0), .int 41] (fun r w6 => r = none ∧ K (some (.int v3)) w6) X) X) X) ∧ (¬ (p1 < 6) → Con (mL M) G 1 0 yX8_fail cX8_fail 3 none w [.ref (G.2.1 1 0), .int 3, .int (w.1 1 0 3)] (fun r w8 => r = none ∧ K (some (.int 0)) w8) X))) :
    Con l G (kr + 1) 0 yX2_inner cX2_inner 4 (some .int) w [.ref (G.2.1 8 j0), .ref (G.2.1 1 0), .int p1] K X := by
  refine con_intro hl (by decide +kernel) (Nat.le_of_ble_eq_true rfl) (Nat.le_of_ble_eq_true rfl) (fun M kk hM hk F => ?_)
  have h := h M kk hM hk F
  show Z M G 0 K X w 0 [some (.ref (G.2.1 8 j0)), some (.ref (G.2.1 1 0)), some (.int p1), none] []
  refine z_iload_n F dX2_inner_0 rfl ?_
  refine z_bipush F 6 dX2_inner_1 (by decide) ?_
  refine z_icmp_lt F 17 dX2_inner_3 (by decide) ⟨fun hc => ?_, fun hc => ?_⟩
  · have h := h.1 hc
    refine z_aload_n F dX2_inner_17 rfl ?_
    refine z_bipush F 40 dX2_inner_18 (by decide) ?_
    refine z_callV F (k' := 2) (mc' := 0) [.int 40] [] dX2_inner_20 rfl rfl (by decide) rfl cl_X2_59 hy_X8_sign (by omega) (by decide) (by decide) (Nat.le_of_ble_eq_true rfl) rfl (con_mono h ?_ (fun _ _ h => h))
    rintro _ w2 ⟨rfl, h⟩
    show Z M G 0 K X w2 23 [some (.ref (G.2.1 8 j0)), some (.ref (G.2.1 1 0)), some (.int p1), none] []
    refine z_aload_n F dX2_inner_23 rfl ?_
    refine z_aload_n F dX2_inner_24 rfl ?_
    refine z_iload_n F dX2_inner_25 rfl ?_
    refine z_iconst F 1 dX2_inner_26 (by decide) ?_
    refine z_iadd F dX2_inner_27 ?_
    refine z_callV F (k' := kr) (mc' := 0) [.ref (G.2.1 1 0), .int (p1 + (1 : Int32))] [] dX2_inner_28 rfl rfl hj0 rfl cl_X2_35 hy_X2_sum (by omega) (by decide) (by decide) (Nat.le_of_ble_eq_true rfl) rfl (con_mono h ?_ (fun _ _ h => h))
    rintro _ w4 ⟨v3, rfl, h⟩
    show Z M G 0 K X w4 31 [some (.ref (G.2.1 8 j0)), some (.ref (G.2.1 1 0)), some (.int p1), none] [.int v3]
    refine z_istore_n F dX2_inner_31 (Nat.le_of_ble_eq_true rfl) ?_
    refine z_aload_n F dX2_inner_32 rfl ?_
    refine z_bipush F 41 dX2_inner_33 (by decide) ?_
    refine z_callV F (k' := 2) (mc' := 0) [.int 41] [] dX2_inner_35 rfl rfl (by decide) rfl cl_X2_59 hy_X8_sign (by omega) (by decide) (by decide) (Nat.le_of_ble_eq_true rfl) rfl (con_mono h ?_ (fun _ _ h => h))
    rintro _ w6 ⟨rfl, h⟩
    show Z M G 0 K X w6 38 [some (.ref (G.2.1 8 j0)), some (.ref (G.2.1 1 0)), some (.int p1), some (.int v3)] []
    refine z_iload_n F dX2_inner_38 rfl ?_
    exact z_iret F dX2_inner_39 (by decide) h
  · have h := h.2 hc
    refine z_aload_n F dX2_inner_6 rfl ?_
    refine z_iconst F 3 dX2_inner_7 (by decide) ?_
    refine z_aload_n F dX2_inner_8 rfl ?_
    refine z_getI F 3 rfl (by decide) (by decide) rfl lk_X2_45 dX2_inner_9 ?_
    refine z_callV F (k' := 1) (mc' := 0) [.int 3, .int (w.1 1 0 3)] [] dX2_inner_12 rfl rfl (by decide) rfl cl_X2_48 hy_X8_fail (by omega) (by decide) (by decide) (Nat.le_of_ble_eq_true rfl) rfl (con_mono h ?_ (fun _ _ h => h))
    rintro _ w8 ⟨rfl, h⟩
    show Z M G 0 K X w8 15 [some (.ref (G.2.1 8 j0)), some (.ref (G.2.1 1 0)), some (.int p1), none] []
    refine z_iconst F 0 dX2_inner_15 (by decide) ?_
    exact z_iret F dX2_inner_16 (by decide) h
set_option maxRecDepth 20000 in
theorem e_X2_pair {l : Launch} {G : Gx} {w : Wd} {j0 : Nat} (hj0 : j0 < cnt 8) {p1 : Int32} {p2 : Int32} {kr : Nat} (hkb : 9 ≤ kr) {K : Option Value → Wd → Prop} {X : String → Wd → Prop} (hl : l.stackTraces = false)
    (h : ∀ (M : Mx) (kk : Nat), mL M = l → (kr + 1) ≤ kk → Fx M G RX2 cX2_pair 6 (some .int) kk 0 → ((p1 < 6 → Con (mL M) G 2 0 yX8_sign cX8_sign 2 none w [.ref (G.2.1 1 0), .int 91] (fun r w2 => r = none ∧ Con (mL M) G kr 0 yX2_sum cX2_sum 6 (some .int) w2 [.ref (G.2.1 8 j0), .ref (G.2.1 1 0), .int (p1 + (1 : Int32))] (fun r w4 => ∃ v3 : Int32, r = some (.int v3) ∧ Con (mL M) G 2 0 yX8_sign cX8_sign 2 none w4 [.ref (G.2.1 1 0), .int 44] (fun r w6 => r = none ∧ Con (mL M) G kr 0 yX2_sum cX2_sum 6 (some .int) w6 [.ref (G.2.1 8 j0), .ref (G.2.1 1 0), .int (p1 + (1 : Int32))] (fun r w8 => ∃ v7 : Int32, r = some (.int v7) ∧ Con (mL M) G 2 0 yX8_sign cX8_sign 2 none w8 [.ref (G.2.1 1 0), .int 93] (fun r w10 => r = none ∧ Con (mL M) G 1 0 yX2_add cX2_add 4 (some .int) w10 [.ref (G.2.1 8 j0), .int p2, .int v3, .int v7] (fun r w12 => ∃ v11 : Int32, r = some (.int v11) ∧ K (some (.int v11)) w12) X) X) X) X) X) X) ∧ (¬ (p1 < 6) → Con (mL M) G 1 0 yX8_fail cX8_fail 3 none w [.ref (G.2.1 1 0), .int 3, .int (w.1 1 0 4)] (fun r w14 => r = none ∧ K (some (.int 0)) w14) X))) :
    Con l G (kr + 1) 0 yX2_pair cX2_pair 6 (some .int) w [.ref (G.2.1 8 j0), .ref (G.2.1 1 0), .int p1, .int p2] K X := by
  refine con_intro hl (by decide +kernel) (Nat.le_of_ble_eq_true rfl) (Nat.le_of_ble_eq_true rfl) (fun M kk hM hk F => ?_)
  have h := h M kk hM hk F
  show Z M G 0 K X w 0 [some (.ref (G.2.1 8 j0)), some (.ref (G.2.1 1 0)), some (.int p1), some (.int p2), none, none] []
  refine z_iload_n F dX2_pair_0 rfl ?_
  refine z_bipush F 6 dX2_pair_1 (by decide) ?_
  refine z_icmp_lt F 17 dX2_pair_3 (by decide) ⟨fun hc => ?_, fun hc => ?_⟩
  · have h := h.1 hc
    refine z_aload_n F dX2_pair_17 rfl ?_
    refine z_bipush F 91 dX2_pair_18 (by decide) ?_
    refine z_callV F (k' := 2) (mc' := 0) [.int 91] [] dX2_pair_20 rfl rfl (by decide) rfl cl_X2_59 hy_X8_sign (by omega) (by decide) (by decide) (Nat.le_of_ble_eq_true rfl) rfl (con_mono h ?_ (fun _ _ h => h))
    rintro _ w2 ⟨rfl, h⟩
    show Z M G 0 K X w2 23 [some (.ref (G.2.1 8 j0)), some (.ref (G.2.1 1 0)), some (.int p1), some (.int p2), none, none] []
    refine z_aload_n F dX2_pair_23 rfl ?_
    refine z_aload_n F dX2_pair_24 rfl ?_
    refine z_iload_n F dX2_pair_25 rfl ?_
    refine z_iconst F 1 dX2_pair_26 (by decide) ?_
    refine z_iadd F dX2_pair_27 ?_
    refine z_callV F (k' := kr) (mc' := 0) [.ref (G.2.1 1 0), .int (p1 + (1 : Int32))] [] dX2_pair_28 rfl rfl hj0 rfl cl_X2_35 hy_X2_sum (by omega) (by decide) (by decide) (Nat.le_of_ble_eq_true rfl) rfl (con_mono h ?_ (fun _ _ h => h))
    rintro _ w4 ⟨v3, rfl, h⟩
    show Z M G 0 K X w4 31 [some (.ref (G.2.1 8 j0)), some (.ref (G.2.1 1 0)), some (.int p1), some (.int p2), none, none] [.int v3]
    refine z_istore F dX2_pair_31 (Nat.le_of_ble_eq_true rfl) ?_
    refine z_aload_n F dX2_pair_33 rfl ?_
    refine z_bipush F 44 dX2_pair_34 (by decide) ?_
    refine z_callV F (k' := 2) (mc' := 0) [.int 44] [] dX2_pair_36 rfl rfl (by decide) rfl cl_X2_59 hy_X8_sign (by omega) (by decide) (by decide) (Nat.le_of_ble_eq_true rfl) rfl (con_mono h ?_ (fun _ _ h => h))
    rintro _ w6 ⟨rfl, h⟩
    show Z M G 0 K X w6 39 [some (.ref (G.2.1 8 j0)), some (.ref (G.2.1 1 0)), some (.int p1), some (.int p2), some (.int v3), none] []
    refine z_aload_n F dX2_pair_39 rfl ?_
    refine z_aload_n F dX2_pair_40 rfl ?_
    refine z_iload_n F dX2_pair_41 rfl ?_
    refine z_iconst F 1 dX2_pair_42 (by decide) ?_
    refine z_iadd F dX2_pair_43 ?_
    refine z_callV F (k' := kr) (mc' := 0) [.ref (G.2.1 1 0), .int (p1 + (1 : Int32))] [] dX2_pair_44 rfl rfl hj0 rfl cl_X2_35 hy_X2_sum (by omega) (by decide) (by decide) (Nat.le_of_ble_eq_true rfl) rfl (con_mono h ?_ (fun _ _ h => h))
    rintro _ w8 ⟨v7, rfl, h⟩
    show Z M G 0 K X w8 47 [some (.ref (G.2.1 8 j0)), some (.ref (G.2.1 1 0)), some (.int p1), some (.int p2), some (.int v3), none] [.int v7]
    refine z_istore F dX2_pair_47 (Nat.le_of_ble_eq_true rfl) ?_
    refine z_aload_n F dX2_pair_49 rfl ?_
    refine z_bipush F 93 dX2_pair_50 (by decide) ?_
    refine z_callV F (k' := 2) (mc' := 0) [.int 93] [] dX2_pair_52 rfl rfl (by decide) rfl cl_X2_59 hy_X8_sign (by omega) (by decide) (by decide) (Nat.le_of_ble_eq_true rfl) rfl (con_mono h ?_ (fun _ _ h => h))
    rintro _ w10 ⟨rfl, h⟩
    show Z M G 0 K X w10 55 [some (.ref (G.2.1 8 j0)), some (.ref (G.2.1 1 0)), some (.int p1), some (.int p2), some (.int v3), some (.int v7)] []
    refine z_aload_n F dX2_pair_55 rfl ?_
    refine z_iload_n F dX2_pair_56 rfl ?_
    refine z_iload F dX2_pair_57 rfl ?_
    refine z_iload F dX2_pair_59 rfl ?_
    refine z_callV F (k' := 1) (mc' := 0) [.int p2, .int v3, .int v7] [] dX2_pair_61 rfl rfl hj0 rfl cl_X2_31 hy_X2_add (by omega) (by decide) (by decide) (Nat.le_of_ble_eq_true rfl) rfl (con_mono h ?_ (fun _ _ h => h))
    rintro _ w12 ⟨v11, rfl, h⟩
    show Z M G 0 K X w12 64 [some (.ref (G.2.1 8 j0)), some (.ref (G.2.1 1 0)), some (.int p1), some (.int p2), some (.int v3), some (.int v7)] [.int v11]
    exact z_iret F dX2_pair_64 (by decide) h
  · have h := h.2 hc
    refine z_aload_n F dX2_pair_6 rfl ?_
    refine z_iconst F 3 dX2_pair_7 (by decide) ?_
    refine z_aload_n F dX2_pair_8 rfl ?_
    refine z_getI F 4 rfl (by decide) (by decide) rfl lk_X2_92 dX2_pair_9 ?_
    refine z_callV F (k' := 1) (mc' := 0) [.int 3, .int (w.1 1 0 4)] [] dX2_pair_12 rfl rfl (by decide) rfl cl_X2_48 hy_X8_fail (by omega) (by decide) (by decide) (Nat.le_of_ble_eq_true rfl) rfl (con_mono h ?_ (fun _ _ h => h))
    rintro _ w14 ⟨rfl, h⟩
    show Z M G 0 K X w14 15 [some (.ref (G.2.1 8 j0)), some (.ref (G.2.1 1 0)), some (.int p1), some (.int p2), none, none] []
    refine z_iconst F 0 dX2_pair_15 (by decide) ?_
    exact z_iret F dX2_pair_16 (by decide) h
set_option maxRecDepth 20000 in
theorem e_X2_factNamed {l : Launch} {G : Gx} {w : Wd}  {K : Option Value → Wd → Prop} {X : String → Wd → Prop} (hl : l.stackTraces = false)
    (h : ∀ (M : Mx) (kk : Nat), mL M = l → 8 ≤ kk → Fx M G RX2 cX2_factNamed 1 (some .int) kk 0 → Con (mL M) G 7 0 yX8_says cX8_says 3 (some .boolean) w [.ref (G.2.1 1 0), .ref (G.2.2.2.2.1 6)] (fun r w2 => ∃ v1 : Int32, r = some (.int v1) ∧ ((v1 = 0 → Con (mL M) G 7 0 yX8_says cX8_says 3 (some .boolean) w2 [.ref (G.2.1 1 0), .ref (G.2.2.2.2.1 7)] (fun r w4 => ∃ v3 : Int32, r = some (.int v3) ∧ ((v3 = 0 → Con (mL M) G 7 0 yX8_says cX8_says 3 (some .boolean) w4 [.ref (G.2.1 1 0), .ref (G.2.2.2.2.1 8)] (fun r w6 => ∃ v5 : Int32, r = some (.int v5) ∧ ((v5 = 0 → Con (mL M) G 7 0 yX8_says cX8_says 3 (some .boolean) w6 [.ref (G.2.1 1 0), .ref (G.2.2.2.2.1 9)] (fun r w8 => ∃ v7 : Int32, r = some (.int v7) ∧ ((v7 = 0 → Con (mL M) G 7 0 yX8_says cX8_says 3 (some .boolean) w8 [.ref (G.2.1 1 0), .ref (G.2.2.2.2.1 1)] (fun r w10 => ∃ v9 : Int32, r = some (.int v9) ∧ ((v9 = 0 → Con (mL M) G 7 0 yX8_says cX8_says 3 (some .boolean) w10 [.ref (G.2.1 1 0), .ref (G.2.2.2.2.1 10)] (fun r w12 => ∃ v11 : Int32, r = some (.int v11) ∧ ((v11 = 0 → Con (mL M) G 7 0 yX8_says cX8_says 3 (some .boolean) w12 [.ref (G.2.1 1 0), .ref (G.2.2.2.2.1 11)] (fun r w14 => ∃ v13 : Int32, r = some (.int v13) ∧ ((v13 = 0 → Con (mL M) G 7 0 yX8_says cX8_says 3 (some .boolean) w14 [.ref (G.2.1 1 0), .ref (G.2.2.2.2.1 0)] (fun r w16 => ∃ v15 : Int32, r = some (.int v15) ∧ ((v15 = 0 → K (some (.int (-1))) w16) ∧ (¬ (v15 = 0) → K (some (.int 7)) w16))) X) ∧ (¬ (v13 = 0) → K (some (.int 6)) w14))) X) ∧ (¬ (v11 = 0) → K (some (.int 5)) w12))) X) ∧ (¬ (v9 = 0) → K (some (.int 4)) w10))) X) ∧ (¬ (v7 = 0) → K (some (.int 3)) w8))) X) ∧ (¬ (v5 = 0) → K (some (.int 2)) w6))) X) ∧ (¬ (v3 = 0) → K (some (.int 1)) w4))) X) ∧ (¬ (v1 = 0) → K (some (.int 0)) w2))) X) :
    Con l G 8 0 yX2_factNamed cX2_factNamed 1 (some .int) w [.ref (G.2.1 1 0)] K X := by
  refine con_intro hl (by decide +kernel) (Nat.le_of_ble_eq_true rfl) (Nat.le_of_ble_eq_true rfl) (fun M kk hM hk F => ?_)
  have h := h M kk hM hk F
  show Z M G 0 K X w 0 [some (.ref (G.2.1 1 0))] []
  refine z_aload_n F dX2_factNamed_0 rfl ?_
  refine z_ldcS F 6 dX2_factNamed_1 (by decide) ?_
  refine z_callV F (k' := 7) (mc' := 0) [.ref (G.2.2.2.2.1 6)] [] dX2_factNamed_3 rfl rfl (by decide) rfl cl_X2_78 hy_X8_says (by omega) (by decide) (by decide) (Nat.le_of_ble_eq_true rfl) rfl (con_mono h ?_ (fun _ _ h => h))
  rintro _ w2 ⟨v1, rfl, h⟩
  show Z M G 0 K X w2 6 [some (.ref (G.2.1 1 0))] [.int v1]
  refine z_if_eq F 11 dX2_factNamed_6 (by decide) ⟨fun hc => ?_, fun hc => ?_⟩
  · have h := h.1 hc
    refine z_aload_n F dX2_factNamed_11 rfl ?_
    refine z_ldcS F 7 dX2_factNamed_12 (by decide) ?_
    refine z_callV F (k' := 7) (mc' := 0) [.ref (G.2.2.2.2.1 7)] [] dX2_factNamed_14 rfl rfl (by decide) rfl cl_X2_78 hy_X8_says (by omega) (by decide) (by decide) (Nat.le_of_ble_eq_true rfl) rfl (con_mono h ?_ (fun _ _ h => h))
    rintro _ w4 ⟨v3, rfl, h⟩
    show Z M G 0 K X w4 17 [some (.ref (G.2.1 1 0))] [.int v3]
    refine z_if_eq F 22 dX2_factNamed_17 (by decide) ⟨fun hc => ?_, fun hc => ?_⟩
    · have h := h.1 hc
      refine z_aload_n F dX2_factNamed_22 rfl ?_
      refine z_ldcS F 8 dX2_factNamed_23 (by decide) ?_
      refine z_callV F (k' := 7) (mc' := 0) [.ref (G.2.2.2.2.1 8)] [] dX2_factNamed_25 rfl rfl (by decide) rfl cl_X2_78 hy_X8_says (by omega) (by decide) (by decide) (Nat.le_of_ble_eq_true rfl) rfl (con_mono h ?_ (fun _ _ h => h))
      rintro _ w6 ⟨v5, rfl, h⟩
      show Z M G 0 K X w6 28 [some (.ref (G.2.1 1 0))] [.int v5]
      refine z_if_eq F 33 dX2_factNamed_28 (by decide) ⟨fun hc => ?_, fun hc => ?_⟩
      · have h := h.1 hc
        refine z_aload_n F dX2_factNamed_33 rfl ?_
        refine z_ldcS F 9 dX2_factNamed_34 (by decide) ?_
        refine z_callV F (k' := 7) (mc' := 0) [.ref (G.2.2.2.2.1 9)] [] dX2_factNamed_36 rfl rfl (by decide) rfl cl_X2_78 hy_X8_says (by omega) (by decide) (by decide) (Nat.le_of_ble_eq_true rfl) rfl (con_mono h ?_ (fun _ _ h => h))
        rintro _ w8 ⟨v7, rfl, h⟩
        show Z M G 0 K X w8 39 [some (.ref (G.2.1 1 0))] [.int v7]
        refine z_if_eq F 44 dX2_factNamed_39 (by decide) ⟨fun hc => ?_, fun hc => ?_⟩
        · have h := h.1 hc
          refine z_aload_n F dX2_factNamed_44 rfl ?_
          refine z_ldcS F 1 dX2_factNamed_45 (by decide) ?_
          refine z_callV F (k' := 7) (mc' := 0) [.ref (G.2.2.2.2.1 1)] [] dX2_factNamed_47 rfl rfl (by decide) rfl cl_X2_78 hy_X8_says (by omega) (by decide) (by decide) (Nat.le_of_ble_eq_true rfl) rfl (con_mono h ?_ (fun _ _ h => h))
          rintro _ w10 ⟨v9, rfl, h⟩
          show Z M G 0 K X w10 50 [some (.ref (G.2.1 1 0))] [.int v9]
          refine z_if_eq F 55 dX2_factNamed_50 (by decide) ⟨fun hc => ?_, fun hc => ?_⟩
          · have h := h.1 hc
            refine z_aload_n F dX2_factNamed_55 rfl ?_
            refine z_ldcS F 10 dX2_factNamed_56 (by decide) ?_
            refine z_callV F (k' := 7) (mc' := 0) [.ref (G.2.2.2.2.1 10)] [] dX2_factNamed_58 rfl rfl (by decide) rfl cl_X2_78 hy_X8_says (by omega) (by decide) (by decide) (Nat.le_of_ble_eq_true rfl) rfl (con_mono h ?_ (fun _ _ h => h))
            rintro _ w12 ⟨v11, rfl, h⟩
            show Z M G 0 K X w12 61 [some (.ref (G.2.1 1 0))] [.int v11]
            refine z_if_eq F 66 dX2_factNamed_61 (by decide) ⟨fun hc => ?_, fun hc => ?_⟩
            · have h := h.1 hc
              refine z_aload_n F dX2_factNamed_66 rfl ?_
              refine z_ldcS F 11 dX2_factNamed_67 (by decide) ?_
              refine z_callV F (k' := 7) (mc' := 0) [.ref (G.2.2.2.2.1 11)] [] dX2_factNamed_69 rfl rfl (by decide) rfl cl_X2_78 hy_X8_says (by omega) (by decide) (by decide) (Nat.le_of_ble_eq_true rfl) rfl (con_mono h ?_ (fun _ _ h => h))
              rintro _ w14 ⟨v13, rfl, h⟩
              show Z M G 0 K X w14 72 [some (.ref (G.2.1 1 0))] [.int v13]
              refine z_if_eq F 78 dX2_factNamed_72 (by decide) ⟨fun hc => ?_, fun hc => ?_⟩
              · have h := h.1 hc
                refine z_aload_n F dX2_factNamed_78 rfl ?_
                refine z_ldcS F 0 dX2_factNamed_79 (by decide) ?_
                refine z_callV F (k' := 7) (mc' := 0) [.ref (G.2.2.2.2.1 0)] [] dX2_factNamed_81 rfl rfl (by decide) rfl cl_X2_78 hy_X8_says (by omega) (by decide) (by decide) (Nat.le_of_ble_eq_true rfl) rfl (con_mono h ?_ (fun _ _ h => h))
                rintro _ w16 ⟨v15, rfl, h⟩
                show Z M G 0 K X w16 84 [some (.ref (G.2.1 1 0))] [.int v15]
                refine z_if_eq F 92 dX2_factNamed_84 (by decide) ⟨fun hc => ?_, fun hc => ?_⟩
                · have h := h.1 hc
                  refine z_iconst F (-1) dX2_factNamed_92 (by decide) ?_
                  exact z_iret F dX2_factNamed_93 (by decide) h
                · have h := h.2 hc
                  refine z_bipush F 7 dX2_factNamed_87 (by decide) ?_
                  refine z_goto F 93 dX2_factNamed_89 (by decide) ?_
                  exact z_iret F dX2_factNamed_93 (by decide) h
              · have h := h.2 hc
                refine z_bipush F 6 dX2_factNamed_75 (by decide) ?_
                exact z_iret F dX2_factNamed_77 (by decide) h
            · have h := h.2 hc
              refine z_iconst F 5 dX2_factNamed_64 (by decide) ?_
              exact z_iret F dX2_factNamed_65 (by decide) h
          · have h := h.2 hc
            refine z_iconst F 4 dX2_factNamed_53 (by decide) ?_
            exact z_iret F dX2_factNamed_54 (by decide) h
        · have h := h.2 hc
          refine z_iconst F 3 dX2_factNamed_42 (by decide) ?_
          exact z_iret F dX2_factNamed_43 (by decide) h
      · have h := h.2 hc
        refine z_iconst F 2 dX2_factNamed_31 (by decide) ?_
        exact z_iret F dX2_factNamed_32 (by decide) h
    · have h := h.2 hc
      refine z_iconst F 1 dX2_factNamed_20 (by decide) ?_
      exact z_iret F dX2_factNamed_21 (by decide) h
  · have h := h.2 hc
    refine z_iconst F 0 dX2_factNamed_9 (by decide) ?_
    exact z_iret F dX2_factNamed_10 (by decide) h
set_option maxRecDepth 20000 in
theorem e_X2_weigh {l : Launch} {G : Gx} {w : Wd} {j0 : Nat} (hj0 : j0 < cnt 8) {K : Option Value → Wd → Prop} {X : String → Wd → Prop} (hl : l.stackTraces = false)
    (h : ∀ (M : Mx) (kk : Nat), mL M = l → 2 ≤ kk → Fx M G RX2 cX2_weigh 4 (some .int) kk 0 → Z M G 0 K X w 4 [some (.ref (G.2.1 8 j0)), some (.int 0), some (.int 0), none] []) :
    Con l G 2 0 yX2_weigh cX2_weigh 4 (some .int) w [.ref (G.2.1 8 j0)] K X := by
  refine con_intro hl (by decide +kernel) (Nat.le_of_ble_eq_true rfl) (Nat.le_of_ble_eq_true rfl) (fun M kk hM hk F => ?_)
  have h := h M kk hM hk F
  show Z M G 0 K X w 0 [some (.ref (G.2.1 8 j0)), none, none, none] []
  refine z_iconst F 0 dX2_weigh_0 (by decide) ?_
  refine z_istore_n F dX2_weigh_1 (Nat.le_of_ble_eq_true rfl) ?_
  refine z_iconst F 0 dX2_weigh_2 (by decide) ?_
  refine z_istore_n F dX2_weigh_3 (Nat.le_of_ble_eq_true rfl) ?_
  exact h
set_option maxRecDepth 20000 in
theorem b_X2_weigh_4 {M : Mx} {G : Gx} {kk : Nat} {w : Wd} {j0 : Nat} (hj0 : j0 < cnt 8) {x1 : Int32} {x2 : Int32} {K : Option Value → Wd → Prop} {X : String → Wd → Prop} (F : Fx M G RX2 cX2_weigh 4 (some .int) kk 0) (hk : 2 ≤ kk)
    (h : (((w.1 8 j0 5) ≤ x2 → ((0 ≤ x1 → ((x1 ≤ 30 → K (some (.int x1)) w) ∧ (¬ (x1 ≤ 30) → K (some (.int 30)) w))) ∧ (¬ (0 ≤ x1) → K (some (.int 0)) w))) ∧ (¬ ((w.1 8 j0 5) ≤ x2) → (vp_in x2 150 ∧ ((8 ≤ (w.1 34 j0 ((x2 : Int32).toNatClampNeg)) → ((¬ (w.1 34 j0 ((x2 : Int32).toNatClampNeg)) = 8 → (vp_in x2 150 ∧ (vp_in (w.1 35 j0 ((x2 : Int32).toNatClampNeg)) 150 ∧ (vp_in x2 150 ∧ (vp_in (w.1 36 j0 ((x2 : Int32).toNatClampNeg)) 150 ∧ Con (mL M) G 1 0 yX2_joined cX2_joined 3 (some .int) w [.int (w.1 34 j0 ((x2 : Int32).toNatClampNeg)), .int (w.1 37 j0 ((w.1 35 j0 ((x2 : Int32).toNatClampNeg) : Int32).toNatClampNeg)), .int (w.1 37 j0 ((w.1 36 j0 ((x2 : Int32).toNatClampNeg) : Int32).toNatClampNeg))] (fun r w2 => ∃ v1 : Int32, r = some (.int v1) ∧ (vp_in x2 150 ∧ ∀ w3 : Wd, w3 = setI w2 37 j0 ((x2 : Int32).toNatClampNeg) v1 → Z M G 0 K X w3 4 [some (.ref (G.2.1 8 j0)), some (.int v1), some (.int (x2 + 1)), none] [])) X))))) ∧ (¬ (¬ (w.1 34 j0 ((x2 : Int32).toNatClampNeg)) = 8) → (vp_in x2 150 ∧ (vp_in x2 150 ∧ ∀ w4 : Wd, w4 = setI w 37 j0 ((x2 : Int32).toNatClampNeg) (w.1 35 j0 ((x2 : Int32).toNatClampNeg)) → Z M G 0 K X w4 4 [some (.ref (G.2.1 8 j0)), some (.int (w.1 35 j0 ((x2 : Int32).toNatClampNeg))), some (.int (x2 + 1)), none] []))))) ∧ (¬ (8 ≤ (w.1 34 j0 ((x2 : Int32).toNatClampNeg))) → (vp_in (w.1 34 j0 ((x2 : Int32).toNatClampNeg)) 8 ∧ (vp_in x2 150 ∧ ∀ w5 : Wd, w5 = setI w 37 j0 ((x2 : Int32).toNatClampNeg) (w.1 33 j0 ((w.1 34 j0 ((x2 : Int32).toNatClampNeg) : Int32).toNatClampNeg)) → Z M G 0 K X w5 4 [some (.ref (G.2.1 8 j0)), some (.int (w.1 33 j0 ((w.1 34 j0 ((x2 : Int32).toNatClampNeg) : Int32).toNatClampNeg))), some (.int (x2 + 1)), none] [])))))))) :
    Z M G 0 K X w 4 [some (.ref (G.2.1 8 j0)), some (.int x1), some (.int x2), none] [] := by
  refine z_iload_n F dX2_weigh_4 rfl ?_
  refine z_aload_n F dX2_weigh_5 rfl ?_
  refine z_getI F 5 rfl hj0 (by decide) rfl lk_X2_27 dX2_weigh_6 ?_
  refine z_icmp_ge F 91 dX2_weigh_9 (by decide) ⟨fun hc => ?_, fun hc => ?_⟩
  · have h := h.1 hc
    refine z_iload_n F dX2_weigh_91 rfl ?_
    refine z_if_ge F 99 dX2_weigh_92 (by decide) ⟨fun hc => ?_, fun hc => ?_⟩
    · have h := h.1 hc
      refine z_iload_n F dX2_weigh_99 rfl ?_
      refine z_bipush F 30 dX2_weigh_100 (by decide) ?_
      refine z_icmp_le F 110 dX2_weigh_102 (by decide) ⟨fun hc => ?_, fun hc => ?_⟩
      · have h := h.1 hc
        refine z_iload_n F dX2_weigh_110 rfl ?_
        exact z_iret F dX2_weigh_111 (by decide) h
      · have h := h.2 hc
        refine z_bipush F 30 dX2_weigh_105 (by decide) ?_
        refine z_goto F 111 dX2_weigh_107 (by decide) ?_
        exact z_iret F dX2_weigh_111 (by decide) h
    · have h := h.2 hc
      refine z_iconst F 0 dX2_weigh_95 (by decide) ?_
      refine z_goto F 111 dX2_weigh_96 (by decide) ?_
      exact z_iret F dX2_weigh_111 (by decide) h
  · have h := h.2 hc
    refine z_aload_n F dX2_weigh_12 rfl ?_
    refine z_getR F 1 34 j0 rfl hj0 (by decide) rfl rfl rfl lk_X2_15 dX2_weigh_13 ?_
    refine z_iload_n F dX2_weigh_16 rfl ?_
    obtain ⟨hb, h⟩ := h
    refine z_ialdK F ((x2 : Int32).toNatClampNeg) rfl rfl (fix_lt 8 j0 1 hj0 (by decide) rfl rfl) hb dX2_weigh_17 ?_
    refine z_istore_n F dX2_weigh_18 (Nat.le_of_ble_eq_true rfl) ?_
    refine z_iload_n F dX2_weigh_19 rfl ?_
    refine z_bipush F 8 dX2_weigh_20 (by decide) ?_
    refine z_icmp_ge F 35 dX2_weigh_22 (by decide) ⟨fun hc => ?_, fun hc => ?_⟩
    · have h := h.1 hc
      refine z_iload_n F dX2_weigh_35 rfl ?_
      refine z_bipush F 8 dX2_weigh_36 (by decide) ?_
      refine z_icmp_ne F 51 dX2_weigh_38 (by decide) ⟨fun hc => ?_, fun hc => ?_⟩
      · have h := h.1 hc
        refine z_iload_n F dX2_weigh_51 rfl ?_
        refine z_aload_n F dX2_weigh_52 rfl ?_
        refine z_getR F 4 37 j0 rfl hj0 (by decide) rfl rfl rfl lk_X2_24 dX2_weigh_53 ?_
        refine z_aload_n F dX2_weigh_56 rfl ?_
        refine z_getR F 2 35 j0 rfl hj0 (by decide) rfl rfl rfl lk_X2_18 dX2_weigh_57 ?_
        refine z_iload_n F dX2_weigh_60 rfl ?_
        obtain ⟨hb, h⟩ := h
        refine z_ialdK F ((x2 : Int32).toNatClampNeg) rfl rfl (fix_lt 8 j0 2 hj0 (by decide) rfl rfl) hb dX2_weigh_61 ?_
        obtain ⟨hb, h⟩ := h
        refine z_ialdK F ((w.1 35 j0 ((x2 : Int32).toNatClampNeg) : Int32).toNatClampNeg) rfl rfl (fix_lt 8 j0 4 hj0 (by decide) rfl rfl) hb dX2_weigh_62 ?_
        refine z_aload_n F dX2_weigh_63 rfl ?_
        refine z_getR F 4 37 j0 rfl hj0 (by decide) rfl rfl rfl lk_X2_24 dX2_weigh_64 ?_
        refine z_aload_n F dX2_weigh_67 rfl ?_
        refine z_getR F 3 36 j0 rfl hj0 (by decide) rfl rfl rfl lk_X2_21 dX2_weigh_68 ?_
        refine z_iload_n F dX2_weigh_71 rfl ?_
        obtain ⟨hb, h⟩ := h
        refine z_ialdK F ((x2 : Int32).toNatClampNeg) rfl rfl (fix_lt 8 j0 3 hj0 (by decide) rfl rfl) hb dX2_weigh_72 ?_
        obtain ⟨hb, h⟩ := h
        refine z_ialdK F ((w.1 36 j0 ((x2 : Int32).toNatClampNeg) : Int32).toNatClampNeg) rfl rfl (fix_lt 8 j0 4 hj0 (by decide) rfl rfl) hb dX2_weigh_73 ?_
        refine z_callS F (k' := 1) (mc' := 0) [.int (w.1 34 j0 ((x2 : Int32).toNatClampNeg)), .int (w.1 37 j0 ((w.1 35 j0 ((x2 : Int32).toNatClampNeg) : Int32).toNatClampNeg)), .int (w.1 37 j0 ((w.1 36 j0 ((x2 : Int32).toNatClampNeg) : Int32).toNatClampNeg))] [] dX2_weigh_74 rfl cl_X2_111 hy_X2_joined.2 (by omega) (by decide) (by decide) (Nat.le_of_ble_eq_true rfl) rfl (con_mono h ?_ (fun _ _ h => h))
        rintro _ w2 ⟨v1, rfl, h⟩
        show Z M G 0 K X w2 77 [some (.ref (G.2.1 8 j0)), some (.int x1), some (.int x2), some (.int (w.1 34 j0 ((x2 : Int32).toNatClampNeg)))] [.int v1]
        refine z_istore_n F dX2_weigh_77 (Nat.le_of_ble_eq_true rfl) ?_
        refine z_aload_n F dX2_weigh_78 rfl ?_
        refine z_getR F 4 37 j0 rfl hj0 (by decide) rfl rfl rfl lk_X2_24 dX2_weigh_79 ?_
        refine z_iload_n F dX2_weigh_82 rfl ?_
        refine z_iload_n F dX2_weigh_83 rfl ?_
        obtain ⟨hb, h⟩ := h
        refine z_iastW F ((x2 : Int32).toNatClampNeg) rfl rfl (fix_lt 8 j0 4 hj0 (by decide) rfl rfl) hb dX2_weigh_84 (fun w3 hw3 => ?_)
        have h := h w3 hw3
        refine z_iinc F (x2 + 1) dX2_weigh_85 rfl rfl (Nat.le_of_ble_eq_true rfl) ?_
        refine z_goto F 4 dX2_weigh_88 (by decide) ?_
        exact z_weak h (⟨rfl, ⟨rfl, ⟨rfl, trivial⟩⟩⟩)
      · have h := h.2 hc
        refine z_aload_n F dX2_weigh_41 rfl ?_
        refine z_getR F 2 35 j0 rfl hj0 (by decide) rfl rfl rfl lk_X2_18 dX2_weigh_42 ?_
        refine z_iload_n F dX2_weigh_45 rfl ?_
        obtain ⟨hb, h⟩ := h
        refine z_ialdK F ((x2 : Int32).toNatClampNeg) rfl rfl (fix_lt 8 j0 2 hj0 (by decide) rfl rfl) hb dX2_weigh_46 ?_
        refine z_istore_n F dX2_weigh_47 (Nat.le_of_ble_eq_true rfl) ?_
        refine z_goto F 78 dX2_weigh_48 (by decide) ?_
        refine z_aload_n F dX2_weigh_78 rfl ?_
        refine z_getR F 4 37 j0 rfl hj0 (by decide) rfl rfl rfl lk_X2_24 dX2_weigh_79 ?_
        refine z_iload_n F dX2_weigh_82 rfl ?_
        refine z_iload_n F dX2_weigh_83 rfl ?_
        obtain ⟨hb, h⟩ := h
        refine z_iastW F ((x2 : Int32).toNatClampNeg) rfl rfl (fix_lt 8 j0 4 hj0 (by decide) rfl rfl) hb dX2_weigh_84 (fun w4 hw4 => ?_)
        have h := h w4 hw4
        refine z_iinc F (x2 + 1) dX2_weigh_85 rfl rfl (Nat.le_of_ble_eq_true rfl) ?_
        refine z_goto F 4 dX2_weigh_88 (by decide) ?_
        exact z_weak h (⟨rfl, ⟨rfl, ⟨rfl, trivial⟩⟩⟩)
    · have h := h.2 hc
      refine z_aload_n F dX2_weigh_25 rfl ?_
      refine z_getR F 0 33 j0 rfl hj0 (by decide) rfl rfl rfl lk_X2_11 dX2_weigh_26 ?_
      refine z_iload_n F dX2_weigh_29 rfl ?_
      obtain ⟨hb, h⟩ := h
      refine z_ialdK F ((w.1 34 j0 ((x2 : Int32).toNatClampNeg) : Int32).toNatClampNeg) rfl rfl (fix_lt 8 j0 0 hj0 (by decide) rfl rfl) hb dX2_weigh_30 ?_
      refine z_istore_n F dX2_weigh_31 (Nat.le_of_ble_eq_true rfl) ?_
      refine z_goto F 78 dX2_weigh_32 (by decide) ?_
      refine z_aload_n F dX2_weigh_78 rfl ?_
      refine z_getR F 4 37 j0 rfl hj0 (by decide) rfl rfl rfl lk_X2_24 dX2_weigh_79 ?_
      refine z_iload_n F dX2_weigh_82 rfl ?_
      refine z_iload_n F dX2_weigh_83 rfl ?_
      obtain ⟨hb, h⟩ := h
      refine z_iastW F ((x2 : Int32).toNatClampNeg) rfl rfl (fix_lt 8 j0 4 hj0 (by decide) rfl rfl) hb dX2_weigh_84 (fun w5 hw5 => ?_)
      have h := h w5 hw5
      refine z_iinc F (x2 + 1) dX2_weigh_85 rfl rfl (Nat.le_of_ble_eq_true rfl) ?_
      refine z_goto F 4 dX2_weigh_88 (by decide) ?_
      exact z_weak h (⟨rfl, ⟨rfl, ⟨rfl, trivial⟩⟩⟩)
set_option maxRecDepth 20000 in
theorem e_X2_joined {l : Launch} {G : Gx} {w : Wd} {p0 : Int32} {p1 : Int32} {p2 : Int32} {K : Option Value → Wd → Prop} {X : String → Wd → Prop} (hl : l.stackTraces = false)
    (h : ∀ (M : Mx) (kk : Nat), mL M = l → 1 ≤ kk → Fx M G RX2 cX2_joined 3 (some .int) kk 0 → ((p0 = 9 → ((p2 ≤ p1 → K (some (.int p2)) w) ∧ (¬ (p2 ≤ p1) → K (some (.int p1)) w))) ∧ (p0 = 37 → ((¬ p2 = 0 → (¬ p2 = 0) ∧ K (some (.int (p1 - p1 / p2 * p2))) w) ∧ (¬ (¬ p2 = 0) → K (some (.int 0)) w))) ∧ (p0 = 42 → K (some (.int (p1 * p2))) w) ∧ (p0 = 43 → K (some (.int (p1 + p2))) w) ∧ (p0 = 45 → K (some (.int (p1 - p2))) w) ∧ (p0 = 47 → ((¬ p2 = 0 → (¬ p2 = 0) ∧ K (some (.int (p1 / p2))) w) ∧ (¬ (¬ p2 = 0) → K (some (.int 0)) w))) ∧ (¬ p0 = 9 ∧ ¬ p0 = 37 ∧ ¬ p0 = 42 ∧ ¬ p0 = 43 ∧ ¬ p0 = 45 ∧ ¬ p0 = 47 → ((p1 ≤ p2 → K (some (.int p2)) w) ∧ (¬ (p1 ≤ p2) → K (some (.int p1)) w))))) :
    Con l G 1 0 yX2_joined cX2_joined 3 (some .int) w [.int p0, .int p1, .int p2] K X := by
  refine con_intro hl (by decide +kernel) (Nat.le_of_ble_eq_true rfl) (Nat.le_of_ble_eq_true rfl) (fun M kk hM hk F => ?_)
  have h := h M kk hM hk F
  show Z M G 0 K X w 0 [some (.int p0), some (.int p1), some (.int p2)] []
  refine z_iload_n F dX2_joined_0 rfl ?_
  by_cases hc0 : p0 = 9
  · have h := h.1 hc0
    refine z_look F 96 dX2_joined_1 (by decide) (off := 95) (by rw [hc0]; decide) (by decide) ?_
    refine z_iload_n F dX2_joined_96 rfl ?_
    refine z_iload_n F dX2_joined_97 rfl ?_
    refine z_icmp_ge F 105 dX2_joined_98 (by decide) ⟨fun hc => ?_, fun hc => ?_⟩
    · have h := h.1 hc
      refine z_iload_n F dX2_joined_105 rfl ?_
      exact z_iret F dX2_joined_106 (by decide) h
    · have h := h.2 hc
      refine z_iload_n F dX2_joined_101 rfl ?_
      refine z_goto F 106 dX2_joined_102 (by decide) ?_
      exact z_iret F dX2_joined_106 (by decide) h
  by_cases hc1 : p0 = 37
  · have h := h.2.1 hc1
    refine z_look F 84 dX2_joined_1 (by decide) (off := 83) (by rw [hc1]; decide) (by decide) ?_
    refine z_iload_n F dX2_joined_84 rfl ?_
    refine z_if_ne F 92 dX2_joined_85 (by decide) ⟨fun hc => ?_, fun hc => ?_⟩
    · have h := h.1 hc
      refine z_iload_n F dX2_joined_92 rfl ?_
      refine z_iload_n F dX2_joined_93 rfl ?_
      obtain ⟨hb, h⟩ := h
      refine z_irem F dX2_joined_94 hb ?_
      exact z_iret F dX2_joined_95 (by decide) h
    · have h := h.2 hc
      refine z_iconst F 0 dX2_joined_88 (by decide) ?_
      refine z_goto F 95 dX2_joined_89 (by decide) ?_
      exact z_iret F dX2_joined_95 (by decide) h
  by_cases hc2 : p0 = 42
  · have h := h.2.2.1 hc2
    refine z_look F 68 dX2_joined_1 (by decide) (off := 67) (by rw [hc2]; decide) (by decide) ?_
    refine z_iload_n F dX2_joined_68 rfl ?_
    refine z_iload_n F dX2_joined_69 rfl ?_
    refine z_imul F dX2_joined_70 ?_
    exact z_iret F dX2_joined_71 (by decide) h
  by_cases hc3 : p0 = 43
  · have h := h.2.2.2.1 hc3
    refine z_look F 60 dX2_joined_1 (by decide) (off := 59) (by rw [hc3]; decide) (by decide) ?_
    refine z_iload_n F dX2_joined_60 rfl ?_
    refine z_iload_n F dX2_joined_61 rfl ?_
    refine z_iadd F dX2_joined_62 ?_
    exact z_iret F dX2_joined_63 (by decide) h
  by_cases hc4 : p0 = 45
  · have h := h.2.2.2.2.1 hc4
    refine z_look F 64 dX2_joined_1 (by decide) (off := 63) (by rw [hc4]; decide) (by decide) ?_
    refine z_iload_n F dX2_joined_64 rfl ?_
    refine z_iload_n F dX2_joined_65 rfl ?_
    refine z_isub F dX2_joined_66 ?_
    exact z_iret F dX2_joined_67 (by decide) h
  by_cases hc5 : p0 = 47
  · have h := h.2.2.2.2.2.1 hc5
    refine z_look F 72 dX2_joined_1 (by decide) (off := 71) (by rw [hc5]; decide) (by decide) ?_
    refine z_iload_n F dX2_joined_72 rfl ?_
    refine z_if_ne F 80 dX2_joined_73 (by decide) ⟨fun hc => ?_, fun hc => ?_⟩
    · have h := h.1 hc
      refine z_iload_n F dX2_joined_80 rfl ?_
      refine z_iload_n F dX2_joined_81 rfl ?_
      obtain ⟨hb, h⟩ := h
      refine z_idiv F dX2_joined_82 hb ?_
      exact z_iret F dX2_joined_83 (by decide) h
    · have h := h.2 hc
      refine z_iconst F 0 dX2_joined_76 (by decide) ?_
      refine z_goto F 83 dX2_joined_77 (by decide) ?_
      exact z_iret F dX2_joined_83 (by decide) h
  have h := h.2.2.2.2.2.2 ⟨hc0, hc1, hc2, hc3, hc4, hc5⟩
  refine z_look F 107 dX2_joined_1 (by decide) (off := 106) (by show Op.lookupswitch.offset [(9, 95), (37, 83), (42, 67), (43, 59), (45, 63), (47, 71)] _ _ = _; rw [lv_osw hc0 (show (9 : Int32).toInt = 9 by decide), lv_osw hc1 (show (37 : Int32).toInt = 37 by decide), lv_osw hc2 (show (42 : Int32).toInt = 42 by decide), lv_osw hc3 (show (43 : Int32).toInt = 43 by decide), lv_osw hc4 (show (45 : Int32).toInt = 45 by decide), lv_osw hc5 (show (47 : Int32).toInt = 47 by decide)]; rfl) (by decide) ?_
  refine z_iload_n F dX2_joined_107 rfl ?_
  refine z_iload_n F dX2_joined_108 rfl ?_
  refine z_icmp_le F 116 dX2_joined_109 (by decide) ⟨fun hc => ?_, fun hc => ?_⟩
  · have h := h.1 hc
    refine z_iload_n F dX2_joined_116 rfl ?_
    exact z_iret F dX2_joined_117 (by decide) h
  · have h := h.2 hc
    refine z_iload_n F dX2_joined_112 rfl ?_
    refine z_goto F 117 dX2_joined_113 (by decide) ?_
    exact z_iret F dX2_joined_117 (by decide) h
set_option maxRecDepth 20000 in
theorem e_X4_read {l : Launch} {G : Gx} {w : Wd} {j2 : Nat} (hj2 : j2 < cnt 7) {K : Option Value → Wd → Prop} {X : String → Wd → Prop} (hl : l.stackTraces = false)
    (h : ∀ (M : Mx) (kk : Nat), mL M = l → 50 ≤ kk → Fx M G RX4 cX4_read 3 none kk 0 → (∀ w1 : Wd, w1 = setI w 3 0 0 0 → (∀ w2 : Wd, w2 = setI w1 3 0 1 0 → (∀ w3 : Wd, w3 = setI w2 3 0 2 0 → (∀ w4 : Wd, w4 = setI w3 3 0 3 0 → Con (mL M) G 49 0 yX4_readSteps cX4_readSteps 5 none w4 [.ref (G.2.1 3 0), .ref (G.2.1 1 0), .ref (G.2.1 7 j2), .int 0] (fun r w6 => r = none ∧ Con (mL M) G 2 0 yX8_more cX8_more 1 (some .boolean) w6 [.ref (G.2.1 1 0)] (fun r w8 => ∃ v7 : Int32, r = some (.int v7) ∧ ((v7 = 0 → K none w8) ∧ (¬ (v7 = 0) → Con (mL M) G 1 0 yX8_fail cX8_fail 3 none w8 [.ref (G.2.1 1 0), .int 1, .int (w8.1 1 0 3)] (fun r w10 => r = none ∧ K none w10) X))) X) X))))) :
    Con l G 50 0 yX4_read cX4_read 3 none w [.ref (G.2.1 3 0), .ref (G.2.1 1 0), .ref (G.2.1 7 j2)] K X := by
  refine con_intro hl (by decide +kernel) (Nat.le_of_ble_eq_true rfl) (Nat.le_of_ble_eq_true rfl) (fun M kk hM hk F => ?_)
  have h := h M kk hM hk F
  show Z M G 0 K X w 0 [some (.ref (G.2.1 3 0)), some (.ref (G.2.1 1 0)), some (.ref (G.2.1 7 j2))] []
  refine z_aload_n F dX4_read_0 rfl ?_
  refine z_iconst F 0 dX4_read_1 (by decide) ?_
  refine z_putIW F 0 rfl (by decide) (by decide) rfl lk_X4_24 dX4_read_2 (fun w1 hw1 => ?_)
  have h := h w1 hw1
  refine z_aload_n F dX4_read_5 rfl ?_
  refine z_iconst F 0 dX4_read_6 (by decide) ?_
  refine z_putIW F 1 rfl (by decide) (by decide) rfl lk_X4_28 dX4_read_7 (fun w2 hw2 => ?_)
  have h := h w2 hw2
  refine z_aload_n F dX4_read_10 rfl ?_
  refine z_iconst F 0 dX4_read_11 (by decide) ?_
  refine z_putIW F 2 rfl (by decide) (by decide) rfl lk_X4_31 dX4_read_12 (fun w3 hw3 => ?_)
  have h := h w3 hw3
  refine z_aload_n F dX4_read_15 rfl ?_
  refine z_iconst F 0 dX4_read_16 (by decide) ?_
  refine z_putIW F 3 rfl (by decide) (by decide) rfl lk_X4_34 dX4_read_17 (fun w4 hw4 => ?_)
  have h := h w4 hw4
  refine z_aload_n F dX4_read_20 rfl ?_
  refine z_aload_n F dX4_read_21 rfl ?_
  refine z_aload_n F dX4_read_22 rfl ?_
  refine z_iconst F 0 dX4_read_23 (by decide) ?_
  refine z_callV F (k' := 49) (mc' := 0) [.ref (G.2.1 1 0), .ref (G.2.1 7 j2), .int 0] [] dX4_read_24 rfl rfl (by decide) rfl cl_X4_37 hy_X4_readSteps (by omega) (by decide) (by decide) (Nat.le_of_ble_eq_true rfl) rfl (con_mono h ?_ (fun _ _ h => h))
  rintro _ w6 ⟨rfl, h⟩
  show Z M G 0 K X w6 27 [some (.ref (G.2.1 3 0)), some (.ref (G.2.1 1 0)), some (.ref (G.2.1 7 j2))] []
  refine z_aload_n F dX4_read_27 rfl ?_
  refine z_callV F (k' := 2) (mc' := 0) [] [] dX4_read_28 rfl rfl (by decide) rfl cl_X4_41 hy_X8_more (by omega) (by decide) (by decide) (Nat.le_of_ble_eq_true rfl) rfl (con_mono h ?_ (fun _ _ h => h))
  rintro _ w8 ⟨v7, rfl, h⟩
  show Z M G 0 K X w8 31 [some (.ref (G.2.1 3 0)), some (.ref (G.2.1 1 0)), some (.ref (G.2.1 7 j2))] [.int v7]
  refine z_if_eq F 43 dX4_read_31 (by decide) ⟨fun hc => ?_, fun hc => ?_⟩
  · have h := h.1 hc
    exact z_vret F dX4_read_43 (by decide) h
  · have h := h.2 hc
    refine z_aload_n F dX4_read_34 rfl ?_
    refine z_iconst F 1 dX4_read_35 (by decide) ?_
    refine z_aload_n F dX4_read_36 rfl ?_
    refine z_getI F 3 rfl (by decide) (by decide) rfl lk_X4_47 dX4_read_37 ?_
    refine z_callV F (k' := 1) (mc' := 0) [.int 1, .int (w8.1 1 0 3)] [] dX4_read_40 rfl rfl (by decide) rfl cl_X4_50 hy_X8_fail (by omega) (by decide) (by decide) (Nat.le_of_ble_eq_true rfl) rfl (con_mono h ?_ (fun _ _ h => h))
    rintro _ w10 ⟨rfl, h⟩
    show Z M G 0 K X w10 43 [some (.ref (G.2.1 3 0)), some (.ref (G.2.1 1 0)), some (.ref (G.2.1 7 j2))] []
    exact z_vret F dX4_read_43 (by decide) h
set_option maxRecDepth 20000 in
theorem e_X4_readSteps {l : Launch} {G : Gx} {w : Wd} {j2 : Nat} (hj2 : j2 < cnt 7) {p2 : Int32} {kr : Nat} (hkb : 9 ≤ kr) {K : Option Value → Wd → Prop} {X : String → Wd → Prop} (hl : l.stackTraces = false)
    (h : ∀ (M : Mx) (kk : Nat), mL M = l → (kr + 1) ≤ kk → Fx M G RX4 cX4_readSteps 5 none kk 0 → Z M G 0 K X w 3 [some (.ref (G.2.1 3 0)), some (.ref (G.2.1 1 0)), some (.ref (G.2.1 7 j2)), some (.int p2), some (.int 0)] []) :
    Con l G (kr + 1) 0 yX4_readSteps cX4_readSteps 5 none w [.ref (G.2.1 3 0), .ref (G.2.1 1 0), .ref (G.2.1 7 j2), .int p2] K X := by
  refine con_intro hl (by decide +kernel) (Nat.le_of_ble_eq_true rfl) (Nat.le_of_ble_eq_true rfl) (fun M kk hM hk F => ?_)
  have h := h M kk hM hk F
  show Z M G 0 K X w 0 [some (.ref (G.2.1 3 0)), some (.ref (G.2.1 1 0)), some (.ref (G.2.1 7 j2)), some (.int p2), none] []
  refine z_iconst F 0 dX4_readSteps_0 (by decide) ?_
  refine z_istore F dX4_readSteps_1 (Nat.le_of_ble_eq_true rfl) ?_
  exact h
set_option maxRecDepth 20000 in
theorem b_X4_readSteps_3 {M : Mx} {G : Gx} {kk : Nat} {w : Wd} {j2 : Nat} (hj2 : j2 < cnt 7) {kr : Nat} (hkb : 9 ≤ kr) {x3 : Int32} {x4 : Int32} {K : Option Value → Wd → Prop} {X : String → Wd → Prop} (F : Fx M G RX4 cX4_readSteps 5 none kk 0) (hk : (kr + 1) ≤ kk)
    (h : ((150 ≤ x4 → K none w) ∧ (¬ (150 ≤ x4) → Con (mL M) G 2 0 yX8_more cX8_more 1 (some .boolean) w [.ref (G.2.1 1 0)] (fun r w2 => ∃ v1 : Int32, r = some (.int v1) ∧ ((v1 = 0 → K none w2) ∧ (¬ (v1 = 0) → Con (mL M) G 1 0 yX8_peek cX8_peek 1 (some .int) w2 [.ref (G.2.1 1 0)] (fun r w4 => ∃ v3 : Int32, r = some (.int v3) ∧ ((v3 = 93 → K none w4) ∧ (¬ (v3 = 93) → Con (mL M) G kr 0 yX4_readStep cX4_readStep 6 none w4 [.ref (G.2.1 3 0), .ref (G.2.1 1 0), .ref (G.2.1 7 j2), .int x3] (fun r w6 => r = none ∧ Z M G 0 K X w6 3 [some (.ref (G.2.1 3 0)), some (.ref (G.2.1 1 0)), some (.ref (G.2.1 7 j2)), some (.int x3), some (.int (x4 + 1))] []) X))) X))) X))) :
    Z M G 0 K X w 3 [some (.ref (G.2.1 3 0)), some (.ref (G.2.1 1 0)), some (.ref (G.2.1 7 j2)), some (.int x3), some (.int x4)] [] := by
  refine z_iload F dX4_readSteps_3 rfl ?_
  refine z_sipush F 150 dX4_readSteps_5 (by decide) ?_
  refine z_icmp_ge F 40 dX4_readSteps_8 (by decide) ⟨fun hc => ?_, fun hc => ?_⟩
  · have h := h.1 hc
    exact z_vret F dX4_readSteps_40 (by decide) h
  · have h := h.2 hc
    refine z_aload_n F dX4_readSteps_11 rfl ?_
    refine z_callV F (k' := 2) (mc' := 0) [] [] dX4_readSteps_12 rfl rfl (by decide) rfl cl_X4_41 hy_X8_more (by omega) (by decide) (by decide) (Nat.le_of_ble_eq_true rfl) rfl (con_mono h ?_ (fun _ _ h => h))
    rintro _ w2 ⟨v1, rfl, h⟩
    show Z M G 0 K X w2 15 [some (.ref (G.2.1 3 0)), some (.ref (G.2.1 1 0)), some (.ref (G.2.1 7 j2)), some (.int x3), some (.int x4)] [.int v1]
    refine z_if_eq F 40 dX4_readSteps_15 (by decide) ⟨fun hc => ?_, fun hc => ?_⟩
    · have h := h.1 hc
      exact z_vret F dX4_readSteps_40 (by decide) h
    · have h := h.2 hc
      refine z_aload_n F dX4_readSteps_18 rfl ?_
      refine z_callV F (k' := 1) (mc' := 0) [] [] dX4_readSteps_19 rfl rfl (by decide) rfl cl_X4_54 hy_X8_peek (by omega) (by decide) (by decide) (Nat.le_of_ble_eq_true rfl) rfl (con_mono h ?_ (fun _ _ h => h))
      rintro _ w4 ⟨v3, rfl, h⟩
      show Z M G 0 K X w4 22 [some (.ref (G.2.1 3 0)), some (.ref (G.2.1 1 0)), some (.ref (G.2.1 7 j2)), some (.int x3), some (.int x4)] [.int v3]
      refine z_bipush F 93 dX4_readSteps_22 (by decide) ?_
      refine z_icmp_eq F 40 dX4_readSteps_24 (by decide) ⟨fun hc => ?_, fun hc => ?_⟩
      · have h := h.1 hc
        exact z_vret F dX4_readSteps_40 (by decide) h
      · have h := h.2 hc
        refine z_aload_n F dX4_readSteps_27 rfl ?_
        refine z_aload_n F dX4_readSteps_28 rfl ?_
        refine z_aload_n F dX4_readSteps_29 rfl ?_
        refine z_iload_n F dX4_readSteps_30 rfl ?_
        refine z_callV F (k' := kr) (mc' := 0) [.ref (G.2.1 1 0), .ref (G.2.1 7 j2), .int x3] [] dX4_readSteps_31 rfl rfl (by decide) rfl cl_X4_58 hy_X4_readStep (by omega) (by decide) (by decide) (Nat.le_of_ble_eq_true rfl) rfl (con_mono h ?_ (fun _ _ h => h))
        rintro _ w6 ⟨rfl, h⟩
        show Z M G 0 K X w6 34 [some (.ref (G.2.1 3 0)), some (.ref (G.2.1 1 0)), some (.ref (G.2.1 7 j2)), some (.int x3), some (.int x4)] []
        refine z_iinc F (x4 + 1) dX4_readSteps_34 rfl rfl (Nat.le_of_ble_eq_true rfl) ?_
        refine z_goto F 3 dX4_readSteps_37 (by decide) ?_
        exact h
set_option maxRecDepth 20000 in
theorem e_X4_readStep {l : Launch} {G : Gx} {w : Wd} {j2 : Nat} (hj2 : j2 < cnt 7) {p2 : Int32} {kr : Nat} (hkb : 9 ≤ kr) {K : Option Value → Wd → Prop} {X : String → Wd → Prop} (hl : l.stackTraces = false)
    (h : ∀ (M : Mx) (kk : Nat), mL M = l → (kr + 1) ≤ kk → Fx M G RX4 cX4_readStep 6 none kk 0 → Con (mL M) G 2 0 yX8_word cX8_word 1 none w [.ref (G.2.1 1 0)] (fun r w2 => r = none ∧ Con (mL M) G 8 0 yX4_stepNamed cX4_stepNamed 1 (some .int) w2 [.ref (G.2.1 1 0)] (fun r w4 => ∃ v3 : Int32, r = some (.int v3) ∧ ((v3 = (-1) → Z M G 0 K X w4 26 [none, some (.ref (G.2.1 1 0)), none, none, none, none] []) ∧ (¬ (v3 = (-1)) → (((w4.1 3 0 0) < 150 → ((¬ v3 = 7 → Z M G 0 K X w4 59 [some (.ref (G.2.1 3 0)), some (.ref (G.2.1 1 0)), some (.ref (G.2.1 7 j2)), some (.int p2), some (.int v3), none] []) ∧ (¬ (¬ v3 = 7) → ((p2 < 6 → Z M G 0 K X w4 59 [some (.ref (G.2.1 3 0)), some (.ref (G.2.1 1 0)), some (.ref (G.2.1 7 j2)), some (.int p2), some (.int v3), none] []) ∧ (¬ (p2 < 6) → Con (mL M) G 1 0 yX8_fail cX8_fail 3 none w4 [.ref (G.2.1 1 0), .int 3, .int (w4.1 1 0 4)] (fun r w6 => r = none ∧ K none w6) X))))) ∧ (¬ ((w4.1 3 0 0) < 150) → Z M G 0 K X w4 26 [none, some (.ref (G.2.1 1 0)), none, none, none, none] []))))) X) X) :
    Con l G (kr + 1) 0 yX4_readStep cX4_readStep 6 none w [.ref (G.2.1 3 0), .ref (G.2.1 1 0), .ref (G.2.1 7 j2), .int p2] K X := by
  refine con_intro hl (by decide +kernel) (Nat.le_of_ble_eq_true rfl) (Nat.le_of_ble_eq_true rfl) (fun M kk hM hk F => ?_)
  have h := h M kk hM hk F
  show Z M G 0 K X w 0 [some (.ref (G.2.1 3 0)), some (.ref (G.2.1 1 0)), some (.ref (G.2.1 7 j2)), some (.int p2), none, none] []
  refine z_aload_n F dX4_readStep_0 rfl ?_
  refine z_callV F (k' := 2) (mc' := 0) [] [] dX4_readStep_1 rfl rfl (by decide) rfl cl_X4_61 hy_X8_word (by omega) (by decide) (by decide) (Nat.le_of_ble_eq_true rfl) rfl (con_mono h ?_ (fun _ _ h => h))
  rintro _ w2 ⟨rfl, h⟩
  show Z M G 0 K X w2 4 [some (.ref (G.2.1 3 0)), some (.ref (G.2.1 1 0)), some (.ref (G.2.1 7 j2)), some (.int p2), none, none] []
  refine z_aload_n F dX4_readStep_4 rfl ?_
  refine z_callS F (k' := 8) (mc' := 0) [.ref (G.2.1 1 0)] [] dX4_readStep_5 rfl cl_X4_64 hy_X4_stepNamed.2 (by omega) (by decide) (by decide) (Nat.le_of_ble_eq_true rfl) rfl (con_mono h ?_ (fun _ _ h => h))
  rintro _ w4 ⟨v3, rfl, h⟩
  show Z M G 0 K X w4 8 [some (.ref (G.2.1 3 0)), some (.ref (G.2.1 1 0)), some (.ref (G.2.1 7 j2)), some (.int p2), none, none] [.int v3]
  refine z_istore F dX4_readStep_8 (Nat.le_of_ble_eq_true rfl) ?_
  refine z_iload F dX4_readStep_10 rfl ?_
  refine z_iconst F (-1) dX4_readStep_12 (by decide) ?_
  refine z_icmp_eq F 26 dX4_readStep_13 (by decide) ⟨fun hc => ?_, fun hc => ?_⟩
  · have h := h.1 hc
    exact z_weak h (⟨rfl, trivial⟩)
  · have h := h.2 hc
    refine z_aload_n F dX4_readStep_16 rfl ?_
    refine z_getI F 0 rfl (by decide) (by decide) rfl lk_X4_24 dX4_readStep_17 ?_
    refine z_sipush F 150 dX4_readStep_20 (by decide) ?_
    refine z_icmp_lt F 36 dX4_readStep_23 (by decide) ⟨fun hc => ?_, fun hc => ?_⟩
    · have h := h.1 hc
      refine z_iload F dX4_readStep_36 rfl ?_
      refine z_bipush F 7 dX4_readStep_38 (by decide) ?_
      refine z_icmp_ne F 59 dX4_readStep_40 (by decide) ⟨fun hc => ?_, fun hc => ?_⟩
      · have h := h.1 hc
        exact h
      · have h := h.2 hc
        refine z_iload_n F dX4_readStep_43 rfl ?_
        refine z_bipush F 6 dX4_readStep_44 (by decide) ?_
        refine z_icmp_lt F 59 dX4_readStep_46 (by decide) ⟨fun hc => ?_, fun hc => ?_⟩
        · have h := h.1 hc
          exact h
        · have h := h.2 hc
          refine z_aload_n F dX4_readStep_49 rfl ?_
          refine z_iconst F 3 dX4_readStep_50 (by decide) ?_
          refine z_aload_n F dX4_readStep_51 rfl ?_
          refine z_getI F 4 rfl (by decide) (by decide) rfl lk_X4_68 dX4_readStep_52 ?_
          refine z_callV F (k' := 1) (mc' := 0) [.int 3, .int (w4.1 1 0 4)] [] dX4_readStep_55 rfl rfl (by decide) rfl cl_X4_50 hy_X8_fail (by omega) (by decide) (by decide) (Nat.le_of_ble_eq_true rfl) rfl (con_mono h ?_ (fun _ _ h => h))
          rintro _ w6 ⟨rfl, h⟩
          show Z M G 0 K X w6 58 [some (.ref (G.2.1 3 0)), some (.ref (G.2.1 1 0)), some (.ref (G.2.1 7 j2)), some (.int p2), some (.int v3), none] []
          exact z_vret F dX4_readStep_58 (by decide) h
    · have h := h.2 hc
      exact z_weak h (⟨rfl, trivial⟩)
set_option maxRecDepth 20000 in
theorem b_X4_readStep_26 {M : Mx} {G : Gx} {kk : Nat} {w : Wd}  {kr : Nat} (hkb : 9 ≤ kr)  {K : Option Value → Wd → Prop} {X : String → Wd → Prop} (F : Fx M G RX4 cX4_readStep 6 none kk 0) (hk : (kr + 1) ≤ kk)
    (h : Con (mL M) G 1 0 yX8_fail cX8_fail 3 none w [.ref (G.2.1 1 0), .int 1, .int (w.1 1 0 4)] (fun r w2 => r = none ∧ K none w2) X) :
    Z M G 0 K X w 26 [none, some (.ref (G.2.1 1 0)), none, none, none, none] [] := by
  refine z_aload_n F dX4_readStep_26 rfl ?_
  refine z_iconst F 1 dX4_readStep_27 (by decide) ?_
  refine z_aload_n F dX4_readStep_28 rfl ?_
  refine z_getI F 4 rfl (by decide) (by decide) rfl lk_X4_68 dX4_readStep_29 ?_
  refine z_callV F (k' := 1) (mc' := 0) [.int 1, .int (w.1 1 0 4)] [] dX4_readStep_32 rfl rfl (by decide) rfl cl_X4_50 hy_X8_fail (by omega) (by decide) (by decide) (Nat.le_of_ble_eq_true rfl) rfl (con_mono h ?_ (fun _ _ h => h))
  rintro _ w2 ⟨rfl, h⟩
  show Z M G 0 K X w2 35 [none, some (.ref (G.2.1 1 0)), none, none, none, none] []
  exact z_vret F dX4_readStep_35 (by decide) h
set_option maxRecDepth 20000 in
theorem b_X4_readStep_59 {M : Mx} {G : Gx} {kk : Nat} {w : Wd} {j2 : Nat} (hj2 : j2 < cnt 7) {kr : Nat} (hkb : 9 ≤ kr) {x3 : Int32} {x4 : Int32} {K : Option Value → Wd → Prop} {X : String → Wd → Prop} (F : Fx M G RX4 cX4_readStep 6 none kk 0) (hk : (kr + 1) ≤ kk)
    (h : (∀ w1 : Wd, w1 = setI w 3 0 0 ((w.1 3 0 0) + (1 : Int32)) → (vp_in (w.1 3 0 0) 150 ∧ ∀ w2 : Wd, w2 = setI w1 11 0 ((w.1 3 0 0 : Int32).toNatClampNeg) x4 → ((x4 = 1 → Z M G 0 K X w2 109 [some (.ref (G.2.1 3 0)), some (.ref (G.2.1 1 0)), some (.ref (G.2.1 7 j2)), some (.int x3), some (.int x4), some (.int (w.1 3 0 0))] [.int (w.1 3 0 0), .ref (G.2.1 12 0)]) ∧ (¬ (x4 = 1) → ((x4 = 2 → Z M G 0 K X w2 109 [some (.ref (G.2.1 3 0)), some (.ref (G.2.1 1 0)), some (.ref (G.2.1 7 j2)), some (.int x3), some (.int x4), some (.int (w.1 3 0 0))] [.int (w.1 3 0 0), .ref (G.2.1 12 0)]) ∧ (¬ (x4 = 2) → ((¬ x4 = 6 → Con (mL M) G 1 0 yX4_mostOf cX4_mostOf 2 (some .int) w2 [.int x4, .ref (G.2.1 7 j2)] (fun r w4 => ∃ v3 : Int32, r = some (.int v3) ∧ Con (mL M) G 2 0 yX8_figure cX8_figure 4 (some .int) w4 [.ref (G.2.1 1 0), .int 0, .int v3] (fun r w6 => ∃ v5 : Int32, r = some (.int v5) ∧ Z M G 0 K X w6 124 [some (.ref (G.2.1 3 0)), some (.ref (G.2.1 1 0)), some (.ref (G.2.1 7 j2)), some (.int x3), some (.int x4), some (.int (w.1 3 0 0))] [.int v5, .int (w.1 3 0 0), .ref (G.2.1 12 0)]) X) X) ∧ (¬ (¬ x4 = 6) → Z M G 0 K X w2 109 [some (.ref (G.2.1 3 0)), some (.ref (G.2.1 1 0)), some (.ref (G.2.1 7 j2)), some (.int x3), some (.int x4), some (.int (w.1 3 0 0))] [.int (w.1 3 0 0), .ref (G.2.1 12 0)]))))))))) :
    Z M G 0 K X w 59 [some (.ref (G.2.1 3 0)), some (.ref (G.2.1 1 0)), some (.ref (G.2.1 7 j2)), some (.int x3), some (.int x4), none] [] := by
  refine z_aload_n F dX4_readStep_59 rfl ?_
  refine z_getI F 0 rfl (by decide) (by decide) rfl lk_X4_24 dX4_readStep_60 ?_
  refine z_istore F dX4_readStep_63 (Nat.le_of_ble_eq_true rfl) ?_
  refine z_aload_n F dX4_readStep_65 rfl ?_
  refine z_dup F dX4_readStep_66 rfl ?_
  refine z_getI F 0 rfl (by decide) (by decide) rfl lk_X4_24 dX4_readStep_67 ?_
  refine z_iconst F 1 dX4_readStep_70 (by decide) ?_
  refine z_iadd F dX4_readStep_71 ?_
  refine z_putIW F 0 rfl (by decide) (by decide) rfl lk_X4_24 dX4_readStep_72 (fun w1 hw1 => ?_)
  have h := h w1 hw1
  refine z_aload_n F dX4_readStep_75 rfl ?_
  refine z_getR F 4 11 0 rfl (by decide) (by decide) rfl rfl rfl lk_X4_9 dX4_readStep_76 ?_
  refine z_iload F dX4_readStep_79 rfl ?_
  refine z_iload F dX4_readStep_81 rfl ?_
  obtain ⟨hb, h⟩ := h
  refine z_iastW F ((w.1 3 0 0 : Int32).toNatClampNeg) rfl rfl (by decide) hb dX4_readStep_83 (fun w2 hw2 => ?_)
  have h := h w2 hw2
  refine z_aload_n F dX4_readStep_84 rfl ?_
  refine z_getR F 5 12 0 rfl (by decide) (by decide) rfl rfl rfl lk_X4_15 dX4_readStep_85 ?_
  refine z_iload F dX4_readStep_88 rfl ?_
  refine z_iload F dX4_readStep_90 rfl ?_
  refine z_iconst F 1 dX4_readStep_92 (by decide) ?_
  refine z_icmp_eq F 109 dX4_readStep_93 (by decide) ⟨fun hc => ?_, fun hc => ?_⟩
  · have h := h.1 hc
    exact h
  · have h := h.2 hc
    refine z_iload F dX4_readStep_96 rfl ?_
    refine z_iconst F 2 dX4_readStep_98 (by decide) ?_
    refine z_icmp_eq F 109 dX4_readStep_99 (by decide) ⟨fun hc => ?_, fun hc => ?_⟩
    · have h := h.1 hc
      exact h
    · have h := h.2 hc
      refine z_iload F dX4_readStep_102 rfl ?_
      refine z_bipush F 6 dX4_readStep_104 (by decide) ?_
      refine z_icmp_ne F 113 dX4_readStep_106 (by decide) ⟨fun hc => ?_, fun hc => ?_⟩
      · have h := h.1 hc
        refine z_aload_n F dX4_readStep_113 rfl ?_
        refine z_iconst F 0 dX4_readStep_114 (by decide) ?_
        refine z_iload F dX4_readStep_115 rfl ?_
        refine z_aload_n F dX4_readStep_117 rfl ?_
        refine z_callS F (k' := 1) (mc' := 0) [.int x4, .ref (G.2.1 7 j2)] [.int 0, .ref (G.2.1 1 0), .int (w.1 3 0 0), .ref (G.2.1 12 0)] dX4_readStep_118 rfl cl_X4_71 hy_X4_mostOf.2 (by omega) (by decide) (by decide) (Nat.le_of_ble_eq_true rfl) rfl (con_mono h ?_ (fun _ _ h => h))
        rintro _ w4 ⟨v3, rfl, h⟩
        show Z M G 0 K X w4 121 [some (.ref (G.2.1 3 0)), some (.ref (G.2.1 1 0)), some (.ref (G.2.1 7 j2)), some (.int x3), some (.int x4), some (.int (w.1 3 0 0))] [.int v3, .int 0, .ref (G.2.1 1 0), .int (w.1 3 0 0), .ref (G.2.1 12 0)]
        refine z_callV F (k' := 2) (mc' := 0) [.int 0, .int v3] [.int (w.1 3 0 0), .ref (G.2.1 12 0)] dX4_readStep_121 rfl rfl (by decide) rfl cl_X4_75 hy_X8_figure (by omega) (by decide) (by decide) (Nat.le_of_ble_eq_true rfl) rfl (con_mono h ?_ (fun _ _ h => h))
        rintro _ w6 ⟨v5, rfl, h⟩
        show Z M G 0 K X w6 124 [some (.ref (G.2.1 3 0)), some (.ref (G.2.1 1 0)), some (.ref (G.2.1 7 j2)), some (.int x3), some (.int x4), some (.int (w.1 3 0 0))] [.int v5, .int (w.1 3 0 0), .ref (G.2.1 12 0)]
        exact h
      · have h := h.2 hc
        exact h
set_option maxRecDepth 20000 in
theorem b_X4_readStep_109 {M : Mx} {G : Gx} {kk : Nat} {w : Wd} {j2 : Nat} (hj2 : j2 < cnt 7) {kr : Nat} (hkb : 9 ≤ kr) {x3 : Int32} {x4 : Int32} {x5 : Int32} {s0 : Int32} {K : Option Value → Wd → Prop} {X : String → Wd → Prop} (F : Fx M G RX4 cX4_readStep 6 none kk 0) (hk : (kr + 1) ≤ kk)
    (h : Z M G 0 K X w 124 [some (.ref (G.2.1 3 0)), some (.ref (G.2.1 1 0)), some (.ref (G.2.1 7 j2)), some (.int x3), some (.int x4), some (.int x5)] [.int 0, .int s0, .ref (G.2.1 12 0)]) :
    Z M G 0 K X w 109 [some (.ref (G.2.1 3 0)), some (.ref (G.2.1 1 0)), some (.ref (G.2.1 7 j2)), some (.int x3), some (.int x4), some (.int x5)] [.int s0, .ref (G.2.1 12 0)] := by
  refine z_iconst F 0 dX4_readStep_109 (by decide) ?_
  refine z_goto F 124 dX4_readStep_110 (by decide) ?_
  exact h
set_option maxRecDepth 20000 in
theorem b_X4_readStep_124 {M : Mx} {G : Gx} {kk : Nat} {w : Wd} {j2 : Nat} (hj2 : j2 < cnt 7) {kr : Nat} (hkb : 9 ≤ kr) {x3 : Int32} {x4 : Int32} {x5 : Int32} {s0 : Int32} {s1 : Int32} {K : Option Value → Wd → Prop} {X : String → Wd → Prop} (F : Fx M G RX4 cX4_readStep 6 none kk 0) (hk : (kr + 1) ≤ kk)
    (h : (vp_in s1 150 ∧ ∀ w1 : Wd, w1 = setI w 12 0 ((s1 : Int32).toNatClampNeg) s0 → ((¬ x4 = 5 → Z M G 0 K X w1 147 [some (.ref (G.2.1 3 0)), some (.ref (G.2.1 1 0)), some (.ref (G.2.1 7 j2)), some (.int x3), some (.int x4), some (.int x5)] [.int 0, .int x5, .ref (G.2.1 13 0)]) ∧ (¬ (¬ x4 = 5) → Con (mL M) G 2 0 yX8_figure cX8_figure 4 (some .int) w1 [.ref (G.2.1 1 0), .int 0, .int 5] (fun r w3 => ∃ v2 : Int32, r = some (.int v2) ∧ Z M G 0 K X w3 147 [some (.ref (G.2.1 3 0)), some (.ref (G.2.1 1 0)), some (.ref (G.2.1 7 j2)), some (.int x3), some (.int x4), some (.int x5)] [.int v2, .int x5, .ref (G.2.1 13 0)]) X)))) :
    Z M G 0 K X w 124 [some (.ref (G.2.1 3 0)), some (.ref (G.2.1 1 0)), some (.ref (G.2.1 7 j2)), some (.int x3), some (.int x4), some (.int x5)] [.int s0, .int s1, .ref (G.2.1 12 0)] := by
  obtain ⟨hb, h⟩ := h
  refine z_iastW F ((s1 : Int32).toNatClampNeg) rfl rfl (by decide) hb dX4_readStep_124 (fun w1 hw1 => ?_)
  have h := h w1 hw1
  refine z_aload_n F dX4_readStep_125 rfl ?_
  refine z_getR F 6 13 0 rfl (by decide) (by decide) rfl rfl rfl lk_X4_18 dX4_readStep_126 ?_
  refine z_iload F dX4_readStep_129 rfl ?_
  refine z_iload F dX4_readStep_131 rfl ?_
  refine z_iconst F 5 dX4_readStep_133 (by decide) ?_
  refine z_icmp_ne F 146 dX4_readStep_134 (by decide) ⟨fun hc => ?_, fun hc => ?_⟩
  · have h := h.1 hc
    refine z_iconst F 0 dX4_readStep_146 (by decide) ?_
    exact h
  · have h := h.2 hc
    refine z_aload_n F dX4_readStep_137 rfl ?_
    refine z_iconst F 0 dX4_readStep_138 (by decide) ?_
    refine z_iconst F 5 dX4_readStep_139 (by decide) ?_
    refine z_callV F (k' := 2) (mc' := 0) [.int 0, .int 5] [.int x5, .ref (G.2.1 13 0)] dX4_readStep_140 rfl rfl (by decide) rfl cl_X4_75 hy_X8_figure (by omega) (by decide) (by decide) (Nat.le_of_ble_eq_true rfl) rfl (con_mono h ?_ (fun _ _ h => h))
    rintro _ w3 ⟨v2, rfl, h⟩
    show Z M G 0 K X w3 143 [some (.ref (G.2.1 3 0)), some (.ref (G.2.1 1 0)), some (.ref (G.2.1 7 j2)), some (.int x3), some (.int x4), some (.int x5)] [.int v2, .int x5, .ref (G.2.1 13 0)]
    refine z_goto F 147 dX4_readStep_143 (by decide) ?_
    exact h
set_option maxRecDepth 20000 in
theorem b_X4_readStep_147 {M : Mx} {G : Gx} {kk : Nat} {w : Wd} {j2 : Nat} (hj2 : j2 < cnt 7) {kr : Nat} (hkb : 9 ≤ kr) {x3 : Int32} {x4 : Int32} {x5 : Int32} {s0 : Int32} {s1 : Int32} {K : Option Value → Wd → Prop} {X : String → Wd → Prop} (F : Fx M G RX4 cX4_readStep 6 none kk 0) (hk : (kr + 1) ≤ kk)
    (h : (vp_in s1 150 ∧ ∀ w1 : Wd, w1 = setI w 13 0 ((s1 : Int32).toNatClampNeg) s0 → ((¬ x4 = 7 → Z M G 0 K X w1 176 [some (.ref (G.2.1 3 0)), some (.ref (G.2.1 1 0)), none, none, none, some (.int x5)] []) ∧ (¬ (¬ x4 = 7) → Con (mL M) G 2 0 yX8_sign cX8_sign 2 none w1 [.ref (G.2.1 1 0), .int 91] (fun r w3 => r = none ∧ Con (mL M) G kr 0 yX4_readSteps cX4_readSteps 5 none w3 [.ref (G.2.1 3 0), .ref (G.2.1 1 0), .ref (G.2.1 7 j2), .int (x3 + (1 : Int32))] (fun r w5 => r = none ∧ Con (mL M) G 2 0 yX8_sign cX8_sign 2 none w5 [.ref (G.2.1 1 0), .int 93] (fun r w7 => r = none ∧ Z M G 0 K X w7 176 [some (.ref (G.2.1 3 0)), some (.ref (G.2.1 1 0)), none, none, none, some (.int x5)] []) X) X) X)))) :
    Z M G 0 K X w 147 [some (.ref (G.2.1 3 0)), some (.ref (G.2.1 1 0)), some (.ref (G.2.1 7 j2)), some (.int x3), some (.int x4), some (.int x5)] [.int s0, .int s1, .ref (G.2.1 13 0)] := by
  obtain ⟨hb, h⟩ := h
  refine z_iastW F ((s1 : Int32).toNatClampNeg) rfl rfl (by decide) hb dX4_readStep_147 (fun w1 hw1 => ?_)
  have h := h w1 hw1
  refine z_iload F dX4_readStep_148 rfl ?_
  refine z_bipush F 7 dX4_readStep_150 (by decide) ?_
  refine z_icmp_ne F 176 dX4_readStep_152 (by decide) ⟨fun hc => ?_, fun hc => ?_⟩
  · have h := h.1 hc
    exact z_weak h (⟨rfl, ⟨rfl, ⟨rfl, trivial⟩⟩⟩)
  · have h := h.2 hc
    refine z_aload_n F dX4_readStep_155 rfl ?_
    refine z_bipush F 91 dX4_readStep_156 (by decide) ?_
    refine z_callV F (k' := 2) (mc' := 0) [.int 91] [] dX4_readStep_158 rfl rfl (by decide) rfl cl_X4_79 hy_X8_sign (by omega) (by decide) (by decide) (Nat.le_of_ble_eq_true rfl) rfl (con_mono h ?_ (fun _ _ h => h))
    rintro _ w3 ⟨rfl, h⟩
    show Z M G 0 K X w3 161 [some (.ref (G.2.1 3 0)), some (.ref (G.2.1 1 0)), some (.ref (G.2.1 7 j2)), some (.int x3), some (.int x4), some (.int x5)] []
    refine z_aload_n F dX4_readStep_161 rfl ?_
    refine z_aload_n F dX4_readStep_162 rfl ?_
    refine z_aload_n F dX4_readStep_163 rfl ?_
    refine z_iload_n F dX4_readStep_164 rfl ?_
    refine z_iconst F 1 dX4_readStep_165 (by decide) ?_
    refine z_iadd F dX4_readStep_166 ?_
    refine z_callV F (k' := kr) (mc' := 0) [.ref (G.2.1 1 0), .ref (G.2.1 7 j2), .int (x3 + (1 : Int32))] [] dX4_readStep_167 rfl rfl (by decide) rfl cl_X4_37 hy_X4_readSteps (by omega) (by decide) (by decide) (Nat.le_of_ble_eq_true rfl) rfl (con_mono h ?_ (fun _ _ h => h))
    rintro _ w5 ⟨rfl, h⟩
    show Z M G 0 K X w5 170 [some (.ref (G.2.1 3 0)), some (.ref (G.2.1 1 0)), some (.ref (G.2.1 7 j2)), some (.int x3), some (.int x4), some (.int x5)] []
    refine z_aload_n F dX4_readStep_170 rfl ?_
    refine z_bipush F 93 dX4_readStep_171 (by decide) ?_
    refine z_callV F (k' := 2) (mc' := 0) [.int 93] [] dX4_readStep_173 rfl rfl (by decide) rfl cl_X4_79 hy_X8_sign (by omega) (by decide) (by decide) (Nat.le_of_ble_eq_true rfl) rfl (con_mono h ?_ (fun _ _ h => h))
    rintro _ w7 ⟨rfl, h⟩
    show Z M G 0 K X w7 176 [some (.ref (G.2.1 3 0)), some (.ref (G.2.1 1 0)), some (.ref (G.2.1 7 j2)), some (.int x3), some (.int x4), some (.int x5)] []
    exact z_weak h (⟨rfl, ⟨rfl, ⟨rfl, trivial⟩⟩⟩)
set_option maxRecDepth 20000 in
theorem b_X4_readStep_176 {M : Mx} {G : Gx} {kk : Nat} {w : Wd}  {kr : Nat} (hkb : 9 ≤ kr) {x5 : Int32} {K : Option Value → Wd → Prop} {X : String → Wd → Prop} (F : Fx M G RX4 cX4_readStep 6 none kk 0) (hk : (kr + 1) ≤ kk)
    (h : (vp_in x5 150 ∧ ∀ w1 : Wd, w1 = setI w 14 0 ((x5 : Int32).toNatClampNeg) (w.1 3 0 0) → Con (mL M) G 2 0 yX8_sign cX8_sign 2 none w1 [.ref (G.2.1 1 0), .int 59] (fun r w3 => r = none ∧ K none w3) X)) :
    Z M G 0 K X w 176 [some (.ref (G.2.1 3 0)), some (.ref (G.2.1 1 0)), none, none, none, some (.int x5)] [] := by
  refine z_aload_n F dX4_readStep_176 rfl ?_
  refine z_getR F 7 14 0 rfl (by decide) (by decide) rfl rfl rfl lk_X4_21 dX4_readStep_177 ?_
  refine z_iload F dX4_readStep_180 rfl ?_
  refine z_aload_n F dX4_readStep_182 rfl ?_
  refine z_getI F 0 rfl (by decide) (by decide) rfl lk_X4_24 dX4_readStep_183 ?_
  obtain ⟨hb, h⟩ := h
  refine z_iastW F ((x5 : Int32).toNatClampNeg) rfl rfl (by decide) hb dX4_readStep_186 (fun w1 hw1 => ?_)
  have h := h w1 hw1
  refine z_aload_n F dX4_readStep_187 rfl ?_
  refine z_bipush F 59 dX4_readStep_188 (by decide) ?_
  refine z_callV F (k' := 2) (mc' := 0) [.int 59] [] dX4_readStep_190 rfl rfl (by decide) rfl cl_X4_79 hy_X8_sign (by omega) (by decide) (by decide) (Nat.le_of_ble_eq_true rfl) rfl (con_mono h ?_ (fun _ _ h => h))
  rintro _ w3 ⟨rfl, h⟩
  show Z M G 0 K X w3 193 [some (.ref (G.2.1 3 0)), some (.ref (G.2.1 1 0)), none, none, none, some (.int x5)] []
  exact z_vret F dX4_readStep_193 (by decide) h
set_option maxRecDepth 20000 in
theorem e_X4_stepNamed {l : Launch} {G : Gx} {w : Wd}  {K : Option Value → Wd → Prop} {X : String → Wd → Prop} (hl : l.stackTraces = false)
    (h : ∀ (M : Mx) (kk : Nat), mL M = l → 8 ≤ kk → Fx M G RX4 cX4_stepNamed 1 (some .int) kk 0 → Con (mL M) G 7 0 yX8_says cX8_says 3 (some .boolean) w [.ref (G.2.1 1 0), .ref (G.2.2.2.2.1 12)] (fun r w2 => ∃ v1 : Int32, r = some (.int v1) ∧ ((v1 = 0 → Con (mL M) G 7 0 yX8_says cX8_says 3 (some .boolean) w2 [.ref (G.2.1 1 0), .ref (G.2.2.2.2.1 13)] (fun r w4 => ∃ v3 : Int32, r = some (.int v3) ∧ ((v3 = 0 → Con (mL M) G 7 0 yX8_says cX8_says 3 (some .boolean) w4 [.ref (G.2.1 1 0), .ref (G.2.2.2.2.1 3)] (fun r w6 => ∃ v5 : Int32, r = some (.int v5) ∧ ((v5 = 0 → Con (mL M) G 7 0 yX8_says cX8_says 3 (some .boolean) w6 [.ref (G.2.1 1 0), .ref (G.2.2.2.2.1 14)] (fun r w8 => ∃ v7 : Int32, r = some (.int v7) ∧ ((v7 = 0 → Con (mL M) G 7 0 yX8_says cX8_says 3 (some .boolean) w8 [.ref (G.2.1 1 0), .ref (G.2.2.2.2.1 15)] (fun r w10 => ∃ v9 : Int32, r = some (.int v9) ∧ ((v9 = 0 → Con (mL M) G 7 0 yX8_says cX8_says 3 (some .boolean) w10 [.ref (G.2.1 1 0), .ref (G.2.2.2.2.1 16)] (fun r w12 => ∃ v11 : Int32, r = some (.int v11) ∧ ((v11 = 0 → Con (mL M) G 7 0 yX8_says cX8_says 3 (some .boolean) w12 [.ref (G.2.1 1 0), .ref (G.2.2.2.2.1 11)] (fun r w14 => ∃ v13 : Int32, r = some (.int v13) ∧ ((v13 = 0 → Con (mL M) G 7 0 yX8_says cX8_says 3 (some .boolean) w14 [.ref (G.2.1 1 0), .ref (G.2.2.2.2.1 17)] (fun r w16 => ∃ v15 : Int32, r = some (.int v15) ∧ ((v15 = 0 → K (some (.int (-1))) w16) ∧ (¬ (v15 = 0) → K (some (.int 7)) w16))) X) ∧ (¬ (v13 = 0) → K (some (.int 6)) w14))) X) ∧ (¬ (v11 = 0) → K (some (.int 5)) w12))) X) ∧ (¬ (v9 = 0) → K (some (.int 4)) w10))) X) ∧ (¬ (v7 = 0) → K (some (.int 3)) w8))) X) ∧ (¬ (v5 = 0) → K (some (.int 2)) w6))) X) ∧ (¬ (v3 = 0) → K (some (.int 1)) w4))) X) ∧ (¬ (v1 = 0) → K (some (.int 0)) w2))) X) :
    Con l G 8 0 yX4_stepNamed cX4_stepNamed 1 (some .int) w [.ref (G.2.1 1 0)] K X := by
  refine con_intro hl (by decide +kernel) (Nat.le_of_ble_eq_true rfl) (Nat.le_of_ble_eq_true rfl) (fun M kk hM hk F => ?_)
  have h := h M kk hM hk F
  show Z M G 0 K X w 0 [some (.ref (G.2.1 1 0))] []
  refine z_aload_n F dX4_stepNamed_0 rfl ?_
  refine z_ldcS F 12 dX4_stepNamed_1 (by decide) ?_
  refine z_callV F (k' := 7) (mc' := 0) [.ref (G.2.2.2.2.1 12)] [] dX4_stepNamed_3 rfl rfl (by decide) rfl cl_X4_85 hy_X8_says (by omega) (by decide) (by decide) (Nat.le_of_ble_eq_true rfl) rfl (con_mono h ?_ (fun _ _ h => h))
  rintro _ w2 ⟨v1, rfl, h⟩
  show Z M G 0 K X w2 6 [some (.ref (G.2.1 1 0))] [.int v1]
  refine z_if_eq F 11 dX4_stepNamed_6 (by decide) ⟨fun hc => ?_, fun hc => ?_⟩
  · have h := h.1 hc
    refine z_aload_n F dX4_stepNamed_11 rfl ?_
    refine z_ldcS F 13 dX4_stepNamed_12 (by decide) ?_
    refine z_callV F (k' := 7) (mc' := 0) [.ref (G.2.2.2.2.1 13)] [] dX4_stepNamed_14 rfl rfl (by decide) rfl cl_X4_85 hy_X8_says (by omega) (by decide) (by decide) (Nat.le_of_ble_eq_true rfl) rfl (con_mono h ?_ (fun _ _ h => h))
    rintro _ w4 ⟨v3, rfl, h⟩
    show Z M G 0 K X w4 17 [some (.ref (G.2.1 1 0))] [.int v3]
    refine z_if_eq F 22 dX4_stepNamed_17 (by decide) ⟨fun hc => ?_, fun hc => ?_⟩
    · have h := h.1 hc
      refine z_aload_n F dX4_stepNamed_22 rfl ?_
      refine z_ldcS F 3 dX4_stepNamed_23 (by decide) ?_
      refine z_callV F (k' := 7) (mc' := 0) [.ref (G.2.2.2.2.1 3)] [] dX4_stepNamed_25 rfl rfl (by decide) rfl cl_X4_85 hy_X8_says (by omega) (by decide) (by decide) (Nat.le_of_ble_eq_true rfl) rfl (con_mono h ?_ (fun _ _ h => h))
      rintro _ w6 ⟨v5, rfl, h⟩
      show Z M G 0 K X w6 28 [some (.ref (G.2.1 1 0))] [.int v5]
      refine z_if_eq F 33 dX4_stepNamed_28 (by decide) ⟨fun hc => ?_, fun hc => ?_⟩
      · have h := h.1 hc
        refine z_aload_n F dX4_stepNamed_33 rfl ?_
        refine z_ldcS F 14 dX4_stepNamed_34 (by decide) ?_
        refine z_callV F (k' := 7) (mc' := 0) [.ref (G.2.2.2.2.1 14)] [] dX4_stepNamed_36 rfl rfl (by decide) rfl cl_X4_85 hy_X8_says (by omega) (by decide) (by decide) (Nat.le_of_ble_eq_true rfl) rfl (con_mono h ?_ (fun _ _ h => h))
        rintro _ w8 ⟨v7, rfl, h⟩
        show Z M G 0 K X w8 39 [some (.ref (G.2.1 1 0))] [.int v7]
        refine z_if_eq F 44 dX4_stepNamed_39 (by decide) ⟨fun hc => ?_, fun hc => ?_⟩
        · have h := h.1 hc
          refine z_aload_n F dX4_stepNamed_44 rfl ?_
          refine z_ldcS F 15 dX4_stepNamed_45 (by decide) ?_
          refine z_callV F (k' := 7) (mc' := 0) [.ref (G.2.2.2.2.1 15)] [] dX4_stepNamed_47 rfl rfl (by decide) rfl cl_X4_85 hy_X8_says (by omega) (by decide) (by decide) (Nat.le_of_ble_eq_true rfl) rfl (con_mono h ?_ (fun _ _ h => h))
          rintro _ w10 ⟨v9, rfl, h⟩
          show Z M G 0 K X w10 50 [some (.ref (G.2.1 1 0))] [.int v9]
          refine z_if_eq F 55 dX4_stepNamed_50 (by decide) ⟨fun hc => ?_, fun hc => ?_⟩
          · have h := h.1 hc
            refine z_aload_n F dX4_stepNamed_55 rfl ?_
            refine z_ldcS F 16 dX4_stepNamed_56 (by decide) ?_
            refine z_callV F (k' := 7) (mc' := 0) [.ref (G.2.2.2.2.1 16)] [] dX4_stepNamed_58 rfl rfl (by decide) rfl cl_X4_85 hy_X8_says (by omega) (by decide) (by decide) (Nat.le_of_ble_eq_true rfl) rfl (con_mono h ?_ (fun _ _ h => h))
            rintro _ w12 ⟨v11, rfl, h⟩
            show Z M G 0 K X w12 61 [some (.ref (G.2.1 1 0))] [.int v11]
            refine z_if_eq F 66 dX4_stepNamed_61 (by decide) ⟨fun hc => ?_, fun hc => ?_⟩
            · have h := h.1 hc
              refine z_aload_n F dX4_stepNamed_66 rfl ?_
              refine z_ldcS F 11 dX4_stepNamed_67 (by decide) ?_
              refine z_callV F (k' := 7) (mc' := 0) [.ref (G.2.2.2.2.1 11)] [] dX4_stepNamed_69 rfl rfl (by decide) rfl cl_X4_85 hy_X8_says (by omega) (by decide) (by decide) (Nat.le_of_ble_eq_true rfl) rfl (con_mono h ?_ (fun _ _ h => h))
              rintro _ w14 ⟨v13, rfl, h⟩
              show Z M G 0 K X w14 72 [some (.ref (G.2.1 1 0))] [.int v13]
              refine z_if_eq F 78 dX4_stepNamed_72 (by decide) ⟨fun hc => ?_, fun hc => ?_⟩
              · have h := h.1 hc
                refine z_aload_n F dX4_stepNamed_78 rfl ?_
                refine z_ldcS F 17 dX4_stepNamed_79 (by decide) ?_
                refine z_callV F (k' := 7) (mc' := 0) [.ref (G.2.2.2.2.1 17)] [] dX4_stepNamed_81 rfl rfl (by decide) rfl cl_X4_85 hy_X8_says (by omega) (by decide) (by decide) (Nat.le_of_ble_eq_true rfl) rfl (con_mono h ?_ (fun _ _ h => h))
                rintro _ w16 ⟨v15, rfl, h⟩
                show Z M G 0 K X w16 84 [some (.ref (G.2.1 1 0))] [.int v15]
                refine z_if_eq F 92 dX4_stepNamed_84 (by decide) ⟨fun hc => ?_, fun hc => ?_⟩
                · have h := h.1 hc
                  refine z_iconst F (-1) dX4_stepNamed_92 (by decide) ?_
                  exact z_iret F dX4_stepNamed_93 (by decide) h
                · have h := h.2 hc
                  refine z_bipush F 7 dX4_stepNamed_87 (by decide) ?_
                  refine z_goto F 93 dX4_stepNamed_89 (by decide) ?_
                  exact z_iret F dX4_stepNamed_93 (by decide) h
              · have h := h.2 hc
                refine z_bipush F 6 dX4_stepNamed_75 (by decide) ?_
                exact z_iret F dX4_stepNamed_77 (by decide) h
            · have h := h.2 hc
              refine z_iconst F 5 dX4_stepNamed_64 (by decide) ?_
              exact z_iret F dX4_stepNamed_65 (by decide) h
          · have h := h.2 hc
            refine z_iconst F 4 dX4_stepNamed_53 (by decide) ?_
            exact z_iret F dX4_stepNamed_54 (by decide) h
        · have h := h.2 hc
          refine z_iconst F 3 dX4_stepNamed_42 (by decide) ?_
          exact z_iret F dX4_stepNamed_43 (by decide) h
      · have h := h.2 hc
        refine z_iconst F 2 dX4_stepNamed_31 (by decide) ?_
        exact z_iret F dX4_stepNamed_32 (by decide) h
    · have h := h.2 hc
      refine z_iconst F 1 dX4_stepNamed_20 (by decide) ?_
      exact z_iret F dX4_stepNamed_21 (by decide) h
  · have h := h.2 hc
    refine z_iconst F 0 dX4_stepNamed_9 (by decide) ?_
    exact z_iret F dX4_stepNamed_10 (by decide) h
set_option maxRecDepth 20000 in
theorem e_X4_mostOf {l : Launch} {G : Gx} {w : Wd} {p0 : Int32} {j2 : Nat} (hj2 : j2 < cnt 7) {K : Option Value → Wd → Prop} {X : String → Wd → Prop} (hl : l.stackTraces = false)
    (h : ∀ (M : Mx) (kk : Nat), mL M = l → 1 ≤ kk → Fx M G RX4 cX4_mostOf 2 (some .int) kk 0 → ((¬ p0 = 7 → ((p0 = 0 → K (some (.int ((w.1 7 j2 1) - (1 : Int32)))) w) ∧ (¬ (p0 = 0) → ((¬ p0 = 5 → K (some (.int ((w.1 7 j2 0) - (1 : Int32)))) w) ∧ (¬ (¬ p0 = 5) → K (some (.int ((w.1 7 j2 1) - (1 : Int32)))) w))))) ∧ (¬ (¬ p0 = 7) → K (some (.int 60)) w))) :
    Con l G 1 0 yX4_mostOf cX4_mostOf 2 (some .int) w [.int p0, .ref (G.2.1 7 j2)] K X := by
  refine con_intro hl (by decide +kernel) (Nat.le_of_ble_eq_true rfl) (Nat.le_of_ble_eq_true rfl) (fun M kk hM hk F => ?_)
  have h := h M kk hM hk F
  show Z M G 0 K X w 0 [some (.int p0), some (.ref (G.2.1 7 j2))] []
  refine z_iload_n F dX4_mostOf_0 rfl ?_
  refine z_bipush F 7 dX4_mostOf_1 (by decide) ?_
  refine z_icmp_ne F 9 dX4_mostOf_3 (by decide) ⟨fun hc => ?_, fun hc => ?_⟩
  · have h := h.1 hc
    refine z_iload_n F dX4_mostOf_9 rfl ?_
    refine z_if_eq F 18 dX4_mostOf_10 (by decide) ⟨fun hc => ?_, fun hc => ?_⟩
    · have h := h.1 hc
      refine z_aload_n F dX4_mostOf_18 rfl ?_
      refine z_getI F 1 rfl hj2 (by decide) rfl lk_X4_102 dX4_mostOf_19 ?_
      refine z_iconst F 1 dX4_mostOf_22 (by decide) ?_
      refine z_isub F dX4_mostOf_23 ?_
      refine z_goto F 33 dX4_mostOf_24 (by decide) ?_
      exact z_iret F dX4_mostOf_33 (by decide) h
    · have h := h.2 hc
      refine z_iload_n F dX4_mostOf_13 rfl ?_
      refine z_iconst F 5 dX4_mostOf_14 (by decide) ?_
      refine z_icmp_ne F 27 dX4_mostOf_15 (by decide) ⟨fun hc => ?_, fun hc => ?_⟩
      · have h := h.1 hc
        refine z_aload_n F dX4_mostOf_27 rfl ?_
        refine z_getI F 0 rfl hj2 (by decide) rfl lk_X4_107 dX4_mostOf_28 ?_
        refine z_iconst F 1 dX4_mostOf_31 (by decide) ?_
        refine z_isub F dX4_mostOf_32 ?_
        exact z_iret F dX4_mostOf_33 (by decide) h
      · have h := h.2 hc
        refine z_aload_n F dX4_mostOf_18 rfl ?_
        refine z_getI F 1 rfl hj2 (by decide) rfl lk_X4_102 dX4_mostOf_19 ?_
        refine z_iconst F 1 dX4_mostOf_22 (by decide) ?_
        refine z_isub F dX4_mostOf_23 ?_
        refine z_goto F 33 dX4_mostOf_24 (by decide) ?_
        exact z_iret F dX4_mostOf_33 (by decide) h
  · have h := h.2 hc
    refine z_bipush F 60 dX4_mostOf_6 (by decide) ?_
    exact z_iret F dX4_mostOf_8 (by decide) h
set_option maxRecDepth 20000 in
theorem e_X4_perform {l : Launch} {G : Gx} {w : Wd} {j2 : Nat} (hj2 : j2 < cnt 5) {p2 : Int32} {p3 : Int32} {kr : Nat} (hkb : 7 ≤ kr) {K : Option Value → Wd → Prop} {X : String → Wd → Prop} (hl : l.stackTraces = false)
    (h : ∀ (M : Mx) (kk : Nat), mL M = l → (kr + 1) ≤ kk → Fx M G RX4 cX4_perform 7 none kk 0 → Z M G 0 K X w 3 [some (.ref (G.2.1 3 0)), some (.ref (G.2.1 2 0)), some (.ref (G.2.1 5 j2)), none, some (.int p3), some (.int p2), none] []) :
    Con l G (kr + 1) 0 yX4_perform cX4_perform 7 none w [.ref (G.2.1 3 0), .ref (G.2.1 2 0), .ref (G.2.1 5 j2), .int p2, .int p3] K X := by
  refine con_intro hl (by decide +kernel) (Nat.le_of_ble_eq_true rfl) (Nat.le_of_ble_eq_true rfl) (fun M kk hM hk F => ?_)
  have h := h M kk hM hk F
  show Z M G 0 K X w 0 [some (.ref (G.2.1 3 0)), some (.ref (G.2.1 2 0)), some (.ref (G.2.1 5 j2)), some (.int p2), some (.int p3), none, none] []
  refine z_iload_n F dX4_perform_0 rfl ?_
  refine z_istore F dX4_perform_1 (Nat.le_of_ble_eq_true rfl) ?_
  exact z_weak h (⟨rfl, ⟨rfl, ⟨rfl, ⟨rfl, ⟨rfl, trivial⟩⟩⟩⟩⟩)
set_option maxRecDepth 20000 in
theorem b_X4_perform_3 {M : Mx} {G : Gx} {kk : Nat} {w : Wd} {j2 : Nat} (hj2 : j2 < cnt 5) {kr : Nat} (hkb : 7 ≤ kr) {x4 : Int32} {x5 : Int32} {K : Option Value → Wd → Prop} {X : String → Wd → Prop} (F : Fx M G RX4 cX4_perform 7 none kk 0) (hk : (kr + 1) ≤ kk)
    (h : ((x4 ≤ x5 → K none w) ∧ (¬ (x4 ≤ x5) → ((200 ≤ (w.1 3 0 3) → K none w) ∧ (¬ (200 ≤ (w.1 3 0 3)) → (∀ w1 : Wd, w1 = setI w 3 0 3 ((w.1 3 0 3) + (1 : Int32)) → (vp_in x5 150 ∧ ((¬ (w1.1 11 0 ((x5 : Int32).toNatClampNeg)) = 7 → Con (mL M) G 6 0 yX4_doStep cX4_doStep 4 (some .boolean) w1 [.ref (G.2.1 3 0), .ref (G.2.1 2 0), .ref (G.2.1 5 j2), .int x5] (fun r w3 => ∃ v2 : Int32, r = some (.int v2) ∧ ((v2 = 0 → (∀ w4 : Wd, w4 = setI w3 3 0 2 ((w3.1 3 0 2) + (1 : Int32)) → Z M G 0 K X w4 3 [some (.ref (G.2.1 3 0)), some (.ref (G.2.1 2 0)), some (.ref (G.2.1 5 j2)), none, some (.int x4), some (.int (x5 + 1)), none] [])) ∧ (¬ (v2 = 0) → (∀ w5 : Wd, w5 = setI w3 3 0 1 ((w3.1 3 0 1) + (1 : Int32)) → Z M G 0 K X w5 3 [some (.ref (G.2.1 3 0)), some (.ref (G.2.1 2 0)), some (.ref (G.2.1 5 j2)), none, some (.int x4), some (.int (x5 + 1)), none] [])))) X) ∧ (¬ (¬ (w1.1 11 0 ((x5 : Int32).toNatClampNeg)) = 7) → Z M G 0 K X w1 45 [some (.ref (G.2.1 3 0)), some (.ref (G.2.1 2 0)), some (.ref (G.2.1 5 j2)), none, some (.int x4), some (.int x5), some (.int 0)] []))))))))) :
    Z M G 0 K X w 3 [some (.ref (G.2.1 3 0)), some (.ref (G.2.1 2 0)), some (.ref (G.2.1 5 j2)), none, some (.int x4), some (.int x5), none] [] := by
  refine z_iload F dX4_perform_3 rfl ?_
  refine z_iload F dX4_perform_5 rfl ?_
  refine z_icmp_ge F 142 dX4_perform_7 (by decide) ⟨fun hc => ?_, fun hc => ?_⟩
  · have h := h.1 hc
    exact z_vret F dX4_perform_142 (by decide) h
  · have h := h.2 hc
    refine z_aload_n F dX4_perform_10 rfl ?_
    refine z_getI F 3 rfl (by decide) (by decide) rfl lk_X4_34 dX4_perform_11 ?_
    refine z_sipush F 200 dX4_perform_14 (by decide) ?_
    refine z_icmp_ge F 142 dX4_perform_17 (by decide) ⟨fun hc => ?_, fun hc => ?_⟩
    · have h := h.1 hc
      exact z_vret F dX4_perform_142 (by decide) h
    · have h := h.2 hc
      refine z_aload_n F dX4_perform_20 rfl ?_
      refine z_dup F dX4_perform_21 rfl ?_
      refine z_getI F 3 rfl (by decide) (by decide) rfl lk_X4_34 dX4_perform_22 ?_
      refine z_iconst F 1 dX4_perform_25 (by decide) ?_
      refine z_iadd F dX4_perform_26 ?_
      refine z_putIW F 3 rfl (by decide) (by decide) rfl lk_X4_34 dX4_perform_27 (fun w1 hw1 => ?_)
      have h := h w1 hw1
      refine z_aload_n F dX4_perform_30 rfl ?_
      refine z_getR F 4 11 0 rfl (by decide) (by decide) rfl rfl rfl lk_X4_9 dX4_perform_31 ?_
      refine z_iload F dX4_perform_34 rfl ?_
      obtain ⟨hb, h⟩ := h
      refine z_ialdK F ((x5 : Int32).toNatClampNeg) rfl rfl (by decide) hb dX4_perform_36 ?_
      refine z_bipush F 7 dX4_perform_37 (by decide) ?_
      refine z_icmp_ne F 102 dX4_perform_39 (by decide) ⟨fun hc => ?_, fun hc => ?_⟩
      · have h := h.1 hc
        refine z_aload_n F dX4_perform_102 rfl ?_
        refine z_aload_n F dX4_perform_103 rfl ?_
        refine z_aload_n F dX4_perform_104 rfl ?_
        refine z_iload F dX4_perform_105 rfl ?_
        refine z_callV F (k' := 6) (mc' := 0) [.ref (G.2.1 2 0), .ref (G.2.1 5 j2), .int x5] [] dX4_perform_107 rfl rfl (by decide) rfl cl_X4_114 hy_X4_doStep (by omega) (by decide) (by decide) (Nat.le_of_ble_eq_true rfl) rfl (con_mono h ?_ (fun _ _ h => h))
        rintro _ w3 ⟨v2, rfl, h⟩
        show Z M G 0 K X w3 110 [some (.ref (G.2.1 3 0)), some (.ref (G.2.1 2 0)), some (.ref (G.2.1 5 j2)), none, some (.int x4), some (.int x5), none] [.int v2]
        refine z_if_eq F 126 dX4_perform_110 (by decide) ⟨fun hc => ?_, fun hc => ?_⟩
        · have h := h.1 hc
          refine z_aload_n F dX4_perform_126 rfl ?_
          refine z_dup F dX4_perform_127 rfl ?_
          refine z_getI F 2 rfl (by decide) (by decide) rfl lk_X4_31 dX4_perform_128 ?_
          refine z_iconst F 1 dX4_perform_131 (by decide) ?_
          refine z_iadd F dX4_perform_132 ?_
          refine z_putIW F 2 rfl (by decide) (by decide) rfl lk_X4_31 dX4_perform_133 (fun w4 hw4 => ?_)
          have h := h w4 hw4
          refine z_iinc F (x5 + 1) dX4_perform_136 rfl rfl (Nat.le_of_ble_eq_true rfl) ?_
          refine z_goto F 3 dX4_perform_139 (by decide) ?_
          exact h
        · have h := h.2 hc
          refine z_aload_n F dX4_perform_113 rfl ?_
          refine z_dup F dX4_perform_114 rfl ?_
          refine z_getI F 1 rfl (by decide) (by decide) rfl lk_X4_28 dX4_perform_115 ?_
          refine z_iconst F 1 dX4_perform_118 (by decide) ?_
          refine z_iadd F dX4_perform_119 ?_
          refine z_putIW F 1 rfl (by decide) (by decide) rfl lk_X4_28 dX4_perform_120 (fun w5 hw5 => ?_)
          have h := h w5 hw5
          refine z_goto F 136 dX4_perform_123 (by decide) ?_
          refine z_iinc F (x5 + 1) dX4_perform_136 rfl rfl (Nat.le_of_ble_eq_true rfl) ?_
          refine z_goto F 3 dX4_perform_139 (by decide) ?_
          exact h
      · have h := h.2 hc
        refine z_iconst F 0 dX4_perform_42 (by decide) ?_
        refine z_istore F dX4_perform_43 (Nat.le_of_ble_eq_true rfl) ?_
        exact h
set_option maxRecDepth 20000 in
theorem b_X4_perform_45 {M : Mx} {G : Gx} {kk : Nat} {w : Wd} {j2 : Nat} (hj2 : j2 < cnt 5) {kr : Nat} (hkb : 7 ≤ kr) {x4 : Int32} {x5 : Int32} {x6 : Int32} {K : Option Value → Wd → Prop} {X : String → Wd → Prop} (F : Fx M G RX4 cX4_perform 7 none kk 0) (hk : (kr + 1) ≤ kk)
    (h : (vp_in x5 150 ∧ (((w.1 12 0 ((x5 : Int32).toNatClampNeg)) ≤ x6 → (vp_in x5 150 ∧ Z M G 0 K X w 3 [some (.ref (G.2.1 3 0)), some (.ref (G.2.1 2 0)), some (.ref (G.2.1 5 j2)), none, some (.int x4), some (.int (w.1 14 0 ((x5 : Int32).toNatClampNeg))), none] [])) ∧ (¬ ((w.1 12 0 ((x5 : Int32).toNatClampNeg)) ≤ x6) → ((200 ≤ (w.1 3 0 3) → (vp_in x5 150 ∧ Z M G 0 K X w 3 [some (.ref (G.2.1 3 0)), some (.ref (G.2.1 2 0)), some (.ref (G.2.1 5 j2)), none, some (.int x4), some (.int (w.1 14 0 ((x5 : Int32).toNatClampNeg))), none] [])) ∧ (¬ (200 ≤ (w.1 3 0 3)) → (vp_in x5 150 ∧ Con (mL M) G kr 0 yX4_perform cX4_perform 7 none w [.ref (G.2.1 3 0), .ref (G.2.1 2 0), .ref (G.2.1 5 j2), .int (x5 + (1 : Int32)), .int (w.1 14 0 ((x5 : Int32).toNatClampNeg))] (fun r w2 => r = none ∧ Z M G 0 K X w2 45 [some (.ref (G.2.1 3 0)), some (.ref (G.2.1 2 0)), some (.ref (G.2.1 5 j2)), none, some (.int x4), some (.int x5), some (.int (x6 + 1))] []) X))))))) :
    Z M G 0 K X w 45 [some (.ref (G.2.1 3 0)), some (.ref (G.2.1 2 0)), some (.ref (G.2.1 5 j2)), none, some (.int x4), some (.int x5), some (.int x6)] [] := by
  refine z_iload F dX4_perform_45 rfl ?_
  refine z_aload_n F dX4_perform_47 rfl ?_
  refine z_getR F 5 12 0 rfl (by decide) (by decide) rfl rfl rfl lk_X4_15 dX4_perform_48 ?_
  refine z_iload F dX4_perform_51 rfl ?_
  obtain ⟨hb, h⟩ := h
  refine z_ialdK F ((x5 : Int32).toNatClampNeg) rfl rfl (by decide) hb dX4_perform_53 ?_
  refine z_icmp_ge F 90 dX4_perform_54 (by decide) ⟨fun hc => ?_, fun hc => ?_⟩
  · have h := h.1 hc
    refine z_aload_n F dX4_perform_90 rfl ?_
    refine z_getR F 7 14 0 rfl (by decide) (by decide) rfl rfl rfl lk_X4_21 dX4_perform_91 ?_
    refine z_iload F dX4_perform_94 rfl ?_
    obtain ⟨hb, h⟩ := h
    refine z_ialdK F ((x5 : Int32).toNatClampNeg) rfl rfl (by decide) hb dX4_perform_96 ?_
    refine z_istore F dX4_perform_97 (Nat.le_of_ble_eq_true rfl) ?_
    refine z_goto F 3 dX4_perform_99 (by decide) ?_
    exact z_weak h (⟨rfl, ⟨rfl, ⟨rfl, ⟨rfl, ⟨rfl, trivial⟩⟩⟩⟩⟩)
  · have h := h.2 hc
    refine z_aload_n F dX4_perform_57 rfl ?_
    refine z_getI F 3 rfl (by decide) (by decide) rfl lk_X4_34 dX4_perform_58 ?_
    refine z_sipush F 200 dX4_perform_61 (by decide) ?_
    refine z_icmp_ge F 90 dX4_perform_64 (by decide) ⟨fun hc => ?_, fun hc => ?_⟩
    · have h := h.1 hc
      refine z_aload_n F dX4_perform_90 rfl ?_
      refine z_getR F 7 14 0 rfl (by decide) (by decide) rfl rfl rfl lk_X4_21 dX4_perform_91 ?_
      refine z_iload F dX4_perform_94 rfl ?_
      obtain ⟨hb, h⟩ := h
      refine z_ialdK F ((x5 : Int32).toNatClampNeg) rfl rfl (by decide) hb dX4_perform_96 ?_
      refine z_istore F dX4_perform_97 (Nat.le_of_ble_eq_true rfl) ?_
      refine z_goto F 3 dX4_perform_99 (by decide) ?_
      exact z_weak h (⟨rfl, ⟨rfl, ⟨rfl, ⟨rfl, ⟨rfl, trivial⟩⟩⟩⟩⟩)
    · have h := h.2 hc
      refine z_aload_n F dX4_perform_67 rfl ?_
      refine z_aload_n F dX4_perform_68 rfl ?_
      refine z_aload_n F dX4_perform_69 rfl ?_
      refine z_iload F dX4_perform_70 rfl ?_
      refine z_iconst F 1 dX4_perform_72 (by decide) ?_
      refine z_iadd F dX4_perform_73 ?_
      refine z_aload_n F dX4_perform_74 rfl ?_
      refine z_getR F 7 14 0 rfl (by decide) (by decide) rfl rfl rfl lk_X4_21 dX4_perform_75 ?_
      refine z_iload F dX4_perform_78 rfl ?_
      obtain ⟨hb, h⟩ := h
      refine z_ialdK F ((x5 : Int32).toNatClampNeg) rfl rfl (by decide) hb dX4_perform_80 ?_
      refine z_callV F (k' := kr) (mc' := 0) [.ref (G.2.1 2 0), .ref (G.2.1 5 j2), .int (x5 + (1 : Int32)), .int (w.1 14 0 ((x5 : Int32).toNatClampNeg))] [] dX4_perform_81 rfl rfl (by decide) rfl cl_X4_110 hy_X4_perform (by omega) (by decide) (by decide) (Nat.le_of_ble_eq_true rfl) rfl (con_mono h ?_ (fun _ _ h => h))
      rintro _ w2 ⟨rfl, h⟩
      show Z M G 0 K X w2 84 [some (.ref (G.2.1 3 0)), some (.ref (G.2.1 2 0)), some (.ref (G.2.1 5 j2)), none, some (.int x4), some (.int x5), some (.int x6)] []
      refine z_iinc F (x6 + 1) dX4_perform_84 rfl rfl (Nat.le_of_ble_eq_true rfl) ?_
      refine z_goto F 45 dX4_perform_87 (by decide) ?_
      exact h
set_option maxRecDepth 20000 in
theorem e_X4_doStep {l : Launch} {G : Gx} {w : Wd} {j2 : Nat} (hj2 : j2 < cnt 5) {p2 : Int32} {K : Option Value → Wd → Prop} {X : String → Wd → Prop} (hl : l.stackTraces = false)
    (h : ∀ (M : Mx) (kk : Nat), mL M = l → 6 ≤ kk → Fx M G RX4 cX4_doStep 4 (some .boolean) kk 0 → (vp_in p2 150 ∧ (((w.1 11 0 ((p2 : Int32).toNatClampNeg)) = 0 → (vp_in p2 150 ∧ Con (mL M) G 4 0 yX7_singNote cX7_singNote 5 (some .int) w [.ref (G.2.1 2 0), .ref (G.2.1 5 j2), .int (w.1 12 0 ((p2 : Int32).toNatClampNeg))] (fun r w2 => ∃ v1 : Int32, r = some (.int v1) ∧ ((v1 = (-1) → K (some (.int 0)) w2) ∧ (¬ (v1 = (-1)) → K (some (.int 1)) w2))) X)) ∧ ((w.1 11 0 ((p2 : Int32).toNatClampNeg)) = 1 → Con (mL M) G 5 0 yX7_singHymn cX7_singHymn 4 (some .int) w [.ref (G.2.1 2 0), .ref (G.2.1 5 j2)] (fun r w4 => ∃ v3 : Int32, r = some (.int v3) ∧ K (some (.int 1)) w4) X) ∧ ((w.1 11 0 ((p2 : Int32).toNatClampNeg)) = 2 → Con (mL M) G 1 0 yX7_rest cX7_rest 4 (some .boolean) w [.ref (G.2.1 2 0), .ref (G.2.1 5 j2)] (fun r w6 => ∃ v5 : Int32, r = some (.int v5) ∧ (narrow .boolean (.int v5) = .int v5 ∧ K (some (.int v5)) w6)) X) ∧ ((w.1 11 0 ((p2 : Int32).toNatClampNeg)) = 3 → (vp_in p2 150 ∧ Con (mL M) G 1 0 yX6_turn cX6_turn 3 (some .boolean) w [.ref (G.2.1 5 j2), .int (w.1 12 0 ((p2 : Int32).toNatClampNeg)), .int 1] (fun r w8 => ∃ v7 : Int32, r = some (.int v7) ∧ (narrow .boolean (.int v7) = .int v7 ∧ K (some (.int v7)) w8)) X)) ∧ ((w.1 11 0 ((p2 : Int32).toNatClampNeg)) = 4 → (vp_in p2 150 ∧ Con (mL M) G 1 0 yX6_turn cX6_turn 3 (some .boolean) w [.ref (G.2.1 5 j2), .int (w.1 12 0 ((p2 : Int32).toNatClampNeg)), .int 0] (fun r w10 => ∃ v9 : Int32, r = some (.int v9) ∧ (narrow .boolean (.int v9) = .int v9 ∧ K (some (.int v9)) w10)) X)) ∧ ((w.1 11 0 ((p2 : Int32).toNatClampNeg)) = 5 → (vp_in p2 150 ∧ (vp_in p2 150 ∧ Con (mL M) G 1 0 yX7_reword cX7_reword 4 (some .boolean) w [.ref (G.2.1 2 0), .ref (G.2.1 5 j2), .int (w.1 12 0 ((p2 : Int32).toNatClampNeg)), .int (w.1 13 0 ((p2 : Int32).toNatClampNeg))] (fun r w12 => ∃ v11 : Int32, r = some (.int v11) ∧ (narrow .boolean (.int v11) = .int v11 ∧ K (some (.int v11)) w12)) X))) ∧ (¬ (w.1 11 0 ((p2 : Int32).toNatClampNeg)) = 0 ∧ ¬ (w.1 11 0 ((p2 : Int32).toNatClampNeg)) = 1 ∧ ¬ (w.1 11 0 ((p2 : Int32).toNatClampNeg)) = 2 ∧ ¬ (w.1 11 0 ((p2 : Int32).toNatClampNeg)) = 3 ∧ ¬ (w.1 11 0 ((p2 : Int32).toNatClampNeg)) = 4 ∧ ¬ (w.1 11 0 ((p2 : Int32).toNatClampNeg)) = 5 → ((400 ≤ (w.1 5 j2 0) → K (some (.int 0)) w) ∧ (¬ (400 ≤ (w.1 5 j2 0)) → Con (mL M) G 2 0 yX7_nextDay cX7_nextDay 3 (some .boolean) w [.ref (G.2.1 2 0), .ref (G.2.1 5 j2)] (fun r w14 => ∃ v13 : Int32, r = some (.int v13) ∧ ((v13 = 0 → K (some (.int 0)) w14) ∧ (¬ (v13 = 0) → K (some (.int 1)) w14))) X)))))) :
    Con l G 6 0 yX4_doStep cX4_doStep 4 (some .boolean) w [.ref (G.2.1 3 0), .ref (G.2.1 2 0), .ref (G.2.1 5 j2), .int p2] K X := by
  refine con_intro hl (by decide +kernel) (Nat.le_of_ble_eq_true rfl) (Nat.le_of_ble_eq_true rfl) (fun M kk hM hk F => ?_)
  have h := h M kk hM hk F
  show Z M G 0 K X w 0 [some (.ref (G.2.1 3 0)), some (.ref (G.2.1 2 0)), some (.ref (G.2.1 5 j2)), some (.int p2)] []
  refine z_aload_n F dX4_doStep_0 rfl ?_
  refine z_getR F 4 11 0 rfl (by decide) (by decide) rfl rfl rfl lk_X4_9 dX4_doStep_1 ?_
  refine z_iload_n F dX4_doStep_4 rfl ?_
  obtain ⟨hb, h⟩ := h
  refine z_ialdK F ((p2 : Int32).toNatClampNeg) rfl rfl (by decide) hb dX4_doStep_5 ?_
  by_cases hc0 : (w.1 11 0 ((p2 : Int32).toNatClampNeg)) = 0
  · have h := h.1 hc0
    refine z_tabIn F 44 dX4_doStep_6 (by rw [hc0]; decide) (by rw [hc0]; decide) (by rw [hc0]; rfl) (by decide) ?_
    refine z_aload_n F dX4_doStep_44 rfl ?_
    refine z_aload_n F dX4_doStep_45 rfl ?_
    refine z_aload_n F dX4_doStep_46 rfl ?_
    refine z_getR F 5 12 0 rfl (by decide) (by decide) rfl rfl rfl lk_X4_15 dX4_doStep_47 ?_
    refine z_iload_n F dX4_doStep_50 rfl ?_
    obtain ⟨hb, h⟩ := h
    refine z_ialdK F ((p2 : Int32).toNatClampNeg) rfl rfl (by decide) hb dX4_doStep_51 ?_
    refine z_callV F (k' := 4) (mc' := 0) [.ref (G.2.1 5 j2), .int (w.1 12 0 ((p2 : Int32).toNatClampNeg))] [] dX4_doStep_52 rfl rfl (by decide) rfl cl_X4_118 hy_X7_singNote (by omega) (by decide) (by decide) (Nat.le_of_ble_eq_true rfl) rfl (con_mono h ?_ (fun _ _ h => h))
    rintro _ w2 ⟨v1, rfl, h⟩
    show Z M G 0 K X w2 55 [some (.ref (G.2.1 3 0)), some (.ref (G.2.1 2 0)), some (.ref (G.2.1 5 j2)), some (.int p2)] [.int v1]
    refine z_iconst F (-1) dX4_doStep_55 (by decide) ?_
    refine z_icmp_eq F 63 dX4_doStep_56 (by decide) ⟨fun hc => ?_, fun hc => ?_⟩
    · have h := h.1 hc
      refine z_iconst F 0 dX4_doStep_63 (by decide) ?_
      exact z_zret F dX4_doStep_64 (by decide) rfl h
    · have h := h.2 hc
      refine z_iconst F 1 dX4_doStep_59 (by decide) ?_
      refine z_goto F 64 dX4_doStep_60 (by decide) ?_
      exact z_zret F dX4_doStep_64 (by decide) rfl h
  by_cases hc1 : (w.1 11 0 ((p2 : Int32).toNatClampNeg)) = 1
  · have h := h.2.1 hc1
    refine z_tabIn F 65 dX4_doStep_6 (by rw [hc1]; decide) (by rw [hc1]; decide) (by rw [hc1]; rfl) (by decide) ?_
    refine z_aload_n F dX4_doStep_65 rfl ?_
    refine z_aload_n F dX4_doStep_66 rfl ?_
    refine z_callV F (k' := 5) (mc' := 0) [.ref (G.2.1 5 j2)] [] dX4_doStep_67 rfl rfl (by decide) rfl cl_X4_124 hy_X7_singHymn (by omega) (by decide) (by decide) (Nat.le_of_ble_eq_true rfl) rfl (con_mono h ?_ (fun _ _ h => h))
    rintro _ w4 ⟨v3, rfl, h⟩
    show Z M G 0 K X w4 70 [some (.ref (G.2.1 3 0)), some (.ref (G.2.1 2 0)), some (.ref (G.2.1 5 j2)), some (.int p2)] [.int v3]
    refine z_pop F dX4_doStep_70 rfl ?_
    refine z_iconst F 1 dX4_doStep_71 (by decide) ?_
    exact z_zret F dX4_doStep_72 (by decide) rfl h
  by_cases hc2 : (w.1 11 0 ((p2 : Int32).toNatClampNeg)) = 2
  · have h := h.2.2.1 hc2
    refine z_tabIn F 73 dX4_doStep_6 (by rw [hc2]; decide) (by rw [hc2]; decide) (by rw [hc2]; rfl) (by decide) ?_
    refine z_aload_n F dX4_doStep_73 rfl ?_
    refine z_aload_n F dX4_doStep_74 rfl ?_
    refine z_callV F (k' := 1) (mc' := 0) [.ref (G.2.1 5 j2)] [] dX4_doStep_75 rfl rfl (by decide) rfl cl_X4_128 hy_X7_rest (by omega) (by decide) (by decide) (Nat.le_of_ble_eq_true rfl) rfl (con_mono h ?_ (fun _ _ h => h))
    rintro _ w6 ⟨v5, rfl, h⟩
    show Z M G 0 K X w6 78 [some (.ref (G.2.1 3 0)), some (.ref (G.2.1 2 0)), some (.ref (G.2.1 5 j2)), some (.int p2)] [.int v5]
    exact z_zret F dX4_doStep_78 (by decide) h.1 h.2
  by_cases hc3 : (w.1 11 0 ((p2 : Int32).toNatClampNeg)) = 3
  · have h := h.2.2.2.1 hc3
    refine z_tabIn F 79 dX4_doStep_6 (by rw [hc3]; decide) (by rw [hc3]; decide) (by rw [hc3]; rfl) (by decide) ?_
    refine z_aload_n F dX4_doStep_79 rfl ?_
    refine z_aload_n F dX4_doStep_80 rfl ?_
    refine z_getR F 5 12 0 rfl (by decide) (by decide) rfl rfl rfl lk_X4_15 dX4_doStep_81 ?_
    refine z_iload_n F dX4_doStep_84 rfl ?_
    obtain ⟨hb, h⟩ := h
    refine z_ialdK F ((p2 : Int32).toNatClampNeg) rfl rfl (by decide) hb dX4_doStep_85 ?_
    refine z_iconst F 1 dX4_doStep_86 (by decide) ?_
    refine z_callV F (k' := 1) (mc' := 0) [.int (w.1 12 0 ((p2 : Int32).toNatClampNeg)), .int 1] [] dX4_doStep_87 rfl rfl hj2 rfl cl_X4_131 hy_X6_turn (by omega) (by decide) (by decide) (Nat.le_of_ble_eq_true rfl) rfl (con_mono h ?_ (fun _ _ h => h))
    rintro _ w8 ⟨v7, rfl, h⟩
    show Z M G 0 K X w8 90 [some (.ref (G.2.1 3 0)), some (.ref (G.2.1 2 0)), some (.ref (G.2.1 5 j2)), some (.int p2)] [.int v7]
    exact z_zret F dX4_doStep_90 (by decide) h.1 h.2
  by_cases hc4 : (w.1 11 0 ((p2 : Int32).toNatClampNeg)) = 4
  · have h := h.2.2.2.2.1 hc4
    refine z_tabIn F 91 dX4_doStep_6 (by rw [hc4]; decide) (by rw [hc4]; decide) (by rw [hc4]; rfl) (by decide) ?_
    refine z_aload_n F dX4_doStep_91 rfl ?_
    refine z_aload_n F dX4_doStep_92 rfl ?_
    refine z_getR F 5 12 0 rfl (by decide) (by decide) rfl rfl rfl lk_X4_15 dX4_doStep_93 ?_
    refine z_iload_n F dX4_doStep_96 rfl ?_
    obtain ⟨hb, h⟩ := h
    refine z_ialdK F ((p2 : Int32).toNatClampNeg) rfl rfl (by decide) hb dX4_doStep_97 ?_
    refine z_iconst F 0 dX4_doStep_98 (by decide) ?_
    refine z_callV F (k' := 1) (mc' := 0) [.int (w.1 12 0 ((p2 : Int32).toNatClampNeg)), .int 0] [] dX4_doStep_99 rfl rfl hj2 rfl cl_X4_131 hy_X6_turn (by omega) (by decide) (by decide) (Nat.le_of_ble_eq_true rfl) rfl (con_mono h ?_ (fun _ _ h => h))
    rintro _ w10 ⟨v9, rfl, h⟩
    show Z M G 0 K X w10 102 [some (.ref (G.2.1 3 0)), some (.ref (G.2.1 2 0)), some (.ref (G.2.1 5 j2)), some (.int p2)] [.int v9]
    exact z_zret F dX4_doStep_102 (by decide) h.1 h.2
  by_cases hc5 : (w.1 11 0 ((p2 : Int32).toNatClampNeg)) = 5
  · have h := h.2.2.2.2.2.1 hc5
    refine z_tabIn F 103 dX4_doStep_6 (by rw [hc5]; decide) (by rw [hc5]; decide) (by rw [hc5]; rfl) (by decide) ?_
    refine z_aload_n F dX4_doStep_103 rfl ?_
    refine z_aload_n F dX4_doStep_104 rfl ?_
    refine z_aload_n F dX4_doStep_105 rfl ?_
    refine z_getR F 5 12 0 rfl (by decide) (by decide) rfl rfl rfl lk_X4_15 dX4_doStep_106 ?_
    refine z_iload_n F dX4_doStep_109 rfl ?_
    obtain ⟨hb, h⟩ := h
    refine z_ialdK F ((p2 : Int32).toNatClampNeg) rfl rfl (by decide) hb dX4_doStep_110 ?_
    refine z_aload_n F dX4_doStep_111 rfl ?_
    refine z_getR F 6 13 0 rfl (by decide) (by decide) rfl rfl rfl lk_X4_18 dX4_doStep_112 ?_
    refine z_iload_n F dX4_doStep_115 rfl ?_
    obtain ⟨hb, h⟩ := h
    refine z_ialdK F ((p2 : Int32).toNatClampNeg) rfl rfl (by decide) hb dX4_doStep_116 ?_
    refine z_callV F (k' := 1) (mc' := 0) [.ref (G.2.1 5 j2), .int (w.1 12 0 ((p2 : Int32).toNatClampNeg)), .int (w.1 13 0 ((p2 : Int32).toNatClampNeg))] [] dX4_doStep_117 rfl rfl (by decide) rfl cl_X4_137 hy_X7_reword (by omega) (by decide) (by decide) (Nat.le_of_ble_eq_true rfl) rfl (con_mono h ?_ (fun _ _ h => h))
    rintro _ w12 ⟨v11, rfl, h⟩
    show Z M G 0 K X w12 120 [some (.ref (G.2.1 3 0)), some (.ref (G.2.1 2 0)), some (.ref (G.2.1 5 j2)), some (.int p2)] [.int v11]
    exact z_zret F dX4_doStep_120 (by decide) h.1 h.2
  have e0 := lv_neT hc0 (show (0 : Int32).toInt = 0 by decide)
  have e1 := lv_neT hc1 (show (1 : Int32).toInt = 1 by decide)
  have e2 := lv_neT hc2 (show (2 : Int32).toInt = 2 by decide)
  have e3 := lv_neT hc3 (show (3 : Int32).toInt = 3 by decide)
  have e4 := lv_neT hc4 (show (4 : Int32).toInt = 4 by decide)
  have e5 := lv_neT hc5 (show (5 : Int32).toInt = 5 by decide)
  have h := h.2.2.2.2.2.2 ⟨hc0, hc1, hc2, hc3, hc4, hc5⟩
  refine z_tabOut F 121 dX4_doStep_6 (by omega) (by decide) ?_
  refine z_aload_n F dX4_doStep_121 rfl ?_
  refine z_getI F 0 rfl hj2 (by decide) rfl lk_X4_141 dX4_doStep_122 ?_
  refine z_sipush F 400 dX4_doStep_125 (by decide) ?_
  refine z_icmp_ge F 143 dX4_doStep_128 (by decide) ⟨fun hc => ?_, fun hc => ?_⟩
  · have h := h.1 hc
    refine z_iconst F 0 dX4_doStep_143 (by decide) ?_
    exact z_zret F dX4_doStep_144 (by decide) rfl h
  · have h := h.2 hc
    refine z_aload_n F dX4_doStep_131 rfl ?_
    refine z_aload_n F dX4_doStep_132 rfl ?_
    refine z_callV F (k' := 2) (mc' := 0) [.ref (G.2.1 5 j2)] [] dX4_doStep_133 rfl rfl (by decide) rfl cl_X4_143 hy_X7_nextDay (by omega) (by decide) (by decide) (Nat.le_of_ble_eq_true rfl) rfl (con_mono h ?_ (fun _ _ h => h))
    rintro _ w14 ⟨v13, rfl, h⟩
    show Z M G 0 K X w14 136 [some (.ref (G.2.1 3 0)), some (.ref (G.2.1 2 0)), some (.ref (G.2.1 5 j2)), some (.int p2)] [.int v13]
    refine z_if_eq F 143 dX4_doStep_136 (by decide) ⟨fun hc => ?_, fun hc => ?_⟩
    · have h := h.1 hc
      refine z_iconst F 0 dX4_doStep_143 (by decide) ?_
      exact z_zret F dX4_doStep_144 (by decide) rfl h
    · have h := h.2 hc
      refine z_iconst F 1 dX4_doStep_139 (by decide) ?_
      refine z_goto F 144 dX4_doStep_140 (by decide) ?_
      exact z_zret F dX4_doStep_144 (by decide) rfl h
set_option maxRecDepth 20000 in
theorem e_X5_read {l : Launch} {G : Gx} {w : Wd} {j0 : Nat} (hj0 : j0 < cnt 7) {K : Option Value → Wd → Prop} {X : String → Wd → Prop} (hl : l.stackTraces = false)
    (h : ∀ (M : Mx) (kk : Nat), mL M = l → 9 ≤ kk → Fx M G RX5 cX5_read 3 none kk 0 → (∀ w1 : Wd, w1 = setI w 7 j0 0 0 → (∀ w2 : Wd, w2 = setI w1 7 j0 1 0 → (∀ w3 : Wd, w3 = setI w2 7 j0 2 0 → (∀ w4 : Wd, w4 = setI w3 7 j0 3 5 → Z M G 0 K X w4 22 [some (.ref (G.2.1 7 j0)), some (.ref (G.2.1 1 0)), some (.int 0)] []))))) :
    Con l G 9 0 yX5_read cX5_read 3 none w [.ref (G.2.1 7 j0), .ref (G.2.1 1 0)] K X := by
  refine con_intro hl (by decide +kernel) (Nat.le_of_ble_eq_true rfl) (Nat.le_of_ble_eq_true rfl) (fun M kk hM hk F => ?_)
  have h := h M kk hM hk F
  show Z M G 0 K X w 0 [some (.ref (G.2.1 7 j0)), some (.ref (G.2.1 1 0)), none] []
  refine z_aload_n F dX5_read_0 rfl ?_
  refine z_iconst F 0 dX5_read_1 (by decide) ?_
  refine z_putIW F 0 rfl hj0 (by decide) rfl lk_X5_40 dX5_read_2 (fun w1 hw1 => ?_)
  have h := h w1 hw1
  refine z_aload_n F dX5_read_5 rfl ?_
  refine z_iconst F 0 dX5_read_6 (by decide) ?_
  refine z_putIW F 1 rfl hj0 (by decide) rfl lk_X5_43 dX5_read_7 (fun w2 hw2 => ?_)
  have h := h w2 hw2
  refine z_aload_n F dX5_read_10 rfl ?_
  refine z_iconst F 0 dX5_read_11 (by decide) ?_
  refine z_putIW F 2 rfl hj0 (by decide) rfl lk_X5_46 dX5_read_12 (fun w3 hw3 => ?_)
  have h := h w3 hw3
  refine z_aload_n F dX5_read_15 rfl ?_
  refine z_iconst F 5 dX5_read_16 (by decide) ?_
  refine z_putIW F 3 rfl hj0 (by decide) rfl lk_X5_9 dX5_read_17 (fun w4 hw4 => ?_)
  have h := h w4 hw4
  refine z_iconst F 0 dX5_read_20 (by decide) ?_
  refine z_istore_n F dX5_read_21 (Nat.le_of_ble_eq_true rfl) ?_
  exact h
set_option maxRecDepth 20000 in
theorem b_X5_read_22 {M : Mx} {G : Gx} {kk : Nat} {w : Wd} {j0 : Nat} (hj0 : j0 < cnt 7) {x2 : Int32} {K : Option Value → Wd → Prop} {X : String → Wd → Prop} (F : Fx M G RX5 cX5_read 3 none kk 0) (hk : 9 ≤ kk)
    (h : ((60 < x2 → K none w) ∧ (¬ (60 < x2) → Con (mL M) G 2 0 yX8_more cX8_more 1 (some .boolean) w [.ref (G.2.1 1 0)] (fun r w2 => ∃ v1 : Int32, r = some (.int v1) ∧ ((v1 = 0 → K none w2) ∧ (¬ (v1 = 0) → ((60 ≤ x2 → Z M G 0 K X w2 48 [some (.ref (G.2.1 7 j0)), some (.ref (G.2.1 1 0)), some (.int x2)] [.int 0, .ref (G.2.1 1 0), .ref (G.2.1 7 j0)]) ∧ (¬ (60 ≤ x2) → Z M G 0 K X w2 48 [some (.ref (G.2.1 7 j0)), some (.ref (G.2.1 1 0)), some (.int x2)] [.int 1, .ref (G.2.1 1 0), .ref (G.2.1 7 j0)]))))) X))) :
    Z M G 0 K X w 22 [some (.ref (G.2.1 7 j0)), some (.ref (G.2.1 1 0)), some (.int x2)] [] := by
  refine z_iload_n F dX5_read_22 rfl ?_
  refine z_bipush F 60 dX5_read_23 (by decide) ?_
  refine z_icmp_gt F 57 dX5_read_25 (by decide) ⟨fun hc => ?_, fun hc => ?_⟩
  · have h := h.1 hc
    exact z_vret F dX5_read_57 (by decide) h
  · have h := h.2 hc
    refine z_aload_n F dX5_read_28 rfl ?_
    refine z_callV F (k' := 2) (mc' := 0) [] [] dX5_read_29 rfl rfl (by decide) rfl cl_X5_49 hy_X8_more (by omega) (by decide) (by decide) (Nat.le_of_ble_eq_true rfl) rfl (con_mono h ?_ (fun _ _ h => h))
    rintro _ w2 ⟨v1, rfl, h⟩
    show Z M G 0 K X w2 32 [some (.ref (G.2.1 7 j0)), some (.ref (G.2.1 1 0)), some (.int x2)] [.int v1]
    refine z_if_eq F 57 dX5_read_32 (by decide) ⟨fun hc => ?_, fun hc => ?_⟩
    · have h := h.1 hc
      exact z_vret F dX5_read_57 (by decide) h
    · have h := h.2 hc
      refine z_aload_n F dX5_read_35 rfl ?_
      refine z_aload_n F dX5_read_36 rfl ?_
      refine z_iload_n F dX5_read_37 rfl ?_
      refine z_bipush F 60 dX5_read_38 (by decide) ?_
      refine z_icmp_ge F 47 dX5_read_40 (by decide) ⟨fun hc => ?_, fun hc => ?_⟩
      · have h := h.1 hc
        refine z_iconst F 0 dX5_read_47 (by decide) ?_
        exact h
      · have h := h.2 hc
        refine z_iconst F 1 dX5_read_43 (by decide) ?_
        refine z_goto F 48 dX5_read_44 (by decide) ?_
        exact h
set_option maxRecDepth 20000 in
theorem b_X5_read_48 {M : Mx} {G : Gx} {kk : Nat} {w : Wd} {j0 : Nat} (hj0 : j0 < cnt 7) {x2 : Int32} {s0 : Int32} {K : Option Value → Wd → Prop} {X : String → Wd → Prop} (F : Fx M G RX5 cX5_read 3 none kk 0) (hk : 9 ≤ kk)
    (h : Con (mL M) G 8 0 yX5_readClause cX5_readClause 3 none w [.ref (G.2.1 7 j0), .ref (G.2.1 1 0), .int s0] (fun r w2 => r = none ∧ Z M G 0 K X w2 22 [some (.ref (G.2.1 7 j0)), some (.ref (G.2.1 1 0)), some (.int (x2 + 1))] []) X) :
    Z M G 0 K X w 48 [some (.ref (G.2.1 7 j0)), some (.ref (G.2.1 1 0)), some (.int x2)] [.int s0, .ref (G.2.1 1 0), .ref (G.2.1 7 j0)] := by
  refine z_callV F (k' := 8) (mc' := 0) [.ref (G.2.1 1 0), .int s0] [] dX5_read_48 rfl rfl hj0 rfl cl_X5_55 hy_X5_readClause (by omega) (by decide) (by decide) (Nat.le_of_ble_eq_true rfl) rfl (con_mono h ?_ (fun _ _ h => h))
  rintro _ w2 ⟨rfl, h⟩
  show Z M G 0 K X w2 51 [some (.ref (G.2.1 7 j0)), some (.ref (G.2.1 1 0)), some (.int x2)] []
  refine z_iinc F (x2 + 1) dX5_read_51 rfl rfl (Nat.le_of_ble_eq_true rfl) ?_
  refine z_goto F 22 dX5_read_54 (by decide) ?_
  exact h
set_option maxRecDepth 20000 in
theorem e_X5_readClause {l : Launch} {G : Gx} {w : Wd} {j0 : Nat} (hj0 : j0 < cnt 7) {p1 : Int32} {K : Option Value → Wd → Prop} {X : String → Wd → Prop} (hl : l.stackTraces = false)
    (h : ∀ (M : Mx) (kk : Nat), mL M = l → 8 ≤ kk → Fx M G RX5 cX5_readClause 3 none kk 0 → Con (mL M) G 2 0 yX8_word cX8_word 1 none w [.ref (G.2.1 1 0)] (fun r w2 => r = none ∧ Con (mL M) G 7 0 yX8_says cX8_says 3 (some .boolean) w2 [.ref (G.2.1 1 0), .ref (G.2.2.2.2.1 0)] (fun r w4 => ∃ v3 : Int32, r = some (.int v3) ∧ ((v3 = 0 → Con (mL M) G 7 0 yX8_says cX8_says 3 (some .boolean) w4 [.ref (G.2.1 1 0), .ref (G.2.2.2.2.1 1)] (fun r w6 => ∃ v5 : Int32, r = some (.int v5) ∧ ((v5 = 0 → Con (mL M) G 7 0 yX8_says cX8_says 3 (some .boolean) w6 [.ref (G.2.1 1 0), .ref (G.2.2.2.2.1 2)] (fun r w8 => ∃ v7 : Int32, r = some (.int v7) ∧ ((v7 = 0 → Con (mL M) G 7 0 yX8_says cX8_says 3 (some .boolean) w8 [.ref (G.2.1 1 0), .ref (G.2.2.2.2.1 3)] (fun r w10 => ∃ v9 : Int32, r = some (.int v9) ∧ ((v9 = 0 → Con (mL M) G 1 0 yX8_fail cX8_fail 3 none w10 [.ref (G.2.1 1 0), .int 1, .int (w10.1 1 0 4)] (fun r w12 => r = none ∧ Z M G 0 K X w12 85 [none, some (.ref (G.2.1 1 0)), none] []) X) ∧ (¬ (v9 = 0) → Con (mL M) G 3 0 yX5_readRest cX5_readRest 3 none w10 [.ref (G.2.1 7 j0), .ref (G.2.1 1 0), .int p1] (fun r w14 => r = none ∧ Z M G 0 K X w14 85 [none, some (.ref (G.2.1 1 0)), none] []) X))) X) ∧ (¬ (v7 = 0) → Con (mL M) G 3 0 yX5_readLike cX5_readLike 3 none w8 [.ref (G.2.1 7 j0), .ref (G.2.1 1 0), .int p1] (fun r w16 => r = none ∧ Z M G 0 K X w16 85 [none, some (.ref (G.2.1 1 0)), none] []) X))) X) ∧ (¬ (v5 = 0) → Con (mL M) G 3 0 yX5_readNote cX5_readNote 3 none w6 [.ref (G.2.1 7 j0), .ref (G.2.1 1 0), .int p1] (fun r w18 => r = none ∧ Z M G 0 K X w18 85 [none, some (.ref (G.2.1 1 0)), none] []) X))) X) ∧ (¬ (v3 = 0) → Con (mL M) G 3 0 yX5_readSinger cX5_readSinger 3 none w4 [.ref (G.2.1 7 j0), .ref (G.2.1 1 0), .int p1] (fun r w20 => r = none ∧ Z M G 0 K X w20 85 [none, some (.ref (G.2.1 1 0)), none] []) X))) X) X) :
    Con l G 8 0 yX5_readClause cX5_readClause 3 none w [.ref (G.2.1 7 j0), .ref (G.2.1 1 0), .int p1] K X := by
  refine con_intro hl (by decide +kernel) (Nat.le_of_ble_eq_true rfl) (Nat.le_of_ble_eq_true rfl) (fun M kk hM hk F => ?_)
  have h := h M kk hM hk F
  show Z M G 0 K X w 0 [some (.ref (G.2.1 7 j0)), some (.ref (G.2.1 1 0)), some (.int p1)] []
  refine z_aload_n F dX5_readClause_0 rfl ?_
  refine z_callV F (k' := 2) (mc' := 0) [] [] dX5_readClause_1 rfl rfl (by decide) rfl cl_X5_59 hy_X8_word (by omega) (by decide) (by decide) (Nat.le_of_ble_eq_true rfl) rfl (con_mono h ?_ (fun _ _ h => h))
  rintro _ w2 ⟨rfl, h⟩
  show Z M G 0 K X w2 4 [some (.ref (G.2.1 7 j0)), some (.ref (G.2.1 1 0)), some (.int p1)] []
  refine z_aload_n F dX5_readClause_4 rfl ?_
  refine z_ldcS F 0 dX5_readClause_5 (by decide) ?_
  refine z_callV F (k' := 7) (mc' := 0) [.ref (G.2.2.2.2.1 0)] [] dX5_readClause_7 rfl rfl (by decide) rfl cl_X5_64 hy_X8_says (by omega) (by decide) (by decide) (Nat.le_of_ble_eq_true rfl) rfl (con_mono h ?_ (fun _ _ h => h))
  rintro _ w4 ⟨v3, rfl, h⟩
  show Z M G 0 K X w4 10 [some (.ref (G.2.1 7 j0)), some (.ref (G.2.1 1 0)), some (.int p1)] [.int v3]
  refine z_if_eq F 22 dX5_readClause_10 (by decide) ⟨fun hc => ?_, fun hc => ?_⟩
  · have h := h.1 hc
    refine z_aload_n F dX5_readClause_22 rfl ?_
    refine z_ldcS F 1 dX5_readClause_23 (by decide) ?_
    refine z_callV F (k' := 7) (mc' := 0) [.ref (G.2.2.2.2.1 1)] [] dX5_readClause_25 rfl rfl (by decide) rfl cl_X5_64 hy_X8_says (by omega) (by decide) (by decide) (Nat.le_of_ble_eq_true rfl) rfl (con_mono h ?_ (fun _ _ h => h))
    rintro _ w6 ⟨v5, rfl, h⟩
    show Z M G 0 K X w6 28 [some (.ref (G.2.1 7 j0)), some (.ref (G.2.1 1 0)), some (.int p1)] [.int v5]
    refine z_if_eq F 40 dX5_readClause_28 (by decide) ⟨fun hc => ?_, fun hc => ?_⟩
    · have h := h.1 hc
      refine z_aload_n F dX5_readClause_40 rfl ?_
      refine z_ldcS F 2 dX5_readClause_41 (by decide) ?_
      refine z_callV F (k' := 7) (mc' := 0) [.ref (G.2.2.2.2.1 2)] [] dX5_readClause_43 rfl rfl (by decide) rfl cl_X5_64 hy_X8_says (by omega) (by decide) (by decide) (Nat.le_of_ble_eq_true rfl) rfl (con_mono h ?_ (fun _ _ h => h))
      rintro _ w8 ⟨v7, rfl, h⟩
      show Z M G 0 K X w8 46 [some (.ref (G.2.1 7 j0)), some (.ref (G.2.1 1 0)), some (.int p1)] [.int v7]
      refine z_if_eq F 58 dX5_readClause_46 (by decide) ⟨fun hc => ?_, fun hc => ?_⟩
      · have h := h.1 hc
        refine z_aload_n F dX5_readClause_58 rfl ?_
        refine z_ldcS F 3 dX5_readClause_59 (by decide) ?_
        refine z_callV F (k' := 7) (mc' := 0) [.ref (G.2.2.2.2.1 3)] [] dX5_readClause_61 rfl rfl (by decide) rfl cl_X5_64 hy_X8_says (by omega) (by decide) (by decide) (Nat.le_of_ble_eq_true rfl) rfl (con_mono h ?_ (fun _ _ h => h))
        rintro _ w10 ⟨v9, rfl, h⟩
        show Z M G 0 K X w10 64 [some (.ref (G.2.1 7 j0)), some (.ref (G.2.1 1 0)), some (.int p1)] [.int v9]
        refine z_if_eq F 76 dX5_readClause_64 (by decide) ⟨fun hc => ?_, fun hc => ?_⟩
        · have h := h.1 hc
          refine z_aload_n F dX5_readClause_76 rfl ?_
          refine z_iconst F 1 dX5_readClause_77 (by decide) ?_
          refine z_aload_n F dX5_readClause_78 rfl ?_
          refine z_getI F 4 rfl (by decide) (by decide) rfl lk_X5_86 dX5_readClause_79 ?_
          refine z_callV F (k' := 1) (mc' := 0) [.int 1, .int (w10.1 1 0 4)] [] dX5_readClause_82 rfl rfl (by decide) rfl cl_X5_89 hy_X8_fail (by omega) (by decide) (by decide) (Nat.le_of_ble_eq_true rfl) rfl (con_mono h ?_ (fun _ _ h => h))
          rintro _ w12 ⟨rfl, h⟩
          show Z M G 0 K X w12 85 [some (.ref (G.2.1 7 j0)), some (.ref (G.2.1 1 0)), some (.int p1)] []
          exact z_weak h (⟨rfl, trivial⟩)
        · have h := h.2 hc
          refine z_aload_n F dX5_readClause_67 rfl ?_
          refine z_aload_n F dX5_readClause_68 rfl ?_
          refine z_iload_n F dX5_readClause_69 rfl ?_
          refine z_callV F (k' := 3) (mc' := 0) [.ref (G.2.1 1 0), .int p1] [] dX5_readClause_70 rfl rfl hj0 rfl cl_X5_83 hy_X5_readRest (by omega) (by decide) (by decide) (Nat.le_of_ble_eq_true rfl) rfl (con_mono h ?_ (fun _ _ h => h))
          rintro _ w14 ⟨rfl, h⟩
          show Z M G 0 K X w14 73 [some (.ref (G.2.1 7 j0)), some (.ref (G.2.1 1 0)), some (.int p1)] []
          refine z_goto F 85 dX5_readClause_73 (by decide) ?_
          exact z_weak h (⟨rfl, trivial⟩)
      · have h := h.2 hc
        refine z_aload_n F dX5_readClause_49 rfl ?_
        refine z_aload_n F dX5_readClause_50 rfl ?_
        refine z_iload_n F dX5_readClause_51 rfl ?_
        refine z_callV F (k' := 3) (mc' := 0) [.ref (G.2.1 1 0), .int p1] [] dX5_readClause_52 rfl rfl hj0 rfl cl_X5_78 hy_X5_readLike (by omega) (by decide) (by decide) (Nat.le_of_ble_eq_true rfl) rfl (con_mono h ?_ (fun _ _ h => h))
        rintro _ w16 ⟨rfl, h⟩
        show Z M G 0 K X w16 55 [some (.ref (G.2.1 7 j0)), some (.ref (G.2.1 1 0)), some (.int p1)] []
        refine z_goto F 85 dX5_readClause_55 (by decide) ?_
        exact z_weak h (⟨rfl, trivial⟩)
    · have h := h.2 hc
      refine z_aload_n F dX5_readClause_31 rfl ?_
      refine z_aload_n F dX5_readClause_32 rfl ?_
      refine z_iload_n F dX5_readClause_33 rfl ?_
      refine z_callV F (k' := 3) (mc' := 0) [.ref (G.2.1 1 0), .int p1] [] dX5_readClause_34 rfl rfl hj0 rfl cl_X5_73 hy_X5_readNote (by omega) (by decide) (by decide) (Nat.le_of_ble_eq_true rfl) rfl (con_mono h ?_ (fun _ _ h => h))
      rintro _ w18 ⟨rfl, h⟩
      show Z M G 0 K X w18 37 [some (.ref (G.2.1 7 j0)), some (.ref (G.2.1 1 0)), some (.int p1)] []
      refine z_goto F 85 dX5_readClause_37 (by decide) ?_
      exact z_weak h (⟨rfl, trivial⟩)
  · have h := h.2 hc
    refine z_aload_n F dX5_readClause_13 rfl ?_
    refine z_aload_n F dX5_readClause_14 rfl ?_
    refine z_iload_n F dX5_readClause_15 rfl ?_
    refine z_callV F (k' := 3) (mc' := 0) [.ref (G.2.1 1 0), .int p1] [] dX5_readClause_16 rfl rfl hj0 rfl cl_X5_68 hy_X5_readSinger (by omega) (by decide) (by decide) (Nat.le_of_ble_eq_true rfl) rfl (con_mono h ?_ (fun _ _ h => h))
    rintro _ w20 ⟨rfl, h⟩
    show Z M G 0 K X w20 19 [some (.ref (G.2.1 7 j0)), some (.ref (G.2.1 1 0)), some (.int p1)] []
    refine z_goto F 85 dX5_readClause_19 (by decide) ?_
    exact z_weak h (⟨rfl, trivial⟩)
set_option maxRecDepth 20000 in
theorem b_X5_readClause_85 {M : Mx} {G : Gx} {kk : Nat} {w : Wd}   {K : Option Value → Wd → Prop} {X : String → Wd → Prop} (F : Fx M G RX5 cX5_readClause 3 none kk 0) (hk : 8 ≤ kk)
    (h : Con (mL M) G 2 0 yX8_sign cX8_sign 2 none w [.ref (G.2.1 1 0), .int 59] (fun r w2 => r = none ∧ K none w2) X) :
    Z M G 0 K X w 85 [none, some (.ref (G.2.1 1 0)), none] [] := by
  refine z_aload_n F dX5_readClause_85 rfl ?_
  refine z_bipush F 59 dX5_readClause_86 (by decide) ?_
  refine z_callV F (k' := 2) (mc' := 0) [.int 59] [] dX5_readClause_88 rfl rfl (by decide) rfl cl_X5_93 hy_X8_sign (by omega) (by decide) (by decide) (Nat.le_of_ble_eq_true rfl) rfl (con_mono h ?_ (fun _ _ h => h))
  rintro _ w2 ⟨rfl, h⟩
  show Z M G 0 K X w2 91 [none, some (.ref (G.2.1 1 0)), none] []
  exact z_vret F dX5_readClause_91 (by decide) h
set_option maxRecDepth 20000 in
theorem e_X5_readSinger {l : Launch} {G : Gx} {w : Wd} {j0 : Nat} (hj0 : j0 < cnt 7) {p1 : Int32} {K : Option Value → Wd → Prop} {X : String → Wd → Prop} (hl : l.stackTraces = false)
    (h : ∀ (M : Mx) (kk : Nat), mL M = l → 3 ≤ kk → Fx M G RX5 cX5_readSinger 3 none kk 0 → ((p1 = 0 → Z M G 0 K X w 13 [none, some (.ref (G.2.1 1 0)), none] []) ∧ (¬ (p1 = 0) → (((w.1 7 j0 0) < 7 → Con (mL M) G 2 0 yX8_figure cX8_figure 4 (some .int) w [.ref (G.2.1 1 0), .int 0, .int 5] (fun r w2 => ∃ v1 : Int32, r = some (.int v1) ∧ (vp_in (w.1 7 j0 0) 7 ∧ ∀ w3 : Wd, w3 = setI w2 25 j0 ((w.1 7 j0 0 : Int32).toNatClampNeg) v1 → Con (mL M) G 2 0 yX8_figure cX8_figure 4 (some .int) w3 [.ref (G.2.1 1 0), .int 0, .int 60] (fun r w5 => ∃ v4 : Int32, r = some (.int v4) ∧ (vp_in (w3.1 7 j0 0) 7 ∧ ∀ w6 : Wd, w6 = setI w5 26 j0 ((w3.1 7 j0 0 : Int32).toNatClampNeg) v4 → Con (mL M) G 2 0 yX8_figure cX8_figure 4 (some .int) w6 [.ref (G.2.1 1 0), .int 1, .int 30] (fun r w8 => ∃ v7 : Int32, r = some (.int v7) ∧ (vp_in (w6.1 7 j0 0) 7 ∧ ∀ w9 : Wd, w9 = setI w8 27 j0 ((w6.1 7 j0 0 : Int32).toNatClampNeg) v7 → (∀ w10 : Wd, w10 = setI w9 7 j0 0 ((w9.1 7 j0 0) + (1 : Int32)) → K none w10))) X)) X)) X) ∧ (¬ ((w.1 7 j0 0) < 7) → Z M G 0 K X w 13 [none, some (.ref (G.2.1 1 0)), none] []))))) :
    Con l G 3 0 yX5_readSinger cX5_readSinger 3 none w [.ref (G.2.1 7 j0), .ref (G.2.1 1 0), .int p1] K X := by
  refine con_intro hl (by decide +kernel) (Nat.le_of_ble_eq_true rfl) (Nat.le_of_ble_eq_true rfl) (fun M kk hM hk F => ?_)
  have h := h M kk hM hk F
  show Z M G 0 K X w 0 [some (.ref (G.2.1 7 j0)), some (.ref (G.2.1 1 0)), some (.int p1)] []
  refine z_iload_n F dX5_readSinger_0 rfl ?_
  refine z_if_eq F 13 dX5_readSinger_1 (by decide) ⟨fun hc => ?_, fun hc => ?_⟩
  · have h := h.1 hc
    exact z_weak h (⟨rfl, trivial⟩)
  · have h := h.2 hc
    refine z_aload_n F dX5_readSinger_4 rfl ?_
    refine z_getI F 0 rfl hj0 (by decide) rfl lk_X5_40 dX5_readSinger_5 ?_
    refine z_bipush F 7 dX5_readSinger_8 (by decide) ?_
    refine z_icmp_lt F 23 dX5_readSinger_10 (by decide) ⟨fun hc => ?_, fun hc => ?_⟩
    · have h := h.1 hc
      refine z_aload_n F dX5_readSinger_23 rfl ?_
      refine z_getR F 4 25 j0 rfl hj0 (by decide) rfl rfl rfl lk_X5_15 dX5_readSinger_24 ?_
      refine z_aload_n F dX5_readSinger_27 rfl ?_
      refine z_getI F 0 rfl hj0 (by decide) rfl lk_X5_40 dX5_readSinger_28 ?_
      refine z_aload_n F dX5_readSinger_31 rfl ?_
      refine z_iconst F 0 dX5_readSinger_32 (by decide) ?_
      refine z_iconst F 5 dX5_readSinger_33 (by decide) ?_
      refine z_callV F (k' := 2) (mc' := 0) [.int 0, .int 5] [.int (w.1 7 j0 0), .ref (G.2.1 25 j0)] dX5_readSinger_34 rfl rfl (by decide) rfl cl_X5_97 hy_X8_figure (by omega) (by decide) (by decide) (Nat.le_of_ble_eq_true rfl) rfl (con_mono h ?_ (fun _ _ h => h))
      rintro _ w2 ⟨v1, rfl, h⟩
      show Z M G 0 K X w2 37 [some (.ref (G.2.1 7 j0)), some (.ref (G.2.1 1 0)), some (.int p1)] [.int v1, .int (w.1 7 j0 0), .ref (G.2.1 25 j0)]
      obtain ⟨hb, h⟩ := h
      refine z_iastW F ((w.1 7 j0 0 : Int32).toNatClampNeg) rfl rfl (fix_lt 7 j0 4 hj0 (by decide) rfl rfl) hb dX5_readSinger_37 (fun w3 hw3 => ?_)
      have h := h w3 hw3
      refine z_aload_n F dX5_readSinger_38 rfl ?_
      refine z_getR F 5 26 j0 rfl hj0 (by decide) rfl rfl rfl lk_X5_19 dX5_readSinger_39 ?_
      refine z_aload_n F dX5_readSinger_42 rfl ?_
      refine z_getI F 0 rfl hj0 (by decide) rfl lk_X5_40 dX5_readSinger_43 ?_
      refine z_aload_n F dX5_readSinger_46 rfl ?_
      refine z_iconst F 0 dX5_readSinger_47 (by decide) ?_
      refine z_bipush F 60 dX5_readSinger_48 (by decide) ?_
      refine z_callV F (k' := 2) (mc' := 0) [.int 0, .int 60] [.int (w3.1 7 j0 0), .ref (G.2.1 26 j0)] dX5_readSinger_50 rfl rfl (by decide) rfl cl_X5_97 hy_X8_figure (by omega) (by decide) (by decide) (Nat.le_of_ble_eq_true rfl) rfl (con_mono h ?_ (fun _ _ h => h))
      rintro _ w5 ⟨v4, rfl, h⟩
      show Z M G 0 K X w5 53 [some (.ref (G.2.1 7 j0)), some (.ref (G.2.1 1 0)), some (.int p1)] [.int v4, .int (w3.1 7 j0 0), .ref (G.2.1 26 j0)]
      obtain ⟨hb, h⟩ := h
      refine z_iastW F ((w3.1 7 j0 0 : Int32).toNatClampNeg) rfl rfl (fix_lt 7 j0 5 hj0 (by decide) rfl rfl) hb dX5_readSinger_53 (fun w6 hw6 => ?_)
      have h := h w6 hw6
      refine z_aload_n F dX5_readSinger_54 rfl ?_
      refine z_getR F 6 27 j0 rfl hj0 (by decide) rfl rfl rfl lk_X5_22 dX5_readSinger_55 ?_
      refine z_aload_n F dX5_readSinger_58 rfl ?_
      refine z_getI F 0 rfl hj0 (by decide) rfl lk_X5_40 dX5_readSinger_59 ?_
      refine z_aload_n F dX5_readSinger_62 rfl ?_
      refine z_iconst F 1 dX5_readSinger_63 (by decide) ?_
      refine z_bipush F 30 dX5_readSinger_64 (by decide) ?_
      refine z_callV F (k' := 2) (mc' := 0) [.int 1, .int 30] [.int (w6.1 7 j0 0), .ref (G.2.1 27 j0)] dX5_readSinger_66 rfl rfl (by decide) rfl cl_X5_97 hy_X8_figure (by omega) (by decide) (by decide) (Nat.le_of_ble_eq_true rfl) rfl (con_mono h ?_ (fun _ _ h => h))
      rintro _ w8 ⟨v7, rfl, h⟩
      show Z M G 0 K X w8 69 [some (.ref (G.2.1 7 j0)), some (.ref (G.2.1 1 0)), some (.int p1)] [.int v7, .int (w6.1 7 j0 0), .ref (G.2.1 27 j0)]
      obtain ⟨hb, h⟩ := h
      refine z_iastW F ((w6.1 7 j0 0 : Int32).toNatClampNeg) rfl rfl (fix_lt 7 j0 6 hj0 (by decide) rfl rfl) hb dX5_readSinger_69 (fun w9 hw9 => ?_)
      have h := h w9 hw9
      refine z_aload_n F dX5_readSinger_70 rfl ?_
      refine z_dup F dX5_readSinger_71 rfl ?_
      refine z_getI F 0 rfl hj0 (by decide) rfl lk_X5_40 dX5_readSinger_72 ?_
      refine z_iconst F 1 dX5_readSinger_75 (by decide) ?_
      refine z_iadd F dX5_readSinger_76 ?_
      refine z_putIW F 0 rfl hj0 (by decide) rfl lk_X5_40 dX5_readSinger_77 (fun w10 hw10 => ?_)
      have h := h w10 hw10
      exact z_vret F dX5_readSinger_80 (by decide) h
    · have h := h.2 hc
      exact z_weak h (⟨rfl, trivial⟩)
set_option maxRecDepth 20000 in
theorem b_X5_readSinger_13 {M : Mx} {G : Gx} {kk : Nat} {w : Wd}   {K : Option Value → Wd → Prop} {X : String → Wd → Prop} (F : Fx M G RX5 cX5_readSinger 3 none kk 0) (hk : 3 ≤ kk)
    (h : Con (mL M) G 1 0 yX8_fail cX8_fail 3 none w [.ref (G.2.1 1 0), .int 3, .int (w.1 1 0 4)] (fun r w2 => r = none ∧ K none w2) X) :
    Z M G 0 K X w 13 [none, some (.ref (G.2.1 1 0)), none] [] := by
  refine z_aload_n F dX5_readSinger_13 rfl ?_
  refine z_iconst F 3 dX5_readSinger_14 (by decide) ?_
  refine z_aload_n F dX5_readSinger_15 rfl ?_
  refine z_getI F 4 rfl (by decide) (by decide) rfl lk_X5_86 dX5_readSinger_16 ?_
  refine z_callV F (k' := 1) (mc' := 0) [.int 3, .int (w.1 1 0 4)] [] dX5_readSinger_19 rfl rfl (by decide) rfl cl_X5_89 hy_X8_fail (by omega) (by decide) (by decide) (Nat.le_of_ble_eq_true rfl) rfl (con_mono h ?_ (fun _ _ h => h))
  rintro _ w2 ⟨rfl, h⟩
  show Z M G 0 K X w2 22 [none, some (.ref (G.2.1 1 0)), none] []
  exact z_vret F dX5_readSinger_22 (by decide) h
set_option maxRecDepth 20000 in
theorem e_X5_readNote {l : Launch} {G : Gx} {w : Wd} {j0 : Nat} (hj0 : j0 < cnt 7) {p1 : Int32} {K : Option Value → Wd → Prop} {X : String → Wd → Prop} (hl : l.stackTraces = false)
    (h : ∀ (M : Mx) (kk : Nat), mL M = l → 3 ≤ kk → Fx M G RX5 cX5_readNote 3 none kk 0 → ((p1 = 0 → Z M G 0 K X w 13 [none, some (.ref (G.2.1 1 0)), none] []) ∧ (¬ (p1 = 0) → (((w.1 7 j0 1) < 20 → Con (mL M) G 2 0 yX8_figure cX8_figure 4 (some .int) w [.ref (G.2.1 1 0), .int 0, .int 5] (fun r w2 => ∃ v1 : Int32, r = some (.int v1) ∧ (vp_in (w.1 7 j0 1) 20 ∧ ∀ w3 : Wd, w3 = setI w2 28 j0 ((w.1 7 j0 1 : Int32).toNatClampNeg) v1 → Con (mL M) G 2 0 yX8_figure cX8_figure 4 (some .int) w3 [.ref (G.2.1 1 0), .int 1, .int 9] (fun r w5 => ∃ v4 : Int32, r = some (.int v4) ∧ (vp_in (w3.1 7 j0 1) 20 ∧ ∀ w6 : Wd, w6 = setI w5 29 j0 ((w3.1 7 j0 1 : Int32).toNatClampNeg) v4 → (vp_in (w6.1 7 j0 1) 20 ∧ (vp_in (w6.1 7 j0 1) 20 ∧ ∀ w7 : Wd, w7 = setI w6 30 j0 ((w6.1 7 j0 1 : Int32).toNatClampNeg) ((1 : Int32) <<< ((w6.1 28 j0 ((w6.1 7 j0 1 : Int32).toNatClampNeg)) &&& 31)) → (∀ w8 : Wd, w8 = setI w7 7 j0 1 ((w7.1 7 j0 1) + (1 : Int32)) → K none w8))))) X)) X) ∧ (¬ ((w.1 7 j0 1) < 20) → Z M G 0 K X w 13 [none, some (.ref (G.2.1 1 0)), none] []))))) :
    Con l G 3 0 yX5_readNote cX5_readNote 3 none w [.ref (G.2.1 7 j0), .ref (G.2.1 1 0), .int p1] K X := by
  refine con_intro hl (by decide +kernel) (Nat.le_of_ble_eq_true rfl) (Nat.le_of_ble_eq_true rfl) (fun M kk hM hk F => ?_)
  have h := h M kk hM hk F
  show Z M G 0 K X w 0 [some (.ref (G.2.1 7 j0)), some (.ref (G.2.1 1 0)), some (.int p1)] []
  refine z_iload_n F dX5_readNote_0 rfl ?_
  refine z_if_eq F 13 dX5_readNote_1 (by decide) ⟨fun hc => ?_, fun hc => ?_⟩
  · have h := h.1 hc
    exact z_weak h (⟨rfl, trivial⟩)
  · have h := h.2 hc
    refine z_aload_n F dX5_readNote_4 rfl ?_
    refine z_getI F 1 rfl hj0 (by decide) rfl lk_X5_43 dX5_readNote_5 ?_
    refine z_bipush F 20 dX5_readNote_8 (by decide) ?_
    refine z_icmp_lt F 23 dX5_readNote_10 (by decide) ⟨fun hc => ?_, fun hc => ?_⟩
    · have h := h.1 hc
      refine z_aload_n F dX5_readNote_23 rfl ?_
      refine z_getR F 7 28 j0 rfl hj0 (by decide) rfl rfl rfl lk_X5_25 dX5_readNote_24 ?_
      refine z_aload_n F dX5_readNote_27 rfl ?_
      refine z_getI F 1 rfl hj0 (by decide) rfl lk_X5_43 dX5_readNote_28 ?_
      refine z_aload_n F dX5_readNote_31 rfl ?_
      refine z_iconst F 0 dX5_readNote_32 (by decide) ?_
      refine z_iconst F 5 dX5_readNote_33 (by decide) ?_
      refine z_callV F (k' := 2) (mc' := 0) [.int 0, .int 5] [.int (w.1 7 j0 1), .ref (G.2.1 28 j0)] dX5_readNote_34 rfl rfl (by decide) rfl cl_X5_97 hy_X8_figure (by omega) (by decide) (by decide) (Nat.le_of_ble_eq_true rfl) rfl (con_mono h ?_ (fun _ _ h => h))
      rintro _ w2 ⟨v1, rfl, h⟩
      show Z M G 0 K X w2 37 [some (.ref (G.2.1 7 j0)), some (.ref (G.2.1 1 0)), some (.int p1)] [.int v1, .int (w.1 7 j0 1), .ref (G.2.1 28 j0)]
      obtain ⟨hb, h⟩ := h
      refine z_iastW F ((w.1 7 j0 1 : Int32).toNatClampNeg) rfl rfl (fix_lt 7 j0 7 hj0 (by decide) rfl rfl) hb dX5_readNote_37 (fun w3 hw3 => ?_)
      have h := h w3 hw3
      refine z_aload_n F dX5_readNote_38 rfl ?_
      refine z_getR F 8 29 j0 rfl hj0 (by decide) rfl rfl rfl lk_X5_28 dX5_readNote_39 ?_
      refine z_aload_n F dX5_readNote_42 rfl ?_
      refine z_getI F 1 rfl hj0 (by decide) rfl lk_X5_43 dX5_readNote_43 ?_
      refine z_aload_n F dX5_readNote_46 rfl ?_
      refine z_iconst F 1 dX5_readNote_47 (by decide) ?_
      refine z_bipush F 9 dX5_readNote_48 (by decide) ?_
      refine z_callV F (k' := 2) (mc' := 0) [.int 1, .int 9] [.int (w3.1 7 j0 1), .ref (G.2.1 29 j0)] dX5_readNote_50 rfl rfl (by decide) rfl cl_X5_97 hy_X8_figure (by omega) (by decide) (by decide) (Nat.le_of_ble_eq_true rfl) rfl (con_mono h ?_ (fun _ _ h => h))
      rintro _ w5 ⟨v4, rfl, h⟩
      show Z M G 0 K X w5 53 [some (.ref (G.2.1 7 j0)), some (.ref (G.2.1 1 0)), some (.int p1)] [.int v4, .int (w3.1 7 j0 1), .ref (G.2.1 29 j0)]
      obtain ⟨hb, h⟩ := h
      refine z_iastW F ((w3.1 7 j0 1 : Int32).toNatClampNeg) rfl rfl (fix_lt 7 j0 8 hj0 (by decide) rfl rfl) hb dX5_readNote_53 (fun w6 hw6 => ?_)
      have h := h w6 hw6
      refine z_aload_n F dX5_readNote_54 rfl ?_
      refine z_getR F 9 30 j0 rfl hj0 (by decide) rfl rfl rfl lk_X5_31 dX5_readNote_55 ?_
      refine z_aload_n F dX5_readNote_58 rfl ?_
      refine z_getI F 1 rfl hj0 (by decide) rfl lk_X5_43 dX5_readNote_59 ?_
      refine z_iconst F 1 dX5_readNote_62 (by decide) ?_
      refine z_aload_n F dX5_readNote_63 rfl ?_
      refine z_getR F 7 28 j0 rfl hj0 (by decide) rfl rfl rfl lk_X5_25 dX5_readNote_64 ?_
      refine z_aload_n F dX5_readNote_67 rfl ?_
      refine z_getI F 1 rfl hj0 (by decide) rfl lk_X5_43 dX5_readNote_68 ?_
      obtain ⟨hb, h⟩ := h
      refine z_ialdK F ((w6.1 7 j0 1 : Int32).toNatClampNeg) rfl rfl (fix_lt 7 j0 7 hj0 (by decide) rfl rfl) hb dX5_readNote_71 ?_
      refine z_ishl F dX5_readNote_72 ?_
      obtain ⟨hb, h⟩ := h
      refine z_iastW F ((w6.1 7 j0 1 : Int32).toNatClampNeg) rfl rfl (fix_lt 7 j0 9 hj0 (by decide) rfl rfl) hb dX5_readNote_73 (fun w7 hw7 => ?_)
      have h := h w7 hw7
      refine z_aload_n F dX5_readNote_74 rfl ?_
      refine z_dup F dX5_readNote_75 rfl ?_
      refine z_getI F 1 rfl hj0 (by decide) rfl lk_X5_43 dX5_readNote_76 ?_
      refine z_iconst F 1 dX5_readNote_79 (by decide) ?_
      refine z_iadd F dX5_readNote_80 ?_
      refine z_putIW F 1 rfl hj0 (by decide) rfl lk_X5_43 dX5_readNote_81 (fun w8 hw8 => ?_)
      have h := h w8 hw8
      exact z_vret F dX5_readNote_84 (by decide) h
    · have h := h.2 hc
      exact z_weak h (⟨rfl, trivial⟩)
set_option maxRecDepth 20000 in
theorem b_X5_readNote_13 {M : Mx} {G : Gx} {kk : Nat} {w : Wd}   {K : Option Value → Wd → Prop} {X : String → Wd → Prop} (F : Fx M G RX5 cX5_readNote 3 none kk 0) (hk : 3 ≤ kk)
    (h : Con (mL M) G 1 0 yX8_fail cX8_fail 3 none w [.ref (G.2.1 1 0), .int 3, .int (w.1 1 0 4)] (fun r w2 => r = none ∧ K none w2) X) :
    Z M G 0 K X w 13 [none, some (.ref (G.2.1 1 0)), none] [] := by
  refine z_aload_n F dX5_readNote_13 rfl ?_
  refine z_iconst F 3 dX5_readNote_14 (by decide) ?_
  refine z_aload_n F dX5_readNote_15 rfl ?_
  refine z_getI F 4 rfl (by decide) (by decide) rfl lk_X5_86 dX5_readNote_16 ?_
  refine z_callV F (k' := 1) (mc' := 0) [.int 3, .int (w.1 1 0 4)] [] dX5_readNote_19 rfl rfl (by decide) rfl cl_X5_89 hy_X8_fail (by omega) (by decide) (by decide) (Nat.le_of_ble_eq_true rfl) rfl (con_mono h ?_ (fun _ _ h => h))
  rintro _ w2 ⟨rfl, h⟩
  show Z M G 0 K X w2 22 [none, some (.ref (G.2.1 1 0)), none] []
  exact z_vret F dX5_readNote_22 (by decide) h
set_option maxRecDepth 20000 in
theorem e_X5_readLike {l : Launch} {G : Gx} {w : Wd} {j0 : Nat} (hj0 : j0 < cnt 7) {p1 : Int32} {K : Option Value → Wd → Prop} {X : String → Wd → Prop} (hl : l.stackTraces = false)
    (h : ∀ (M : Mx) (kk : Nat), mL M = l → 3 ≤ kk → Fx M G RX5 cX5_readLike 3 none kk 0 → ((p1 = 0 → Z M G 0 K X w 13 [none, some (.ref (G.2.1 1 0)), none] []) ∧ (¬ (p1 = 0) → (((w.1 7 j0 2) < 12 → Con (mL M) G 2 0 yX8_figure cX8_figure 4 (some .int) w [.ref (G.2.1 1 0), .int 0, .int ((w.1 7 j0 1) - (1 : Int32))] (fun r w2 => ∃ v1 : Int32, r = some (.int v1) ∧ (vp_in (w.1 7 j0 2) 12 ∧ ∀ w3 : Wd, w3 = setI w2 31 j0 ((w.1 7 j0 2 : Int32).toNatClampNeg) v1 → Con (mL M) G 2 0 yX8_figure cX8_figure 4 (some .int) w3 [.ref (G.2.1 1 0), .int 0, .int 5] (fun r w5 => ∃ v4 : Int32, r = some (.int v4) ∧ (vp_in (w3.1 7 j0 2) 12 ∧ ∀ w6 : Wd, w6 = setI w5 32 j0 ((w3.1 7 j0 2 : Int32).toNatClampNeg) v4 → (vp_in (w6.1 7 j0 2) 12 ∧ (vp_in (w6.1 31 j0 ((w6.1 7 j0 2 : Int32).toNatClampNeg)) 20 ∧ (vp_in (w6.1 7 j0 2) 12 ∧ (vp_in (w6.1 31 j0 ((w6.1 7 j0 2 : Int32).toNatClampNeg)) 20 ∧ ∀ w7 : Wd, w7 = setI w6 30 j0 ((w6.1 31 j0 ((w6.1 7 j0 2 : Int32).toNatClampNeg) : Int32).toNatClampNeg) ((w6.1 30 j0 ((w6.1 31 j0 ((w6.1 7 j0 2 : Int32).toNatClampNeg) : Int32).toNatClampNeg)) ||| ((1 : Int32) <<< ((w6.1 32 j0 ((w6.1 7 j0 2 : Int32).toNatClampNeg)) &&& 31))) → (∀ w8 : Wd, w8 = setI w7 7 j0 2 ((w7.1 7 j0 2) + (1 : Int32)) → K none w8))))))) X)) X) ∧ (¬ ((w.1 7 j0 2) < 12) → Z M G 0 K X w 13 [none, some (.ref (G.2.1 1 0)), none] []))))) :
    Con l G 3 0 yX5_readLike cX5_readLike 3 none w [.ref (G.2.1 7 j0), .ref (G.2.1 1 0), .int p1] K X := by
  refine con_intro hl (by decide +kernel) (Nat.le_of_ble_eq_true rfl) (Nat.le_of_ble_eq_true rfl) (fun M kk hM hk F => ?_)
  have h := h M kk hM hk F
  show Z M G 0 K X w 0 [some (.ref (G.2.1 7 j0)), some (.ref (G.2.1 1 0)), some (.int p1)] []
  refine z_iload_n F dX5_readLike_0 rfl ?_
  refine z_if_eq F 13 dX5_readLike_1 (by decide) ⟨fun hc => ?_, fun hc => ?_⟩
  · have h := h.1 hc
    exact z_weak h (⟨rfl, trivial⟩)
  · have h := h.2 hc
    refine z_aload_n F dX5_readLike_4 rfl ?_
    refine z_getI F 2 rfl hj0 (by decide) rfl lk_X5_46 dX5_readLike_5 ?_
    refine z_bipush F 12 dX5_readLike_8 (by decide) ?_
    refine z_icmp_lt F 23 dX5_readLike_10 (by decide) ⟨fun hc => ?_, fun hc => ?_⟩
    · have h := h.1 hc
      refine z_aload_n F dX5_readLike_23 rfl ?_
      refine z_getR F 10 31 j0 rfl hj0 (by decide) rfl rfl rfl lk_X5_34 dX5_readLike_24 ?_
      refine z_aload_n F dX5_readLike_27 rfl ?_
      refine z_getI F 2 rfl hj0 (by decide) rfl lk_X5_46 dX5_readLike_28 ?_
      refine z_aload_n F dX5_readLike_31 rfl ?_
      refine z_iconst F 0 dX5_readLike_32 (by decide) ?_
      refine z_aload_n F dX5_readLike_33 rfl ?_
      refine z_getI F 1 rfl hj0 (by decide) rfl lk_X5_43 dX5_readLike_34 ?_
      refine z_iconst F 1 dX5_readLike_37 (by decide) ?_
      refine z_isub F dX5_readLike_38 ?_
      refine z_callV F (k' := 2) (mc' := 0) [.int 0, .int ((w.1 7 j0 1) - (1 : Int32))] [.int (w.1 7 j0 2), .ref (G.2.1 31 j0)] dX5_readLike_39 rfl rfl (by decide) rfl cl_X5_97 hy_X8_figure (by omega) (by decide) (by decide) (Nat.le_of_ble_eq_true rfl) rfl (con_mono h ?_ (fun _ _ h => h))
      rintro _ w2 ⟨v1, rfl, h⟩
      show Z M G 0 K X w2 42 [some (.ref (G.2.1 7 j0)), some (.ref (G.2.1 1 0)), some (.int p1)] [.int v1, .int (w.1 7 j0 2), .ref (G.2.1 31 j0)]
      obtain ⟨hb, h⟩ := h
      refine z_iastW F ((w.1 7 j0 2 : Int32).toNatClampNeg) rfl rfl (fix_lt 7 j0 10 hj0 (by decide) rfl rfl) hb dX5_readLike_42 (fun w3 hw3 => ?_)
      have h := h w3 hw3
      refine z_aload_n F dX5_readLike_43 rfl ?_
      refine z_getR F 11 32 j0 rfl hj0 (by decide) rfl rfl rfl lk_X5_37 dX5_readLike_44 ?_
      refine z_aload_n F dX5_readLike_47 rfl ?_
      refine z_getI F 2 rfl hj0 (by decide) rfl lk_X5_46 dX5_readLike_48 ?_
      refine z_aload_n F dX5_readLike_51 rfl ?_
      refine z_iconst F 0 dX5_readLike_52 (by decide) ?_
      refine z_iconst F 5 dX5_readLike_53 (by decide) ?_
      refine z_callV F (k' := 2) (mc' := 0) [.int 0, .int 5] [.int (w3.1 7 j0 2), .ref (G.2.1 32 j0)] dX5_readLike_54 rfl rfl (by decide) rfl cl_X5_97 hy_X8_figure (by omega) (by decide) (by decide) (Nat.le_of_ble_eq_true rfl) rfl (con_mono h ?_ (fun _ _ h => h))
      rintro _ w5 ⟨v4, rfl, h⟩
      show Z M G 0 K X w5 57 [some (.ref (G.2.1 7 j0)), some (.ref (G.2.1 1 0)), some (.int p1)] [.int v4, .int (w3.1 7 j0 2), .ref (G.2.1 32 j0)]
      obtain ⟨hb, h⟩ := h
      refine z_iastW F ((w3.1 7 j0 2 : Int32).toNatClampNeg) rfl rfl (fix_lt 7 j0 11 hj0 (by decide) rfl rfl) hb dX5_readLike_57 (fun w6 hw6 => ?_)
      have h := h w6 hw6
      refine z_aload_n F dX5_readLike_58 rfl ?_
      refine z_getR F 9 30 j0 rfl hj0 (by decide) rfl rfl rfl lk_X5_31 dX5_readLike_59 ?_
      refine z_aload_n F dX5_readLike_62 rfl ?_
      refine z_getR F 10 31 j0 rfl hj0 (by decide) rfl rfl rfl lk_X5_34 dX5_readLike_63 ?_
      refine z_aload_n F dX5_readLike_66 rfl ?_
      refine z_getI F 2 rfl hj0 (by decide) rfl lk_X5_46 dX5_readLike_67 ?_
      obtain ⟨hb, h⟩ := h
      refine z_ialdK F ((w6.1 7 j0 2 : Int32).toNatClampNeg) rfl rfl (fix_lt 7 j0 10 hj0 (by decide) rfl rfl) hb dX5_readLike_70 ?_
      refine z_dup2 F dX5_readLike_71 rfl rfl ?_
      obtain ⟨hb, h⟩ := h
      refine z_ialdK F ((w6.1 31 j0 ((w6.1 7 j0 2 : Int32).toNatClampNeg) : Int32).toNatClampNeg) rfl rfl (fix_lt 7 j0 9 hj0 (by decide) rfl rfl) hb dX5_readLike_72 ?_
      refine z_iconst F 1 dX5_readLike_73 (by decide) ?_
      refine z_aload_n F dX5_readLike_74 rfl ?_
      refine z_getR F 11 32 j0 rfl hj0 (by decide) rfl rfl rfl lk_X5_37 dX5_readLike_75 ?_
      refine z_aload_n F dX5_readLike_78 rfl ?_
      refine z_getI F 2 rfl hj0 (by decide) rfl lk_X5_46 dX5_readLike_79 ?_
      obtain ⟨hb, h⟩ := h
      refine z_ialdK F ((w6.1 7 j0 2 : Int32).toNatClampNeg) rfl rfl (fix_lt 7 j0 11 hj0 (by decide) rfl rfl) hb dX5_readLike_82 ?_
      refine z_ishl F dX5_readLike_83 ?_
      refine z_ior F dX5_readLike_84 ?_
      obtain ⟨hb, h⟩ := h
      refine z_iastW F ((w6.1 31 j0 ((w6.1 7 j0 2 : Int32).toNatClampNeg) : Int32).toNatClampNeg) rfl rfl (fix_lt 7 j0 9 hj0 (by decide) rfl rfl) hb dX5_readLike_85 (fun w7 hw7 => ?_)
      have h := h w7 hw7
      refine z_aload_n F dX5_readLike_86 rfl ?_
      refine z_dup F dX5_readLike_87 rfl ?_
      refine z_getI F 2 rfl hj0 (by decide) rfl lk_X5_46 dX5_readLike_88 ?_
      refine z_iconst F 1 dX5_readLike_91 (by decide) ?_
      refine z_iadd F dX5_readLike_92 ?_
      refine z_putIW F 2 rfl hj0 (by decide) rfl lk_X5_46 dX5_readLike_93 (fun w8 hw8 => ?_)
      have h := h w8 hw8
      exact z_vret F dX5_readLike_96 (by decide) h
    · have h := h.2 hc
      exact z_weak h (⟨rfl, trivial⟩)
set_option maxRecDepth 20000 in
theorem b_X5_readLike_13 {M : Mx} {G : Gx} {kk : Nat} {w : Wd}   {K : Option Value → Wd → Prop} {X : String → Wd → Prop} (F : Fx M G RX5 cX5_readLike 3 none kk 0) (hk : 3 ≤ kk)
    (h : Con (mL M) G 1 0 yX8_fail cX8_fail 3 none w [.ref (G.2.1 1 0), .int 3, .int (w.1 1 0 4)] (fun r w2 => r = none ∧ K none w2) X) :
    Z M G 0 K X w 13 [none, some (.ref (G.2.1 1 0)), none] [] := by
  refine z_aload_n F dX5_readLike_13 rfl ?_
  refine z_iconst F 3 dX5_readLike_14 (by decide) ?_
  refine z_aload_n F dX5_readLike_15 rfl ?_
  refine z_getI F 4 rfl (by decide) (by decide) rfl lk_X5_86 dX5_readLike_16 ?_
  refine z_callV F (k' := 1) (mc' := 0) [.int 3, .int (w.1 1 0 4)] [] dX5_readLike_19 rfl rfl (by decide) rfl cl_X5_89 hy_X8_fail (by omega) (by decide) (by decide) (Nat.le_of_ble_eq_true rfl) rfl (con_mono h ?_ (fun _ _ h => h))
  rintro _ w2 ⟨rfl, h⟩
  show Z M G 0 K X w2 22 [none, some (.ref (G.2.1 1 0)), none] []
  exact z_vret F dX5_readLike_22 (by decide) h
set_option maxRecDepth 20000 in
theorem e_X5_readRest {l : Launch} {G : Gx} {w : Wd} {j0 : Nat} (hj0 : j0 < cnt 7) {p1 : Int32} {K : Option Value → Wd → Prop} {X : String → Wd → Prop} (hl : l.stackTraces = false)
    (h : ∀ (M : Mx) (kk : Nat), mL M = l → 3 ≤ kk → Fx M G RX5 cX5_readRest 3 none kk 0 → ((¬ p1 = 0 → Con (mL M) G 2 0 yX8_figure cX8_figure 4 (some .int) w [.ref (G.2.1 1 0), .int 0, .int 30] (fun r w2 => ∃ v1 : Int32, r = some (.int v1) ∧ (∀ w3 : Wd, w3 = setI w2 7 j0 3 v1 → K none w3)) X) ∧ (¬ (¬ p1 = 0) → Con (mL M) G 1 0 yX8_fail cX8_fail 3 none w [.ref (G.2.1 1 0), .int 3, .int (w.1 1 0 4)] (fun r w5 => r = none ∧ K none w5) X))) :
    Con l G 3 0 yX5_readRest cX5_readRest 3 none w [.ref (G.2.1 7 j0), .ref (G.2.1 1 0), .int p1] K X := by
  refine con_intro hl (by decide +kernel) (Nat.le_of_ble_eq_true rfl) (Nat.le_of_ble_eq_true rfl) (fun M kk hM hk F => ?_)
  have h := h M kk hM hk F
  show Z M G 0 K X w 0 [some (.ref (G.2.1 7 j0)), some (.ref (G.2.1 1 0)), some (.int p1)] []
  refine z_iload_n F dX5_readRest_0 rfl ?_
  refine z_if_ne F 14 dX5_readRest_1 (by decide) ⟨fun hc => ?_, fun hc => ?_⟩
  · have h := h.1 hc
    refine z_aload_n F dX5_readRest_14 rfl ?_
    refine z_aload_n F dX5_readRest_15 rfl ?_
    refine z_iconst F 0 dX5_readRest_16 (by decide) ?_
    refine z_bipush F 30 dX5_readRest_17 (by decide) ?_
    refine z_callV F (k' := 2) (mc' := 0) [.int 0, .int 30] [.ref (G.2.1 7 j0)] dX5_readRest_19 rfl rfl (by decide) rfl cl_X5_97 hy_X8_figure (by omega) (by decide) (by decide) (Nat.le_of_ble_eq_true rfl) rfl (con_mono h ?_ (fun _ _ h => h))
    rintro _ w2 ⟨v1, rfl, h⟩
    show Z M G 0 K X w2 22 [some (.ref (G.2.1 7 j0)), some (.ref (G.2.1 1 0)), some (.int p1)] [.int v1, .ref (G.2.1 7 j0)]
    refine z_putIW F 3 rfl hj0 (by decide) rfl lk_X5_9 dX5_readRest_22 (fun w3 hw3 => ?_)
    have h := h w3 hw3
    exact z_vret F dX5_readRest_25 (by decide) h
  · have h := h.2 hc
    refine z_aload_n F dX5_readRest_4 rfl ?_
    refine z_iconst F 3 dX5_readRest_5 (by decide) ?_
    refine z_aload_n F dX5_readRest_6 rfl ?_
    refine z_getI F 4 rfl (by decide) (by decide) rfl lk_X5_86 dX5_readRest_7 ?_
    refine z_callV F (k' := 1) (mc' := 0) [.int 3, .int (w.1 1 0 4)] [] dX5_readRest_10 rfl rfl (by decide) rfl cl_X5_89 hy_X8_fail (by omega) (by decide) (by decide) (Nat.le_of_ble_eq_true rfl) rfl (con_mono h ?_ (fun _ _ h => h))
    rintro _ w5 ⟨rfl, h⟩
    show Z M G 0 K X w5 13 [some (.ref (G.2.1 7 j0)), some (.ref (G.2.1 1 0)), some (.int p1)] []
    exact z_vret F dX5_readRest_13 (by decide) h
