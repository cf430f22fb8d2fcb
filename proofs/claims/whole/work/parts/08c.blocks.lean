set_option maxRecDepth 20000 in
theorem e_X9_feed {l : Launch} {G : Gx} {w : Wd} {p0 : Int32} {p1 : Int32} {p2 : Int32} {p3 : Int32} {p4 : Int32} {K : Option Value → Wd → Prop} {X : String → Wd → Prop} (hl : l.stackTraces = false)
    (h : ∀ (M : Mx) (kk : Nat), mL M = l → 2 ≤ kk → Fx M G RX9 cX9_feed 6 (some .int) kk 0 → ((((w.1 1 0 0) + (20 : Int32)) ≤ 600 → Con (mL M) G 1 0 yX8_add cX8_add 3 none w [.ref (G.2.1 1 0), .int p0] (fun r w2 => r = none ∧ Con (mL M) G 1 0 yX8_add cX8_add 3 none w2 [.ref (G.2.1 1 0), .int p1] (fun r w4 => r = none ∧ Con (mL M) G 1 0 yX8_add cX8_add 3 none w4 [.ref (G.2.1 1 0), .int p2] (fun r w6 => r = none ∧ Con (mL M) G 1 0 yX8_add cX8_add 3 none w6 [.ref (G.2.1 1 0), .int p3] (fun r w8 => r = none ∧ Con (mL M) G 1 0 yX8_add cX8_add 3 none w8 [.ref (G.2.1 1 0), .int p4] (fun r w10 => r = none ∧ K (some (.int (w10.1 1 0 0))) w10) X) X) X) X) X) ∧ (¬ (((w.1 1 0 0) + (20 : Int32)) ≤ 600) → K (some (.int (-1))) w))) :
    Con l G 2 0 yX9_feed cX9_feed 6 (some .int) w [.ref (G.2.1 0 0), .int p0, .int p1, .int p2, .int p3, .int p4] K X := by
  refine con_intro hl (by decide +kernel) (Nat.le_of_ble_eq_true rfl) (Nat.le_of_ble_eq_true rfl) (fun M kk hM hk F => ?_)
  have h := h M kk hM hk F
  show Z M G 0 K X w 0 [some (.ref (G.2.1 0 0)), some (.int p0), some (.int p1), some (.int p2), some (.int p3), some (.int p4)] []
  refine z_aload_n F dX9_feed_0 rfl ?_
  refine z_getR F 0 1 0 rfl (by decide) (by decide) rfl rfl rfl lk_X9_10 dX9_feed_1 ?_
  refine z_getI F 0 rfl (by decide) (by decide) rfl lk_X9_83 dX9_feed_4 ?_
  refine z_bipush F 20 dX9_feed_7 (by decide) ?_
  refine z_iadd F dX9_feed_9 ?_
  refine z_sipush F 600 dX9_feed_10 (by decide) ?_
  refine z_icmp_le F 18 dX9_feed_13 (by decide) ⟨fun hc => ?_, fun hc => ?_⟩
  · have h := h.1 hc
    refine z_aload_n F dX9_feed_18 rfl ?_
    refine z_getR F 0 1 0 rfl (by decide) (by decide) rfl rfl rfl lk_X9_10 dX9_feed_19 ?_
    refine z_iload_n F dX9_feed_22 rfl ?_
    refine z_callV F (k' := 1) (mc' := 0) [.int p0] [] dX9_feed_23 rfl rfl (by decide) rfl cl_X9_87 hy_X8_add (by omega) (by decide) (by decide) (Nat.le_of_ble_eq_true rfl) rfl (con_mono h ?_ (fun _ _ h => h))
    rintro _ w2 ⟨rfl, h⟩
    show Z M G 0 K X w2 26 [some (.ref (G.2.1 0 0)), some (.int p0), some (.int p1), some (.int p2), some (.int p3), some (.int p4)] []
    refine z_aload_n F dX9_feed_26 rfl ?_
    refine z_getR F 0 1 0 rfl (by decide) (by decide) rfl rfl rfl lk_X9_10 dX9_feed_27 ?_
    refine z_iload_n F dX9_feed_30 rfl ?_
    refine z_callV F (k' := 1) (mc' := 0) [.int p1] [] dX9_feed_31 rfl rfl (by decide) rfl cl_X9_87 hy_X8_add (by omega) (by decide) (by decide) (Nat.le_of_ble_eq_true rfl) rfl (con_mono h ?_ (fun _ _ h => h))
    rintro _ w4 ⟨rfl, h⟩
    show Z M G 0 K X w4 34 [some (.ref (G.2.1 0 0)), some (.int p0), some (.int p1), some (.int p2), some (.int p3), some (.int p4)] []
    refine z_aload_n F dX9_feed_34 rfl ?_
    refine z_getR F 0 1 0 rfl (by decide) (by decide) rfl rfl rfl lk_X9_10 dX9_feed_35 ?_
    refine z_iload_n F dX9_feed_38 rfl ?_
    refine z_callV F (k' := 1) (mc' := 0) [.int p2] [] dX9_feed_39 rfl rfl (by decide) rfl cl_X9_87 hy_X8_add (by omega) (by decide) (by decide) (Nat.le_of_ble_eq_true rfl) rfl (con_mono h ?_ (fun _ _ h => h))
    rintro _ w6 ⟨rfl, h⟩
    show Z M G 0 K X w6 42 [some (.ref (G.2.1 0 0)), some (.int p0), some (.int p1), some (.int p2), some (.int p3), some (.int p4)] []
    refine z_aload_n F dX9_feed_42 rfl ?_
    refine z_getR F 0 1 0 rfl (by decide) (by decide) rfl rfl rfl lk_X9_10 dX9_feed_43 ?_
    refine z_iload F dX9_feed_46 rfl ?_
    refine z_callV F (k' := 1) (mc' := 0) [.int p3] [] dX9_feed_48 rfl rfl (by decide) rfl cl_X9_87 hy_X8_add (by omega) (by decide) (by decide) (Nat.le_of_ble_eq_true rfl) rfl (con_mono h ?_ (fun _ _ h => h))
    rintro _ w8 ⟨rfl, h⟩
    show Z M G 0 K X w8 51 [some (.ref (G.2.1 0 0)), some (.int p0), some (.int p1), some (.int p2), some (.int p3), some (.int p4)] []
    refine z_aload_n F dX9_feed_51 rfl ?_
    refine z_getR F 0 1 0 rfl (by decide) (by decide) rfl rfl rfl lk_X9_10 dX9_feed_52 ?_
    refine z_iload F dX9_feed_55 rfl ?_
    refine z_callV F (k' := 1) (mc' := 0) [.int p4] [] dX9_feed_57 rfl rfl (by decide) rfl cl_X9_87 hy_X8_add (by omega) (by decide) (by decide) (Nat.le_of_ble_eq_true rfl) rfl (con_mono h ?_ (fun _ _ h => h))
    rintro _ w10 ⟨rfl, h⟩
    show Z M G 0 K X w10 60 [some (.ref (G.2.1 0 0)), some (.int p0), some (.int p1), some (.int p2), some (.int p3), some (.int p4)] []
    refine z_aload_n F dX9_feed_60 rfl ?_
    refine z_getR F 0 1 0 rfl (by decide) (by decide) rfl rfl rfl lk_X9_10 dX9_feed_61 ?_
    refine z_getI F 0 rfl (by decide) (by decide) rfl lk_X9_83 dX9_feed_64 ?_
    exact z_iret F dX9_feed_67 (by decide) h
  · have h := h.2 hc
    refine z_iconst F (-1) dX9_feed_16 (by decide) ?_
    exact z_iret F dX9_feed_17 (by decide) h
set_option maxRecDepth 20000 in
theorem e_X9_choir {l : Launch} {G : Gx} {w : Wd} {p0 : Int32} {K : Option Value → Wd → Prop} {X : String → Wd → Prop} (hl : l.stackTraces = false)
    (h : ∀ (M : Mx) (kk : Nat), mL M = l → 10 ≤ kk → Fx M G RX9 cX9_choir 3 (some .int) kk 1 → Con (mL M) G 7 1 yX9_openText cX9_openText 3 none w [.ref (G.2.1 0 0), .int p0, .int 600] (fun r w2 => r = none ∧ Con (mL M) G 9 0 yX5_read cX5_read 3 none w2 [.ref (G.2.1 7 (w2.2.2 0 0 8)), .ref (G.2.1 1 0)] (fun r w5 => r = none ∧ Con (mL M) G 1 0 yX8_fine cX8_fine 1 (some .boolean) w5 [.ref (G.2.1 1 0)] (fun r w7 => ∃ v6 : Int32, r = some (.int v6) ∧ ((¬ v6 = 0 → (∀ w10 : Wd, w10 = setP w7 2 0 0 (w7.2.2 0 0 8) → (∀ w11 : Wd, w11 = setP w10 0 0 8 (w7.2.2 2 0 0) → Con (mL M) G 5 0 yX9_beginAnew cX9_beginAnew 1 none w11 [.ref (G.2.1 0 0)] (fun r w13 => r = none ∧ K (some (.int (w13.1 7 (w13.2.2 2 0 0) 0))) w13) X))) ∧ (¬ (¬ v6 = 0) → K (some (.int ((w7.1 1 0 1) - (10 : Int32)))) w7))) X) X) X) :
    Con l G 10 1 yX9_choir cX9_choir 3 (some .int) w [.ref (G.2.1 0 0), .int p0] K X := by
  refine con_intro hl (by decide +kernel) (Nat.le_of_ble_eq_true rfl) (Nat.le_of_ble_eq_true rfl) (fun M kk hM hk F => ?_)
  have h := h M kk hM hk F
  show Z M G 0 K X w 0 [some (.ref (G.2.1 0 0)), some (.int p0), none] []
  refine z_aload_n F dX9_choir_0 rfl ?_
  refine z_iload_n F dX9_choir_1 rfl ?_
  refine z_sipush F 600 dX9_choir_2 (by decide) ?_
  refine z_callV F (k' := 7) (mc' := 1) [.int p0, .int 600] [] dX9_choir_5 rfl rfl (by decide) rfl cl_X9_91 hy_X9_openText (by omega) (by decide) (by decide) (Nat.le_of_ble_eq_true rfl) rfl (con_mono h ?_ (fun _ _ h => h))
  rintro _ w2 ⟨rfl, h⟩
  show Z M G 1 K X w2 8 [some (.ref (G.2.1 0 0)), some (.int p0), none] []
  refine z_aload_n F dX9_choir_8 rfl ?_
  refine z_getD F 8 7 rfl (by decide) (by decide) rfl rfl lk_X9_62 dX9_choir_9 (fun hv3 => ?_)
  refine z_aload_n F dX9_choir_12 rfl ?_
  refine z_getR F 0 1 0 rfl (by decide) (by decide) rfl rfl rfl lk_X9_10 dX9_choir_13 ?_
  refine z_callV F (k' := 9) (mc' := 0) [.ref (G.2.1 1 0)] [] dX9_choir_16 rfl rfl hv3 rfl cl_X9_95 hy_X5_read (by omega) (by decide) (by decide) (Nat.le_of_ble_eq_true rfl) rfl (con_mono h ?_ (fun _ _ h => h))
  rintro _ w5 ⟨rfl, h⟩
  show Z M G 1 K X w5 19 [some (.ref (G.2.1 0 0)), some (.int p0), none] []
  refine z_aload_n F dX9_choir_19 rfl ?_
  refine z_getR F 0 1 0 rfl (by decide) (by decide) rfl rfl rfl lk_X9_10 dX9_choir_20 ?_
  refine z_callV F (k' := 1) (mc' := 0) [] [] dX9_choir_23 rfl rfl (by decide) rfl cl_X9_99 hy_X8_fine (by omega) (by decide) (by decide) (Nat.le_of_ble_eq_true rfl) rfl (con_mono h ?_ (fun _ _ h => h))
  rintro _ w7 ⟨v6, rfl, h⟩
  show Z M G 1 K X w7 26 [some (.ref (G.2.1 0 0)), some (.int p0), none] [.int v6]
  refine z_if_ne F 40 dX9_choir_26 (by decide) ⟨fun hc => ?_, fun hc => ?_⟩
  · have h := h.1 hc
    refine z_aload_n F dX9_choir_40 rfl ?_
    refine z_getR F 1 2 0 rfl (by decide) (by decide) rfl rfl rfl lk_X9_19 dX9_choir_41 ?_
    refine z_getD F 0 7 rfl (by decide) (by decide) rfl rfl lk_X9_106 dX9_choir_44 (fun hv8 => ?_)
    refine z_astore_n F dX9_choir_47 (Nat.le_of_ble_eq_true rfl) ?_
    refine z_aload_n F dX9_choir_48 rfl ?_
    refine z_getR F 1 2 0 rfl (by decide) (by decide) rfl rfl rfl lk_X9_19 dX9_choir_49 ?_
    refine z_aload_n F dX9_choir_52 rfl ?_
    refine z_getD F 8 7 rfl (by decide) (by decide) rfl rfl lk_X9_62 dX9_choir_53 (fun hv9 => ?_)
    refine z_putDW F 0 7 "VowelChoir$Roll" rfl (by decide) (by decide) rfl rfl hv9 (by decide +kernel) rfl lk_X9_106 dX9_choir_56 (fun w10 hw10 => ?_)
    have h := h w10 hw10
    refine z_aload_n F dX9_choir_59 rfl ?_
    refine z_aload_n F dX9_choir_60 rfl ?_
    refine z_putDW F 8 7 "VowelChoir$Roll" rfl (by decide) (by decide) rfl rfl hv8 (by decide +kernel) rfl lk_X9_62 dX9_choir_61 (fun w11 hw11 => ?_)
    have h := h w11 hw11
    refine z_aload_n F dX9_choir_64 rfl ?_
    refine z_callV F (k' := 5) (mc' := 0) [] [] dX9_choir_65 rfl rfl (by decide) rfl cl_X9_109 hy_X9_beginAnew (by omega) (by decide) (by decide) (Nat.le_of_ble_eq_true rfl) rfl (con_mono h ?_ (fun _ _ h => h))
    rintro _ w13 ⟨rfl, h⟩
    show Z M G 1 K X w13 68 [some (.ref (G.2.1 0 0)), some (.int p0), some (.ref (G.2.1 7 (w7.2.2 2 0 0)))] []
    refine z_aload_n F dX9_choir_68 rfl ?_
    refine z_getR F 1 2 0 rfl (by decide) (by decide) rfl rfl rfl lk_X9_19 dX9_choir_69 ?_
    refine z_getD F 0 7 rfl (by decide) (by decide) rfl rfl lk_X9_106 dX9_choir_72 (fun hv14 => ?_)
    refine z_getI F 0 rfl hv14 (by decide) rfl lk_X9_112 dX9_choir_75 ?_
    exact z_iret F dX9_choir_78 (by decide) h
  · have h := h.2 hc
    refine z_aload_n F dX9_choir_29 rfl ?_
    refine z_getR F 0 1 0 rfl (by decide) (by decide) rfl rfl rfl lk_X9_10 dX9_choir_30 ?_
    refine z_getI F 1 rfl (by decide) (by decide) rfl lk_X9_103 dX9_choir_33 ?_
    refine z_bipush F 10 dX9_choir_36 (by decide) ?_
    refine z_isub F dX9_choir_38 ?_
    exact z_iret F dX9_choir_39 (by decide) h
set_option maxRecDepth 20000 in
theorem e_X9_law {l : Launch} {G : Gx} {w : Wd} {p0 : Int32} {K : Option Value → Wd → Prop} {X : String → Wd → Prop} (hl : l.stackTraces = false)
    (h : ∀ (M : Mx) (kk : Nat), mL M = l → 51 ≤ kk → Fx M G RX9 cX9_law 3 (some .int) kk 1 → Con (mL M) G 7 1 yX9_openText cX9_openText 3 none w [.ref (G.2.1 0 0), .int p0, .int 150] (fun r w2 => r = none ∧ Con (mL M) G 50 0 yX2_read cX2_read 2 none w2 [.ref (G.2.1 8 (w2.2.2 0 0 9)), .ref (G.2.1 1 0)] (fun r w5 => r = none ∧ Con (mL M) G 1 0 yX8_fine cX8_fine 1 (some .boolean) w5 [.ref (G.2.1 1 0)] (fun r w7 => ∃ v6 : Int32, r = some (.int v6) ∧ ((¬ v6 = 0 → (∀ w10 : Wd, w10 = setP w7 2 0 1 (w7.2.2 0 0 9) → (∀ w11 : Wd, w11 = setP w10 0 0 9 (w7.2.2 2 0 1) → K (some (.int 1)) w11))) ∧ (¬ (¬ v6 = 0) → K (some (.int ((w7.1 1 0 1) - (10 : Int32)))) w7))) X) X) X) :
    Con l G 51 1 yX9_law cX9_law 3 (some .int) w [.ref (G.2.1 0 0), .int p0] K X := by
  refine con_intro hl (by decide +kernel) (Nat.le_of_ble_eq_true rfl) (Nat.le_of_ble_eq_true rfl) (fun M kk hM hk F => ?_)
  have h := h M kk hM hk F
  show Z M G 0 K X w 0 [some (.ref (G.2.1 0 0)), some (.int p0), none] []
  refine z_aload_n F dX9_law_0 rfl ?_
  refine z_iload_n F dX9_law_1 rfl ?_
  refine z_sipush F 150 dX9_law_2 (by decide) ?_
  refine z_callV F (k' := 7) (mc' := 1) [.int p0, .int 150] [] dX9_law_5 rfl rfl (by decide) rfl cl_X9_91 hy_X9_openText (by omega) (by decide) (by decide) (Nat.le_of_ble_eq_true rfl) rfl (con_mono h ?_ (fun _ _ h => h))
  rintro _ w2 ⟨rfl, h⟩
  show Z M G 1 K X w2 8 [some (.ref (G.2.1 0 0)), some (.int p0), none] []
  refine z_aload_n F dX9_law_8 rfl ?_
  refine z_getD F 9 8 rfl (by decide) (by decide) rfl rfl lk_X9_69 dX9_law_9 (fun hv3 => ?_)
  refine z_aload_n F dX9_law_12 rfl ?_
  refine z_getR F 0 1 0 rfl (by decide) (by decide) rfl rfl rfl lk_X9_10 dX9_law_13 ?_
  refine z_callV F (k' := 50) (mc' := 0) [.ref (G.2.1 1 0)] [] dX9_law_16 rfl rfl hv3 rfl cl_X9_115 hy_X2_read (by omega) (by decide) (by decide) (Nat.le_of_ble_eq_true rfl) rfl (con_mono h ?_ (fun _ _ h => h))
  rintro _ w5 ⟨rfl, h⟩
  show Z M G 1 K X w5 19 [some (.ref (G.2.1 0 0)), some (.int p0), none] []
  refine z_aload_n F dX9_law_19 rfl ?_
  refine z_getR F 0 1 0 rfl (by decide) (by decide) rfl rfl rfl lk_X9_10 dX9_law_20 ?_
  refine z_callV F (k' := 1) (mc' := 0) [] [] dX9_law_23 rfl rfl (by decide) rfl cl_X9_99 hy_X8_fine (by omega) (by decide) (by decide) (Nat.le_of_ble_eq_true rfl) rfl (con_mono h ?_ (fun _ _ h => h))
  rintro _ w7 ⟨v6, rfl, h⟩
  show Z M G 1 K X w7 26 [some (.ref (G.2.1 0 0)), some (.int p0), none] [.int v6]
  refine z_if_ne F 40 dX9_law_26 (by decide) ⟨fun hc => ?_, fun hc => ?_⟩
  · have h := h.1 hc
    refine z_aload_n F dX9_law_40 rfl ?_
    refine z_getR F 1 2 0 rfl (by decide) (by decide) rfl rfl rfl lk_X9_19 dX9_law_41 ?_
    refine z_getD F 1 8 rfl (by decide) (by decide) rfl rfl lk_X9_116 dX9_law_44 (fun hv8 => ?_)
    refine z_astore_n F dX9_law_47 (Nat.le_of_ble_eq_true rfl) ?_
    refine z_aload_n F dX9_law_48 rfl ?_
    refine z_getR F 1 2 0 rfl (by decide) (by decide) rfl rfl rfl lk_X9_19 dX9_law_49 ?_
    refine z_aload_n F dX9_law_52 rfl ?_
    refine z_getD F 9 8 rfl (by decide) (by decide) rfl rfl lk_X9_69 dX9_law_53 (fun hv9 => ?_)
    refine z_putDW F 1 8 "VowelChoir$Law" rfl (by decide) (by decide) rfl rfl hv9 (by decide +kernel) rfl lk_X9_116 dX9_law_56 (fun w10 hw10 => ?_)
    have h := h w10 hw10
    refine z_aload_n F dX9_law_59 rfl ?_
    refine z_aload_n F dX9_law_60 rfl ?_
    refine z_putDW F 9 8 "VowelChoir$Law" rfl (by decide) (by decide) rfl rfl hv8 (by decide +kernel) rfl lk_X9_69 dX9_law_61 (fun w11 hw11 => ?_)
    have h := h w11 hw11
    refine z_iconst F 1 dX9_law_64 (by decide) ?_
    exact z_iret F dX9_law_65 (by decide) h
  · have h := h.2 hc
    refine z_aload_n F dX9_law_29 rfl ?_
    refine z_getR F 0 1 0 rfl (by decide) (by decide) rfl rfl rfl lk_X9_10 dX9_law_30 ?_
    refine z_getI F 1 rfl (by decide) (by decide) rfl lk_X9_103 dX9_law_33 ?_
    refine z_bipush F 10 dX9_law_36 (by decide) ?_
    refine z_isub F dX9_law_38 ?_
    exact z_iret F dX9_law_39 (by decide) h
set_option maxRecDepth 20000 in
theorem e_X9_work {l : Launch} {G : Gx} {w : Wd} {p0 : Int32} {K : Option Value → Wd → Prop} {X : String → Wd → Prop} (hl : l.stackTraces = false)
    (h : ∀ (M : Mx) (kk : Nat), mL M = l → 51 ≤ kk → Fx M G RX9 cX9_work 2 (some .int) kk 1 → Con (mL M) G 7 1 yX9_openText cX9_openText 3 none w [.ref (G.2.1 0 0), .int p0, .int 150] (fun r w2 => r = none ∧ (((w2.1 4 0 0) < 16 → Con (mL M) G 50 0 yX4_read cX4_read 3 none w2 [.ref (G.2.1 3 0), .ref (G.2.1 1 0), .ref (G.2.1 7 (w2.2.2 2 0 0))] (fun r w5 => r = none ∧ Con (mL M) G 1 0 yX8_fine cX8_fine 1 (some .boolean) w5 [.ref (G.2.1 1 0)] (fun r w7 => ∃ v6 : Int32, r = some (.int v6) ∧ ((¬ v6 = 0 → Con (mL M) G 4 0 yX3_keep cX3_keep 1 none w7 [.ref (G.2.1 4 0)] (fun r w9 => r = none ∧ Con (mL M) G 47 0 yX4_perform cX4_perform 7 none w9 [.ref (G.2.1 3 0), .ref (G.2.1 2 0), .ref (G.2.1 5 0), .int 0, .int (w9.1 3 0 0)] (fun r w11 => r = none ∧ (∀ w12 : Wd, w12 = setI w11 0 0 13 (w11.1 3 0 2) → K (some (.int (w12.1 3 0 1))) w12)) X) X) ∧ (¬ (¬ v6 = 0) → K (some (.int ((w7.1 1 0 1) - (10 : Int32)))) w7))) X) X) ∧ (¬ ((w2.1 4 0 0) < 16) → K (some (.int (-20))) w2))) X) :
    Con l G 51 1 yX9_work cX9_work 2 (some .int) w [.ref (G.2.1 0 0), .int p0] K X := by
  refine con_intro hl (by decide +kernel) (Nat.le_of_ble_eq_true rfl) (Nat.le_of_ble_eq_true rfl) (fun M kk hM hk F => ?_)
  have h := h M kk hM hk F
  show Z M G 0 K X w 0 [some (.ref (G.2.1 0 0)), some (.int p0)] []
  refine z_aload_n F dX9_work_0 rfl ?_
  refine z_iload_n F dX9_work_1 rfl ?_
  refine z_sipush F 150 dX9_work_2 (by decide) ?_
  refine z_callV F (k' := 7) (mc' := 1) [.int p0, .int 150] [] dX9_work_5 rfl rfl (by decide) rfl cl_X9_91 hy_X9_openText (by omega) (by decide) (by decide) (Nat.le_of_ble_eq_true rfl) rfl (con_mono h ?_ (fun _ _ h => h))
  rintro _ w2 ⟨rfl, h⟩
  show Z M G 1 K X w2 8 [some (.ref (G.2.1 0 0)), some (.int p0)] []
  refine z_aload_n F dX9_work_8 rfl ?_
  refine z_getR F 3 4 0 rfl (by decide) (by decide) rfl rfl rfl lk_X9_33 dX9_work_9 ?_
  refine z_getI F 0 rfl (by decide) (by decide) rfl lk_X9_119 dX9_work_12 ?_
  refine z_bipush F 16 dX9_work_15 (by decide) ?_
  refine z_icmp_lt F 23 dX9_work_17 (by decide) ⟨fun hc => ?_, fun hc => ?_⟩
  · have h := h.1 hc
    refine z_aload_n F dX9_work_23 rfl ?_
    refine z_getR F 2 3 0 rfl (by decide) (by decide) rfl rfl rfl lk_X9_26 dX9_work_24 ?_
    refine z_aload_n F dX9_work_27 rfl ?_
    refine z_getR F 0 1 0 rfl (by decide) (by decide) rfl rfl rfl lk_X9_10 dX9_work_28 ?_
    refine z_aload_n F dX9_work_31 rfl ?_
    refine z_getR F 1 2 0 rfl (by decide) (by decide) rfl rfl rfl lk_X9_19 dX9_work_32 ?_
    refine z_getD F 0 7 rfl (by decide) (by decide) rfl rfl lk_X9_106 dX9_work_35 (fun hv3 => ?_)
    refine z_callV F (k' := 50) (mc' := 0) [.ref (G.2.1 1 0), .ref (G.2.1 7 (w2.2.2 2 0 0))] [] dX9_work_38 rfl rfl (by decide) rfl cl_X9_122 hy_X4_read (by omega) (by decide) (by decide) (Nat.le_of_ble_eq_true rfl) rfl (con_mono h ?_ (fun _ _ h => h))
    rintro _ w5 ⟨rfl, h⟩
    show Z M G 1 K X w5 41 [some (.ref (G.2.1 0 0)), some (.int p0)] []
    refine z_aload_n F dX9_work_41 rfl ?_
    refine z_getR F 0 1 0 rfl (by decide) (by decide) rfl rfl rfl lk_X9_10 dX9_work_42 ?_
    refine z_callV F (k' := 1) (mc' := 0) [] [] dX9_work_45 rfl rfl (by decide) rfl cl_X9_99 hy_X8_fine (by omega) (by decide) (by decide) (Nat.le_of_ble_eq_true rfl) rfl (con_mono h ?_ (fun _ _ h => h))
    rintro _ w7 ⟨v6, rfl, h⟩
    show Z M G 1 K X w7 48 [some (.ref (G.2.1 0 0)), some (.int p0)] [.int v6]
    refine z_if_ne F 62 dX9_work_48 (by decide) ⟨fun hc => ?_, fun hc => ?_⟩
    · have h := h.1 hc
      refine z_aload_n F dX9_work_62 rfl ?_
      refine z_getR F 3 4 0 rfl (by decide) (by decide) rfl rfl rfl lk_X9_33 dX9_work_63 ?_
      refine z_callV F (k' := 4) (mc' := 0) [] [] dX9_work_66 rfl rfl (by decide) rfl cl_X9_125 hy_X3_keep (by omega) (by decide) (by decide) (Nat.le_of_ble_eq_true rfl) rfl (con_mono h ?_ (fun _ _ h => h))
      rintro _ w9 ⟨rfl, h⟩
      show Z M G 1 K X w9 69 [some (.ref (G.2.1 0 0)), some (.int p0)] []
      refine z_aload_n F dX9_work_69 rfl ?_
      refine z_getR F 2 3 0 rfl (by decide) (by decide) rfl rfl rfl lk_X9_26 dX9_work_70 ?_
      refine z_aload_n F dX9_work_73 rfl ?_
      refine z_getR F 1 2 0 rfl (by decide) (by decide) rfl rfl rfl lk_X9_19 dX9_work_74 ?_
      refine z_aload_n F dX9_work_77 rfl ?_
      refine z_getR F 3 4 0 rfl (by decide) (by decide) rfl rfl rfl lk_X9_33 dX9_work_78 ?_
      refine z_getR F 1 5 0 rfl (by decide) (by decide) rfl rfl rfl lk_X9_128 dX9_work_81 ?_
      refine z_iconst F 0 dX9_work_84 (by decide) ?_
      refine z_aload_n F dX9_work_85 rfl ?_
      refine z_getR F 2 3 0 rfl (by decide) (by decide) rfl rfl rfl lk_X9_26 dX9_work_86 ?_
      refine z_getI F 0 rfl (by decide) (by decide) rfl lk_X9_131 dX9_work_89 ?_
      refine z_callV F (k' := 47) (mc' := 0) [.ref (G.2.1 2 0), .ref (G.2.1 5 0), .int 0, .int (w9.1 3 0 0)] [] dX9_work_92 rfl rfl (by decide) rfl cl_X9_134 hy_X4_perform (by omega) (by decide) (by decide) (Nat.le_of_ble_eq_true rfl) rfl (con_mono h ?_ (fun _ _ h => h))
      rintro _ w11 ⟨rfl, h⟩
      show Z M G 1 K X w11 95 [some (.ref (G.2.1 0 0)), some (.int p0)] []
      refine z_aload_n F dX9_work_95 rfl ?_
      refine z_aload_n F dX9_work_96 rfl ?_
      refine z_getR F 2 3 0 rfl (by decide) (by decide) rfl rfl rfl lk_X9_26 dX9_work_97 ?_
      refine z_getI F 2 rfl (by decide) (by decide) rfl lk_X9_138 dX9_work_100 ?_
      refine z_putIW F 13 rfl (by decide) (by decide) rfl lk_X9_141 dX9_work_103 (fun w12 hw12 => ?_)
      have h := h w12 hw12
      refine z_aload_n F dX9_work_106 rfl ?_
      refine z_getR F 2 3 0 rfl (by decide) (by decide) rfl rfl rfl lk_X9_26 dX9_work_107 ?_
      refine z_getI F 1 rfl (by decide) (by decide) rfl lk_X9_144 dX9_work_110 ?_
      exact z_iret F dX9_work_113 (by decide) h
    · have h := h.2 hc
      refine z_aload_n F dX9_work_51 rfl ?_
      refine z_getR F 0 1 0 rfl (by decide) (by decide) rfl rfl rfl lk_X9_10 dX9_work_52 ?_
      refine z_getI F 1 rfl (by decide) (by decide) rfl lk_X9_103 dX9_work_55 ?_
      refine z_bipush F 10 dX9_work_58 (by decide) ?_
      refine z_isub F dX9_work_60 ?_
      exact z_iret F dX9_work_61 (by decide) h
  · have h := h.2 hc
    refine z_bipush F (-20) dX9_work_20 (by decide) ?_
    exact z_iret F dX9_work_22 (by decide) h
set_option maxRecDepth 20000 in
theorem e_X9_book {l : Launch} {G : Gx} {w : Wd} {p0 : Int32} {K : Option Value → Wd → Prop} {X : String → Wd → Prop} (hl : l.stackTraces = false)
    (h : ∀ (M : Mx) (kk : Nat), mL M = l → 8 ≤ kk → Fx M G RX9 cX9_book 3 (some .int) kk 1 → Con (mL M) G 7 1 yX9_openText cX9_openText 3 none w [.ref (G.2.1 0 0), .int p0, .int 60] (fun r w2 => r = none ∧ Con (mL M) G 3 0 yX1_read cX1_read 5 none w2 [.ref (G.2.1 9 (w2.2.2 0 0 11)), .ref (G.2.1 1 0), .int (w2.1 7 (w2.2.2 2 0 0) 1)] (fun r w6 => r = none ∧ Con (mL M) G 1 0 yX8_fine cX8_fine 1 (some .boolean) w6 [.ref (G.2.1 1 0)] (fun r w8 => ∃ v7 : Int32, r = some (.int v7) ∧ ((¬ v7 = 0 → (∀ w11 : Wd, w11 = setP w8 0 0 10 (w8.2.2 0 0 11) → (∀ w12 : Wd, w12 = setP w11 0 0 11 (w8.2.2 0 0 10) → Con (mL M) G 1 0 yJ6_bitCount_0f7a4 cJ6_bitCount_0f7a4 1 (some .int) w12 [.int (w12.1 9 (w12.2.2 0 0 10) 0)] (fun r w15 => ∃ v14 : Int32, r = some (.int v14) ∧ K (some (.int v14)) w15) X))) ∧ (¬ (¬ v7 = 0) → K (some (.int ((w8.1 1 0 1) - (10 : Int32)))) w8))) X) X) X) :
    Con l G 8 1 yX9_book cX9_book 3 (some .int) w [.ref (G.2.1 0 0), .int p0] K X := by
  refine con_intro hl (by decide +kernel) (Nat.le_of_ble_eq_true rfl) (Nat.le_of_ble_eq_true rfl) (fun M kk hM hk F => ?_)
  have h := h M kk hM hk F
  show Z M G 0 K X w 0 [some (.ref (G.2.1 0 0)), some (.int p0), none] []
  refine z_aload_n F dX9_book_0 rfl ?_
  refine z_iload_n F dX9_book_1 rfl ?_
  refine z_bipush F 60 dX9_book_2 (by decide) ?_
  refine z_callV F (k' := 7) (mc' := 1) [.int p0, .int 60] [] dX9_book_4 rfl rfl (by decide) rfl cl_X9_91 hy_X9_openText (by omega) (by decide) (by decide) (Nat.le_of_ble_eq_true rfl) rfl (con_mono h ?_ (fun _ _ h => h))
  rintro _ w2 ⟨rfl, h⟩
  show Z M G 1 K X w2 7 [some (.ref (G.2.1 0 0)), some (.int p0), none] []
  refine z_aload_n F dX9_book_7 rfl ?_
  refine z_getD F 11 9 rfl (by decide) (by decide) rfl rfl lk_X9_80 dX9_book_8 (fun hv3 => ?_)
  refine z_aload_n F dX9_book_11 rfl ?_
  refine z_getR F 0 1 0 rfl (by decide) (by decide) rfl rfl rfl lk_X9_10 dX9_book_12 ?_
  refine z_aload_n F dX9_book_15 rfl ?_
  refine z_getR F 1 2 0 rfl (by decide) (by decide) rfl rfl rfl lk_X9_19 dX9_book_16 ?_
  refine z_getD F 0 7 rfl (by decide) (by decide) rfl rfl lk_X9_106 dX9_book_19 (fun hv4 => ?_)
  refine z_getI F 1 rfl hv4 (by decide) rfl lk_X9_147 dX9_book_22 ?_
  refine z_callV F (k' := 3) (mc' := 0) [.ref (G.2.1 1 0), .int (w2.1 7 (w2.2.2 2 0 0) 1)] [] dX9_book_25 rfl rfl hv3 rfl cl_X9_150 hy_X1_read (by omega) (by decide) (by decide) (Nat.le_of_ble_eq_true rfl) rfl (con_mono h ?_ (fun _ _ h => h))
  rintro _ w6 ⟨rfl, h⟩
  show Z M G 1 K X w6 28 [some (.ref (G.2.1 0 0)), some (.int p0), none] []
  refine z_aload_n F dX9_book_28 rfl ?_
  refine z_getR F 0 1 0 rfl (by decide) (by decide) rfl rfl rfl lk_X9_10 dX9_book_29 ?_
  refine z_callV F (k' := 1) (mc' := 0) [] [] dX9_book_32 rfl rfl (by decide) rfl cl_X9_99 hy_X8_fine (by omega) (by decide) (by decide) (Nat.le_of_ble_eq_true rfl) rfl (con_mono h ?_ (fun _ _ h => h))
  rintro _ w8 ⟨v7, rfl, h⟩
  show Z M G 1 K X w8 35 [some (.ref (G.2.1 0 0)), some (.int p0), none] [.int v7]
  refine z_if_ne F 49 dX9_book_35 (by decide) ⟨fun hc => ?_, fun hc => ?_⟩
  · have h := h.1 hc
    refine z_aload_n F dX9_book_49 rfl ?_
    refine z_getD F 10 9 rfl (by decide) (by decide) rfl rfl lk_X9_76 dX9_book_50 (fun hv9 => ?_)
    refine z_astore_n F dX9_book_53 (Nat.le_of_ble_eq_true rfl) ?_
    refine z_aload_n F dX9_book_54 rfl ?_
    refine z_aload_n F dX9_book_55 rfl ?_
    refine z_getD F 11 9 rfl (by decide) (by decide) rfl rfl lk_X9_80 dX9_book_56 (fun hv10 => ?_)
    refine z_putDW F 10 9 "VowelChoir$Book" rfl (by decide) (by decide) rfl rfl hv10 (by decide +kernel) rfl lk_X9_76 dX9_book_59 (fun w11 hw11 => ?_)
    have h := h w11 hw11
    refine z_aload_n F dX9_book_62 rfl ?_
    refine z_aload_n F dX9_book_63 rfl ?_
    refine z_putDW F 11 9 "VowelChoir$Book" rfl (by decide) (by decide) rfl rfl hv9 (by decide +kernel) rfl lk_X9_80 dX9_book_64 (fun w12 hw12 => ?_)
    have h := h w12 hw12
    refine z_aload_n F dX9_book_67 rfl ?_
    refine z_getD F 10 9 rfl (by decide) (by decide) rfl rfl lk_X9_76 dX9_book_68 (fun hv13 => ?_)
    refine z_getI F 0 rfl hv13 (by decide) rfl lk_X9_153 dX9_book_71 ?_
    refine z_callS F (k' := 1) (mc' := 0) [.int (w12.1 9 (w12.2.2 0 0 10) 0)] [] dX9_book_74 rfl cl_X9_156 hy_J6_bitCount_0f7a4.2 (by omega) (by decide) (by decide) (Nat.le_of_ble_eq_true rfl) rfl (con_mono h ?_ (fun _ _ h => h))
    rintro _ w15 ⟨v14, rfl, h⟩
    show Z M G 1 K X w15 77 [some (.ref (G.2.1 0 0)), some (.int p0), some (.ref (G.2.1 9 (w8.2.2 0 0 10)))] [.int v14]
    exact z_iret F dX9_book_77 (by decide) h
  · have h := h.2 hc
    refine z_aload_n F dX9_book_38 rfl ?_
    refine z_getR F 0 1 0 rfl (by decide) (by decide) rfl rfl rfl lk_X9_10 dX9_book_39 ?_
    refine z_getI F 1 rfl (by decide) (by decide) rfl lk_X9_103 dX9_book_42 ?_
    refine z_bipush F 10 dX9_book_45 (by decide) ?_
    refine z_isub F dX9_book_47 ?_
    exact z_iret F dX9_book_48 (by decide) h
set_option maxRecDepth 20000 in
theorem e_X9_fault {l : Launch} {G : Gx} {w : Wd}  {K : Option Value → Wd → Prop} {X : String → Wd → Prop} (hl : l.stackTraces = false)
    (h : ∀ (M : Mx) (kk : Nat), mL M = l → 1 ≤ kk → Fx M G RX9 cX9_fault 1 (some .int) kk 0 → K (some (.int (w.1 1 0 2))) w) :
    Con l G 1 0 yX9_fault cX9_fault 1 (some .int) w [.ref (G.2.1 0 0)] K X := by
  refine con_intro hl (by decide +kernel) (Nat.le_of_ble_eq_true rfl) (Nat.le_of_ble_eq_true rfl) (fun M kk hM hk F => ?_)
  have h := h M kk hM hk F
  show Z M G 0 K X w 0 [some (.ref (G.2.1 0 0))] []
  refine z_aload_n F dX9_fault_0 rfl ?_
  refine z_getR F 0 1 0 rfl (by decide) (by decide) rfl rfl rfl lk_X9_10 dX9_fault_1 ?_
  refine z_getI F 2 rfl (by decide) (by decide) rfl lk_X9_162 dX9_fault_4 ?_
  exact z_iret F dX9_fault_7 (by decide) h
set_option maxRecDepth 20000 in
theorem e_X9_undo {l : Launch} {G : Gx} {w : Wd}  {K : Option Value → Wd → Prop} {X : String → Wd → Prop} (hl : l.stackTraces = false)
    (h : ∀ (M : Mx) (kk : Nat), mL M = l → 5 ≤ kk → Fx M G RX9 cX9_undo 1 (some .int) kk 0 → ((0 < (w.1 4 0 0) → Con (mL M) G 4 0 yX3_drop cX3_drop 1 none w [.ref (G.2.1 4 0)] (fun r w2 => r = none ∧ (∀ w3 : Wd, w3 = setI w2 0 0 13 0 → K (some (.int (w3.1 4 0 0))) w3)) X) ∧ (¬ (0 < (w.1 4 0 0)) → K (some (.int (-1))) w))) :
    Con l G 5 0 yX9_undo cX9_undo 1 (some .int) w [.ref (G.2.1 0 0)] K X := by
  refine con_intro hl (by decide +kernel) (Nat.le_of_ble_eq_true rfl) (Nat.le_of_ble_eq_true rfl) (fun M kk hM hk F => ?_)
  have h := h M kk hM hk F
  show Z M G 0 K X w 0 [some (.ref (G.2.1 0 0))] []
  refine z_aload_n F dX9_undo_0 rfl ?_
  refine z_getR F 3 4 0 rfl (by decide) (by decide) rfl rfl rfl lk_X9_33 dX9_undo_1 ?_
  refine z_getI F 0 rfl (by decide) (by decide) rfl lk_X9_119 dX9_undo_4 ?_
  refine z_if_gt F 12 dX9_undo_7 (by decide) ⟨fun hc => ?_, fun hc => ?_⟩
  · have h := h.1 hc
    refine z_aload_n F dX9_undo_12 rfl ?_
    refine z_getR F 3 4 0 rfl (by decide) (by decide) rfl rfl rfl lk_X9_33 dX9_undo_13 ?_
    refine z_callV F (k' := 4) (mc' := 0) [] [] dX9_undo_16 rfl rfl (by decide) rfl cl_X9_165 hy_X3_drop (by omega) (by decide) (by decide) (Nat.le_of_ble_eq_true rfl) rfl (con_mono h ?_ (fun _ _ h => h))
    rintro _ w2 ⟨rfl, h⟩
    show Z M G 0 K X w2 19 [some (.ref (G.2.1 0 0))] []
    refine z_aload_n F dX9_undo_19 rfl ?_
    refine z_iconst F 0 dX9_undo_20 (by decide) ?_
    refine z_putIW F 13 rfl (by decide) (by decide) rfl lk_X9_141 dX9_undo_21 (fun w3 hw3 => ?_)
    have h := h w3 hw3
    refine z_aload_n F dX9_undo_24 rfl ?_
    refine z_getR F 3 4 0 rfl (by decide) (by decide) rfl rfl rfl lk_X9_33 dX9_undo_25 ?_
    refine z_getI F 0 rfl (by decide) (by decide) rfl lk_X9_119 dX9_undo_28 ?_
    exact z_iret F dX9_undo_31 (by decide) h
  · have h := h.2 hc
    refine z_iconst F (-1) dX9_undo_10 (by decide) ?_
    exact z_iret F dX9_undo_11 (by decide) h
set_option maxRecDepth 20000 in
theorem e_X9_told {l : Launch} {G : Gx} {w : Wd} {p0 : Int32} {K : Option Value → Wd → Prop} {X : String → Wd → Prop} (hl : l.stackTraces = false)
    (h : ∀ (M : Mx) (kk : Nat), mL M = l → 7 ≤ kk → Fx M G RX9 cX9_told 3 (some .int) kk 1 → Con (mL M) G 1 0 yX9_within cX9_within 3 (some .boolean) w [.int p0, .int 0, .int 11] (fun r w2 => ∃ v1 : Int32, r = some (.int v1) ∧ Con (mL M) G 6 1 yX9_demand cX9_demand 2 none w2 [.ref (G.2.1 0 0), .int v1] (fun r w4 => r = none ∧ ((p0 = 0 → K (some (.int (w4.1 7 (w4.2.2 2 0 0) 0))) w4) ∧ (p0 = 1 → K (some (.int (w4.1 7 (w4.2.2 2 0 0) 1))) w4) ∧ (p0 = 2 → K (some (.int (w4.1 7 (w4.2.2 2 0 0) 2))) w4) ∧ (p0 = 3 → K (some (.int (w4.1 5 0 0))) w4) ∧ (p0 = 4 → K (some (.int (w4.1 5 0 1))) w4) ∧ (p0 = 5 → K (some (.int (w4.1 5 0 2))) w4) ∧ (p0 = 6 → Con (mL M) G 1 0 yX9_total cX9_total 3 (some .int) w4 [.ref (G.2.1 18 0)] (fun r w9 => ∃ v8 : Int32, r = some (.int v8) ∧ K (some (.int v8)) w9) X) ∧ (p0 = 7 → Con (mL M) G 1 0 yX9_total cX9_total 3 (some .int) w4 [.ref (G.2.1 19 0)] (fun r w11 => ∃ v10 : Int32, r = some (.int v10) ∧ K (some (.int v10)) w11) X) ∧ (p0 = 8 → Con (mL M) G 1 0 yX9_total cX9_total 3 (some .int) w4 [.ref (G.2.1 17 0)] (fun r w13 => ∃ v12 : Int32, r = some (.int v12) ∧ K (some (.int v12)) w13) X) ∧ (p0 = 9 → Con (mL M) G 1 0 yJ6_bitCount_0f7a4 cJ6_bitCount_0f7a4 1 (some .int) w4 [.int (w4.1 9 (w4.2.2 0 0 10) 0)] (fun r w16 => ∃ v15 : Int32, r = some (.int v15) ∧ K (some (.int v15)) w16) X) ∧ (p0 = 10 → K (some (.int (w4.1 0 0 13))) w4) ∧ (¬ p0 = 0 ∧ ¬ p0 = 1 ∧ ¬ p0 = 2 ∧ ¬ p0 = 3 ∧ ¬ p0 = 4 ∧ ¬ p0 = 5 ∧ ¬ p0 = 6 ∧ ¬ p0 = 7 ∧ ¬ p0 = 8 ∧ ¬ p0 = 9 ∧ ¬ p0 = 10 → Con (mL M) G 1 0 yX9_wordedAnew cX9_wordedAnew 3 (some .int) w4 [.ref (G.2.1 0 0)] (fun r w18 => ∃ v17 : Int32, r = some (.int v17) ∧ K (some (.int v17)) w18) X))) X) X) :
    Con l G 7 1 yX9_told cX9_told 3 (some .int) w [.ref (G.2.1 0 0), .int p0] K X := by
  refine con_intro hl (by decide +kernel) (Nat.le_of_ble_eq_true rfl) (Nat.le_of_ble_eq_true rfl) (fun M kk hM hk F => ?_)
  have h := h M kk hM hk F
  show Z M G 0 K X w 0 [some (.ref (G.2.1 0 0)), some (.int p0), none] []
  refine z_aload_n F dX9_told_0 rfl ?_
  refine z_iload_n F dX9_told_1 rfl ?_
  refine z_iconst F 0 dX9_told_2 (by decide) ?_
  refine z_bipush F 11 dX9_told_3 (by decide) ?_
  refine z_callS F (k' := 1) (mc' := 0) [.int p0, .int 0, .int 11] [.ref (G.2.1 0 0)] dX9_told_5 rfl cl_X9_168 hy_X9_within.2 (by omega) (by decide) (by decide) (Nat.le_of_ble_eq_true rfl) rfl (con_mono h ?_ (fun _ _ h => h))
  rintro _ w2 ⟨v1, rfl, h⟩
  show Z M G 0 K X w2 8 [some (.ref (G.2.1 0 0)), some (.int p0), none] [.int v1, .ref (G.2.1 0 0)]
  refine z_callV F (k' := 6) (mc' := 1) [.int v1] [] dX9_told_8 rfl rfl (by decide) rfl cl_X9_172 hy_X9_demand (by omega) (by decide) (by decide) (Nat.le_of_ble_eq_true rfl) rfl (con_mono h ?_ (fun _ _ h => h))
  rintro _ w4 ⟨rfl, h⟩
  show Z M G 1 K X w4 11 [some (.ref (G.2.1 0 0)), some (.int p0), none] []
  refine z_aload_n F dX9_told_11 rfl ?_
  refine z_getR F 3 4 0 rfl (by decide) (by decide) rfl rfl rfl lk_X9_33 dX9_told_12 ?_
  refine z_getR F 1 5 0 rfl (by decide) (by decide) rfl rfl rfl lk_X9_128 dX9_told_15 ?_
  refine z_astore_n F dX9_told_18 (Nat.le_of_ble_eq_true rfl) ?_
  refine z_iload_n F dX9_told_19 rfl ?_
  by_cases hc0 : p0 = 0
  · have h := h.1 hc0
    refine z_tabIn F 80 dX9_told_20 (by rw [hc0]; decide) (by rw [hc0]; decide) (by rw [hc0]; rfl) (by decide) ?_
    refine z_aload_n F dX9_told_80 rfl ?_
    refine z_getR F 1 2 0 rfl (by decide) (by decide) rfl rfl rfl lk_X9_19 dX9_told_81 ?_
    refine z_getD F 0 7 rfl (by decide) (by decide) rfl rfl lk_X9_106 dX9_told_84 (fun hv5 => ?_)
    refine z_getI F 0 rfl hv5 (by decide) rfl lk_X9_112 dX9_told_87 ?_
    exact z_iret F dX9_told_90 (by decide) h
  by_cases hc1 : p0 = 1
  · have h := h.2.1 hc1
    refine z_tabIn F 91 dX9_told_20 (by rw [hc1]; decide) (by rw [hc1]; decide) (by rw [hc1]; rfl) (by decide) ?_
    refine z_aload_n F dX9_told_91 rfl ?_
    refine z_getR F 1 2 0 rfl (by decide) (by decide) rfl rfl rfl lk_X9_19 dX9_told_92 ?_
    refine z_getD F 0 7 rfl (by decide) (by decide) rfl rfl lk_X9_106 dX9_told_95 (fun hv6 => ?_)
    refine z_getI F 1 rfl hv6 (by decide) rfl lk_X9_147 dX9_told_98 ?_
    exact z_iret F dX9_told_101 (by decide) h
  by_cases hc2 : p0 = 2
  · have h := h.2.2.1 hc2
    refine z_tabIn F 102 dX9_told_20 (by rw [hc2]; decide) (by rw [hc2]; decide) (by rw [hc2]; rfl) (by decide) ?_
    refine z_aload_n F dX9_told_102 rfl ?_
    refine z_getR F 1 2 0 rfl (by decide) (by decide) rfl rfl rfl lk_X9_19 dX9_told_103 ?_
    refine z_getD F 0 7 rfl (by decide) (by decide) rfl rfl lk_X9_106 dX9_told_106 (fun hv7 => ?_)
    refine z_getI F 2 rfl hv7 (by decide) rfl lk_X9_176 dX9_told_109 ?_
    exact z_iret F dX9_told_112 (by decide) h
  by_cases hc3 : p0 = 3
  · have h := h.2.2.2.1 hc3
    refine z_tabIn F 113 dX9_told_20 (by rw [hc3]; decide) (by rw [hc3]; decide) (by rw [hc3]; rfl) (by decide) ?_
    refine z_aload_n F dX9_told_113 rfl ?_
    refine z_getI F 0 rfl (by decide) (by decide) rfl lk_X9_179 dX9_told_114 ?_
    exact z_iret F dX9_told_117 (by decide) h
  by_cases hc4 : p0 = 4
  · have h := h.2.2.2.2.1 hc4
    refine z_tabIn F 118 dX9_told_20 (by rw [hc4]; decide) (by rw [hc4]; decide) (by rw [hc4]; rfl) (by decide) ?_
    refine z_aload_n F dX9_told_118 rfl ?_
    refine z_getI F 1 rfl (by decide) (by decide) rfl lk_X9_182 dX9_told_119 ?_
    exact z_iret F dX9_told_122 (by decide) h
  by_cases hc5 : p0 = 5
  · have h := h.2.2.2.2.2.1 hc5
    refine z_tabIn F 123 dX9_told_20 (by rw [hc5]; decide) (by rw [hc5]; decide) (by rw [hc5]; rfl) (by decide) ?_
    refine z_aload_n F dX9_told_123 rfl ?_
    refine z_getI F 2 rfl (by decide) (by decide) rfl lk_X9_185 dX9_told_124 ?_
    exact z_iret F dX9_told_127 (by decide) h
  by_cases hc6 : p0 = 6
  · have h := h.2.2.2.2.2.2.1 hc6
    refine z_tabIn F 128 dX9_told_20 (by rw [hc6]; decide) (by rw [hc6]; decide) (by rw [hc6]; rfl) (by decide) ?_
    refine z_aload_n F dX9_told_128 rfl ?_
    refine z_getR F 4 18 0 rfl (by decide) (by decide) rfl rfl rfl lk_X9_188 dX9_told_129 ?_
    refine z_callS F (k' := 1) (mc' := 0) [.ref (G.2.1 18 0)] [] dX9_told_132 rfl cl_X9_191 hy_X9_total.2 (by omega) (by decide) (by decide) (Nat.le_of_ble_eq_true rfl) rfl (con_mono h ?_ (fun _ _ h => h))
    rintro _ w9 ⟨v8, rfl, h⟩
    show Z M G 1 K X w9 135 [some (.ref (G.2.1 0 0)), some (.int p0), some (.ref (G.2.1 5 0))] [.int v8]
    exact z_iret F dX9_told_135 (by decide) h
  by_cases hc7 : p0 = 7
  · have h := h.2.2.2.2.2.2.2.1 hc7
    refine z_tabIn F 136 dX9_told_20 (by rw [hc7]; decide) (by rw [hc7]; decide) (by rw [hc7]; rfl) (by decide) ?_
    refine z_aload_n F dX9_told_136 rfl ?_
    refine z_getR F 5 19 0 rfl (by decide) (by decide) rfl rfl rfl lk_X9_195 dX9_told_137 ?_
    refine z_callS F (k' := 1) (mc' := 0) [.ref (G.2.1 19 0)] [] dX9_told_140 rfl cl_X9_191 hy_X9_total.2 (by omega) (by decide) (by decide) (Nat.le_of_ble_eq_true rfl) rfl (con_mono h ?_ (fun _ _ h => h))
    rintro _ w11 ⟨v10, rfl, h⟩
    show Z M G 1 K X w11 143 [some (.ref (G.2.1 0 0)), some (.int p0), some (.ref (G.2.1 5 0))] [.int v10]
    exact z_iret F dX9_told_143 (by decide) h
  by_cases hc8 : p0 = 8
  · have h := h.2.2.2.2.2.2.2.2.1 hc8
    refine z_tabIn F 144 dX9_told_20 (by rw [hc8]; decide) (by rw [hc8]; decide) (by rw [hc8]; rfl) (by decide) ?_
    refine z_aload_n F dX9_told_144 rfl ?_
    refine z_getR F 3 17 0 rfl (by decide) (by decide) rfl rfl rfl lk_X9_198 dX9_told_145 ?_
    refine z_callS F (k' := 1) (mc' := 0) [.ref (G.2.1 17 0)] [] dX9_told_148 rfl cl_X9_191 hy_X9_total.2 (by omega) (by decide) (by decide) (Nat.le_of_ble_eq_true rfl) rfl (con_mono h ?_ (fun _ _ h => h))
    rintro _ w13 ⟨v12, rfl, h⟩
    show Z M G 1 K X w13 151 [some (.ref (G.2.1 0 0)), some (.int p0), some (.ref (G.2.1 5 0))] [.int v12]
    exact z_iret F dX9_told_151 (by decide) h
  by_cases hc9 : p0 = 9
  · have h := h.2.2.2.2.2.2.2.2.2.1 hc9
    refine z_tabIn F 152 dX9_told_20 (by rw [hc9]; decide) (by rw [hc9]; decide) (by rw [hc9]; rfl) (by decide) ?_
    refine z_aload_n F dX9_told_152 rfl ?_
    refine z_getD F 10 9 rfl (by decide) (by decide) rfl rfl lk_X9_76 dX9_told_153 (fun hv14 => ?_)
    refine z_getI F 0 rfl hv14 (by decide) rfl lk_X9_153 dX9_told_156 ?_
    refine z_callS F (k' := 1) (mc' := 0) [.int (w4.1 9 (w4.2.2 0 0 10) 0)] [] dX9_told_159 rfl cl_X9_156 hy_J6_bitCount_0f7a4.2 (by omega) (by decide) (by decide) (Nat.le_of_ble_eq_true rfl) rfl (con_mono h ?_ (fun _ _ h => h))
    rintro _ w16 ⟨v15, rfl, h⟩
    show Z M G 1 K X w16 162 [some (.ref (G.2.1 0 0)), some (.int p0), some (.ref (G.2.1 5 0))] [.int v15]
    exact z_iret F dX9_told_162 (by decide) h
  by_cases hc10 : p0 = 10
  · have h := h.2.2.2.2.2.2.2.2.2.2.1 hc10
    refine z_tabIn F 163 dX9_told_20 (by rw [hc10]; decide) (by rw [hc10]; decide) (by rw [hc10]; rfl) (by decide) ?_
    refine z_aload_n F dX9_told_163 rfl ?_
    refine z_getI F 13 rfl (by decide) (by decide) rfl lk_X9_141 dX9_told_164 ?_
    exact z_iret F dX9_told_167 (by decide) h
  have e0 := lv_neT hc0 (show (0 : Int32).toInt = 0 by decide)
  have e1 := lv_neT hc1 (show (1 : Int32).toInt = 1 by decide)
  have e2 := lv_neT hc2 (show (2 : Int32).toInt = 2 by decide)
  have e3 := lv_neT hc3 (show (3 : Int32).toInt = 3 by decide)
  have e4 := lv_neT hc4 (show (4 : Int32).toInt = 4 by decide)
  have e5 := lv_neT hc5 (show (5 : Int32).toInt = 5 by decide)
  have e6 := lv_neT hc6 (show (6 : Int32).toInt = 6 by decide)
  have e7 := lv_neT hc7 (show (7 : Int32).toInt = 7 by decide)
  have e8 := lv_neT hc8 (show (8 : Int32).toInt = 8 by decide)
  have e9 := lv_neT hc9 (show (9 : Int32).toInt = 9 by decide)
  have e10 := lv_neT hc10 (show (10 : Int32).toInt = 10 by decide)
  have h := h.2.2.2.2.2.2.2.2.2.2.2 ⟨hc0, hc1, hc2, hc3, hc4, hc5, hc6, hc7, hc8, hc9, hc10⟩
  refine z_tabOut F 168 dX9_told_20 (by omega) (by decide) ?_
  refine z_aload_n F dX9_told_168 rfl ?_
  refine z_callV F (k' := 1) (mc' := 0) [] [] dX9_told_169 rfl rfl (by decide) rfl cl_X9_201 hy_X9_wordedAnew (by omega) (by decide) (by decide) (Nat.le_of_ble_eq_true rfl) rfl (con_mono h ?_ (fun _ _ h => h))
  rintro _ w18 ⟨v17, rfl, h⟩
  show Z M G 1 K X w18 172 [some (.ref (G.2.1 0 0)), some (.int p0), some (.ref (G.2.1 5 0))] [.int v17]
  exact z_iret F dX9_told_172 (by decide) h
set_option maxRecDepth 20000 in
theorem e_X9_singer {l : Launch} {G : Gx} {w : Wd} {p0 : Int32} {p1 : Int32} {K : Option Value → Wd → Prop} {X : String → Wd → Prop} (hl : l.stackTraces = false)
    (h : ∀ (M : Mx) (kk : Nat), mL M = l → 7 ≤ kk → Fx M G RX9 cX9_singer 5 (some .int) kk 2 → Con (mL M) G 1 0 yX9_isSinger cX9_isSinger 2 (some .boolean) w [.ref (G.2.1 0 0), .int p0] (fun r w2 => ∃ v1 : Int32, r = some (.int v1) ∧ Con (mL M) G 6 1 yX9_find cX9_find 2 none w2 [.ref (G.2.1 0 0), .int v1] (fun r w4 => r = none ∧ Con (mL M) G 1 0 yX9_within cX9_within 3 (some .boolean) w4 [.int p1, .int 0, .int 7] (fun r w6 => ∃ v5 : Int32, r = some (.int v5) ∧ Con (mL M) G 6 1 yX9_demand cX9_demand 2 none w6 [.ref (G.2.1 0 0), .int v5] (fun r w8 => r = none ∧ ((p1 = 0 → (vp_in p0 7 ∧ K (some (.int (w8.1 25 (w8.2.2 2 0 0) ((p0 : Int32).toNatClampNeg)))) w8)) ∧ (p1 = 1 → (vp_in p0 7 ∧ K (some (.int (w8.1 26 (w8.2.2 2 0 0) ((p0 : Int32).toNatClampNeg)))) w8)) ∧ (p1 = 2 → (vp_in p0 7 ∧ K (some (.int (w8.1 27 (w8.2.2 2 0 0) ((p0 : Int32).toNatClampNeg)))) w8)) ∧ (p1 = 3 → (vp_in p0 7 ∧ K (some (.int (w8.1 17 0 ((p0 : Int32).toNatClampNeg)))) w8)) ∧ (p1 = 4 → K (some (.int (((w8.1 5 0 1) >>> (p0 &&& 31)) &&& (1 : Int32)))) w8) ∧ (p1 = 5 → (vp_in p0 7 ∧ K (some (.int (w8.1 18 0 ((p0 : Int32).toNatClampNeg)))) w8)) ∧ (p1 = 6 → (vp_in p0 7 ∧ K (some (.int (w8.1 19 0 ((p0 : Int32).toNatClampNeg)))) w8)) ∧ (¬ p1 = 0 ∧ ¬ p1 = 1 ∧ ¬ p1 = 2 ∧ ¬ p1 = 3 ∧ ¬ p1 = 4 ∧ ¬ p1 = 5 ∧ ¬ p1 = 6 → (vp_in p0 7 ∧ K (some (.int (w8.1 20 0 ((p0 : Int32).toNatClampNeg)))) w8)))) X) X) X) X) :
    Con l G 7 2 yX9_singer cX9_singer 5 (some .int) w [.ref (G.2.1 0 0), .int p0, .int p1] K X := by
  refine con_intro hl (by decide +kernel) (Nat.le_of_ble_eq_true rfl) (Nat.le_of_ble_eq_true rfl) (fun M kk hM hk F => ?_)
  have h := h M kk hM hk F
  show Z M G 0 K X w 0 [some (.ref (G.2.1 0 0)), some (.int p0), some (.int p1), none, none] []
  refine z_aload_n F dX9_singer_0 rfl ?_
  refine z_aload_n F dX9_singer_1 rfl ?_
  refine z_iload_n F dX9_singer_2 rfl ?_
  refine z_callV F (k' := 1) (mc' := 0) [.int p0] [.ref (G.2.1 0 0)] dX9_singer_3 rfl rfl (by decide) rfl cl_X9_205 hy_X9_isSinger (by omega) (by decide) (by decide) (Nat.le_of_ble_eq_true rfl) rfl (con_mono h ?_ (fun _ _ h => h))
  rintro _ w2 ⟨v1, rfl, h⟩
  show Z M G 0 K X w2 6 [some (.ref (G.2.1 0 0)), some (.int p0), some (.int p1), none, none] [.int v1, .ref (G.2.1 0 0)]
  refine z_callV F (k' := 6) (mc' := 1) [.int v1] [] dX9_singer_6 rfl rfl (by decide) rfl cl_X9_209 hy_X9_find (by omega) (by decide) (by decide) (Nat.le_of_ble_eq_true rfl) rfl (con_mono h ?_ (fun _ _ h => h))
  rintro _ w4 ⟨rfl, h⟩
  show Z M G 1 K X w4 9 [some (.ref (G.2.1 0 0)), some (.int p0), some (.int p1), none, none] []
  refine z_aload_n F dX9_singer_9 rfl ?_
  refine z_iload_n F dX9_singer_10 rfl ?_
  refine z_iconst F 0 dX9_singer_11 (by decide) ?_
  refine z_bipush F 7 dX9_singer_12 (by decide) ?_
  refine z_callS F (k' := 1) (mc' := 0) [.int p1, .int 0, .int 7] [.ref (G.2.1 0 0)] dX9_singer_14 rfl cl_X9_168 hy_X9_within.2 (by omega) (by decide) (by decide) (Nat.le_of_ble_eq_true rfl) rfl (con_mono h ?_ (fun _ _ h => h))
  rintro _ w6 ⟨v5, rfl, h⟩
  show Z M G 1 K X w6 17 [some (.ref (G.2.1 0 0)), some (.int p0), some (.int p1), none, none] [.int v5, .ref (G.2.1 0 0)]
  refine z_callV F (k' := 6) (mc' := 1) [.int v5] [] dX9_singer_17 rfl rfl (by decide) rfl cl_X9_172 hy_X9_demand (by omega) (by decide) (by decide) (Nat.le_of_ble_eq_true rfl) rfl (con_mono h ?_ (fun _ _ h => h))
  rintro _ w8 ⟨rfl, h⟩
  show Z M G 2 K X w8 20 [some (.ref (G.2.1 0 0)), some (.int p0), some (.int p1), none, none] []
  refine z_aload_n F dX9_singer_20 rfl ?_
  refine z_getR F 1 2 0 rfl (by decide) (by decide) rfl rfl rfl lk_X9_19 dX9_singer_21 ?_
  refine z_getD F 0 7 rfl (by decide) (by decide) rfl rfl lk_X9_106 dX9_singer_24 (fun hv9 => ?_)
  refine z_astore_n F dX9_singer_27 (Nat.le_of_ble_eq_true rfl) ?_
  refine z_aload_n F dX9_singer_28 rfl ?_
  refine z_getR F 3 4 0 rfl (by decide) (by decide) rfl rfl rfl lk_X9_33 dX9_singer_29 ?_
  refine z_getR F 1 5 0 rfl (by decide) (by decide) rfl rfl rfl lk_X9_128 dX9_singer_32 ?_
  refine z_astore F dX9_singer_35 (Nat.le_of_ble_eq_true rfl) ?_
  refine z_iload_n F dX9_singer_37 rfl ?_
  by_cases hc0 : p1 = 0
  · have h := h.1 hc0
    refine z_tabIn F 80 dX9_singer_38 (by rw [hc0]; decide) (by rw [hc0]; decide) (by rw [hc0]; rfl) (by decide) ?_
    refine z_aload_n F dX9_singer_80 rfl ?_
    refine z_getR F 4 25 (w8.2.2 2 0 0) rfl hv9 (by decide) rfl rfl rfl lk_X9_212 dX9_singer_81 ?_
    refine z_iload_n F dX9_singer_84 rfl ?_
    obtain ⟨hb, h⟩ := h
    refine z_ialdK F ((p0 : Int32).toNatClampNeg) rfl rfl (fix_lt 7 (w8.2.2 2 0 0) 4 hv9 (by decide) rfl rfl) hb dX9_singer_85 ?_
    exact z_iret F dX9_singer_86 (by decide) h
  by_cases hc1 : p1 = 1
  · have h := h.2.1 hc1
    refine z_tabIn F 87 dX9_singer_38 (by rw [hc1]; decide) (by rw [hc1]; decide) (by rw [hc1]; rfl) (by decide) ?_
    refine z_aload_n F dX9_singer_87 rfl ?_
    refine z_getR F 5 26 (w8.2.2 2 0 0) rfl hv9 (by decide) rfl rfl rfl lk_X9_215 dX9_singer_88 ?_
    refine z_iload_n F dX9_singer_91 rfl ?_
    obtain ⟨hb, h⟩ := h
    refine z_ialdK F ((p0 : Int32).toNatClampNeg) rfl rfl (fix_lt 7 (w8.2.2 2 0 0) 5 hv9 (by decide) rfl rfl) hb dX9_singer_92 ?_
    exact z_iret F dX9_singer_93 (by decide) h
  by_cases hc2 : p1 = 2
  · have h := h.2.2.1 hc2
    refine z_tabIn F 94 dX9_singer_38 (by rw [hc2]; decide) (by rw [hc2]; decide) (by rw [hc2]; rfl) (by decide) ?_
    refine z_aload_n F dX9_singer_94 rfl ?_
    refine z_getR F 6 27 (w8.2.2 2 0 0) rfl hv9 (by decide) rfl rfl rfl lk_X9_218 dX9_singer_95 ?_
    refine z_iload_n F dX9_singer_98 rfl ?_
    obtain ⟨hb, h⟩ := h
    refine z_ialdK F ((p0 : Int32).toNatClampNeg) rfl rfl (fix_lt 7 (w8.2.2 2 0 0) 6 hv9 (by decide) rfl rfl) hb dX9_singer_99 ?_
    exact z_iret F dX9_singer_100 (by decide) h
  by_cases hc3 : p1 = 3
  · have h := h.2.2.2.1 hc3
    refine z_tabIn F 101 dX9_singer_38 (by rw [hc3]; decide) (by rw [hc3]; decide) (by rw [hc3]; rfl) (by decide) ?_
    refine z_aload F dX9_singer_101 rfl ?_
    refine z_getR F 3 17 0 rfl (by decide) (by decide) rfl rfl rfl lk_X9_198 dX9_singer_103 ?_
    refine z_iload_n F dX9_singer_106 rfl ?_
    obtain ⟨hb, h⟩ := h
    refine z_ialdK F ((p0 : Int32).toNatClampNeg) rfl rfl (by decide) hb dX9_singer_107 ?_
    exact z_iret F dX9_singer_108 (by decide) h
  by_cases hc4 : p1 = 4
  · have h := h.2.2.2.2.1 hc4
    refine z_tabIn F 109 dX9_singer_38 (by rw [hc4]; decide) (by rw [hc4]; decide) (by rw [hc4]; rfl) (by decide) ?_
    refine z_aload F dX9_singer_109 rfl ?_
    refine z_getI F 1 rfl (by decide) (by decide) rfl lk_X9_182 dX9_singer_111 ?_
    refine z_iload_n F dX9_singer_114 rfl ?_
    refine z_ishr F dX9_singer_115 ?_
    refine z_iconst F 1 dX9_singer_116 (by decide) ?_
    refine z_iand F dX9_singer_117 ?_
    exact z_iret F dX9_singer_118 (by decide) h
  by_cases hc5 : p1 = 5
  · have h := h.2.2.2.2.2.1 hc5
    refine z_tabIn F 119 dX9_singer_38 (by rw [hc5]; decide) (by rw [hc5]; decide) (by rw [hc5]; rfl) (by decide) ?_
    refine z_aload F dX9_singer_119 rfl ?_
    refine z_getR F 4 18 0 rfl (by decide) (by decide) rfl rfl rfl lk_X9_188 dX9_singer_121 ?_
    refine z_iload_n F dX9_singer_124 rfl ?_
    obtain ⟨hb, h⟩ := h
    refine z_ialdK F ((p0 : Int32).toNatClampNeg) rfl rfl (by decide) hb dX9_singer_125 ?_
    exact z_iret F dX9_singer_126 (by decide) h
  by_cases hc6 : p1 = 6
  · have h := h.2.2.2.2.2.2.1 hc6
    refine z_tabIn F 127 dX9_singer_38 (by rw [hc6]; decide) (by rw [hc6]; decide) (by rw [hc6]; rfl) (by decide) ?_
    refine z_aload F dX9_singer_127 rfl ?_
    refine z_getR F 5 19 0 rfl (by decide) (by decide) rfl rfl rfl lk_X9_195 dX9_singer_129 ?_
    refine z_iload_n F dX9_singer_132 rfl ?_
    obtain ⟨hb, h⟩ := h
    refine z_ialdK F ((p0 : Int32).toNatClampNeg) rfl rfl (by decide) hb dX9_singer_133 ?_
    exact z_iret F dX9_singer_134 (by decide) h
  have e0 := lv_neT hc0 (show (0 : Int32).toInt = 0 by decide)
  have e1 := lv_neT hc1 (show (1 : Int32).toInt = 1 by decide)
  have e2 := lv_neT hc2 (show (2 : Int32).toInt = 2 by decide)
  have e3 := lv_neT hc3 (show (3 : Int32).toInt = 3 by decide)
  have e4 := lv_neT hc4 (show (4 : Int32).toInt = 4 by decide)
  have e5 := lv_neT hc5 (show (5 : Int32).toInt = 5 by decide)
  have e6 := lv_neT hc6 (show (6 : Int32).toInt = 6 by decide)
  have h := h.2.2.2.2.2.2.2 ⟨hc0, hc1, hc2, hc3, hc4, hc5, hc6⟩
  refine z_tabOut F 135 dX9_singer_38 (by omega) (by decide) ?_
  refine z_aload F dX9_singer_135 rfl ?_
  refine z_getR F 6 20 0 rfl (by decide) (by decide) rfl rfl rfl lk_X9_221 dX9_singer_137 ?_
  refine z_iload_n F dX9_singer_140 rfl ?_
  obtain ⟨hb, h⟩ := h
  refine z_ialdK F ((p0 : Int32).toNatClampNeg) rfl rfl (by decide) hb dX9_singer_141 ?_
  exact z_iret F dX9_singer_142 (by decide) h
set_option maxRecDepth 20000 in
theorem e_X9_note {l : Launch} {G : Gx} {w : Wd} {p0 : Int32} {p1 : Int32} {K : Option Value → Wd → Prop} {X : String → Wd → Prop} (hl : l.stackTraces = false)
    (h : ∀ (M : Mx) (kk : Nat), mL M = l → 7 ≤ kk → Fx M G RX9 cX9_note 3 (some .int) kk 2 → Con (mL M) G 1 0 yX9_isNote cX9_isNote 2 (some .boolean) w [.ref (G.2.1 0 0), .int p0] (fun r w2 => ∃ v1 : Int32, r = some (.int v1) ∧ Con (mL M) G 6 1 yX9_find cX9_find 2 none w2 [.ref (G.2.1 0 0), .int v1] (fun r w4 => r = none ∧ Con (mL M) G 1 0 yX9_within cX9_within 3 (some .boolean) w4 [.int p1, .int 0, .int 3] (fun r w6 => ∃ v5 : Int32, r = some (.int v5) ∧ Con (mL M) G 6 1 yX9_demand cX9_demand 2 none w6 [.ref (G.2.1 0 0), .int v5] (fun r w8 => r = none ∧ ((p1 = 0 → (vp_in p0 20 ∧ K (some (.int (w8.1 21 0 ((p0 : Int32).toNatClampNeg)))) w8)) ∧ (p1 = 1 → (vp_in p0 20 ∧ K (some (.int (w8.1 28 (w8.2.2 2 0 0) ((p0 : Int32).toNatClampNeg)))) w8)) ∧ (p1 = 2 → (vp_in p0 20 ∧ K (some (.int (w8.1 29 (w8.2.2 2 0 0) ((p0 : Int32).toNatClampNeg)))) w8)) ∧ (¬ p1 = 0 ∧ ¬ p1 = 1 ∧ ¬ p1 = 2 → Con (mL M) G 5 0 yX9_sungByNow cX9_sungByNow 2 (some .int) w8 [.ref (G.2.1 0 0), .int p0] (fun r w12 => ∃ v11 : Int32, r = some (.int v11) ∧ K (some (.int v11)) w12) X))) X) X) X) X) :
    Con l G 7 2 yX9_note cX9_note 3 (some .int) w [.ref (G.2.1 0 0), .int p0, .int p1] K X := by
  refine con_intro hl (by decide +kernel) (Nat.le_of_ble_eq_true rfl) (Nat.le_of_ble_eq_true rfl) (fun M kk hM hk F => ?_)
  have h := h M kk hM hk F
  show Z M G 0 K X w 0 [some (.ref (G.2.1 0 0)), some (.int p0), some (.int p1)] []
  refine z_aload_n F dX9_note_0 rfl ?_
  refine z_aload_n F dX9_note_1 rfl ?_
  refine z_iload_n F dX9_note_2 rfl ?_
  refine z_callV F (k' := 1) (mc' := 0) [.int p0] [.ref (G.2.1 0 0)] dX9_note_3 rfl rfl (by decide) rfl cl_X9_224 hy_X9_isNote (by omega) (by decide) (by decide) (Nat.le_of_ble_eq_true rfl) rfl (con_mono h ?_ (fun _ _ h => h))
  rintro _ w2 ⟨v1, rfl, h⟩
  show Z M G 0 K X w2 6 [some (.ref (G.2.1 0 0)), some (.int p0), some (.int p1)] [.int v1, .ref (G.2.1 0 0)]
  refine z_callV F (k' := 6) (mc' := 1) [.int v1] [] dX9_note_6 rfl rfl (by decide) rfl cl_X9_209 hy_X9_find (by omega) (by decide) (by decide) (Nat.le_of_ble_eq_true rfl) rfl (con_mono h ?_ (fun _ _ h => h))
  rintro _ w4 ⟨rfl, h⟩
  show Z M G 1 K X w4 9 [some (.ref (G.2.1 0 0)), some (.int p0), some (.int p1)] []
  refine z_aload_n F dX9_note_9 rfl ?_
  refine z_iload_n F dX9_note_10 rfl ?_
  refine z_iconst F 0 dX9_note_11 (by decide) ?_
  refine z_iconst F 3 dX9_note_12 (by decide) ?_
  refine z_callS F (k' := 1) (mc' := 0) [.int p1, .int 0, .int 3] [.ref (G.2.1 0 0)] dX9_note_13 rfl cl_X9_168 hy_X9_within.2 (by omega) (by decide) (by decide) (Nat.le_of_ble_eq_true rfl) rfl (con_mono h ?_ (fun _ _ h => h))
  rintro _ w6 ⟨v5, rfl, h⟩
  show Z M G 1 K X w6 16 [some (.ref (G.2.1 0 0)), some (.int p0), some (.int p1)] [.int v5, .ref (G.2.1 0 0)]
  refine z_callV F (k' := 6) (mc' := 1) [.int v5] [] dX9_note_16 rfl rfl (by decide) rfl cl_X9_172 hy_X9_demand (by omega) (by decide) (by decide) (Nat.le_of_ble_eq_true rfl) rfl (con_mono h ?_ (fun _ _ h => h))
  rintro _ w8 ⟨rfl, h⟩
  show Z M G 2 K X w8 19 [some (.ref (G.2.1 0 0)), some (.int p0), some (.int p1)] []
  refine z_iload_n F dX9_note_19 rfl ?_
  by_cases hc0 : p1 = 0
  · have h := h.1 hc0
    refine z_tabIn F 48 dX9_note_20 (by rw [hc0]; decide) (by rw [hc0]; decide) (by rw [hc0]; rfl) (by decide) ?_
    refine z_aload_n F dX9_note_48 rfl ?_
    refine z_getR F 3 4 0 rfl (by decide) (by decide) rfl rfl rfl lk_X9_33 dX9_note_49 ?_
    refine z_getR F 1 5 0 rfl (by decide) (by decide) rfl rfl rfl lk_X9_128 dX9_note_52 ?_
    refine z_getR F 7 21 0 rfl (by decide) (by decide) rfl rfl rfl lk_X9_227 dX9_note_55 ?_
    refine z_iload_n F dX9_note_58 rfl ?_
    obtain ⟨hb, h⟩ := h
    refine z_ialdK F ((p0 : Int32).toNatClampNeg) rfl rfl (by decide) hb dX9_note_59 ?_
    exact z_iret F dX9_note_60 (by decide) h
  by_cases hc1 : p1 = 1
  · have h := h.2.1 hc1
    refine z_tabIn F 61 dX9_note_20 (by rw [hc1]; decide) (by rw [hc1]; decide) (by rw [hc1]; rfl) (by decide) ?_
    refine z_aload_n F dX9_note_61 rfl ?_
    refine z_getR F 1 2 0 rfl (by decide) (by decide) rfl rfl rfl lk_X9_19 dX9_note_62 ?_
    refine z_getD F 0 7 rfl (by decide) (by decide) rfl rfl lk_X9_106 dX9_note_65 (fun hv9 => ?_)
    refine z_getR F 7 28 (w8.2.2 2 0 0) rfl hv9 (by decide) rfl rfl rfl lk_X9_230 dX9_note_68 ?_
    refine z_iload_n F dX9_note_71 rfl ?_
    obtain ⟨hb, h⟩ := h
    refine z_ialdK F ((p0 : Int32).toNatClampNeg) rfl rfl (fix_lt 7 (w8.2.2 2 0 0) 7 hv9 (by decide) rfl rfl) hb dX9_note_72 ?_
    exact z_iret F dX9_note_73 (by decide) h
  by_cases hc2 : p1 = 2
  · have h := h.2.2.1 hc2
    refine z_tabIn F 74 dX9_note_20 (by rw [hc2]; decide) (by rw [hc2]; decide) (by rw [hc2]; rfl) (by decide) ?_
    refine z_aload_n F dX9_note_74 rfl ?_
    refine z_getR F 1 2 0 rfl (by decide) (by decide) rfl rfl rfl lk_X9_19 dX9_note_75 ?_
    refine z_getD F 0 7 rfl (by decide) (by decide) rfl rfl lk_X9_106 dX9_note_78 (fun hv10 => ?_)
    refine z_getR F 8 29 (w8.2.2 2 0 0) rfl hv10 (by decide) rfl rfl rfl lk_X9_231 dX9_note_81 ?_
    refine z_iload_n F dX9_note_84 rfl ?_
    obtain ⟨hb, h⟩ := h
    refine z_ialdK F ((p0 : Int32).toNatClampNeg) rfl rfl (fix_lt 7 (w8.2.2 2 0 0) 8 hv10 (by decide) rfl rfl) hb dX9_note_85 ?_
    exact z_iret F dX9_note_86 (by decide) h
  have e0 := lv_neT hc0 (show (0 : Int32).toInt = 0 by decide)
  have e1 := lv_neT hc1 (show (1 : Int32).toInt = 1 by decide)
  have e2 := lv_neT hc2 (show (2 : Int32).toInt = 2 by decide)
  have h := h.2.2.2 ⟨hc0, hc1, hc2⟩
  refine z_tabOut F 87 dX9_note_20 (by omega) (by decide) ?_
  refine z_aload_n F dX9_note_87 rfl ?_
  refine z_iload_n F dX9_note_88 rfl ?_
  refine z_callV F (k' := 5) (mc' := 0) [.int p0] [] dX9_note_89 rfl rfl (by decide) rfl cl_X9_234 hy_X9_sungByNow (by omega) (by decide) (by decide) (Nat.le_of_ble_eq_true rfl) rfl (con_mono h ?_ (fun _ _ h => h))
  rintro _ w12 ⟨v11, rfl, h⟩
  show Z M G 2 K X w12 92 [some (.ref (G.2.1 0 0)), some (.int p0), some (.int p1)] [.int v11]
  exact z_iret F dX9_note_92 (by decide) h
set_option maxRecDepth 20000 in
theorem e_X9_like {l : Launch} {G : Gx} {w : Wd} {p0 : Int32} {p1 : Int32} {K : Option Value → Wd → Prop} {X : String → Wd → Prop} (hl : l.stackTraces = false)
    (h : ∀ (M : Mx) (kk : Nat), mL M = l → 7 ≤ kk → Fx M G RX9 cX9_like 3 (some .int) kk 2 → ((p0 < 0 → Z M G 0 K X w 23 [some (.ref (G.2.1 0 0)), some (.int p0), some (.int p1)] [.ref (G.2.1 0 0)]) ∧ (¬ (p0 < 0) → (((w.1 7 (w.2.2 2 0 0) 2) ≤ p0 → Z M G 0 K X w 23 [some (.ref (G.2.1 0 0)), some (.int p0), some (.int p1)] [.ref (G.2.1 0 0)]) ∧ (¬ ((w.1 7 (w.2.2 2 0 0) 2) ≤ p0) → Z M G 0 K X w 24 [some (.ref (G.2.1 0 0)), some (.int p0), some (.int p1)] [.int 1, .ref (G.2.1 0 0)]))))) :
    Con l G 7 2 yX9_like cX9_like 3 (some .int) w [.ref (G.2.1 0 0), .int p0, .int p1] K X := by
  refine con_intro hl (by decide +kernel) (Nat.le_of_ble_eq_true rfl) (Nat.le_of_ble_eq_true rfl) (fun M kk hM hk F => ?_)
  have h := h M kk hM hk F
  show Z M G 0 K X w 0 [some (.ref (G.2.1 0 0)), some (.int p0), some (.int p1)] []
  refine z_aload_n F dX9_like_0 rfl ?_
  refine z_iload_n F dX9_like_1 rfl ?_
  refine z_if_lt F 23 dX9_like_2 (by decide) ⟨fun hc => ?_, fun hc => ?_⟩
  · have h := h.1 hc
    exact h
  · have h := h.2 hc
    refine z_iload_n F dX9_like_5 rfl ?_
    refine z_aload_n F dX9_like_6 rfl ?_
    refine z_getR F 1 2 0 rfl (by decide) (by decide) rfl rfl rfl lk_X9_19 dX9_like_7 ?_
    refine z_getD F 0 7 rfl (by decide) (by decide) rfl rfl lk_X9_106 dX9_like_10 (fun hv1 => ?_)
    refine z_getI F 2 rfl hv1 (by decide) rfl lk_X9_176 dX9_like_13 ?_
    refine z_icmp_ge F 23 dX9_like_16 (by decide) ⟨fun hc => ?_, fun hc => ?_⟩
    · have h := h.1 hc
      exact h
    · have h := h.2 hc
      refine z_iconst F 1 dX9_like_19 (by decide) ?_
      refine z_goto F 24 dX9_like_20 (by decide) ?_
      exact h
set_option maxRecDepth 20000 in
theorem b_X9_like_23 {M : Mx} {G : Gx} {kk : Nat} {w : Wd}  {x1 : Int32} {x2 : Int32} {K : Option Value → Wd → Prop} {X : String → Wd → Prop} (F : Fx M G RX9 cX9_like 3 (some .int) kk 2) (hk : 7 ≤ kk)
    (h : Z M G 0 K X w 24 [some (.ref (G.2.1 0 0)), some (.int x1), some (.int x2)] [.int 0, .ref (G.2.1 0 0)]) :
    Z M G 0 K X w 23 [some (.ref (G.2.1 0 0)), some (.int x1), some (.int x2)] [.ref (G.2.1 0 0)] := by
  refine z_iconst F 0 dX9_like_23 (by decide) ?_
  exact h
set_option maxRecDepth 20000 in
theorem b_X9_like_24 {M : Mx} {G : Gx} {kk : Nat} {w : Wd}  {x1 : Int32} {x2 : Int32} {s0 : Int32} {K : Option Value → Wd → Prop} {X : String → Wd → Prop} (F : Fx M G RX9 cX9_like 3 (some .int) kk 2) (hk : 7 ≤ kk)
    (h : Con (mL M) G 6 1 yX9_find cX9_find 2 none w [.ref (G.2.1 0 0), .int s0] (fun r w2 => r = none ∧ Con (mL M) G 1 0 yX9_within cX9_within 3 (some .boolean) w2 [.int x2, .int 0, .int 1] (fun r w4 => ∃ v3 : Int32, r = some (.int v3) ∧ Con (mL M) G 6 1 yX9_demand cX9_demand 2 none w4 [.ref (G.2.1 0 0), .int v3] (fun r w6 => r = none ∧ ((¬ x2 = 0 → (vp_in x1 12 ∧ K (some (.int (w6.1 32 (w6.2.2 2 0 0) ((x1 : Int32).toNatClampNeg)))) w6)) ∧ (¬ (¬ x2 = 0) → (vp_in x1 12 ∧ K (some (.int (w6.1 31 (w6.2.2 2 0 0) ((x1 : Int32).toNatClampNeg)))) w6)))) X) X) X) :
    Z M G 0 K X w 24 [some (.ref (G.2.1 0 0)), some (.int x1), some (.int x2)] [.int s0, .ref (G.2.1 0 0)] := by
  refine z_callV F (k' := 6) (mc' := 1) [.int s0] [] dX9_like_24 rfl rfl (by decide) rfl cl_X9_209 hy_X9_find (by omega) (by decide) (by decide) (Nat.le_of_ble_eq_true rfl) rfl (con_mono h ?_ (fun _ _ h => h))
  rintro _ w2 ⟨rfl, h⟩
  show Z M G 1 K X w2 27 [some (.ref (G.2.1 0 0)), some (.int x1), some (.int x2)] []
  refine z_aload_n F dX9_like_27 rfl ?_
  refine z_iload_n F dX9_like_28 rfl ?_
  refine z_iconst F 0 dX9_like_29 (by decide) ?_
  refine z_iconst F 1 dX9_like_30 (by decide) ?_
  refine z_callS F (k' := 1) (mc' := 0) [.int x2, .int 0, .int 1] [.ref (G.2.1 0 0)] dX9_like_31 rfl cl_X9_168 hy_X9_within.2 (by omega) (by decide) (by decide) (Nat.le_of_ble_eq_true rfl) rfl (con_mono h ?_ (fun _ _ h => h))
  rintro _ w4 ⟨v3, rfl, h⟩
  show Z M G 1 K X w4 34 [some (.ref (G.2.1 0 0)), some (.int x1), some (.int x2)] [.int v3, .ref (G.2.1 0 0)]
  refine z_callV F (k' := 6) (mc' := 1) [.int v3] [] dX9_like_34 rfl rfl (by decide) rfl cl_X9_172 hy_X9_demand (by omega) (by decide) (by decide) (Nat.le_of_ble_eq_true rfl) rfl (con_mono h ?_ (fun _ _ h => h))
  rintro _ w6 ⟨rfl, h⟩
  show Z M G 2 K X w6 37 [some (.ref (G.2.1 0 0)), some (.int x1), some (.int x2)] []
  refine z_iload_n F dX9_like_37 rfl ?_
  refine z_if_ne F 56 dX9_like_38 (by decide) ⟨fun hc => ?_, fun hc => ?_⟩
  · have h := h.1 hc
    refine z_aload_n F dX9_like_56 rfl ?_
    refine z_getR F 1 2 0 rfl (by decide) (by decide) rfl rfl rfl lk_X9_19 dX9_like_57 ?_
    refine z_getD F 0 7 rfl (by decide) (by decide) rfl rfl lk_X9_106 dX9_like_60 (fun hv7 => ?_)
    refine z_getR F 11 32 (w6.2.2 2 0 0) rfl hv7 (by decide) rfl rfl rfl lk_X9_240 dX9_like_63 ?_
    refine z_iload_n F dX9_like_66 rfl ?_
    obtain ⟨hb, h⟩ := h
    refine z_ialdK F ((x1 : Int32).toNatClampNeg) rfl rfl (fix_lt 7 (w6.2.2 2 0 0) 11 hv7 (by decide) rfl rfl) hb dX9_like_67 ?_
    exact z_iret F dX9_like_68 (by decide) h
  · have h := h.2 hc
    refine z_aload_n F dX9_like_41 rfl ?_
    refine z_getR F 1 2 0 rfl (by decide) (by decide) rfl rfl rfl lk_X9_19 dX9_like_42 ?_
    refine z_getD F 0 7 rfl (by decide) (by decide) rfl rfl lk_X9_106 dX9_like_45 (fun hv8 => ?_)
    refine z_getR F 10 31 (w6.2.2 2 0 0) rfl hv8 (by decide) rfl rfl rfl lk_X9_237 dX9_like_48 ?_
    refine z_iload_n F dX9_like_51 rfl ?_
    obtain ⟨hb, h⟩ := h
    refine z_ialdK F ((x1 : Int32).toNatClampNeg) rfl rfl (fix_lt 7 (w6.2.2 2 0 0) 10 hv8 (by decide) rfl rfl) hb dX9_like_52 ?_
    refine z_goto F 68 dX9_like_53 (by decide) ?_
    exact z_iret F dX9_like_68 (by decide) h
set_option maxRecDepth 20000 in
theorem e_X9_takes {l : Launch} {G : Gx} {w : Wd} {p0 : Int32} {p1 : Int32} {K : Option Value → Wd → Prop} {X : String → Wd → Prop} (hl : l.stackTraces = false)
    (h : ∀ (M : Mx) (kk : Nat), mL M = l → 7 ≤ kk → Fx M G RX9 cX9_takes 3 (some .int) kk 1 → Con (mL M) G 1 0 yX9_isNote cX9_isNote 2 (some .boolean) w [.ref (G.2.1 0 0), .int p0] (fun r w2 => ∃ v1 : Int32, r = some (.int v1) ∧ ((v1 = 0 → Z M G 0 K X w2 21 [some (.ref (G.2.1 0 0)), some (.int p0), some (.int p1)] [.ref (G.2.1 0 0)]) ∧ (¬ (v1 = 0) → Con (mL M) G 1 0 yX9_isSinger cX9_isSinger 2 (some .boolean) w2 [.ref (G.2.1 0 0), .int p1] (fun r w4 => ∃ v3 : Int32, r = some (.int v3) ∧ ((v3 = 0 → Z M G 0 K X w4 21 [some (.ref (G.2.1 0 0)), some (.int p0), some (.int p1)] [.ref (G.2.1 0 0)]) ∧ (¬ (v3 = 0) → Z M G 0 K X w4 22 [some (.ref (G.2.1 0 0)), some (.int p0), some (.int p1)] [.int 1, .ref (G.2.1 0 0)]))) X))) X) :
    Con l G 7 1 yX9_takes cX9_takes 3 (some .int) w [.ref (G.2.1 0 0), .int p0, .int p1] K X := by
  refine con_intro hl (by decide +kernel) (Nat.le_of_ble_eq_true rfl) (Nat.le_of_ble_eq_true rfl) (fun M kk hM hk F => ?_)
  have h := h M kk hM hk F
  show Z M G 0 K X w 0 [some (.ref (G.2.1 0 0)), some (.int p0), some (.int p1)] []
  refine z_aload_n F dX9_takes_0 rfl ?_
  refine z_aload_n F dX9_takes_1 rfl ?_
  refine z_iload_n F dX9_takes_2 rfl ?_
  refine z_callV F (k' := 1) (mc' := 0) [.int p0] [.ref (G.2.1 0 0)] dX9_takes_3 rfl rfl (by decide) rfl cl_X9_224 hy_X9_isNote (by omega) (by decide) (by decide) (Nat.le_of_ble_eq_true rfl) rfl (con_mono h ?_ (fun _ _ h => h))
  rintro _ w2 ⟨v1, rfl, h⟩
  show Z M G 0 K X w2 6 [some (.ref (G.2.1 0 0)), some (.int p0), some (.int p1)] [.int v1, .ref (G.2.1 0 0)]
  refine z_if_eq F 21 dX9_takes_6 (by decide) ⟨fun hc => ?_, fun hc => ?_⟩
  · have h := h.1 hc
    exact h
  · have h := h.2 hc
    refine z_aload_n F dX9_takes_9 rfl ?_
    refine z_iload_n F dX9_takes_10 rfl ?_
    refine z_callV F (k' := 1) (mc' := 0) [.int p1] [.ref (G.2.1 0 0)] dX9_takes_11 rfl rfl (by decide) rfl cl_X9_205 hy_X9_isSinger (by omega) (by decide) (by decide) (Nat.le_of_ble_eq_true rfl) rfl (con_mono h ?_ (fun _ _ h => h))
    rintro _ w4 ⟨v3, rfl, h⟩
    show Z M G 0 K X w4 14 [some (.ref (G.2.1 0 0)), some (.int p0), some (.int p1)] [.int v3, .ref (G.2.1 0 0)]
    refine z_if_eq F 21 dX9_takes_14 (by decide) ⟨fun hc => ?_, fun hc => ?_⟩
    · have h := h.1 hc
      exact h
    · have h := h.2 hc
      refine z_iconst F 1 dX9_takes_17 (by decide) ?_
      refine z_goto F 22 dX9_takes_18 (by decide) ?_
      exact h
set_option maxRecDepth 20000 in
theorem b_X9_takes_21 {M : Mx} {G : Gx} {kk : Nat} {w : Wd}  {x1 : Int32} {x2 : Int32} {K : Option Value → Wd → Prop} {X : String → Wd → Prop} (F : Fx M G RX9 cX9_takes 3 (some .int) kk 1) (hk : 7 ≤ kk)
    (h : Z M G 0 K X w 22 [some (.ref (G.2.1 0 0)), some (.int x1), some (.int x2)] [.int 0, .ref (G.2.1 0 0)]) :
    Z M G 0 K X w 21 [some (.ref (G.2.1 0 0)), some (.int x1), some (.int x2)] [.ref (G.2.1 0 0)] := by
  refine z_iconst F 0 dX9_takes_21 (by decide) ?_
  exact h
set_option maxRecDepth 20000 in
theorem b_X9_takes_22 {M : Mx} {G : Gx} {kk : Nat} {w : Wd}  {x1 : Int32} {x2 : Int32} {s0 : Int32} {K : Option Value → Wd → Prop} {X : String → Wd → Prop} (F : Fx M G RX9 cX9_takes 3 (some .int) kk 1) (hk : 7 ≤ kk)
    (h : Con (mL M) G 6 1 yX9_find cX9_find 2 none w [.ref (G.2.1 0 0), .int s0] (fun r w2 => r = none ∧ Con (mL M) G 3 0 yX7_breathFor cX7_breathFor 5 (some .int) w2 [.ref (G.2.1 2 0), .ref (G.2.1 5 0), .int x1, .int x2] (fun r w4 => ∃ v3 : Int32, r = some (.int v3) ∧ K (some (.int v3)) w4) X) X) :
    Z M G 0 K X w 22 [some (.ref (G.2.1 0 0)), some (.int x1), some (.int x2)] [.int s0, .ref (G.2.1 0 0)] := by
  refine z_callV F (k' := 6) (mc' := 1) [.int s0] [] dX9_takes_22 rfl rfl (by decide) rfl cl_X9_209 hy_X9_find (by omega) (by decide) (by decide) (Nat.le_of_ble_eq_true rfl) rfl (con_mono h ?_ (fun _ _ h => h))
  rintro _ w2 ⟨rfl, h⟩
  show Z M G 1 K X w2 25 [some (.ref (G.2.1 0 0)), some (.int x1), some (.int x2)] []
  refine z_aload_n F dX9_takes_25 rfl ?_
  refine z_getR F 1 2 0 rfl (by decide) (by decide) rfl rfl rfl lk_X9_19 dX9_takes_26 ?_
  refine z_aload_n F dX9_takes_29 rfl ?_
  refine z_getR F 3 4 0 rfl (by decide) (by decide) rfl rfl rfl lk_X9_33 dX9_takes_30 ?_
  refine z_getR F 1 5 0 rfl (by decide) (by decide) rfl rfl rfl lk_X9_128 dX9_takes_33 ?_
  refine z_iload_n F dX9_takes_36 rfl ?_
  refine z_iload_n F dX9_takes_37 rfl ?_
  refine z_callV F (k' := 3) (mc' := 0) [.ref (G.2.1 5 0), .int x1, .int x2] [] dX9_takes_38 rfl rfl (by decide) rfl cl_X9_243 hy_X7_breathFor (by omega) (by decide) (by decide) (Nat.le_of_ble_eq_true rfl) rfl (con_mono h ?_ (fun _ _ h => h))
  rintro _ w4 ⟨v3, rfl, h⟩
  show Z M G 1 K X w4 41 [some (.ref (G.2.1 0 0)), some (.int x1), some (.int x2)] [.int v3]
  exact z_iret F dX9_takes_41 (by decide) h
set_option maxRecDepth 20000 in
theorem e_X9_would {l : Launch} {G : Gx} {w : Wd} {p0 : Int32} {p1 : Int32} {p2 : Int32} {p3 : Int32} {p4 : Int32} {p5 : Int32} {p6 : Int32} {p7 : Int32} {K : Option Value → Wd → Prop} {X : String → Wd → Prop} (hl : l.stackTraces = false)
    (h : ∀ (M : Mx) (kk : Nat), mL M = l → 7 ≤ kk → Fx M G RX9 cX9_would 10 (some .int) kk 4 → Con (mL M) G 1 0 yX9_within cX9_within 3 (some .boolean) w [.int p0, .int 1, .int 9] (fun r w2 => ∃ v1 : Int32, r = some (.int v1) ∧ ((v1 = 0 → Z M G 0 K X w2 25 [some (.ref (G.2.1 0 0)), some (.int p0), some (.int p1), some (.int p2), some (.int p3), some (.int p4), some (.int p5), some (.int p6), some (.int p7), none] [.ref (G.2.1 0 0)]) ∧ (¬ (v1 = 0) → Con (mL M) G 1 0 yX9_within cX9_within 3 (some .boolean) w2 [.int p1, .int 0, .int 60] (fun r w4 => ∃ v3 : Int32, r = some (.int v3) ∧ ((v3 = 0 → Z M G 0 K X w4 25 [some (.ref (G.2.1 0 0)), some (.int p0), some (.int p1), some (.int p2), some (.int p3), some (.int p4), some (.int p5), some (.int p6), some (.int p7), none] [.ref (G.2.1 0 0)]) ∧ (¬ (v3 = 0) → Z M G 0 K X w4 26 [some (.ref (G.2.1 0 0)), some (.int p0), some (.int p1), some (.int p2), some (.int p3), some (.int p4), some (.int p5), some (.int p6), some (.int p7), none] [.int 1, .ref (G.2.1 0 0)]))) X))) X) :
    Con l G 7 4 yX9_would cX9_would 10 (some .int) w [.ref (G.2.1 0 0), .int p0, .int p1, .int p2, .int p3, .int p4, .int p5, .int p6, .int p7] K X := by
  refine con_intro hl (by decide +kernel) (Nat.le_of_ble_eq_true rfl) (Nat.le_of_ble_eq_true rfl) (fun M kk hM hk F => ?_)
  have h := h M kk hM hk F
  show Z M G 0 K X w 0 [some (.ref (G.2.1 0 0)), some (.int p0), some (.int p1), some (.int p2), some (.int p3), some (.int p4), some (.int p5), some (.int p6), some (.int p7), none] []
  refine z_aload_n F dX9_would_0 rfl ?_
  refine z_iload_n F dX9_would_1 rfl ?_
  refine z_iconst F 1 dX9_would_2 (by decide) ?_
  refine z_bipush F 9 dX9_would_3 (by decide) ?_
  refine z_callS F (k' := 1) (mc' := 0) [.int p0, .int 1, .int 9] [.ref (G.2.1 0 0)] dX9_would_5 rfl cl_X9_168 hy_X9_within.2 (by omega) (by decide) (by decide) (Nat.le_of_ble_eq_true rfl) rfl (con_mono h ?_ (fun _ _ h => h))
  rintro _ w2 ⟨v1, rfl, h⟩
  show Z M G 0 K X w2 8 [some (.ref (G.2.1 0 0)), some (.int p0), some (.int p1), some (.int p2), some (.int p3), some (.int p4), some (.int p5), some (.int p6), some (.int p7), none] [.int v1, .ref (G.2.1 0 0)]
  refine z_if_eq F 25 dX9_would_8 (by decide) ⟨fun hc => ?_, fun hc => ?_⟩
  · have h := h.1 hc
    exact h
  · have h := h.2 hc
    refine z_iload_n F dX9_would_11 rfl ?_
    refine z_iconst F 0 dX9_would_12 (by decide) ?_
    refine z_bipush F 60 dX9_would_13 (by decide) ?_
    refine z_callS F (k' := 1) (mc' := 0) [.int p1, .int 0, .int 60] [.ref (G.2.1 0 0)] dX9_would_15 rfl cl_X9_168 hy_X9_within.2 (by omega) (by decide) (by decide) (Nat.le_of_ble_eq_true rfl) rfl (con_mono h ?_ (fun _ _ h => h))
    rintro _ w4 ⟨v3, rfl, h⟩
    show Z M G 0 K X w4 18 [some (.ref (G.2.1 0 0)), some (.int p0), some (.int p1), some (.int p2), some (.int p3), some (.int p4), some (.int p5), some (.int p6), some (.int p7), none] [.int v3, .ref (G.2.1 0 0)]
    refine z_if_eq F 25 dX9_would_18 (by decide) ⟨fun hc => ?_, fun hc => ?_⟩
    · have h := h.1 hc
      exact h
    · have h := h.2 hc
      refine z_iconst F 1 dX9_would_21 (by decide) ?_
      refine z_goto F 26 dX9_would_22 (by decide) ?_
      exact h
set_option maxRecDepth 20000 in
theorem b_X9_would_25 {M : Mx} {G : Gx} {kk : Nat} {w : Wd}  {x1 : Int32} {x2 : Int32} {x3 : Int32} {x4 : Int32} {x5 : Int32} {x6 : Int32} {x7 : Int32} {x8 : Int32} {K : Option Value → Wd → Prop} {X : String → Wd → Prop} (F : Fx M G RX9 cX9_would 10 (some .int) kk 4) (hk : 7 ≤ kk)
    (h : Z M G 0 K X w 26 [some (.ref (G.2.1 0 0)), some (.int x1), some (.int x2), some (.int x3), some (.int x4), some (.int x5), some (.int x6), some (.int x7), some (.int x8), none] [.int 0, .ref (G.2.1 0 0)]) :
    Z M G 0 K X w 25 [some (.ref (G.2.1 0 0)), some (.int x1), some (.int x2), some (.int x3), some (.int x4), some (.int x5), some (.int x6), some (.int x7), some (.int x8), none] [.ref (G.2.1 0 0)] := by
  refine z_iconst F 0 dX9_would_25 (by decide) ?_
  exact h
set_option maxRecDepth 20000 in
theorem b_X9_would_26 {M : Mx} {G : Gx} {kk : Nat} {w : Wd}  {x1 : Int32} {x2 : Int32} {x3 : Int32} {x4 : Int32} {x5 : Int32} {x6 : Int32} {x7 : Int32} {x8 : Int32} {s0 : Int32} {K : Option Value → Wd → Prop} {X : String → Wd → Prop} (F : Fx M G RX9 cX9_would 10 (some .int) kk 4) (hk : 7 ≤ kk)
    (h : Con (mL M) G 6 1 yX9_demand cX9_demand 2 none w [.ref (G.2.1 0 0), .int s0] (fun r w2 => r = none ∧ Con (mL M) G 1 0 yX9_within cX9_within 3 (some .boolean) w2 [.int x3, .int 0, .int 30] (fun r w4 => ∃ v3 : Int32, r = some (.int v3) ∧ ((v3 = 0 → Z M G 1 K X w4 56 [some (.ref (G.2.1 0 0)), some (.int x1), some (.int x2), some (.int x3), some (.int x4), some (.int x5), some (.int x6), some (.int x7), some (.int x8), none] [.ref (G.2.1 0 0)]) ∧ (¬ (v3 = 0) → Con (mL M) G 1 0 yX9_within cX9_within 3 (some .boolean) w4 [.int x4, .int 0, .int 9999] (fun r w6 => ∃ v5 : Int32, r = some (.int v5) ∧ ((v5 = 0 → Z M G 1 K X w6 56 [some (.ref (G.2.1 0 0)), some (.int x1), some (.int x2), some (.int x3), some (.int x4), some (.int x5), some (.int x6), some (.int x7), some (.int x8), none] [.ref (G.2.1 0 0)]) ∧ (¬ (v5 = 0) → Z M G 1 K X w6 57 [some (.ref (G.2.1 0 0)), some (.int x1), some (.int x2), some (.int x3), some (.int x4), some (.int x5), some (.int x6), some (.int x7), some (.int x8), none] [.int 1, .ref (G.2.1 0 0)]))) X))) X) X) :
    Z M G 0 K X w 26 [some (.ref (G.2.1 0 0)), some (.int x1), some (.int x2), some (.int x3), some (.int x4), some (.int x5), some (.int x6), some (.int x7), some (.int x8), none] [.int s0, .ref (G.2.1 0 0)] := by
  refine z_callV F (k' := 6) (mc' := 1) [.int s0] [] dX9_would_26 rfl rfl (by decide) rfl cl_X9_172 hy_X9_demand (by omega) (by decide) (by decide) (Nat.le_of_ble_eq_true rfl) rfl (con_mono h ?_ (fun _ _ h => h))
  rintro _ w2 ⟨rfl, h⟩
  show Z M G 1 K X w2 29 [some (.ref (G.2.1 0 0)), some (.int x1), some (.int x2), some (.int x3), some (.int x4), some (.int x5), some (.int x6), some (.int x7), some (.int x8), none] []
  refine z_aload_n F dX9_would_29 rfl ?_
  refine z_iload_n F dX9_would_30 rfl ?_
  refine z_iconst F 0 dX9_would_31 (by decide) ?_
  refine z_bipush F 30 dX9_would_32 (by decide) ?_
  refine z_callS F (k' := 1) (mc' := 0) [.int x3, .int 0, .int 30] [.ref (G.2.1 0 0)] dX9_would_34 rfl cl_X9_168 hy_X9_within.2 (by omega) (by decide) (by decide) (Nat.le_of_ble_eq_true rfl) rfl (con_mono h ?_ (fun _ _ h => h))
  rintro _ w4 ⟨v3, rfl, h⟩
  show Z M G 1 K X w4 37 [some (.ref (G.2.1 0 0)), some (.int x1), some (.int x2), some (.int x3), some (.int x4), some (.int x5), some (.int x6), some (.int x7), some (.int x8), none] [.int v3, .ref (G.2.1 0 0)]
  refine z_if_eq F 56 dX9_would_37 (by decide) ⟨fun hc => ?_, fun hc => ?_⟩
  · have h := h.1 hc
    exact h
  · have h := h.2 hc
    refine z_iload F dX9_would_40 rfl ?_
    refine z_iconst F 0 dX9_would_42 (by decide) ?_
    refine z_sipush F 9999 dX9_would_43 (by decide) ?_
    refine z_callS F (k' := 1) (mc' := 0) [.int x4, .int 0, .int 9999] [.ref (G.2.1 0 0)] dX9_would_46 rfl cl_X9_168 hy_X9_within.2 (by omega) (by decide) (by decide) (Nat.le_of_ble_eq_true rfl) rfl (con_mono h ?_ (fun _ _ h => h))
    rintro _ w6 ⟨v5, rfl, h⟩
    show Z M G 1 K X w6 49 [some (.ref (G.2.1 0 0)), some (.int x1), some (.int x2), some (.int x3), some (.int x4), some (.int x5), some (.int x6), some (.int x7), some (.int x8), none] [.int v5, .ref (G.2.1 0 0)]
    refine z_if_eq F 56 dX9_would_49 (by decide) ⟨fun hc => ?_, fun hc => ?_⟩
    · have h := h.1 hc
      exact h
    · have h := h.2 hc
      refine z_iconst F 1 dX9_would_52 (by decide) ?_
      refine z_goto F 57 dX9_would_53 (by decide) ?_
      exact h
set_option maxRecDepth 20000 in
theorem b_X9_would_56 {M : Mx} {G : Gx} {kk : Nat} {w : Wd}  {x1 : Int32} {x2 : Int32} {x3 : Int32} {x4 : Int32} {x5 : Int32} {x6 : Int32} {x7 : Int32} {x8 : Int32} {K : Option Value → Wd → Prop} {X : String → Wd → Prop} (F : Fx M G RX9 cX9_would 10 (some .int) kk 4) (hk : 7 ≤ kk)
    (h : Z M G 1 K X w 57 [some (.ref (G.2.1 0 0)), some (.int x1), some (.int x2), some (.int x3), some (.int x4), some (.int x5), some (.int x6), some (.int x7), some (.int x8), none] [.int 0, .ref (G.2.1 0 0)]) :
    Z M G 1 K X w 56 [some (.ref (G.2.1 0 0)), some (.int x1), some (.int x2), some (.int x3), some (.int x4), some (.int x5), some (.int x6), some (.int x7), some (.int x8), none] [.ref (G.2.1 0 0)] := by
  refine z_iconst F 0 dX9_would_56 (by decide) ?_
  exact h
set_option maxRecDepth 20000 in
theorem b_X9_would_57 {M : Mx} {G : Gx} {kk : Nat} {w : Wd}  {x1 : Int32} {x2 : Int32} {x3 : Int32} {x4 : Int32} {x5 : Int32} {x6 : Int32} {x7 : Int32} {x8 : Int32} {s0 : Int32} {K : Option Value → Wd → Prop} {X : String → Wd → Prop} (F : Fx M G RX9 cX9_would 10 (some .int) kk 4) (hk : 7 ≤ kk)
    (h : Con (mL M) G 6 1 yX9_demand cX9_demand 2 none w [.ref (G.2.1 0 0), .int s0] (fun r w2 => r = none ∧ Con (mL M) G 1 0 yX9_within cX9_within 3 (some .boolean) w2 [.int x5, .int 0, .int 19] (fun r w4 => ∃ v3 : Int32, r = some (.int v3) ∧ ((v3 = 0 → Z M G 2 K X w4 84 [some (.ref (G.2.1 0 0)), some (.int x1), some (.int x2), some (.int x3), some (.int x4), some (.int x5), some (.int x6), some (.int x7), some (.int x8), none] [.ref (G.2.1 0 0)]) ∧ (¬ (v3 = 0) → Con (mL M) G 2 0 yX9_isVowel cX9_isVowel 1 (some .boolean) w4 [.int x6] (fun r w6 => ∃ v5 : Int32, r = some (.int v5) ∧ ((v5 = 0 → Z M G 2 K X w6 84 [some (.ref (G.2.1 0 0)), some (.int x1), some (.int x2), some (.int x3), some (.int x4), some (.int x5), some (.int x6), some (.int x7), some (.int x8), none] [.ref (G.2.1 0 0)]) ∧ (¬ (v5 = 0) → Z M G 2 K X w6 85 [some (.ref (G.2.1 0 0)), some (.int x1), some (.int x2), some (.int x3), some (.int x4), some (.int x5), some (.int x6), some (.int x7), some (.int x8), none] [.int 1, .ref (G.2.1 0 0)]))) X))) X) X) :
    Z M G 1 K X w 57 [some (.ref (G.2.1 0 0)), some (.int x1), some (.int x2), some (.int x3), some (.int x4), some (.int x5), some (.int x6), some (.int x7), some (.int x8), none] [.int s0, .ref (G.2.1 0 0)] := by
  refine z_callV F (k' := 6) (mc' := 1) [.int s0] [] dX9_would_57 rfl rfl (by decide) rfl cl_X9_172 hy_X9_demand (by omega) (by decide) (by decide) (Nat.le_of_ble_eq_true rfl) rfl (con_mono h ?_ (fun _ _ h => h))
  rintro _ w2 ⟨rfl, h⟩
  show Z M G 2 K X w2 60 [some (.ref (G.2.1 0 0)), some (.int x1), some (.int x2), some (.int x3), some (.int x4), some (.int x5), some (.int x6), some (.int x7), some (.int x8), none] []
  refine z_aload_n F dX9_would_60 rfl ?_
  refine z_iload F dX9_would_61 rfl ?_
  refine z_iconst F 0 dX9_would_63 (by decide) ?_
  refine z_bipush F 19 dX9_would_64 (by decide) ?_
  refine z_callS F (k' := 1) (mc' := 0) [.int x5, .int 0, .int 19] [.ref (G.2.1 0 0)] dX9_would_66 rfl cl_X9_168 hy_X9_within.2 (by omega) (by decide) (by decide) (Nat.le_of_ble_eq_true rfl) rfl (con_mono h ?_ (fun _ _ h => h))
  rintro _ w4 ⟨v3, rfl, h⟩
  show Z M G 2 K X w4 69 [some (.ref (G.2.1 0 0)), some (.int x1), some (.int x2), some (.int x3), some (.int x4), some (.int x5), some (.int x6), some (.int x7), some (.int x8), none] [.int v3, .ref (G.2.1 0 0)]
  refine z_if_eq F 84 dX9_would_69 (by decide) ⟨fun hc => ?_, fun hc => ?_⟩
  · have h := h.1 hc
    exact h
  · have h := h.2 hc
    refine z_iload F dX9_would_72 rfl ?_
    refine z_callS F (k' := 2) (mc' := 0) [.int x6] [.ref (G.2.1 0 0)] dX9_would_74 rfl cl_X9_247 hy_X9_isVowel.2 (by omega) (by decide) (by decide) (Nat.le_of_ble_eq_true rfl) rfl (con_mono h ?_ (fun _ _ h => h))
    rintro _ w6 ⟨v5, rfl, h⟩
    show Z M G 2 K X w6 77 [some (.ref (G.2.1 0 0)), some (.int x1), some (.int x2), some (.int x3), some (.int x4), some (.int x5), some (.int x6), some (.int x7), some (.int x8), none] [.int v5, .ref (G.2.1 0 0)]
    refine z_if_eq F 84 dX9_would_77 (by decide) ⟨fun hc => ?_, fun hc => ?_⟩
    · have h := h.1 hc
      exact h
    · have h := h.2 hc
      refine z_iconst F 1 dX9_would_80 (by decide) ?_
      refine z_goto F 85 dX9_would_81 (by decide) ?_
      exact h
set_option maxRecDepth 20000 in
theorem b_X9_would_84 {M : Mx} {G : Gx} {kk : Nat} {w : Wd}  {x1 : Int32} {x2 : Int32} {x3 : Int32} {x4 : Int32} {x5 : Int32} {x6 : Int32} {x7 : Int32} {x8 : Int32} {K : Option Value → Wd → Prop} {X : String → Wd → Prop} (F : Fx M G RX9 cX9_would 10 (some .int) kk 4) (hk : 7 ≤ kk)
    (h : Z M G 2 K X w 85 [some (.ref (G.2.1 0 0)), some (.int x1), some (.int x2), some (.int x3), some (.int x4), some (.int x5), some (.int x6), some (.int x7), some (.int x8), none] [.int 0, .ref (G.2.1 0 0)]) :
    Z M G 2 K X w 84 [some (.ref (G.2.1 0 0)), some (.int x1), some (.int x2), some (.int x3), some (.int x4), some (.int x5), some (.int x6), some (.int x7), some (.int x8), none] [.ref (G.2.1 0 0)] := by
  refine z_iconst F 0 dX9_would_84 (by decide) ?_
  exact h
set_option maxRecDepth 20000 in
theorem b_X9_would_85 {M : Mx} {G : Gx} {kk : Nat} {w : Wd}  {x1 : Int32} {x2 : Int32} {x3 : Int32} {x4 : Int32} {x5 : Int32} {x6 : Int32} {x7 : Int32} {x8 : Int32} {s0 : Int32} {K : Option Value → Wd → Prop} {X : String → Wd → Prop} (F : Fx M G RX9 cX9_would 10 (some .int) kk 4) (hk : 7 ≤ kk)
    (h : Con (mL M) G 6 1 yX9_demand cX9_demand 2 none w [.ref (G.2.1 0 0), .int s0] (fun r w2 => r = none ∧ Con (mL M) G 1 0 yX9_within cX9_within 3 (some .boolean) w2 [.int x7, .int 0, .int 400] (fun r w4 => ∃ v3 : Int32, r = some (.int v3) ∧ ((v3 = 0 → Z M G 3 K X w4 116 [some (.ref (G.2.1 0 0)), some (.int x1), some (.int x2), some (.int x3), some (.int x4), some (.int x5), some (.int x6), some (.int x7), some (.int x8), none] [.ref (G.2.1 0 0)]) ∧ (¬ (v3 = 0) → Con (mL M) G 1 0 yX9_within cX9_within 3 (some .boolean) w4 [.int x8, .int 0, .int 6] (fun r w6 => ∃ v5 : Int32, r = some (.int v5) ∧ ((v5 = 0 → Z M G 3 K X w6 116 [some (.ref (G.2.1 0 0)), some (.int x1), some (.int x2), some (.int x3), some (.int x4), some (.int x5), some (.int x6), some (.int x7), some (.int x8), none] [.ref (G.2.1 0 0)]) ∧ (¬ (v5 = 0) → Z M G 3 K X w6 117 [some (.ref (G.2.1 0 0)), some (.int x1), some (.int x2), some (.int x3), some (.int x4), some (.int x5), some (.int x6), some (.int x7), some (.int x8), none] [.int 1, .ref (G.2.1 0 0)]))) X))) X) X) :
    Z M G 2 K X w 85 [some (.ref (G.2.1 0 0)), some (.int x1), some (.int x2), some (.int x3), some (.int x4), some (.int x5), some (.int x6), some (.int x7), some (.int x8), none] [.int s0, .ref (G.2.1 0 0)] := by
  refine z_callV F (k' := 6) (mc' := 1) [.int s0] [] dX9_would_85 rfl rfl (by decide) rfl cl_X9_172 hy_X9_demand (by omega) (by decide) (by decide) (Nat.le_of_ble_eq_true rfl) rfl (con_mono h ?_ (fun _ _ h => h))
  rintro _ w2 ⟨rfl, h⟩
  show Z M G 3 K X w2 88 [some (.ref (G.2.1 0 0)), some (.int x1), some (.int x2), some (.int x3), some (.int x4), some (.int x5), some (.int x6), some (.int x7), some (.int x8), none] []
  refine z_aload_n F dX9_would_88 rfl ?_
  refine z_iload F dX9_would_89 rfl ?_
  refine z_iconst F 0 dX9_would_91 (by decide) ?_
  refine z_sipush F 400 dX9_would_92 (by decide) ?_
  refine z_callS F (k' := 1) (mc' := 0) [.int x7, .int 0, .int 400] [.ref (G.2.1 0 0)] dX9_would_95 rfl cl_X9_168 hy_X9_within.2 (by omega) (by decide) (by decide) (Nat.le_of_ble_eq_true rfl) rfl (con_mono h ?_ (fun _ _ h => h))
  rintro _ w4 ⟨v3, rfl, h⟩
  show Z M G 3 K X w4 98 [some (.ref (G.2.1 0 0)), some (.int x1), some (.int x2), some (.int x3), some (.int x4), some (.int x5), some (.int x6), some (.int x7), some (.int x8), none] [.int v3, .ref (G.2.1 0 0)]
  refine z_if_eq F 116 dX9_would_98 (by decide) ⟨fun hc => ?_, fun hc => ?_⟩
  · have h := h.1 hc
    exact h
  · have h := h.2 hc
    refine z_iload F dX9_would_101 rfl ?_
    refine z_iconst F 0 dX9_would_103 (by decide) ?_
    refine z_bipush F 6 dX9_would_104 (by decide) ?_
    refine z_callS F (k' := 1) (mc' := 0) [.int x8, .int 0, .int 6] [.ref (G.2.1 0 0)] dX9_would_106 rfl cl_X9_168 hy_X9_within.2 (by omega) (by decide) (by decide) (Nat.le_of_ble_eq_true rfl) rfl (con_mono h ?_ (fun _ _ h => h))
    rintro _ w6 ⟨v5, rfl, h⟩
    show Z M G 3 K X w6 109 [some (.ref (G.2.1 0 0)), some (.int x1), some (.int x2), some (.int x3), some (.int x4), some (.int x5), some (.int x6), some (.int x7), some (.int x8), none] [.int v5, .ref (G.2.1 0 0)]
    refine z_if_eq F 116 dX9_would_109 (by decide) ⟨fun hc => ?_, fun hc => ?_⟩
    · have h := h.1 hc
      exact h
    · have h := h.2 hc
      refine z_iconst F 1 dX9_would_112 (by decide) ?_
      refine z_goto F 117 dX9_would_113 (by decide) ?_
      exact h
set_option maxRecDepth 20000 in
theorem b_X9_would_116 {M : Mx} {G : Gx} {kk : Nat} {w : Wd}  {x1 : Int32} {x2 : Int32} {x3 : Int32} {x4 : Int32} {x5 : Int32} {x6 : Int32} {x7 : Int32} {x8 : Int32} {K : Option Value → Wd → Prop} {X : String → Wd → Prop} (F : Fx M G RX9 cX9_would 10 (some .int) kk 4) (hk : 7 ≤ kk)
    (h : Z M G 3 K X w 117 [some (.ref (G.2.1 0 0)), some (.int x1), some (.int x2), some (.int x3), some (.int x4), some (.int x5), some (.int x6), some (.int x7), some (.int x8), none] [.int 0, .ref (G.2.1 0 0)]) :
    Z M G 3 K X w 116 [some (.ref (G.2.1 0 0)), some (.int x1), some (.int x2), some (.int x3), some (.int x4), some (.int x5), some (.int x6), some (.int x7), some (.int x8), none] [.ref (G.2.1 0 0)] := by
  refine z_iconst F 0 dX9_would_116 (by decide) ?_
  exact h
set_option maxRecDepth 20000 in
theorem b_X9_would_117 {M : Mx} {G : Gx} {kk : Nat} {w : Wd}  {x1 : Int32} {x2 : Int32} {x3 : Int32} {x4 : Int32} {x5 : Int32} {x6 : Int32} {x7 : Int32} {x8 : Int32} {s0 : Int32} {K : Option Value → Wd → Prop} {X : String → Wd → Prop} (F : Fx M G RX9 cX9_would 10 (some .int) kk 4) (hk : 7 ≤ kk)
    (h : Con (mL M) G 6 1 yX9_demand cX9_demand 2 none w [.ref (G.2.1 0 0), .int s0] (fun r w2 => r = none ∧ (∀ w4 : Wd, w4 = setI w2 33 (w2.2.2 2 0 1) 0 x1 → (∀ w5 : Wd, w5 = setI w4 33 (w2.2.2 2 0 1) 1 x2 → (∀ w6 : Wd, w6 = setI w5 33 (w2.2.2 2 0 1) 2 x3 → (∀ w7 : Wd, w7 = setI w6 33 (w2.2.2 2 0 1) 3 x4 → (∀ w8 : Wd, w8 = setI w7 33 (w2.2.2 2 0 1) 4 x5 → (∀ w9 : Wd, w9 = setI w8 33 (w2.2.2 2 0 1) 5 x6 → (∀ w10 : Wd, w10 = setI w9 33 (w2.2.2 2 0 1) 6 x7 → (∀ w11 : Wd, w11 = setI w10 33 (w2.2.2 2 0 1) 7 x8 → Con (mL M) G 2 0 yX2_weigh cX2_weigh 4 (some .int) w11 [.ref (G.2.1 8 (w11.2.2 2 0 1))] (fun r w14 => ∃ v13 : Int32, r = some (.int v13) ∧ K (some (.int v13)) w14) X))))))))) X) :
    Z M G 3 K X w 117 [some (.ref (G.2.1 0 0)), some (.int x1), some (.int x2), some (.int x3), some (.int x4), some (.int x5), some (.int x6), some (.int x7), some (.int x8), none] [.int s0, .ref (G.2.1 0 0)] := by
  refine z_callV F (k' := 6) (mc' := 1) [.int s0] [] dX9_would_117 rfl rfl (by decide) rfl cl_X9_172 hy_X9_demand (by omega) (by decide) (by decide) (Nat.le_of_ble_eq_true rfl) rfl (con_mono h ?_ (fun _ _ h => h))
  rintro _ w2 ⟨rfl, h⟩
  show Z M G 4 K X w2 120 [some (.ref (G.2.1 0 0)), some (.int x1), some (.int x2), some (.int x3), some (.int x4), some (.int x5), some (.int x6), some (.int x7), some (.int x8), none] []
  refine z_aload_n F dX9_would_120 rfl ?_
  refine z_getR F 1 2 0 rfl (by decide) (by decide) rfl rfl rfl lk_X9_19 dX9_would_121 ?_
  refine z_getD F 1 8 rfl (by decide) (by decide) rfl rfl lk_X9_116 dX9_would_124 (fun hv3 => ?_)
  refine z_getR F 0 33 (w2.2.2 2 0 1) rfl hv3 (by decide) rfl rfl rfl lk_X9_250 dX9_would_127 ?_
  refine z_astore F dX9_would_130 (Nat.le_of_ble_eq_true rfl) ?_
  refine z_aload F dX9_would_132 rfl ?_
  refine z_iconst F 0 dX9_would_134 (by decide) ?_
  refine z_iload_n F dX9_would_135 rfl ?_
  refine z_iastW F 0 (by decide) rfl (fix_lt 8 (w2.2.2 2 0 1) 0 hv3 (by decide) rfl rfl) (by unfold vp_in; decide) dX9_would_136 (fun w4 hw4 => ?_)
  have h := h w4 hw4
  refine z_aload F dX9_would_137 rfl ?_
  refine z_iconst F 1 dX9_would_139 (by decide) ?_
  refine z_iload_n F dX9_would_140 rfl ?_
  refine z_iastW F 1 (by decide) rfl (fix_lt 8 (w2.2.2 2 0 1) 0 hv3 (by decide) rfl rfl) (by unfold vp_in; decide) dX9_would_141 (fun w5 hw5 => ?_)
  have h := h w5 hw5
  refine z_aload F dX9_would_142 rfl ?_
  refine z_iconst F 2 dX9_would_144 (by decide) ?_
  refine z_iload_n F dX9_would_145 rfl ?_
  refine z_iastW F 2 (by decide) rfl (fix_lt 8 (w2.2.2 2 0 1) 0 hv3 (by decide) rfl rfl) (by unfold vp_in; decide) dX9_would_146 (fun w6 hw6 => ?_)
  have h := h w6 hw6
  refine z_aload F dX9_would_147 rfl ?_
  refine z_iconst F 3 dX9_would_149 (by decide) ?_
  refine z_iload F dX9_would_150 rfl ?_
  refine z_iastW F 3 (by decide) rfl (fix_lt 8 (w2.2.2 2 0 1) 0 hv3 (by decide) rfl rfl) (by unfold vp_in; decide) dX9_would_152 (fun w7 hw7 => ?_)
  have h := h w7 hw7
  refine z_aload F dX9_would_153 rfl ?_
  refine z_iconst F 4 dX9_would_155 (by decide) ?_
  refine z_iload F dX9_would_156 rfl ?_
  refine z_iastW F 4 (by decide) rfl (fix_lt 8 (w2.2.2 2 0 1) 0 hv3 (by decide) rfl rfl) (by unfold vp_in; decide) dX9_would_158 (fun w8 hw8 => ?_)
  have h := h w8 hw8
  refine z_aload F dX9_would_159 rfl ?_
  refine z_iconst F 5 dX9_would_161 (by decide) ?_
  refine z_iload F dX9_would_162 rfl ?_
  refine z_iastW F 5 (by decide) rfl (fix_lt 8 (w2.2.2 2 0 1) 0 hv3 (by decide) rfl rfl) (by unfold vp_in; decide) dX9_would_164 (fun w9 hw9 => ?_)
  have h := h w9 hw9
  refine z_aload F dX9_would_165 rfl ?_
  refine z_bipush F 6 dX9_would_167 (by decide) ?_
  refine z_iload F dX9_would_169 rfl ?_
  refine z_iastW F 6 (by decide) rfl (fix_lt 8 (w2.2.2 2 0 1) 0 hv3 (by decide) rfl rfl) (by unfold vp_in; decide) dX9_would_171 (fun w10 hw10 => ?_)
  have h := h w10 hw10
  refine z_aload F dX9_would_172 rfl ?_
  refine z_bipush F 7 dX9_would_174 (by decide) ?_
  refine z_iload F dX9_would_176 rfl ?_
  refine z_iastW F 7 (by decide) rfl (fix_lt 8 (w2.2.2 2 0 1) 0 hv3 (by decide) rfl rfl) (by unfold vp_in; decide) dX9_would_178 (fun w11 hw11 => ?_)
  have h := h w11 hw11
  refine z_aload_n F dX9_would_179 rfl ?_
  refine z_getR F 1 2 0 rfl (by decide) (by decide) rfl rfl rfl lk_X9_19 dX9_would_180 ?_
  refine z_getD F 1 8 rfl (by decide) (by decide) rfl rfl lk_X9_116 dX9_would_183 (fun hv12 => ?_)
  refine z_callV F (k' := 2) (mc' := 0) [] [] dX9_would_186 rfl rfl hv12 rfl cl_X9_253 hy_X2_weigh (by omega) (by decide) (by decide) (Nat.le_of_ble_eq_true rfl) rfl (con_mono h ?_ (fun _ _ h => h))
  rintro _ w14 ⟨v13, rfl, h⟩
  show Z M G 4 K X w14 189 [some (.ref (G.2.1 0 0)), some (.int x1), some (.int x2), some (.int x3), some (.int x4), some (.int x5), some (.int x6), some (.int x7), some (.int x8), some (.ref (G.2.1 33 (w2.2.2 2 0 1)))] [.int v13]
  exact z_iret F dX9_would_189 (by decide) h
set_option maxRecDepth 20000 in
theorem e_X9_ahead {l : Launch} {G : Gx} {w : Wd} {p0 : Int32} {p1 : Int32} {K : Option Value → Wd → Prop} {X : String → Wd → Prop} (hl : l.stackTraces = false)
    (h : ∀ (M : Mx) (kk : Nat), mL M = l → 7 ≤ kk → Fx M G RX9 cX9_ahead 4 (some .int) kk 1 → Con (mL M) G 1 0 yX9_within cX9_within 3 (some .boolean) w [.int p0, .int 0, .int 20] (fun r w2 => ∃ v1 : Int32, r = some (.int v1) ∧ ((v1 = 0 → Z M G 0 K X w2 24 [some (.ref (G.2.1 0 0)), some (.int p0), some (.int p1), none] [.ref (G.2.1 0 0)]) ∧ (¬ (v1 = 0) → Con (mL M) G 1 0 yX9_within cX9_within 3 (some .boolean) w2 [.int p1, .int 0, .int 2] (fun r w4 => ∃ v3 : Int32, r = some (.int v3) ∧ ((v3 = 0 → Z M G 0 K X w4 24 [some (.ref (G.2.1 0 0)), some (.int p0), some (.int p1), none] [.ref (G.2.1 0 0)]) ∧ (¬ (v3 = 0) → Z M G 0 K X w4 25 [some (.ref (G.2.1 0 0)), some (.int p0), some (.int p1), none] [.int 1, .ref (G.2.1 0 0)]))) X))) X) :
    Con l G 7 1 yX9_ahead cX9_ahead 4 (some .int) w [.ref (G.2.1 0 0), .int p0, .int p1] K X := by
  refine con_intro hl (by decide +kernel) (Nat.le_of_ble_eq_true rfl) (Nat.le_of_ble_eq_true rfl) (fun M kk hM hk F => ?_)
  have h := h M kk hM hk F
  show Z M G 0 K X w 0 [some (.ref (G.2.1 0 0)), some (.int p0), some (.int p1), none] []
  refine z_aload_n F dX9_ahead_0 rfl ?_
  refine z_iload_n F dX9_ahead_1 rfl ?_
  refine z_iconst F 0 dX9_ahead_2 (by decide) ?_
  refine z_bipush F 20 dX9_ahead_3 (by decide) ?_
  refine z_callS F (k' := 1) (mc' := 0) [.int p0, .int 0, .int 20] [.ref (G.2.1 0 0)] dX9_ahead_5 rfl cl_X9_168 hy_X9_within.2 (by omega) (by decide) (by decide) (Nat.le_of_ble_eq_true rfl) rfl (con_mono h ?_ (fun _ _ h => h))
  rintro _ w2 ⟨v1, rfl, h⟩
  show Z M G 0 K X w2 8 [some (.ref (G.2.1 0 0)), some (.int p0), some (.int p1), none] [.int v1, .ref (G.2.1 0 0)]
  refine z_if_eq F 24 dX9_ahead_8 (by decide) ⟨fun hc => ?_, fun hc => ?_⟩
  · have h := h.1 hc
    exact h
  · have h := h.2 hc
    refine z_iload_n F dX9_ahead_11 rfl ?_
    refine z_iconst F 0 dX9_ahead_12 (by decide) ?_
    refine z_iconst F 2 dX9_ahead_13 (by decide) ?_
    refine z_callS F (k' := 1) (mc' := 0) [.int p1, .int 0, .int 2] [.ref (G.2.1 0 0)] dX9_ahead_14 rfl cl_X9_168 hy_X9_within.2 (by omega) (by decide) (by decide) (Nat.le_of_ble_eq_true rfl) rfl (con_mono h ?_ (fun _ _ h => h))
    rintro _ w4 ⟨v3, rfl, h⟩
    show Z M G 0 K X w4 17 [some (.ref (G.2.1 0 0)), some (.int p0), some (.int p1), none] [.int v3, .ref (G.2.1 0 0)]
    refine z_if_eq F 24 dX9_ahead_17 (by decide) ⟨fun hc => ?_, fun hc => ?_⟩
    · have h := h.1 hc
      exact h
    · have h := h.2 hc
      refine z_iconst F 1 dX9_ahead_20 (by decide) ?_
      refine z_goto F 25 dX9_ahead_21 (by decide) ?_
      exact h
set_option maxRecDepth 20000 in
theorem b_X9_ahead_24 {M : Mx} {G : Gx} {kk : Nat} {w : Wd}  {x1 : Int32} {x2 : Int32} {K : Option Value → Wd → Prop} {X : String → Wd → Prop} (F : Fx M G RX9 cX9_ahead 4 (some .int) kk 1) (hk : 7 ≤ kk)
    (h : Z M G 0 K X w 25 [some (.ref (G.2.1 0 0)), some (.int x1), some (.int x2), none] [.int 0, .ref (G.2.1 0 0)]) :
    Z M G 0 K X w 24 [some (.ref (G.2.1 0 0)), some (.int x1), some (.int x2), none] [.ref (G.2.1 0 0)] := by
  refine z_iconst F 0 dX9_ahead_24 (by decide) ?_
  exact h
set_option maxRecDepth 20000 in
theorem b_X9_ahead_25 {M : Mx} {G : Gx} {kk : Nat} {w : Wd}  {x1 : Int32} {x2 : Int32} {s0 : Int32} {K : Option Value → Wd → Prop} {X : String → Wd → Prop} (F : Fx M G RX9 cX9_ahead 4 (some .int) kk 1) (hk : 7 ≤ kk)
    (h : Con (mL M) G 6 1 yX9_demand cX9_demand 2 none w [.ref (G.2.1 0 0), .int s0] (fun r w2 => r = none ∧ Con (mL M) G 3 0 yX6_become cX6_become 2 none w2 [.ref (G.2.1 5 68), .ref (G.2.1 5 0)] (fun r w4 => r = none ∧ Z M G 1 K X w4 44 [some (.ref (G.2.1 0 0)), some (.int x1), some (.int x2), some (.int 0)] []) X) X) :
    Z M G 0 K X w 25 [some (.ref (G.2.1 0 0)), some (.int x1), some (.int x2), none] [.int s0, .ref (G.2.1 0 0)] := by
  refine z_callV F (k' := 6) (mc' := 1) [.int s0] [] dX9_ahead_25 rfl rfl (by decide) rfl cl_X9_172 hy_X9_demand (by omega) (by decide) (by decide) (Nat.le_of_ble_eq_true rfl) rfl (con_mono h ?_ (fun _ _ h => h))
  rintro _ w2 ⟨rfl, h⟩
  show Z M G 1 K X w2 28 [some (.ref (G.2.1 0 0)), some (.int x1), some (.int x2), none] []
  refine z_aload_n F dX9_ahead_28 rfl ?_
  refine z_getR F 5 5 68 rfl (by decide) (by decide) rfl rfl rfl lk_X9_44 dX9_ahead_29 ?_
  refine z_aload_n F dX9_ahead_32 rfl ?_
  refine z_getR F 3 4 0 rfl (by decide) (by decide) rfl rfl rfl lk_X9_33 dX9_ahead_33 ?_
  refine z_getR F 1 5 0 rfl (by decide) (by decide) rfl rfl rfl lk_X9_128 dX9_ahead_36 ?_
  refine z_callV F (k' := 3) (mc' := 0) [.ref (G.2.1 5 0)] [] dX9_ahead_39 rfl rfl (by decide) rfl cl_X9_256 hy_X6_become (by omega) (by decide) (by decide) (Nat.le_of_ble_eq_true rfl) rfl (con_mono h ?_ (fun _ _ h => h))
  rintro _ w4 ⟨rfl, h⟩
  show Z M G 1 K X w4 42 [some (.ref (G.2.1 0 0)), some (.int x1), some (.int x2), none] []
  refine z_iconst F 0 dX9_ahead_42 (by decide) ?_
  refine z_istore_n F dX9_ahead_43 (Nat.le_of_ble_eq_true rfl) ?_
  exact h
set_option maxRecDepth 20000 in
theorem b_X9_ahead_44 {M : Mx} {G : Gx} {kk : Nat} {w : Wd}  {x1 : Int32} {x2 : Int32} {x3 : Int32} {K : Option Value → Wd → Prop} {X : String → Wd → Prop} (F : Fx M G RX9 cX9_ahead 4 (some .int) kk 1) (hk : 7 ≤ kk)
    (h : ((x1 ≤ x3 → ((x2 = 0 → K (some (.int ((w.1 5 68 2) - (w.1 5 0 2)))) w) ∧ (x2 = 1 → Con (mL M) G 1 0 yX9_total cX9_total 3 (some .int) w [.ref (G.2.1 17 68)] (fun r w2 => ∃ v1 : Int32, r = some (.int v1) ∧ K (some (.int v1)) w2) X) ∧ (¬ x2 = 0 ∧ ¬ x2 = 1 → Con (mL M) G 2 0 yX9_outOfBreath cX9_outOfBreath 2 (some .int) w [.ref (G.2.1 0 0), .ref (G.2.1 5 68)] (fun r w4 => ∃ v3 : Int32, r = some (.int v3) ∧ K (some (.int v3)) w4) X))) ∧ (¬ (x1 ≤ x3) → Con (mL M) G 5 0 yX7_singHymn cX7_singHymn 4 (some .int) w [.ref (G.2.1 2 0), .ref (G.2.1 5 68)] (fun r w6 => ∃ v5 : Int32, r = some (.int v5) ∧ Z M G 1 K X w6 44 [some (.ref (G.2.1 0 0)), some (.int x1), some (.int x2), some (.int (x3 + 1))] []) X))) :
    Z M G 1 K X w 44 [some (.ref (G.2.1 0 0)), some (.int x1), some (.int x2), some (.int x3)] [] := by
  refine z_iload_n F dX9_ahead_44 rfl ?_
  refine z_iload_n F dX9_ahead_45 rfl ?_
  refine z_icmp_ge F 67 dX9_ahead_46 (by decide) ⟨fun hc => ?_, fun hc => ?_⟩
  · have h := h.1 hc
    refine z_iload_n F dX9_ahead_67 rfl ?_
    by_cases hc0 : x2 = 0
    · have h := h.1 hc0
      refine z_look F 96 dX9_ahead_68 (by decide) (off := 28) (by rw [hc0]; decide) (by decide) ?_
      refine z_aload_n F dX9_ahead_96 rfl ?_
      refine z_getR F 5 5 68 rfl (by decide) (by decide) rfl rfl rfl lk_X9_44 dX9_ahead_97 ?_
      refine z_getI F 2 rfl (by decide) (by decide) rfl lk_X9_185 dX9_ahead_100 ?_
      refine z_aload_n F dX9_ahead_103 rfl ?_
      refine z_getR F 3 4 0 rfl (by decide) (by decide) rfl rfl rfl lk_X9_33 dX9_ahead_104 ?_
      refine z_getR F 1 5 0 rfl (by decide) (by decide) rfl rfl rfl lk_X9_128 dX9_ahead_107 ?_
      refine z_getI F 2 rfl (by decide) (by decide) rfl lk_X9_185 dX9_ahead_110 ?_
      refine z_isub F dX9_ahead_113 ?_
      exact z_iret F dX9_ahead_114 (by decide) h
    by_cases hc1 : x2 = 1
    · have h := h.2.1 hc1
      refine z_look F 115 dX9_ahead_68 (by decide) (off := 47) (by rw [hc1]; decide) (by decide) ?_
      refine z_aload_n F dX9_ahead_115 rfl ?_
      refine z_getR F 5 5 68 rfl (by decide) (by decide) rfl rfl rfl lk_X9_44 dX9_ahead_116 ?_
      refine z_getR F 3 17 68 rfl (by decide) (by decide) rfl rfl rfl lk_X9_198 dX9_ahead_119 ?_
      refine z_callS F (k' := 1) (mc' := 0) [.ref (G.2.1 17 68)] [] dX9_ahead_122 rfl cl_X9_191 hy_X9_total.2 (by omega) (by decide) (by decide) (Nat.le_of_ble_eq_true rfl) rfl (con_mono h ?_ (fun _ _ h => h))
      rintro _ w2 ⟨v1, rfl, h⟩
      show Z M G 1 K X w2 125 [some (.ref (G.2.1 0 0)), some (.int x1), some (.int x2), some (.int x3)] [.int v1]
      exact z_iret F dX9_ahead_125 (by decide) h
    have h := h.2.2 ⟨hc0, hc1⟩
    refine z_look F 126 dX9_ahead_68 (by decide) (off := 58) (by show Op.lookupswitch.offset [(0, 28), (1, 47)] _ _ = _; rw [lv_osw hc0 (show (0 : Int32).toInt = 0 by decide), lv_osw hc1 (show (1 : Int32).toInt = 1 by decide)]; rfl) (by decide) ?_
    refine z_aload_n F dX9_ahead_126 rfl ?_
    refine z_aload_n F dX9_ahead_127 rfl ?_
    refine z_getR F 5 5 68 rfl (by decide) (by decide) rfl rfl rfl lk_X9_44 dX9_ahead_128 ?_
    refine z_callV F (k' := 2) (mc' := 0) [.ref (G.2.1 5 68)] [] dX9_ahead_131 rfl rfl (by decide) rfl cl_X9_264 hy_X9_outOfBreath (by omega) (by decide) (by decide) (Nat.le_of_ble_eq_true rfl) rfl (con_mono h ?_ (fun _ _ h => h))
    rintro _ w4 ⟨v3, rfl, h⟩
    show Z M G 1 K X w4 134 [some (.ref (G.2.1 0 0)), some (.int x1), some (.int x2), some (.int x3)] [.int v3]
    exact z_iret F dX9_ahead_134 (by decide) h
  · have h := h.2 hc
    refine z_aload_n F dX9_ahead_49 rfl ?_
    refine z_getR F 1 2 0 rfl (by decide) (by decide) rfl rfl rfl lk_X9_19 dX9_ahead_50 ?_
    refine z_aload_n F dX9_ahead_53 rfl ?_
    refine z_getR F 5 5 68 rfl (by decide) (by decide) rfl rfl rfl lk_X9_44 dX9_ahead_54 ?_
    refine z_callV F (k' := 5) (mc' := 0) [.ref (G.2.1 5 68)] [] dX9_ahead_57 rfl rfl (by decide) rfl cl_X9_260 hy_X7_singHymn (by omega) (by decide) (by decide) (Nat.le_of_ble_eq_true rfl) rfl (con_mono h ?_ (fun _ _ h => h))
    rintro _ w6 ⟨v5, rfl, h⟩
    show Z M G 1 K X w6 60 [some (.ref (G.2.1 0 0)), some (.int x1), some (.int x2), some (.int x3)] [.int v5]
    refine z_pop F dX9_ahead_60 rfl ?_
    refine z_iinc F (x3 + 1) dX9_ahead_61 rfl rfl (Nat.le_of_ble_eq_true rfl) ?_
    refine z_goto F 44 dX9_ahead_64 (by decide) ?_
    exact h
set_option maxRecDepth 20000 in
theorem e_X9_cast {l : Launch} {G : Gx} {w : Wd}  {K : Option Value → Wd → Prop} {X : String → Wd → Prop} (hl : l.stackTraces = false)
    (h : ∀ (M : Mx) (kk : Nat), mL M = l → 6 ≤ kk → Fx M G RX9 cX9_cast 4 (some .int) kk 0 → Z M G 0 K X w 17 [some (.ref (G.2.1 0 0)), some (.int (-1)), some (.int ((1 : Int32) <<< ((w.1 7 (w.2.2 2 0 0) 0) &&& 31))), some (.int 0)] []) :
    Con l G 6 0 yX9_cast cX9_cast 4 (some .int) w [.ref (G.2.1 0 0)] K X := by
  refine con_intro hl (by decide +kernel) (Nat.le_of_ble_eq_true rfl) (Nat.le_of_ble_eq_true rfl) (fun M kk hM hk F => ?_)
  have h := h M kk hM hk F
  show Z M G 0 K X w 0 [some (.ref (G.2.1 0 0)), none, none, none] []
  refine z_iconst F (-1) dX9_cast_0 (by decide) ?_
  refine z_istore_n F dX9_cast_1 (Nat.le_of_ble_eq_true rfl) ?_
  refine z_iconst F 1 dX9_cast_2 (by decide) ?_
  refine z_aload_n F dX9_cast_3 rfl ?_
  refine z_getR F 1 2 0 rfl (by decide) (by decide) rfl rfl rfl lk_X9_19 dX9_cast_4 ?_
  refine z_getD F 0 7 rfl (by decide) (by decide) rfl rfl lk_X9_106 dX9_cast_7 (fun hv1 => ?_)
  refine z_getI F 0 rfl hv1 (by decide) rfl lk_X9_112 dX9_cast_10 ?_
  refine z_ishl F dX9_cast_13 ?_
  refine z_istore_n F dX9_cast_14 (Nat.le_of_ble_eq_true rfl) ?_
  refine z_iconst F 0 dX9_cast_15 (by decide) ?_
  refine z_istore_n F dX9_cast_16 (Nat.le_of_ble_eq_true rfl) ?_
  exact h
set_option maxRecDepth 20000 in
theorem b_X9_cast_17 {M : Mx} {G : Gx} {kk : Nat} {w : Wd}  {x1 : Int32} {x2 : Int32} {x3 : Int32} {K : Option Value → Wd → Prop} {X : String → Wd → Prop} (F : Fx M G RX9 cX9_cast 4 (some .int) kk 0) (hk : 6 ≤ kk)
    (h : ((x2 ≤ x3 → K (some (.int x1)) w) ∧ (¬ (x2 ≤ x3) → Con (mL M) G 2 0 yX9_isCheaper cX9_isCheaper 4 (some .boolean) w [.ref (G.2.1 0 0), .int x3, .int x1] (fun r w2 => ∃ v1 : Int32, r = some (.int v1) ∧ ((v1 = 0 → Z M G 0 K X w2 17 [some (.ref (G.2.1 0 0)), some (.int x1), some (.int x2), some (.int (x3 + 1))] []) ∧ (¬ (v1 = 0) → Con (mL M) G 5 0 yX9_canCast cX9_canCast 3 (some .boolean) w2 [.ref (G.2.1 0 0), .int x3] (fun r w4 => ∃ v3 : Int32, r = some (.int v3) ∧ ((v3 = 0 → Z M G 0 K X w4 17 [some (.ref (G.2.1 0 0)), some (.int x1), some (.int x2), some (.int (x3 + 1))] []) ∧ (¬ (v3 = 0) → Z M G 0 K X w4 17 [some (.ref (G.2.1 0 0)), some (.int x3), some (.int x2), some (.int (x3 + 1))] []))) X))) X))) :
    Z M G 0 K X w 17 [some (.ref (G.2.1 0 0)), some (.int x1), some (.int x2), some (.int x3)] [] := by
  refine z_iload_n F dX9_cast_17 rfl ?_
  refine z_iload_n F dX9_cast_18 rfl ?_
  refine z_icmp_ge F 47 dX9_cast_19 (by decide) ⟨fun hc => ?_, fun hc => ?_⟩
  · have h := h.1 hc
    refine z_iload_n F dX9_cast_47 rfl ?_
    exact z_iret F dX9_cast_48 (by decide) h
  · have h := h.2 hc
    refine z_aload_n F dX9_cast_22 rfl ?_
    refine z_iload_n F dX9_cast_23 rfl ?_
    refine z_iload_n F dX9_cast_24 rfl ?_
    refine z_callV F (k' := 2) (mc' := 0) [.int x3, .int x1] [] dX9_cast_25 rfl rfl (by decide) rfl cl_X9_267 hy_X9_isCheaper (by omega) (by decide) (by decide) (Nat.le_of_ble_eq_true rfl) rfl (con_mono h ?_ (fun _ _ h => h))
    rintro _ w2 ⟨v1, rfl, h⟩
    show Z M G 0 K X w2 28 [some (.ref (G.2.1 0 0)), some (.int x1), some (.int x2), some (.int x3)] [.int v1]
    refine z_if_eq F 41 dX9_cast_28 (by decide) ⟨fun hc => ?_, fun hc => ?_⟩
    · have h := h.1 hc
      refine z_iinc F (x3 + 1) dX9_cast_41 rfl rfl (Nat.le_of_ble_eq_true rfl) ?_
      refine z_goto F 17 dX9_cast_44 (by decide) ?_
      exact h
    · have h := h.2 hc
      refine z_aload_n F dX9_cast_31 rfl ?_
      refine z_iload_n F dX9_cast_32 rfl ?_
      refine z_callV F (k' := 5) (mc' := 0) [.int x3] [] dX9_cast_33 rfl rfl (by decide) rfl cl_X9_271 hy_X9_canCast (by omega) (by decide) (by decide) (Nat.le_of_ble_eq_true rfl) rfl (con_mono h ?_ (fun _ _ h => h))
      rintro _ w4 ⟨v3, rfl, h⟩
      show Z M G 0 K X w4 36 [some (.ref (G.2.1 0 0)), some (.int x1), some (.int x2), some (.int x3)] [.int v3]
      refine z_if_eq F 41 dX9_cast_36 (by decide) ⟨fun hc => ?_, fun hc => ?_⟩
      · have h := h.1 hc
        refine z_iinc F (x3 + 1) dX9_cast_41 rfl rfl (Nat.le_of_ble_eq_true rfl) ?_
        refine z_goto F 17 dX9_cast_44 (by decide) ?_
        exact h
      · have h := h.2 hc
        refine z_iload_n F dX9_cast_39 rfl ?_
        refine z_istore_n F dX9_cast_40 (Nat.le_of_ble_eq_true rfl) ?_
        refine z_iinc F (x3 + 1) dX9_cast_41 rfl rfl (Nat.le_of_ble_eq_true rfl) ?_
        refine z_goto F 17 dX9_cast_44 (by decide) ?_
        exact h
set_option maxRecDepth 20000 in
theorem e_X9_handed {l : Launch} {G : Gx} {w : Wd} {p0 : Int32} {p1 : Int32} {K : Option Value → Wd → Prop} {X : String → Wd → Prop} (hl : l.stackTraces = false)
    (h : ∀ (M : Mx) (kk : Nat), mL M = l → 7 ≤ kk → Fx M G RX9 cX9_handed 3 (some .int) kk 1 → Con (mL M) G 2 0 yX9_isVowel cX9_isVowel 1 (some .boolean) w [.int p0] (fun r w2 => ∃ v1 : Int32, r = some (.int v1) ∧ ((v1 = 0 → Z M G 0 K X w2 19 [some (.ref (G.2.1 0 0)), some (.int p0), some (.int p1)] [.ref (G.2.1 0 0)]) ∧ (¬ (v1 = 0) → Con (mL M) G 2 0 yX9_isVowel cX9_isVowel 1 (some .boolean) w2 [.int p1] (fun r w4 => ∃ v3 : Int32, r = some (.int v3) ∧ ((v3 = 0 → Z M G 0 K X w4 19 [some (.ref (G.2.1 0 0)), some (.int p0), some (.int p1)] [.ref (G.2.1 0 0)]) ∧ (¬ (v3 = 0) → Z M G 0 K X w4 20 [some (.ref (G.2.1 0 0)), some (.int p0), some (.int p1)] [.int 1, .ref (G.2.1 0 0)]))) X))) X) :
    Con l G 7 1 yX9_handed cX9_handed 3 (some .int) w [.ref (G.2.1 0 0), .int p0, .int p1] K X := by
  refine con_intro hl (by decide +kernel) (Nat.le_of_ble_eq_true rfl) (Nat.le_of_ble_eq_true rfl) (fun M kk hM hk F => ?_)
  have h := h M kk hM hk F
  show Z M G 0 K X w 0 [some (.ref (G.2.1 0 0)), some (.int p0), some (.int p1)] []
  refine z_aload_n F dX9_handed_0 rfl ?_
  refine z_iload_n F dX9_handed_1 rfl ?_
  refine z_callS F (k' := 2) (mc' := 0) [.int p0] [.ref (G.2.1 0 0)] dX9_handed_2 rfl cl_X9_247 hy_X9_isVowel.2 (by omega) (by decide) (by decide) (Nat.le_of_ble_eq_true rfl) rfl (con_mono h ?_ (fun _ _ h => h))
  rintro _ w2 ⟨v1, rfl, h⟩
  show Z M G 0 K X w2 5 [some (.ref (G.2.1 0 0)), some (.int p0), some (.int p1)] [.int v1, .ref (G.2.1 0 0)]
  refine z_if_eq F 19 dX9_handed_5 (by decide) ⟨fun hc => ?_, fun hc => ?_⟩
  · have h := h.1 hc
    exact h
  · have h := h.2 hc
    refine z_iload_n F dX9_handed_8 rfl ?_
    refine z_callS F (k' := 2) (mc' := 0) [.int p1] [.ref (G.2.1 0 0)] dX9_handed_9 rfl cl_X9_247 hy_X9_isVowel.2 (by omega) (by decide) (by decide) (Nat.le_of_ble_eq_true rfl) rfl (con_mono h ?_ (fun _ _ h => h))
    rintro _ w4 ⟨v3, rfl, h⟩
    show Z M G 0 K X w4 12 [some (.ref (G.2.1 0 0)), some (.int p0), some (.int p1)] [.int v3, .ref (G.2.1 0 0)]
    refine z_if_eq F 19 dX9_handed_12 (by decide) ⟨fun hc => ?_, fun hc => ?_⟩
    · have h := h.1 hc
      exact h
    · have h := h.2 hc
      refine z_iconst F 1 dX9_handed_15 (by decide) ?_
      refine z_goto F 20 dX9_handed_16 (by decide) ?_
      exact h
set_option maxRecDepth 20000 in
theorem b_X9_handed_19 {M : Mx} {G : Gx} {kk : Nat} {w : Wd}  {x1 : Int32} {x2 : Int32} {K : Option Value → Wd → Prop} {X : String → Wd → Prop} (F : Fx M G RX9 cX9_handed 3 (some .int) kk 1) (hk : 7 ≤ kk)
    (h : Z M G 0 K X w 20 [some (.ref (G.2.1 0 0)), some (.int x1), some (.int x2)] [.int 0, .ref (G.2.1 0 0)]) :
    Z M G 0 K X w 19 [some (.ref (G.2.1 0 0)), some (.int x1), some (.int x2)] [.ref (G.2.1 0 0)] := by
  refine z_iconst F 0 dX9_handed_19 (by decide) ?_
  exact h
set_option maxRecDepth 20000 in
theorem b_X9_handed_20 {M : Mx} {G : Gx} {kk : Nat} {w : Wd}  {x1 : Int32} {x2 : Int32} {s0 : Int32} {K : Option Value → Wd → Prop} {X : String → Wd → Prop} (F : Fx M G RX9 cX9_handed 3 (some .int) kk 1) (hk : 7 ≤ kk)
    (h : Con (mL M) G 6 1 yX9_demand cX9_demand 2 none w [.ref (G.2.1 0 0), .int s0] (fun r w2 => r = none ∧ Con (mL M) G 1 0 yX9_handedOn cX9_handedOn 8 (some .int) w2 [.ref (G.2.1 0 0), .int x1, .int x2] (fun r w4 => ∃ v3 : Int32, r = some (.int v3) ∧ K (some (.int v3)) w4) X) X) :
    Z M G 0 K X w 20 [some (.ref (G.2.1 0 0)), some (.int x1), some (.int x2)] [.int s0, .ref (G.2.1 0 0)] := by
  refine z_callV F (k' := 6) (mc' := 1) [.int s0] [] dX9_handed_20 rfl rfl (by decide) rfl cl_X9_172 hy_X9_demand (by omega) (by decide) (by decide) (Nat.le_of_ble_eq_true rfl) rfl (con_mono h ?_ (fun _ _ h => h))
  rintro _ w2 ⟨rfl, h⟩
  show Z M G 1 K X w2 23 [some (.ref (G.2.1 0 0)), some (.int x1), some (.int x2)] []
  refine z_aload_n F dX9_handed_23 rfl ?_
  refine z_iload_n F dX9_handed_24 rfl ?_
  refine z_iload_n F dX9_handed_25 rfl ?_
  refine z_callV F (k' := 1) (mc' := 0) [.int x1, .int x2] [] dX9_handed_26 rfl rfl (by decide) rfl cl_X9_274 hy_X9_handedOn (by omega) (by decide) (by decide) (Nat.le_of_ble_eq_true rfl) rfl (con_mono h ?_ (fun _ _ h => h))
  rintro _ w4 ⟨v3, rfl, h⟩
  show Z M G 1 K X w4 29 [some (.ref (G.2.1 0 0)), some (.int x1), some (.int x2)] [.int v3]
  exact z_iret F dX9_handed_29 (by decide) h
set_option maxRecDepth 20000 in
theorem e_X9_bench {l : Launch} {G : Gx} {w : Wd}  {K : Option Value → Wd → Prop} {X : String → Wd → Prop} (hl : l.stackTraces = false)
    (h : ∀ (M : Mx) (kk : Nat), mL M = l → 5 ≤ kk → Fx M G RX9 cX9_bench 1 (some .int) kk 0 → Con (mL M) G 4 0 yX9_fillBench cX9_fillBench 4 none w [.ref (G.2.1 0 0)] (fun r w2 => r = none ∧ Con (mL M) G 3 0 yX0_most cX0_most 1 (some .int) w2 [.ref (G.2.1 6 0)] (fun r w4 => ∃ v3 : Int32, r = some (.int v3) ∧ K (some (.int v3)) w4) X) X) :
    Con l G 5 0 yX9_bench cX9_bench 1 (some .int) w [.ref (G.2.1 0 0)] K X := by
  refine con_intro hl (by decide +kernel) (Nat.le_of_ble_eq_true rfl) (Nat.le_of_ble_eq_true rfl) (fun M kk hM hk F => ?_)
  have h := h M kk hM hk F
  show Z M G 0 K X w 0 [some (.ref (G.2.1 0 0))] []
  refine z_aload_n F dX9_bench_0 rfl ?_
  refine z_callV F (k' := 4) (mc' := 0) [] [] dX9_bench_1 rfl rfl (by decide) rfl cl_X9_278 hy_X9_fillBench (by omega) (by decide) (by decide) (Nat.le_of_ble_eq_true rfl) rfl (con_mono h ?_ (fun _ _ h => h))
  rintro _ w2 ⟨rfl, h⟩
  show Z M G 0 K X w2 4 [some (.ref (G.2.1 0 0))] []
  refine z_aload_n F dX9_bench_4 rfl ?_
  refine z_getR F 6 6 0 rfl (by decide) (by decide) rfl rfl rfl lk_X9_51 dX9_bench_5 ?_
  refine z_callV F (k' := 3) (mc' := 0) [] [] dX9_bench_8 rfl rfl (by decide) rfl cl_X9_281 hy_X0_most (by omega) (by decide) (by decide) (Nat.le_of_ble_eq_true rfl) rfl (con_mono h ?_ (fun _ _ h => h))
  rintro _ w4 ⟨v3, rfl, h⟩
  show Z M G 0 K X w4 11 [some (.ref (G.2.1 0 0))] [.int v3]
  exact z_iret F dX9_bench_11 (by decide) h
set_option maxRecDepth 20000 in
theorem e_X9_benched {l : Launch} {G : Gx} {w : Wd} {p0 : Int32} {K : Option Value → Wd → Prop} {X : String → Wd → Prop} (hl : l.stackTraces = false)
    (h : ∀ (M : Mx) (kk : Nat), mL M = l → 7 ≤ kk → Fx M G RX9 cX9_benched 2 (some .int) kk 1 → ((p0 < 0 → Z M G 0 K X w 10 [some (.ref (G.2.1 0 0)), some (.int p0)] [.int 0, .ref (G.2.1 0 0)]) ∧ (¬ (p0 < 0) → Z M G 0 K X w 10 [some (.ref (G.2.1 0 0)), some (.int p0)] [.int 1, .ref (G.2.1 0 0)]))) :
    Con l G 7 1 yX9_benched cX9_benched 2 (some .int) w [.ref (G.2.1 0 0), .int p0] K X := by
  refine con_intro hl (by decide +kernel) (Nat.le_of_ble_eq_true rfl) (Nat.le_of_ble_eq_true rfl) (fun M kk hM hk F => ?_)
  have h := h M kk hM hk F
  show Z M G 0 K X w 0 [some (.ref (G.2.1 0 0)), some (.int p0)] []
  refine z_aload_n F dX9_benched_0 rfl ?_
  refine z_iload_n F dX9_benched_1 rfl ?_
  refine z_if_lt F 9 dX9_benched_2 (by decide) ⟨fun hc => ?_, fun hc => ?_⟩
  · have h := h.1 hc
    refine z_iconst F 0 dX9_benched_9 (by decide) ?_
    exact h
  · have h := h.2 hc
    refine z_iconst F 1 dX9_benched_5 (by decide) ?_
    refine z_goto F 10 dX9_benched_6 (by decide) ?_
    exact h
set_option maxRecDepth 20000 in
theorem b_X9_benched_10 {M : Mx} {G : Gx} {kk : Nat} {w : Wd}  {x1 : Int32} {s0 : Int32} {K : Option Value → Wd → Prop} {X : String → Wd → Prop} (F : Fx M G RX9 cX9_benched 2 (some .int) kk 1) (hk : 7 ≤ kk)
    (h : Con (mL M) G 6 1 yX9_demand cX9_demand 2 none w [.ref (G.2.1 0 0), .int s0] (fun r w2 => r = none ∧ ((x1 < (w2.1 7 (w2.2.2 2 0 0) 0) → Con (mL M) G 4 0 yX9_fillBench cX9_fillBench 4 none w2 [.ref (G.2.1 0 0)] (fun r w5 => r = none ∧ Con (mL M) G 4 0 yX0_at cX0_at 6 (some .int) w5 [.ref (G.2.1 6 0), .int x1] (fun r w7 => ∃ v6 : Int32, r = some (.int v6) ∧ K (some (.int v6)) w7) X) X) ∧ (¬ (x1 < (w2.1 7 (w2.2.2 2 0 0) 0)) → K (some (.int (-1))) w2))) X) :
    Z M G 0 K X w 10 [some (.ref (G.2.1 0 0)), some (.int x1)] [.int s0, .ref (G.2.1 0 0)] := by
  refine z_callV F (k' := 6) (mc' := 1) [.int s0] [] dX9_benched_10 rfl rfl (by decide) rfl cl_X9_172 hy_X9_demand (by omega) (by decide) (by decide) (Nat.le_of_ble_eq_true rfl) rfl (con_mono h ?_ (fun _ _ h => h))
  rintro _ w2 ⟨rfl, h⟩
  show Z M G 1 K X w2 13 [some (.ref (G.2.1 0 0)), some (.int x1)] []
  refine z_iload_n F dX9_benched_13 rfl ?_
  refine z_aload_n F dX9_benched_14 rfl ?_
  refine z_getR F 1 2 0 rfl (by decide) (by decide) rfl rfl rfl lk_X9_19 dX9_benched_15 ?_
  refine z_getD F 0 7 rfl (by decide) (by decide) rfl rfl lk_X9_106 dX9_benched_18 (fun hv3 => ?_)
  refine z_getI F 0 rfl hv3 (by decide) rfl lk_X9_112 dX9_benched_21 ?_
  refine z_icmp_lt F 29 dX9_benched_24 (by decide) ⟨fun hc => ?_, fun hc => ?_⟩
  · have h := h.1 hc
    refine z_aload_n F dX9_benched_29 rfl ?_
    refine z_callV F (k' := 4) (mc' := 0) [] [] dX9_benched_30 rfl rfl (by decide) rfl cl_X9_278 hy_X9_fillBench (by omega) (by decide) (by decide) (Nat.le_of_ble_eq_true rfl) rfl (con_mono h ?_ (fun _ _ h => h))
    rintro _ w5 ⟨rfl, h⟩
    show Z M G 1 K X w5 33 [some (.ref (G.2.1 0 0)), some (.int x1)] []
    refine z_aload_n F dX9_benched_33 rfl ?_
    refine z_getR F 6 6 0 rfl (by decide) (by decide) rfl rfl rfl lk_X9_51 dX9_benched_34 ?_
    refine z_iload_n F dX9_benched_37 rfl ?_
    refine z_callV F (k' := 4) (mc' := 0) [.int x1] [] dX9_benched_38 rfl rfl (by decide) rfl cl_X9_284 hy_X0_at (by omega) (by decide) (by decide) (Nat.le_of_ble_eq_true rfl) rfl (con_mono h ?_ (fun _ _ h => h))
    rintro _ w7 ⟨v6, rfl, h⟩
    show Z M G 1 K X w7 41 [some (.ref (G.2.1 0 0)), some (.int x1)] [.int v6]
    exact z_iret F dX9_benched_41 (by decide) h
  · have h := h.2 hc
    refine z_iconst F (-1) dX9_benched_27 (by decide) ?_
    exact z_iret F dX9_benched_28 (by decide) h
set_option maxRecDepth 20000 in
theorem e_X9_wording {l : Launch} {G : Gx} {w : Wd}  {K : Option Value → Wd → Prop} {X : String → Wd → Prop} (hl : l.stackTraces = false)
    (h : ∀ (M : Mx) (kk : Nat), mL M = l → 3 ≤ kk → Fx M G RX9 cX9_wording 4 (some .int) kk 0 → Z M G 0 K X w 4 [some (.ref (G.2.1 0 0)), some (.int (-1)), some (.int 0), none] []) :
    Con l G 3 0 yX9_wording cX9_wording 4 (some .int) w [.ref (G.2.1 0 0)] K X := by
  refine con_intro hl (by decide +kernel) (Nat.le_of_ble_eq_true rfl) (Nat.le_of_ble_eq_true rfl) (fun M kk hM hk F => ?_)
  have h := h M kk hM hk F
  show Z M G 0 K X w 0 [some (.ref (G.2.1 0 0)), none, none, none] []
  refine z_iconst F (-1) dX9_wording_0 (by decide) ?_
  refine z_istore_n F dX9_wording_1 (Nat.le_of_ble_eq_true rfl) ?_
  refine z_iconst F 0 dX9_wording_2 (by decide) ?_
  refine z_istore_n F dX9_wording_3 (Nat.le_of_ble_eq_true rfl) ?_
  exact h
set_option maxRecDepth 20000 in
theorem b_X9_wording_4 {M : Mx} {G : Gx} {kk : Nat} {w : Wd}  {x1 : Int32} {x2 : Int32} {K : Option Value → Wd → Prop} {X : String → Wd → Prop} (F : Fx M G RX9 cX9_wording 4 (some .int) kk 0) (hk : 3 ≤ kk)
    (h : ((64 ≤ x2 → K (some (.int x1)) w) ∧ (¬ (64 ≤ x2) → ((x1 = (-1) → Z M G 0 K X w 26 [some (.ref (G.2.1 0 0)), some (.int x1), some (.int x2), none] []) ∧ (¬ (x1 = (-1)) → Con (mL M) G 1 0 yJ6_bitCount_0f7a4 cJ6_bitCount_0f7a4 1 (some .int) w [.int x2] (fun r w2 => ∃ v1 : Int32, r = some (.int v1) ∧ Con (mL M) G 1 0 yJ6_bitCount_0f7a4 cJ6_bitCount_0f7a4 1 (some .int) w2 [.int x1] (fun r w4 => ∃ v3 : Int32, r = some (.int v3) ∧ ((v3 ≤ v1 → Z M G 0 K X w4 31 [some (.ref (G.2.1 0 0)), some (.int x1), some (.int x2), none] [.int 0]) ∧ (¬ (v3 ≤ v1) → Z M G 0 K X w4 26 [some (.ref (G.2.1 0 0)), some (.int x1), some (.int x2), none] []))) X) X))))) :
    Z M G 0 K X w 4 [some (.ref (G.2.1 0 0)), some (.int x1), some (.int x2), none] [] := by
  refine z_iload_n F dX9_wording_4 rfl ?_
  refine z_bipush F 64 dX9_wording_5 (by decide) ?_
  refine z_icmp_ge F 54 dX9_wording_7 (by decide) ⟨fun hc => ?_, fun hc => ?_⟩
  · have h := h.1 hc
    refine z_iload_n F dX9_wording_54 rfl ?_
    exact z_iret F dX9_wording_55 (by decide) h
  · have h := h.2 hc
    refine z_iload_n F dX9_wording_10 rfl ?_
    refine z_iconst F (-1) dX9_wording_11 (by decide) ?_
    refine z_icmp_eq F 26 dX9_wording_12 (by decide) ⟨fun hc => ?_, fun hc => ?_⟩
    · have h := h.1 hc
      exact h
    · have h := h.2 hc
      refine z_iload_n F dX9_wording_15 rfl ?_
      refine z_callS F (k' := 1) (mc' := 0) [.int x2] [] dX9_wording_16 rfl cl_X9_156 hy_J6_bitCount_0f7a4.2 (by omega) (by decide) (by decide) (Nat.le_of_ble_eq_true rfl) rfl (con_mono h ?_ (fun _ _ h => h))
      rintro _ w2 ⟨v1, rfl, h⟩
      show Z M G 0 K X w2 19 [some (.ref (G.2.1 0 0)), some (.int x1), some (.int x2), none] [.int v1]
      refine z_iload_n F dX9_wording_19 rfl ?_
      refine z_callS F (k' := 1) (mc' := 0) [.int x1] [.int v1] dX9_wording_20 rfl cl_X9_156 hy_J6_bitCount_0f7a4.2 (by omega) (by decide) (by decide) (Nat.le_of_ble_eq_true rfl) rfl (con_mono h ?_ (fun _ _ h => h))
      rintro _ w4 ⟨v3, rfl, h⟩
      show Z M G 0 K X w4 23 [some (.ref (G.2.1 0 0)), some (.int x1), some (.int x2), none] [.int v3, .int v1]
      refine z_icmp_ge F 30 dX9_wording_23 (by decide) ⟨fun hc => ?_, fun hc => ?_⟩
      · have h := h.1 hc
        refine z_iconst F 0 dX9_wording_30 (by decide) ?_
        exact h
      · have h := h.2 hc
        exact h
set_option maxRecDepth 20000 in
theorem b_X9_wording_26 {M : Mx} {G : Gx} {kk : Nat} {w : Wd}  {x1 : Int32} {x2 : Int32} {K : Option Value → Wd → Prop} {X : String → Wd → Prop} (F : Fx M G RX9 cX9_wording 4 (some .int) kk 0) (hk : 3 ≤ kk)
    (h : Z M G 0 K X w 31 [some (.ref (G.2.1 0 0)), some (.int x1), some (.int x2), none] [.int 1]) :
    Z M G 0 K X w 26 [some (.ref (G.2.1 0 0)), some (.int x1), some (.int x2), none] [] := by
  refine z_iconst F 1 dX9_wording_26 (by decide) ?_
  refine z_goto F 31 dX9_wording_27 (by decide) ?_
  exact h
set_option maxRecDepth 20000 in
theorem b_X9_wording_31 {M : Mx} {G : Gx} {kk : Nat} {w : Wd}  {x1 : Int32} {x2 : Int32} {s0 : Int32} {K : Option Value → Wd → Prop} {X : String → Wd → Prop} (F : Fx M G RX9 cX9_wording 4 (some .int) kk 0) (hk : 3 ≤ kk)
    (h : ((s0 = 0 → Z M G 0 K X w 4 [some (.ref (G.2.1 0 0)), some (.int x1), some (.int (x2 + 1)), none] []) ∧ (¬ (s0 = 0) → Con (mL M) G 2 0 yX9_waysToWord cX9_waysToWord 5 (some .long) w [.ref (G.2.1 0 0), .int x2] (fun r w2 => ∃ v1 : Int64, r = some (.long v1) ∧ (((lg_cmp v1 (0 : Int64)) ≤ 0 → Z M G 0 K X w2 4 [some (.ref (G.2.1 0 0)), some (.int x1), some (.int (x2 + 1)), none] []) ∧ (¬ ((lg_cmp v1 (0 : Int64)) ≤ 0) → Z M G 0 K X w2 4 [some (.ref (G.2.1 0 0)), some (.int x2), some (.int (x2 + 1)), none] []))) X))) :
    Z M G 0 K X w 31 [some (.ref (G.2.1 0 0)), some (.int x1), some (.int x2), none] [.int s0] := by
  refine z_istore_n F dX9_wording_31 (Nat.le_of_ble_eq_true rfl) ?_
  refine z_iload_n F dX9_wording_32 rfl ?_
  refine z_if_eq F 48 dX9_wording_33 (by decide) ⟨fun hc => ?_, fun hc => ?_⟩
  · have h := h.1 hc
    refine z_iinc F (x2 + 1) dX9_wording_48 rfl rfl (Nat.le_of_ble_eq_true rfl) ?_
    refine z_goto F 4 dX9_wording_51 (by decide) ?_
    exact z_weak h (⟨rfl, ⟨rfl, ⟨rfl, trivial⟩⟩⟩)
  · have h := h.2 hc
    refine z_aload_n F dX9_wording_36 rfl ?_
    refine z_iload_n F dX9_wording_37 rfl ?_
    refine z_callV F (k' := 2) (mc' := 0) [.int x2] [] dX9_wording_38 rfl rfl (by decide) rfl cl_X9_287 hy_X9_waysToWord (by omega) (by decide) (by decide) (Nat.le_of_ble_eq_true rfl) rfl (con_mono h ?_ (fun _ _ h => h))
    rintro _ w2 ⟨v1, rfl, h⟩
    show Z M G 0 K X w2 41 [some (.ref (G.2.1 0 0)), some (.int x1), some (.int x2), some (.int s0)] [.long v1]
    refine z_lconst F 0 dX9_wording_41 (by decide) ?_
    refine z_lcmp F dX9_wording_42 ?_
    refine z_if_le F 48 dX9_wording_43 (by decide) ⟨fun hc => ?_, fun hc => ?_⟩
    · have h := h.1 hc
      refine z_iinc F (x2 + 1) dX9_wording_48 rfl rfl (Nat.le_of_ble_eq_true rfl) ?_
      refine z_goto F 4 dX9_wording_51 (by decide) ?_
      exact z_weak h (⟨rfl, ⟨rfl, ⟨rfl, trivial⟩⟩⟩)
    · have h := h.2 hc
      refine z_iload_n F dX9_wording_46 rfl ?_
      refine z_istore_n F dX9_wording_47 (Nat.le_of_ble_eq_true rfl) ?_
      refine z_iinc F (x2 + 1) dX9_wording_48 rfl rfl (Nat.le_of_ble_eq_true rfl) ?_
      refine z_goto F 4 dX9_wording_51 (by decide) ?_
      exact z_weak h (⟨rfl, ⟨rfl, ⟨rfl, trivial⟩⟩⟩)
set_option maxRecDepth 20000 in
theorem e_X9_wordings {l : Launch} {G : Gx} {w : Wd} {p0 : Int32} {K : Option Value → Wd → Prop} {X : String → Wd → Prop} (hl : l.stackTraces = false)
    (h : ∀ (M : Mx) (kk : Nat), mL M = l → 7 ≤ kk → Fx M G RX9 cX9_wordings 2 (some .long) kk 1 → Con (mL M) G 1 0 yX9_within cX9_within 3 (some .boolean) w [.int p0, .int 0, .int 63] (fun r w2 => ∃ v1 : Int32, r = some (.int v1) ∧ Con (mL M) G 6 1 yX9_demand cX9_demand 2 none w2 [.ref (G.2.1 0 0), .int v1] (fun r w4 => r = none ∧ Con (mL M) G 2 0 yX9_waysToWord cX9_waysToWord 5 (some .long) w4 [.ref (G.2.1 0 0), .int p0] (fun r w6 => ∃ v5 : Int64, r = some (.long v5) ∧ K (some (.long v5)) w6) X) X) X) :
    Con l G 7 1 yX9_wordings cX9_wordings 2 (some .long) w [.ref (G.2.1 0 0), .int p0] K X := by
  refine con_intro hl (by decide +kernel) (Nat.le_of_ble_eq_true rfl) (Nat.le_of_ble_eq_true rfl) (fun M kk hM hk F => ?_)
  have h := h M kk hM hk F
  show Z M G 0 K X w 0 [some (.ref (G.2.1 0 0)), some (.int p0)] []
  refine z_aload_n F dX9_wordings_0 rfl ?_
  refine z_iload_n F dX9_wordings_1 rfl ?_
  refine z_iconst F 0 dX9_wordings_2 (by decide) ?_
  refine z_bipush F 63 dX9_wordings_3 (by decide) ?_
  refine z_callS F (k' := 1) (mc' := 0) [.int p0, .int 0, .int 63] [.ref (G.2.1 0 0)] dX9_wordings_5 rfl cl_X9_168 hy_X9_within.2 (by omega) (by decide) (by decide) (Nat.le_of_ble_eq_true rfl) rfl (con_mono h ?_ (fun _ _ h => h))
  rintro _ w2 ⟨v1, rfl, h⟩
  show Z M G 0 K X w2 8 [some (.ref (G.2.1 0 0)), some (.int p0)] [.int v1, .ref (G.2.1 0 0)]
  refine z_callV F (k' := 6) (mc' := 1) [.int v1] [] dX9_wordings_8 rfl rfl (by decide) rfl cl_X9_172 hy_X9_demand (by omega) (by decide) (by decide) (Nat.le_of_ble_eq_true rfl) rfl (con_mono h ?_ (fun _ _ h => h))
  rintro _ w4 ⟨rfl, h⟩
  show Z M G 1 K X w4 11 [some (.ref (G.2.1 0 0)), some (.int p0)] []
  refine z_aload_n F dX9_wordings_11 rfl ?_
  refine z_iload_n F dX9_wordings_12 rfl ?_
  refine z_callV F (k' := 2) (mc' := 0) [.int p0] [] dX9_wordings_13 rfl rfl (by decide) rfl cl_X9_287 hy_X9_waysToWord (by omega) (by decide) (by decide) (Nat.le_of_ble_eq_true rfl) rfl (con_mono h ?_ (fun _ _ h => h))
  rintro _ w6 ⟨v5, rfl, h⟩
  show Z M G 1 K X w6 16 [some (.ref (G.2.1 0 0)), some (.int p0)] [.long v5]
  exact z_lret F dX9_wordings_16 (by decide) h
set_option maxRecDepth 20000 in
theorem e_X9_who {l : Launch} {G : Gx} {w : Wd} {p0 : Int32} {K : Option Value → Wd → Prop} {X : String → Wd → Prop} (hl : l.stackTraces = false)
    (h : ∀ (M : Mx) (kk : Nat), mL M = l → 7 ≤ kk → Fx M G RX9 cX9_who 6 (some .int) kk 1 → Con (mL M) G 1 0 yX9_within cX9_within 3 (some .boolean) w [.int p0, .int 0, .int 1] (fun r w2 => ∃ v1 : Int32, r = some (.int v1) ∧ Con (mL M) G 6 1 yX9_demand cX9_demand 2 none w2 [.ref (G.2.1 0 0), .int v1] (fun r w4 => r = none ∧ Z M G 1 K X w4 31 [some (.ref (G.2.1 0 0)), some (.int p0), some (.int 0), some (.int (-1)), some (.int ((1 : Int32) <<< ((w4.1 7 (w4.2.2 2 0 0) 0) &&& 31))), some (.int 0)] []) X) X) :
    Con l G 7 1 yX9_who cX9_who 6 (some .int) w [.ref (G.2.1 0 0), .int p0] K X := by
  refine con_intro hl (by decide +kernel) (Nat.le_of_ble_eq_true rfl) (Nat.le_of_ble_eq_true rfl) (fun M kk hM hk F => ?_)
  have h := h M kk hM hk F
  show Z M G 0 K X w 0 [some (.ref (G.2.1 0 0)), some (.int p0), none, none, none, none] []
  refine z_aload_n F dX9_who_0 rfl ?_
  refine z_iload_n F dX9_who_1 rfl ?_
  refine z_iconst F 0 dX9_who_2 (by decide) ?_
  refine z_iconst F 1 dX9_who_3 (by decide) ?_
  refine z_callS F (k' := 1) (mc' := 0) [.int p0, .int 0, .int 1] [.ref (G.2.1 0 0)] dX9_who_4 rfl cl_X9_168 hy_X9_within.2 (by omega) (by decide) (by decide) (Nat.le_of_ble_eq_true rfl) rfl (con_mono h ?_ (fun _ _ h => h))
  rintro _ w2 ⟨v1, rfl, h⟩
  show Z M G 0 K X w2 7 [some (.ref (G.2.1 0 0)), some (.int p0), none, none, none, none] [.int v1, .ref (G.2.1 0 0)]
  refine z_callV F (k' := 6) (mc' := 1) [.int v1] [] dX9_who_7 rfl rfl (by decide) rfl cl_X9_172 hy_X9_demand (by omega) (by decide) (by decide) (Nat.le_of_ble_eq_true rfl) rfl (con_mono h ?_ (fun _ _ h => h))
  rintro _ w4 ⟨rfl, h⟩
  show Z M G 1 K X w4 10 [some (.ref (G.2.1 0 0)), some (.int p0), none, none, none, none] []
  refine z_iconst F 0 dX9_who_10 (by decide) ?_
  refine z_istore_n F dX9_who_11 (Nat.le_of_ble_eq_true rfl) ?_
  refine z_iconst F (-1) dX9_who_12 (by decide) ?_
  refine z_istore_n F dX9_who_13 (Nat.le_of_ble_eq_true rfl) ?_
  refine z_iconst F 1 dX9_who_14 (by decide) ?_
  refine z_aload_n F dX9_who_15 rfl ?_
  refine z_getR F 1 2 0 rfl (by decide) (by decide) rfl rfl rfl lk_X9_19 dX9_who_16 ?_
  refine z_getD F 0 7 rfl (by decide) (by decide) rfl rfl lk_X9_106 dX9_who_19 (fun hv5 => ?_)
  refine z_getI F 0 rfl hv5 (by decide) rfl lk_X9_112 dX9_who_22 ?_
  refine z_ishl F dX9_who_25 ?_
  refine z_istore F dX9_who_26 (Nat.le_of_ble_eq_true rfl) ?_
  refine z_iconst F 0 dX9_who_28 (by decide) ?_
  refine z_istore F dX9_who_29 (Nat.le_of_ble_eq_true rfl) ?_
  exact h
set_option maxRecDepth 20000 in
theorem b_X9_who_31 {M : Mx} {G : Gx} {kk : Nat} {w : Wd}  {x1 : Int32} {x2 : Int32} {x3 : Int32} {x4 : Int32} {x5 : Int32} {K : Option Value → Wd → Prop} {X : String → Wd → Prop} (F : Fx M G RX9 cX9_who 6 (some .int) kk 1) (hk : 7 ≤ kk)
    (h : ((x4 ≤ x5 → ((¬ x1 = 0 → K (some (.int x3)) w) ∧ (¬ (¬ x1 = 0) → K (some (.int x2)) w))) ∧ (¬ (x4 ≤ x5) → Con (mL M) G 6 0 yX9_heardWithout cX9_heardWithout 2 (some .int) w [.ref (G.2.1 0 0), .int x5] (fun r w3 => ∃ v2 : Int32, r = some (.int v2) ∧ Con (mL M) G 1 0 yX1_fits cX1_fits 2 (some .boolean) w3 [.ref (G.2.1 9 (w.2.2 0 0 10)), .int v2] (fun r w5 => ∃ v4 : Int32, r = some (.int v4) ∧ ((¬ v4 = 0 → ((x3 = (-1) → Z M G 1 K X w5 31 [some (.ref (G.2.1 0 0)), some (.int x1), some (.int (x2 + 1)), some (.int x5), some (.int x4), some (.int (x5 + 1))] []) ∧ (¬ (x3 = (-1)) → Con (mL M) G 1 0 yJ6_bitCount_0f7a4 cJ6_bitCount_0f7a4 1 (some .int) w5 [.int x5] (fun r w7 => ∃ v6 : Int32, r = some (.int v6) ∧ Con (mL M) G 1 0 yJ6_bitCount_0f7a4 cJ6_bitCount_0f7a4 1 (some .int) w7 [.int x3] (fun r w9 => ∃ v8 : Int32, r = some (.int v8) ∧ ((v8 ≤ v6 → Z M G 1 K X w9 31 [some (.ref (G.2.1 0 0)), some (.int x1), some (.int (x2 + 1)), some (.int x3), some (.int x4), some (.int (x5 + 1))] []) ∧ (¬ (v8 ≤ v6) → Z M G 1 K X w9 31 [some (.ref (G.2.1 0 0)), some (.int x1), some (.int (x2 + 1)), some (.int x5), some (.int x4), some (.int (x5 + 1))] []))) X) X))) ∧ (¬ (¬ v4 = 0) → Z M G 1 K X w5 31 [some (.ref (G.2.1 0 0)), some (.int x1), some (.int x2), some (.int x3), some (.int x4), some (.int (x5 + 1))] []))) X) X))) :
    Z M G 1 K X w 31 [some (.ref (G.2.1 0 0)), some (.int x1), some (.int x2), some (.int x3), some (.int x4), some (.int x5)] [] := by
  refine z_iload F dX9_who_31 rfl ?_
  refine z_iload F dX9_who_33 rfl ?_
  refine z_icmp_ge F 86 dX9_who_35 (by decide) ⟨fun hc => ?_, fun hc => ?_⟩
  · have h := h.1 hc
    refine z_iload_n F dX9_who_86 rfl ?_
    refine z_if_ne F 94 dX9_who_87 (by decide) ⟨fun hc => ?_, fun hc => ?_⟩
    · have h := h.1 hc
      refine z_iload_n F dX9_who_94 rfl ?_
      exact z_iret F dX9_who_95 (by decide) h
    · have h := h.2 hc
      refine z_iload_n F dX9_who_90 rfl ?_
      refine z_goto F 95 dX9_who_91 (by decide) ?_
      exact z_iret F dX9_who_95 (by decide) h
  · have h := h.2 hc
    refine z_aload_n F dX9_who_38 rfl ?_
    refine z_getD F 10 9 rfl (by decide) (by decide) rfl rfl lk_X9_76 dX9_who_39 (fun hv1 => ?_)
    refine z_aload_n F dX9_who_42 rfl ?_
    refine z_iload F dX9_who_43 rfl ?_
    refine z_callV F (k' := 6) (mc' := 0) [.int x5] [.ref (G.2.1 9 (w.2.2 0 0 10))] dX9_who_45 rfl rfl (by decide) rfl cl_X9_291 hy_X9_heardWithout (by omega) (by decide) (by decide) (Nat.le_of_ble_eq_true rfl) rfl (con_mono h ?_ (fun _ _ h => h))
    rintro _ w3 ⟨v2, rfl, h⟩
    show Z M G 1 K X w3 48 [some (.ref (G.2.1 0 0)), some (.int x1), some (.int x2), some (.int x3), some (.int x4), some (.int x5)] [.int v2, .ref (G.2.1 9 (w.2.2 0 0 10))]
    refine z_callV F (k' := 1) (mc' := 0) [.int v2] [] dX9_who_48 rfl rfl hv1 rfl cl_X9_294 hy_X1_fits (by omega) (by decide) (by decide) (Nat.le_of_ble_eq_true rfl) rfl (con_mono h ?_ (fun _ _ h => h))
    rintro _ w5 ⟨v4, rfl, h⟩
    show Z M G 1 K X w5 51 [some (.ref (G.2.1 0 0)), some (.int x1), some (.int x2), some (.int x3), some (.int x4), some (.int x5)] [.int v4]
    refine z_if_ne F 57 dX9_who_51 (by decide) ⟨fun hc => ?_, fun hc => ?_⟩
    · have h := h.1 hc
      refine z_iinc F (x2 + 1) dX9_who_57 rfl rfl (Nat.le_of_ble_eq_true rfl) ?_
      refine z_iload_n F dX9_who_60 rfl ?_
      refine z_iconst F (-1) dX9_who_61 (by decide) ?_
      refine z_icmp_eq F 77 dX9_who_62 (by decide) ⟨fun hc => ?_, fun hc => ?_⟩
      · have h := h.1 hc
        refine z_iload F dX9_who_77 rfl ?_
        refine z_istore_n F dX9_who_79 (Nat.le_of_ble_eq_true rfl) ?_
        refine z_iinc F (x5 + 1) dX9_who_80 rfl rfl (Nat.le_of_ble_eq_true rfl) ?_
        refine z_goto F 31 dX9_who_83 (by decide) ?_
        exact h
      · have h := h.2 hc
        refine z_iload F dX9_who_65 rfl ?_
        refine z_callS F (k' := 1) (mc' := 0) [.int x5] [] dX9_who_67 rfl cl_X9_156 hy_J6_bitCount_0f7a4.2 (by omega) (by decide) (by decide) (Nat.le_of_ble_eq_true rfl) rfl (con_mono h ?_ (fun _ _ h => h))
        rintro _ w7 ⟨v6, rfl, h⟩
        show Z M G 1 K X w7 70 [some (.ref (G.2.1 0 0)), some (.int x1), some (.int (x2 + 1)), some (.int x3), some (.int x4), some (.int x5)] [.int v6]
        refine z_iload_n F dX9_who_70 rfl ?_
        refine z_callS F (k' := 1) (mc' := 0) [.int x3] [.int v6] dX9_who_71 rfl cl_X9_156 hy_J6_bitCount_0f7a4.2 (by omega) (by decide) (by decide) (Nat.le_of_ble_eq_true rfl) rfl (con_mono h ?_ (fun _ _ h => h))
        rintro _ w9 ⟨v8, rfl, h⟩
        show Z M G 1 K X w9 74 [some (.ref (G.2.1 0 0)), some (.int x1), some (.int (x2 + 1)), some (.int x3), some (.int x4), some (.int x5)] [.int v8, .int v6]
        refine z_icmp_ge F 80 dX9_who_74 (by decide) ⟨fun hc => ?_, fun hc => ?_⟩
        · have h := h.1 hc
          refine z_iinc F (x5 + 1) dX9_who_80 rfl rfl (Nat.le_of_ble_eq_true rfl) ?_
          refine z_goto F 31 dX9_who_83 (by decide) ?_
          exact h
        · have h := h.2 hc
          refine z_iload F dX9_who_77 rfl ?_
          refine z_istore_n F dX9_who_79 (Nat.le_of_ble_eq_true rfl) ?_
          refine z_iinc F (x5 + 1) dX9_who_80 rfl rfl (Nat.le_of_ble_eq_true rfl) ?_
          refine z_goto F 31 dX9_who_83 (by decide) ?_
          exact h
    · have h := h.2 hc
      refine z_goto F 80 dX9_who_54 (by decide) ?_
      refine z_iinc F (x5 + 1) dX9_who_80 rfl rfl (Nat.le_of_ble_eq_true rfl) ?_
      refine z_goto F 31 dX9_who_83 (by decide) ?_
      exact h
set_option maxRecDepth 20000 in
theorem e_X9_listen {l : Launch} {G : Gx} {w : Wd} {p0 : Int32} {K : Option Value → Wd → Prop} {X : String → Wd → Prop} (hl : l.stackTraces = false)
    (h : ∀ (M : Mx) (kk : Nat), mL M = l → 8 ≤ kk → Fx M G RX9 cX9_listen 8 (some .int) kk 1 → Con (mL M) G 1 0 yX9_within cX9_within 3 (some .boolean) w [.int p0, .int 0, .int 1] (fun r w2 => ∃ v1 : Int32, r = some (.int v1) ∧ Con (mL M) G 6 1 yX9_demand cX9_demand 2 none w2 [.ref (G.2.1 0 0), .int v1] (fun r w4 => r = none ∧ Con (mL M) G 7 0 yX9_tallyHeard cX9_tallyHeard 6 (some .int) w4 [.ref (G.2.1 0 0)] (fun r w6 => ∃ v5 : Int32, r = some (.int v5) ∧ Z M G 1 K X w6 23 [some (.ref (G.2.1 0 0)), some (.int p0), some (.int v5), some (.int (-1)), some (.int (-1)), some (.int 0), none, none] []) X) X) X) :
    Con l G 8 1 yX9_listen cX9_listen 8 (some .int) w [.ref (G.2.1 0 0), .int p0] K X := by
  refine con_intro hl (by decide +kernel) (Nat.le_of_ble_eq_true rfl) (Nat.le_of_ble_eq_true rfl) (fun M kk hM hk F => ?_)
  have h := h M kk hM hk F
  show Z M G 0 K X w 0 [some (.ref (G.2.1 0 0)), some (.int p0), none, none, none, none, none, none] []
  refine z_aload_n F dX9_listen_0 rfl ?_
  refine z_iload_n F dX9_listen_1 rfl ?_
  refine z_iconst F 0 dX9_listen_2 (by decide) ?_
  refine z_iconst F 1 dX9_listen_3 (by decide) ?_
  refine z_callS F (k' := 1) (mc' := 0) [.int p0, .int 0, .int 1] [.ref (G.2.1 0 0)] dX9_listen_4 rfl cl_X9_168 hy_X9_within.2 (by omega) (by decide) (by decide) (Nat.le_of_ble_eq_true rfl) rfl (con_mono h ?_ (fun _ _ h => h))
  rintro _ w2 ⟨v1, rfl, h⟩
  show Z M G 0 K X w2 7 [some (.ref (G.2.1 0 0)), some (.int p0), none, none, none, none, none, none] [.int v1, .ref (G.2.1 0 0)]
  refine z_callV F (k' := 6) (mc' := 1) [.int v1] [] dX9_listen_7 rfl rfl (by decide) rfl cl_X9_172 hy_X9_demand (by omega) (by decide) (by decide) (Nat.le_of_ble_eq_true rfl) rfl (con_mono h ?_ (fun _ _ h => h))
  rintro _ w4 ⟨rfl, h⟩
  show Z M G 1 K X w4 10 [some (.ref (G.2.1 0 0)), some (.int p0), none, none, none, none, none, none] []
  refine z_aload_n F dX9_listen_10 rfl ?_
  refine z_callV F (k' := 7) (mc' := 0) [] [] dX9_listen_11 rfl rfl (by decide) rfl cl_X9_297 hy_X9_tallyHeard (by omega) (by decide) (by decide) (Nat.le_of_ble_eq_true rfl) rfl (con_mono h ?_ (fun _ _ h => h))
  rintro _ w6 ⟨v5, rfl, h⟩
  show Z M G 1 K X w6 14 [some (.ref (G.2.1 0 0)), some (.int p0), none, none, none, none, none, none] [.int v5]
  refine z_istore_n F dX9_listen_14 (Nat.le_of_ble_eq_true rfl) ?_
  refine z_iconst F (-1) dX9_listen_15 (by decide) ?_
  refine z_istore_n F dX9_listen_16 (Nat.le_of_ble_eq_true rfl) ?_
  refine z_iconst F (-1) dX9_listen_17 (by decide) ?_
  refine z_istore F dX9_listen_18 (Nat.le_of_ble_eq_true rfl) ?_
  refine z_iconst F 0 dX9_listen_20 (by decide) ?_
  refine z_istore F dX9_listen_21 (Nat.le_of_ble_eq_true rfl) ?_
  exact h
set_option maxRecDepth 20000 in
theorem b_X9_listen_23 {M : Mx} {G : Gx} {kk : Nat} {w : Wd}  {x1 : Int32} {x2 : Int32} {x3 : Int32} {x4 : Int32} {x5 : Int32} {K : Option Value → Wd → Prop} {X : String → Wd → Prop} (F : Fx M G RX9 cX9_listen 8 (some .int) kk 1) (hk : 8 ≤ kk)
    (h : (((w.1 7 (w.2.2 2 0 0) 1) ≤ x5 → ((¬ x1 = 0 → K (some (.int x4)) w) ∧ (¬ (¬ x1 = 0) → K (some (.int x3)) w))) ∧ (¬ ((w.1 7 (w.2.2 2 0 0) 1) ≤ x5) → (vp_in x5 20 ∧ (vp_in x5 20 ∧ ((¬ (((w.1 9 (w.2.2 0 0 10) 0) >>> (x5 &&& 31)) &&& (1 : Int32)) = 0 → Z M G 1 K X w 79 [some (.ref (G.2.1 0 0)), some (.int x1), some (.int x2), some (.int x3), some (.int x4), some (.int x5), some (.int (if (w.1 24 0 ((x5 : Int32).toNatClampNeg)) < (x2 - (w.1 24 0 ((x5 : Int32).toNatClampNeg))) then (x2 - (w.1 24 0 ((x5 : Int32).toNatClampNeg))) else (w.1 24 0 ((x5 : Int32).toNatClampNeg)))), none] [.int 0]) ∧ (¬ (¬ (((w.1 9 (w.2.2 0 0 10) 0) >>> (x5 &&& 31)) &&& (1 : Int32)) = 0) → Z M G 1 K X w 79 [some (.ref (G.2.1 0 0)), some (.int x1), some (.int x2), some (.int x3), some (.int x4), some (.int x5), some (.int (if (w.1 24 0 ((x5 : Int32).toNatClampNeg)) < (x2 - (w.1 24 0 ((x5 : Int32).toNatClampNeg))) then (x2 - (w.1 24 0 ((x5 : Int32).toNatClampNeg))) else (w.1 24 0 ((x5 : Int32).toNatClampNeg)))), none] [.int 1]))))))) :
    Z M G 1 K X w 23 [some (.ref (G.2.1 0 0)), some (.int x1), some (.int x2), some (.int x3), some (.int x4), some (.int x5), none, none] [] := by
  refine z_iload F dX9_listen_23 rfl ?_
  refine z_aload_n F dX9_listen_25 rfl ?_
  refine z_getR F 1 2 0 rfl (by decide) (by decide) rfl rfl rfl lk_X9_19 dX9_listen_26 ?_
  refine z_getD F 0 7 rfl (by decide) (by decide) rfl rfl lk_X9_106 dX9_listen_29 (fun hv1 => ?_)
  refine z_getI F 1 rfl hv1 (by decide) rfl lk_X9_147 dX9_listen_32 ?_
  refine z_icmp_ge F 111 dX9_listen_35 (by decide) ⟨fun hc => ?_, fun hc => ?_⟩
  · have h := h.1 hc
    refine z_iload_n F dX9_listen_111 rfl ?_
    refine z_if_ne F 119 dX9_listen_112 (by decide) ⟨fun hc => ?_, fun hc => ?_⟩
    · have h := h.1 hc
      refine z_iload F dX9_listen_119 rfl ?_
      exact z_iret F dX9_listen_121 (by decide) h
    · have h := h.2 hc
      refine z_iload_n F dX9_listen_115 rfl ?_
      refine z_goto F 121 dX9_listen_116 (by decide) ?_
      exact z_iret F dX9_listen_121 (by decide) h
  · have h := h.2 hc
    refine z_aload_n F dX9_listen_38 rfl ?_
    refine z_getR F 7 24 0 rfl (by decide) (by decide) rfl rfl rfl lk_X9_55 dX9_listen_39 ?_
    refine z_iload F dX9_listen_42 rfl ?_
    obtain ⟨hb, h⟩ := h
    refine z_ialdK F ((x5 : Int32).toNatClampNeg) rfl rfl (by decide) hb dX9_listen_44 ?_
    refine z_iload_n F dX9_listen_45 rfl ?_
    refine z_aload_n F dX9_listen_46 rfl ?_
    refine z_getR F 7 24 0 rfl (by decide) (by decide) rfl rfl rfl lk_X9_55 dX9_listen_47 ?_
    refine z_iload F dX9_listen_50 rfl ?_
    obtain ⟨hb, h⟩ := h
    refine z_ialdK F ((x5 : Int32).toNatClampNeg) rfl rfl (by decide) hb dX9_listen_52 ?_
    refine z_isub F dX9_listen_53 ?_
    refine z_mmax F (GW_5 78 rfl rfl) (GW_2 230 rfl rfl) (GW_1 21 rfl rfl) (GW_2 231 rfl rfl) (by omega) (by decide) rfl (Nat.le_of_ble_eq_true rfl) dX9_listen_54 ?_
    refine z_istore F dX9_listen_57 (Nat.le_of_ble_eq_true rfl) ?_
    refine z_aload_n F dX9_listen_59 rfl ?_
    refine z_getD F 10 9 rfl (by decide) (by decide) rfl rfl lk_X9_76 dX9_listen_60 (fun hv2 => ?_)
    refine z_getI F 0 rfl hv2 (by decide) rfl lk_X9_153 dX9_listen_63 ?_
    refine z_iload F dX9_listen_66 rfl ?_
    refine z_ishr F dX9_listen_68 ?_
    refine z_iconst F 1 dX9_listen_69 (by decide) ?_
    refine z_iand F dX9_listen_70 ?_
    refine z_if_ne F 78 dX9_listen_71 (by decide) ⟨fun hc => ?_, fun hc => ?_⟩
    · have h := h.1 hc
      refine z_iconst F 0 dX9_listen_78 (by decide) ?_
      exact h
    · have h := h.2 hc
      refine z_iconst F 1 dX9_listen_74 (by decide) ?_
      refine z_goto F 79 dX9_listen_75 (by decide) ?_
      exact h
set_option maxRecDepth 20000 in
theorem b_X9_listen_79 {M : Mx} {G : Gx} {kk : Nat} {w : Wd}  {x1 : Int32} {x2 : Int32} {x3 : Int32} {x4 : Int32} {x5 : Int32} {x6 : Int32} {s0 : Int32} {K : Option Value → Wd → Prop} {X : String → Wd → Prop} (F : Fx M G RX9 cX9_listen 8 (some .int) kk 1) (hk : 8 ≤ kk)
    (h : ((s0 = 0 → Z M G 1 K X w 23 [some (.ref (G.2.1 0 0)), some (.int x1), some (.int x2), some (.int x3), some (.int x4), some (.int (x5 + 1)), none, none] []) ∧ (¬ (s0 = 0) → ((x3 = (-1) → Z M G 1 K X w 23 [some (.ref (G.2.1 0 0)), some (.int x1), some (.int x2), some (.int x5), some (.int x6), some (.int (x5 + 1)), none, none] []) ∧ (¬ (x3 = (-1)) → ((x4 ≤ x6 → Z M G 1 K X w 23 [some (.ref (G.2.1 0 0)), some (.int x1), some (.int x2), some (.int x3), some (.int x4), some (.int (x5 + 1)), none, none] []) ∧ (¬ (x4 ≤ x6) → Z M G 1 K X w 23 [some (.ref (G.2.1 0 0)), some (.int x1), some (.int x2), some (.int x5), some (.int x6), some (.int (x5 + 1)), none, none] []))))))) :
    Z M G 1 K X w 79 [some (.ref (G.2.1 0 0)), some (.int x1), some (.int x2), some (.int x3), some (.int x4), some (.int x5), some (.int x6), none] [.int s0] := by
  refine z_istore F dX9_listen_79 (Nat.le_of_ble_eq_true rfl) ?_
  refine z_iload F dX9_listen_81 rfl ?_
  refine z_if_eq F 105 dX9_listen_83 (by decide) ⟨fun hc => ?_, fun hc => ?_⟩
  · have h := h.1 hc
    refine z_iinc F (x5 + 1) dX9_listen_105 rfl rfl (Nat.le_of_ble_eq_true rfl) ?_
    refine z_goto F 23 dX9_listen_108 (by decide) ?_
    exact z_weak h (⟨rfl, ⟨rfl, ⟨rfl, ⟨rfl, ⟨rfl, ⟨rfl, trivial⟩⟩⟩⟩⟩⟩)
  · have h := h.2 hc
    refine z_iload_n F dX9_listen_86 rfl ?_
    refine z_iconst F (-1) dX9_listen_87 (by decide) ?_
    refine z_icmp_eq F 98 dX9_listen_88 (by decide) ⟨fun hc => ?_, fun hc => ?_⟩
    · have h := h.1 hc
      refine z_iload F dX9_listen_98 rfl ?_
      refine z_istore_n F dX9_listen_100 (Nat.le_of_ble_eq_true rfl) ?_
      refine z_iload F dX9_listen_101 rfl ?_
      refine z_istore F dX9_listen_103 (Nat.le_of_ble_eq_true rfl) ?_
      refine z_iinc F (x5 + 1) dX9_listen_105 rfl rfl (Nat.le_of_ble_eq_true rfl) ?_
      refine z_goto F 23 dX9_listen_108 (by decide) ?_
      exact z_weak h (⟨rfl, ⟨rfl, ⟨rfl, ⟨rfl, ⟨rfl, ⟨rfl, trivial⟩⟩⟩⟩⟩⟩)
    · have h := h.2 hc
      refine z_iload F dX9_listen_91 rfl ?_
      refine z_iload F dX9_listen_93 rfl ?_
      refine z_icmp_ge F 105 dX9_listen_95 (by decide) ⟨fun hc => ?_, fun hc => ?_⟩
      · have h := h.1 hc
        refine z_iinc F (x5 + 1) dX9_listen_105 rfl rfl (Nat.le_of_ble_eq_true rfl) ?_
        refine z_goto F 23 dX9_listen_108 (by decide) ?_
        exact z_weak h (⟨rfl, ⟨rfl, ⟨rfl, ⟨rfl, ⟨rfl, ⟨rfl, trivial⟩⟩⟩⟩⟩⟩)
      · have h := h.2 hc
        refine z_iload F dX9_listen_98 rfl ?_
        refine z_istore_n F dX9_listen_100 (Nat.le_of_ble_eq_true rfl) ?_
        refine z_iload F dX9_listen_101 rfl ?_
        refine z_istore F dX9_listen_103 (Nat.le_of_ble_eq_true rfl) ?_
        refine z_iinc F (x5 + 1) dX9_listen_105 rfl rfl (Nat.le_of_ble_eq_true rfl) ?_
        refine z_goto F 23 dX9_listen_108 (by decide) ?_
        exact z_weak h (⟨rfl, ⟨rfl, ⟨rfl, ⟨rfl, ⟨rfl, ⟨rfl, trivial⟩⟩⟩⟩⟩⟩)
set_option maxRecDepth 20000 in
theorem e_X9_duty {l : Launch} {G : Gx} {w : Wd} {p0 : Int32} {K : Option Value → Wd → Prop} {X : String → Wd → Prop} (hl : l.stackTraces = false)
    (h : ∀ (M : Mx) (kk : Nat), mL M = l → 7 ≤ kk → Fx M G RX9 cX9_duty 2 (some .int) kk 1 → Con (mL M) G 1 0 yX9_isSinger cX9_isSinger 2 (some .boolean) w [.ref (G.2.1 0 0), .int p0] (fun r w2 => ∃ v1 : Int32, r = some (.int v1) ∧ Con (mL M) G 6 1 yX9_find cX9_find 2 none w2 [.ref (G.2.1 0 0), .int v1] (fun r w4 => r = none ∧ Con (mL M) G 3 0 yX6_become cX6_become 2 none w4 [.ref (G.2.1 5 68), .ref (G.2.1 5 0)] (fun r w6 => r = none ∧ Con (mL M) G 5 0 yX9_notesSungBy cX9_notesSungBy 4 (some .int) w6 [.ref (G.2.1 0 0), .int p0] (fun r w8 => ∃ v7 : Int32, r = some (.int v7) ∧ K (some (.int v7)) w8) X) X) X) X) :
    Con l G 7 1 yX9_duty cX9_duty 2 (some .int) w [.ref (G.2.1 0 0), .int p0] K X := by
  refine con_intro hl (by decide +kernel) (Nat.le_of_ble_eq_true rfl) (Nat.le_of_ble_eq_true rfl) (fun M kk hM hk F => ?_)
  have h := h M kk hM hk F
  show Z M G 0 K X w 0 [some (.ref (G.2.1 0 0)), some (.int p0)] []
  refine z_aload_n F dX9_duty_0 rfl ?_
  refine z_aload_n F dX9_duty_1 rfl ?_
  refine z_iload_n F dX9_duty_2 rfl ?_
  refine z_callV F (k' := 1) (mc' := 0) [.int p0] [.ref (G.2.1 0 0)] dX9_duty_3 rfl rfl (by decide) rfl cl_X9_205 hy_X9_isSinger (by omega) (by decide) (by decide) (Nat.le_of_ble_eq_true rfl) rfl (con_mono h ?_ (fun _ _ h => h))
  rintro _ w2 ⟨v1, rfl, h⟩
  show Z M G 0 K X w2 6 [some (.ref (G.2.1 0 0)), some (.int p0)] [.int v1, .ref (G.2.1 0 0)]
  refine z_callV F (k' := 6) (mc' := 1) [.int v1] [] dX9_duty_6 rfl rfl (by decide) rfl cl_X9_209 hy_X9_find (by omega) (by decide) (by decide) (Nat.le_of_ble_eq_true rfl) rfl (con_mono h ?_ (fun _ _ h => h))
  rintro _ w4 ⟨rfl, h⟩
  show Z M G 1 K X w4 9 [some (.ref (G.2.1 0 0)), some (.int p0)] []
  refine z_aload_n F dX9_duty_9 rfl ?_
  refine z_getR F 5 5 68 rfl (by decide) (by decide) rfl rfl rfl lk_X9_44 dX9_duty_10 ?_
  refine z_aload_n F dX9_duty_13 rfl ?_
  refine z_getR F 3 4 0 rfl (by decide) (by decide) rfl rfl rfl lk_X9_33 dX9_duty_14 ?_
  refine z_getR F 1 5 0 rfl (by decide) (by decide) rfl rfl rfl lk_X9_128 dX9_duty_17 ?_
  refine z_callV F (k' := 3) (mc' := 0) [.ref (G.2.1 5 0)] [] dX9_duty_20 rfl rfl (by decide) rfl cl_X9_256 hy_X6_become (by omega) (by decide) (by decide) (Nat.le_of_ble_eq_true rfl) rfl (con_mono h ?_ (fun _ _ h => h))
  rintro _ w6 ⟨rfl, h⟩
  show Z M G 1 K X w6 23 [some (.ref (G.2.1 0 0)), some (.int p0)] []
  refine z_aload_n F dX9_duty_23 rfl ?_
  refine z_iload_n F dX9_duty_24 rfl ?_
  refine z_callV F (k' := 5) (mc' := 0) [.int p0] [] dX9_duty_25 rfl rfl (by decide) rfl cl_X9_305 hy_X9_notesSungBy (by omega) (by decide) (by decide) (Nat.le_of_ble_eq_true rfl) rfl (con_mono h ?_ (fun _ _ h => h))
  rintro _ w8 ⟨v7, rfl, h⟩
  show Z M G 1 K X w8 28 [some (.ref (G.2.1 0 0)), some (.int p0)] [.int v7]
  exact z_iret F dX9_duty_28 (by decide) h
set_option maxRecDepth 20000 in
theorem e_X9_range {l : Launch} {G : Gx} {w : Wd} {p0 : Int32} {K : Option Value → Wd → Prop} {X : String → Wd → Prop} (hl : l.stackTraces = false)
    (h : ∀ (M : Mx) (kk : Nat), mL M = l → 7 ≤ kk → Fx M G RX9 cX9_range 5 (some .int) kk 1 → Con (mL M) G 1 0 yX9_isSinger cX9_isSinger 2 (some .boolean) w [.ref (G.2.1 0 0), .int p0] (fun r w2 => ∃ v1 : Int32, r = some (.int v1) ∧ Con (mL M) G 6 1 yX9_find cX9_find 2 none w2 [.ref (G.2.1 0 0), .int v1] (fun r w4 => r = none ∧ Con (mL M) G 3 0 yX6_become cX6_become 2 none w4 [.ref (G.2.1 5 68), .ref (G.2.1 5 0)] (fun r w6 => r = none ∧ Z M G 1 K X w6 27 [some (.ref (G.2.1 0 0)), some (.int p0), some (.int 0), some (.int 1), none] []) X) X) X) :
    Con l G 7 1 yX9_range cX9_range 5 (some .int) w [.ref (G.2.1 0 0), .int p0] K X := by
  refine con_intro hl (by decide +kernel) (Nat.le_of_ble_eq_true rfl) (Nat.le_of_ble_eq_true rfl) (fun M kk hM hk F => ?_)
  have h := h M kk hM hk F
  show Z M G 0 K X w 0 [some (.ref (G.2.1 0 0)), some (.int p0), none, none, none] []
  refine z_aload_n F dX9_range_0 rfl ?_
  refine z_aload_n F dX9_range_1 rfl ?_
  refine z_iload_n F dX9_range_2 rfl ?_
  refine z_callV F (k' := 1) (mc' := 0) [.int p0] [.ref (G.2.1 0 0)] dX9_range_3 rfl rfl (by decide) rfl cl_X9_205 hy_X9_isSinger (by omega) (by decide) (by decide) (Nat.le_of_ble_eq_true rfl) rfl (con_mono h ?_ (fun _ _ h => h))
  rintro _ w2 ⟨v1, rfl, h⟩
  show Z M G 0 K X w2 6 [some (.ref (G.2.1 0 0)), some (.int p0), none, none, none] [.int v1, .ref (G.2.1 0 0)]
  refine z_callV F (k' := 6) (mc' := 1) [.int v1] [] dX9_range_6 rfl rfl (by decide) rfl cl_X9_209 hy_X9_find (by omega) (by decide) (by decide) (Nat.le_of_ble_eq_true rfl) rfl (con_mono h ?_ (fun _ _ h => h))
  rintro _ w4 ⟨rfl, h⟩
  show Z M G 1 K X w4 9 [some (.ref (G.2.1 0 0)), some (.int p0), none, none, none] []
  refine z_aload_n F dX9_range_9 rfl ?_
  refine z_getR F 5 5 68 rfl (by decide) (by decide) rfl rfl rfl lk_X9_44 dX9_range_10 ?_
  refine z_aload_n F dX9_range_13 rfl ?_
  refine z_getR F 3 4 0 rfl (by decide) (by decide) rfl rfl rfl lk_X9_33 dX9_range_14 ?_
  refine z_getR F 1 5 0 rfl (by decide) (by decide) rfl rfl rfl lk_X9_128 dX9_range_17 ?_
  refine z_callV F (k' := 3) (mc' := 0) [.ref (G.2.1 5 0)] [] dX9_range_20 rfl rfl (by decide) rfl cl_X9_256 hy_X6_become (by omega) (by decide) (by decide) (Nat.le_of_ble_eq_true rfl) rfl (con_mono h ?_ (fun _ _ h => h))
  rintro _ w6 ⟨rfl, h⟩
  show Z M G 1 K X w6 23 [some (.ref (G.2.1 0 0)), some (.int p0), none, none, none] []
  refine z_iconst F 0 dX9_range_23 (by decide) ?_
  refine z_istore_n F dX9_range_24 (Nat.le_of_ble_eq_true rfl) ?_
  refine z_iconst F 1 dX9_range_25 (by decide) ?_
  refine z_istore_n F dX9_range_26 (Nat.le_of_ble_eq_true rfl) ?_
  exact h
set_option maxRecDepth 20000 in
theorem b_X9_range_27 {M : Mx} {G : Gx} {kk : Nat} {w : Wd}  {x1 : Int32} {x2 : Int32} {x3 : Int32} {K : Option Value → Wd → Prop} {X : String → Wd → Prop} (F : Fx M G RX9 cX9_range 5 (some .int) kk 1) (hk : 7 ≤ kk)
    (h : ((20 < x3 → K (some (.int x2)) w) ∧ (¬ (20 < x3) → (vp_in x1 7 ∧ Con (mL M) G 5 0 yX7_singHymn cX7_singHymn 4 (some .int) w [.ref (G.2.1 2 0), .ref (G.2.1 5 68)] (fun r w2 => ∃ v1 : Int32, r = some (.int v1) ∧ (vp_in x1 7 ∧ (((w2.1 18 68 ((x1 : Int32).toNatClampNeg)) ≤ (w.1 18 68 ((x1 : Int32).toNatClampNeg)) → Z M G 1 K X w2 27 [some (.ref (G.2.1 0 0)), some (.int x1), some (.int x2), some (.int (x3 + 1)), none] []) ∧ (¬ ((w2.1 18 68 ((x1 : Int32).toNatClampNeg)) ≤ (w.1 18 68 ((x1 : Int32).toNatClampNeg))) → Z M G 1 K X w2 27 [some (.ref (G.2.1 0 0)), some (.int x1), some (.int x3), some (.int (x3 + 1)), none] [])))) X)))) :
    Z M G 1 K X w 27 [some (.ref (G.2.1 0 0)), some (.int x1), some (.int x2), some (.int x3), none] [] := by
  refine z_iload_n F dX9_range_27 rfl ?_
  refine z_bipush F 20 dX9_range_28 (by decide) ?_
  refine z_icmp_gt F 78 dX9_range_30 (by decide) ⟨fun hc => ?_, fun hc => ?_⟩
  · have h := h.1 hc
    refine z_iload_n F dX9_range_78 rfl ?_
    exact z_iret F dX9_range_79 (by decide) h
  · have h := h.2 hc
    refine z_aload_n F dX9_range_33 rfl ?_
    refine z_getR F 5 5 68 rfl (by decide) (by decide) rfl rfl rfl lk_X9_44 dX9_range_34 ?_
    refine z_getR F 4 18 68 rfl (by decide) (by decide) rfl rfl rfl lk_X9_188 dX9_range_37 ?_
    refine z_iload_n F dX9_range_40 rfl ?_
    obtain ⟨hb, h⟩ := h
    refine z_ialdK F ((x1 : Int32).toNatClampNeg) rfl rfl (by decide) hb dX9_range_41 ?_
    refine z_istore F dX9_range_42 (Nat.le_of_ble_eq_true rfl) ?_
    refine z_aload_n F dX9_range_44 rfl ?_
    refine z_getR F 1 2 0 rfl (by decide) (by decide) rfl rfl rfl lk_X9_19 dX9_range_45 ?_
    refine z_aload_n F dX9_range_48 rfl ?_
    refine z_getR F 5 5 68 rfl (by decide) (by decide) rfl rfl rfl lk_X9_44 dX9_range_49 ?_
    refine z_callV F (k' := 5) (mc' := 0) [.ref (G.2.1 5 68)] [] dX9_range_52 rfl rfl (by decide) rfl cl_X9_260 hy_X7_singHymn (by omega) (by decide) (by decide) (Nat.le_of_ble_eq_true rfl) rfl (con_mono h ?_ (fun _ _ h => h))
    rintro _ w2 ⟨v1, rfl, h⟩
    show Z M G 1 K X w2 55 [some (.ref (G.2.1 0 0)), some (.int x1), some (.int x2), some (.int x3), some (.int (w.1 18 68 ((x1 : Int32).toNatClampNeg)))] [.int v1]
    refine z_pop F dX9_range_55 rfl ?_
    refine z_aload_n F dX9_range_56 rfl ?_
    refine z_getR F 5 5 68 rfl (by decide) (by decide) rfl rfl rfl lk_X9_44 dX9_range_57 ?_
    refine z_getR F 4 18 68 rfl (by decide) (by decide) rfl rfl rfl lk_X9_188 dX9_range_60 ?_
    refine z_iload_n F dX9_range_63 rfl ?_
    obtain ⟨hb, h⟩ := h
    refine z_ialdK F ((x1 : Int32).toNatClampNeg) rfl rfl (by decide) hb dX9_range_64 ?_
    refine z_iload F dX9_range_65 rfl ?_
    refine z_icmp_le F 72 dX9_range_67 (by decide) ⟨fun hc => ?_, fun hc => ?_⟩
    · have h := h.1 hc
      refine z_iinc F (x3 + 1) dX9_range_72 rfl rfl (Nat.le_of_ble_eq_true rfl) ?_
      refine z_goto F 27 dX9_range_75 (by decide) ?_
      exact z_weak h (⟨rfl, ⟨rfl, ⟨rfl, ⟨rfl, trivial⟩⟩⟩⟩)
    · have h := h.2 hc
      refine z_iload_n F dX9_range_70 rfl ?_
      refine z_istore_n F dX9_range_71 (Nat.le_of_ble_eq_true rfl) ?_
      refine z_iinc F (x3 + 1) dX9_range_72 rfl rfl (Nat.le_of_ble_eq_true rfl) ?_
      refine z_goto F 27 dX9_range_75 (by decide) ?_
      exact z_weak h (⟨rfl, ⟨rfl, ⟨rfl, ⟨rfl, trivial⟩⟩⟩⟩)
set_option maxRecDepth 20000 in
theorem e_X9_quarrel {l : Launch} {G : Gx} {w : Wd} {p0 : Int32} {p1 : Int32} {p2 : Int32} {K : Option Value → Wd → Prop} {X : String → Wd → Prop} (hl : l.stackTraces = false)
    (h : ∀ (M : Mx) (kk : Nat), mL M = l → 7 ≤ kk → Fx M G RX9 cX9_quarrel 12 (some .int) kk 1 → Con (mL M) G 1 0 yX9_within cX9_within 3 (some .boolean) w [.int p0, .int 0, .int 99] (fun r w2 => ∃ v1 : Int32, r = some (.int v1) ∧ ((v1 = 0 → Z M G 0 K X w2 34 [none, some (.int p0), some (.int p1), some (.int p2), none, none, none, none, none, none, none, none] [.ref (G.2.1 0 0)]) ∧ (¬ (v1 = 0) → Con (mL M) G 1 0 yX9_within cX9_within 3 (some .boolean) w2 [.int p1, .int 0, .int 99] (fun r w4 => ∃ v3 : Int32, r = some (.int v3) ∧ ((v3 = 0 → Z M G 0 K X w4 34 [none, some (.int p0), some (.int p1), some (.int p2), none, none, none, none, none, none, none, none] [.ref (G.2.1 0 0)]) ∧ (¬ (v3 = 0) → Con (mL M) G 1 0 yX9_within cX9_within 3 (some .boolean) w4 [.int p2, .int 0, .int 2] (fun r w6 => ∃ v5 : Int32, r = some (.int v5) ∧ ((v5 = 0 → Z M G 0 K X w6 34 [none, some (.int p0), some (.int p1), some (.int p2), none, none, none, none, none, none, none, none] [.ref (G.2.1 0 0)]) ∧ (¬ (v5 = 0) → Z M G 0 K X w6 35 [none, some (.int p0), some (.int p1), some (.int p2), none, none, none, none, none, none, none, none] [.int 1, .ref (G.2.1 0 0)]))) X))) X))) X) :
    Con l G 7 1 yX9_quarrel cX9_quarrel 12 (some .int) w [.ref (G.2.1 0 0), .int p0, .int p1, .int p2] K X := by
  refine con_intro hl (by decide +kernel) (Nat.le_of_ble_eq_true rfl) (Nat.le_of_ble_eq_true rfl) (fun M kk hM hk F => ?_)
  have h := h M kk hM hk F
  show Z M G 0 K X w 0 [some (.ref (G.2.1 0 0)), some (.int p0), some (.int p1), some (.int p2), none, none, none, none, none, none, none, none] []
  refine z_aload_n F dX9_quarrel_0 rfl ?_
  refine z_iload_n F dX9_quarrel_1 rfl ?_
  refine z_iconst F 0 dX9_quarrel_2 (by decide) ?_
  refine z_bipush F 99 dX9_quarrel_3 (by decide) ?_
  refine z_callS F (k' := 1) (mc' := 0) [.int p0, .int 0, .int 99] [.ref (G.2.1 0 0)] dX9_quarrel_5 rfl cl_X9_168 hy_X9_within.2 (by omega) (by decide) (by decide) (Nat.le_of_ble_eq_true rfl) rfl (con_mono h ?_ (fun _ _ h => h))
  rintro _ w2 ⟨v1, rfl, h⟩
  show Z M G 0 K X w2 8 [some (.ref (G.2.1 0 0)), some (.int p0), some (.int p1), some (.int p2), none, none, none, none, none, none, none, none] [.int v1, .ref (G.2.1 0 0)]
  refine z_if_eq F 34 dX9_quarrel_8 (by decide) ⟨fun hc => ?_, fun hc => ?_⟩
  · have h := h.1 hc
    exact z_weak h (⟨rfl, ⟨rfl, ⟨rfl, trivial⟩⟩⟩)
  · have h := h.2 hc
    refine z_iload_n F dX9_quarrel_11 rfl ?_
    refine z_iconst F 0 dX9_quarrel_12 (by decide) ?_
    refine z_bipush F 99 dX9_quarrel_13 (by decide) ?_
    refine z_callS F (k' := 1) (mc' := 0) [.int p1, .int 0, .int 99] [.ref (G.2.1 0 0)] dX9_quarrel_15 rfl cl_X9_168 hy_X9_within.2 (by omega) (by decide) (by decide) (Nat.le_of_ble_eq_true rfl) rfl (con_mono h ?_ (fun _ _ h => h))
    rintro _ w4 ⟨v3, rfl, h⟩
    show Z M G 0 K X w4 18 [some (.ref (G.2.1 0 0)), some (.int p0), some (.int p1), some (.int p2), none, none, none, none, none, none, none, none] [.int v3, .ref (G.2.1 0 0)]
    refine z_if_eq F 34 dX9_quarrel_18 (by decide) ⟨fun hc => ?_, fun hc => ?_⟩
    · have h := h.1 hc
      exact z_weak h (⟨rfl, ⟨rfl, ⟨rfl, trivial⟩⟩⟩)
    · have h := h.2 hc
      refine z_iload_n F dX9_quarrel_21 rfl ?_
      refine z_iconst F 0 dX9_quarrel_22 (by decide) ?_
      refine z_iconst F 2 dX9_quarrel_23 (by decide) ?_
      refine z_callS F (k' := 1) (mc' := 0) [.int p2, .int 0, .int 2] [.ref (G.2.1 0 0)] dX9_quarrel_24 rfl cl_X9_168 hy_X9_within.2 (by omega) (by decide) (by decide) (Nat.le_of_ble_eq_true rfl) rfl (con_mono h ?_ (fun _ _ h => h))
      rintro _ w6 ⟨v5, rfl, h⟩
      show Z M G 0 K X w6 27 [some (.ref (G.2.1 0 0)), some (.int p0), some (.int p1), some (.int p2), none, none, none, none, none, none, none, none] [.int v5, .ref (G.2.1 0 0)]
      refine z_if_eq F 34 dX9_quarrel_27 (by decide) ⟨fun hc => ?_, fun hc => ?_⟩
      · have h := h.1 hc
        exact z_weak h (⟨rfl, ⟨rfl, ⟨rfl, trivial⟩⟩⟩)
      · have h := h.2 hc
        refine z_iconst F 1 dX9_quarrel_30 (by decide) ?_
        refine z_goto F 35 dX9_quarrel_31 (by decide) ?_
        exact z_weak h (⟨rfl, ⟨rfl, ⟨rfl, trivial⟩⟩⟩)
set_option maxRecDepth 20000 in
theorem b_X9_quarrel_34 {M : Mx} {G : Gx} {kk : Nat} {w : Wd}  {x1 : Int32} {x2 : Int32} {x3 : Int32} {K : Option Value → Wd → Prop} {X : String → Wd → Prop} (F : Fx M G RX9 cX9_quarrel 12 (some .int) kk 1) (hk : 7 ≤ kk)
    (h : Z M G 0 K X w 35 [none, some (.int x1), some (.int x2), some (.int x3), none, none, none, none, none, none, none, none] [.int 0, .ref (G.2.1 0 0)]) :
    Z M G 0 K X w 34 [none, some (.int x1), some (.int x2), some (.int x3), none, none, none, none, none, none, none, none] [.ref (G.2.1 0 0)] := by
  refine z_iconst F 0 dX9_quarrel_34 (by decide) ?_
  exact h
set_option maxRecDepth 20000 in
theorem b_X9_quarrel_35 {M : Mx} {G : Gx} {kk : Nat} {w : Wd}  {x1 : Int32} {x2 : Int32} {x3 : Int32} {s0 : Int32} {K : Option Value → Wd → Prop} {X : String → Wd → Prop} (F : Fx M G RX9 cX9_quarrel 12 (some .int) kk 1) (hk : 7 ≤ kk)
    (h : Con (mL M) G 6 1 yX9_demand cX9_demand 2 none w [.ref (G.2.1 0 0), .int s0] (fun r w2 => r = none ∧ Z M G 1 K X w2 50 [none, some (.int x1), some (.int x2), some (.int x3), some (.int 0), some (.int (-1)), some (.int 0), some (.int 0), none, none, none, none] []) X) :
    Z M G 0 K X w 35 [none, some (.int x1), some (.int x2), some (.int x3), none, none, none, none, none, none, none, none] [.int s0, .ref (G.2.1 0 0)] := by
  refine z_callV F (k' := 6) (mc' := 1) [.int s0] [] dX9_quarrel_35 rfl rfl (by decide) rfl cl_X9_172 hy_X9_demand (by omega) (by decide) (by decide) (Nat.le_of_ble_eq_true rfl) rfl (con_mono h ?_ (fun _ _ h => h))
  rintro _ w2 ⟨rfl, h⟩
  show Z M G 1 K X w2 38 [none, some (.int x1), some (.int x2), some (.int x3), none, none, none, none, none, none, none, none] []
  refine z_iconst F 0 dX9_quarrel_38 (by decide) ?_
  refine z_istore F dX9_quarrel_39 (Nat.le_of_ble_eq_true rfl) ?_
  refine z_iconst F (-1) dX9_quarrel_41 (by decide) ?_
  refine z_istore F dX9_quarrel_42 (Nat.le_of_ble_eq_true rfl) ?_
  refine z_iconst F 0 dX9_quarrel_44 (by decide) ?_
  refine z_istore F dX9_quarrel_45 (Nat.le_of_ble_eq_true rfl) ?_
  refine z_iconst F 0 dX9_quarrel_47 (by decide) ?_
  refine z_istore F dX9_quarrel_48 (Nat.le_of_ble_eq_true rfl) ?_
  exact h
set_option maxRecDepth 20000 in
theorem b_X9_quarrel_50 {M : Mx} {G : Gx} {kk : Nat} {w : Wd}  {x1 : Int32} {x2 : Int32} {x3 : Int32} {x4 : Int32} {x5 : Int32} {x6 : Int32} {x7 : Int32} {K : Option Value → Wd → Prop} {X : String → Wd → Prop} (F : Fx M G RX9 cX9_quarrel 12 (some .int) kk 1) (hk : 7 ≤ kk)
    (h : ((4 ≤ x7 → ((¬ x3 = 0 → ((¬ x3 = 1 → K (some (.int x6)) w) ∧ (¬ (¬ x3 = 1) → K (some (.int x5)) w))) ∧ (¬ (¬ x3 = 0) → K (some (.int x4)) w))) ∧ (¬ (4 ≤ x7) → Con (mL M) G 1 0 yX9_gain cX9_gain 4 (some .int) w [.int (x7 >>> ((1 : Int32) &&& 31)), .int (x7 &&& (1 : Int32)), .int x1, .int x2] (fun r w2 => ∃ v1 : Int32, r = some (.int v1) ∧ Con (mL M) G 1 0 yX9_gain cX9_gain 4 (some .int) w2 [.int (x7 &&& (1 : Int32)), .int (x7 >>> ((1 : Int32) &&& 31)), .int x1, .int x2] (fun r w4 => ∃ v3 : Int32, r = some (.int v3) ∧ Con (mL M) G 1 0 yX9_gain cX9_gain 4 (some .int) w4 [.int ((1 : Int32) - (x7 >>> ((1 : Int32) &&& 31))), .int (x7 &&& (1 : Int32)), .int x1, .int x2] (fun r w6 => ∃ v5 : Int32, r = some (.int v5) ∧ ((v1 < v5 → Z M G 1 K X w6 50 [none, some (.int x1), some (.int x2), some (.int x3), some (.int x4), some (.int x5), some (.int x6), some (.int (x7 + 1)), none, none, none, none] []) ∧ (¬ (v1 < v5) → Con (mL M) G 1 0 yX9_gain cX9_gain 4 (some .int) w6 [.int ((1 : Int32) - (x7 &&& (1 : Int32))), .int (x7 >>> ((1 : Int32) &&& 31)), .int x1, .int x2] (fun r w8 => ∃ v7 : Int32, r = some (.int v7) ∧ ((v7 ≤ v3 → ((¬ x4 = 0 → Z M G 1 K X w8 50 [none, some (.int x1), some (.int x2), some (.int x3), some (.int (x4 + 1)), some (.int x5), some (.int x6), some (.int (x7 + 1)), none, none, none, none] []) ∧ (¬ (¬ x4 = 0) → Z M G 1 K X w8 50 [none, some (.int x1), some (.int x2), some (.int x3), some (.int (x4 + 1)), some (.int (((10 : Int32) * (x7 >>> ((1 : Int32) &&& 31))) + (x7 &&& (1 : Int32)))), some (.int (v1 + v3)), some (.int (x7 + 1)), none, none, none, none] []))) ∧ (¬ (v7 ≤ v3) → Z M G 1 K X w8 50 [none, some (.int x1), some (.int x2), some (.int x3), some (.int x4), some (.int x5), some (.int x6), some (.int (x7 + 1)), none, none, none, none] []))) X))) X) X) X))) :
    Z M G 1 K X w 50 [none, some (.int x1), some (.int x2), some (.int x3), some (.int x4), some (.int x5), some (.int x6), some (.int x7), none, none, none, none] [] := by
  refine z_iload F dX9_quarrel_50 rfl ?_
  refine z_iconst F 4 dX9_quarrel_52 (by decide) ?_
  refine z_icmp_ge F 156 dX9_quarrel_53 (by decide) ⟨fun hc => ?_, fun hc => ?_⟩
  · have h := h.1 hc
    refine z_iload_n F dX9_quarrel_156 rfl ?_
    refine z_if_ne F 165 dX9_quarrel_157 (by decide) ⟨fun hc => ?_, fun hc => ?_⟩
    · have h := h.1 hc
      refine z_iload_n F dX9_quarrel_165 rfl ?_
      refine z_iconst F 1 dX9_quarrel_166 (by decide) ?_
      refine z_icmp_ne F 175 dX9_quarrel_167 (by decide) ⟨fun hc => ?_, fun hc => ?_⟩
      · have h := h.1 hc
        refine z_iload F dX9_quarrel_175 rfl ?_
        exact z_iret F dX9_quarrel_177 (by decide) h
      · have h := h.2 hc
        refine z_iload F dX9_quarrel_170 rfl ?_
        refine z_goto F 177 dX9_quarrel_172 (by decide) ?_
        exact z_iret F dX9_quarrel_177 (by decide) h
    · have h := h.2 hc
      refine z_iload F dX9_quarrel_160 rfl ?_
      refine z_goto F 177 dX9_quarrel_162 (by decide) ?_
      exact z_iret F dX9_quarrel_177 (by decide) h
  · have h := h.2 hc
    refine z_iload F dX9_quarrel_56 rfl ?_
    refine z_iconst F 1 dX9_quarrel_58 (by decide) ?_
    refine z_ishr F dX9_quarrel_59 ?_
    refine z_istore F dX9_quarrel_60 (Nat.le_of_ble_eq_true rfl) ?_
    refine z_iload F dX9_quarrel_62 rfl ?_
    refine z_iconst F 1 dX9_quarrel_64 (by decide) ?_
    refine z_iand F dX9_quarrel_65 ?_
    refine z_istore F dX9_quarrel_66 (Nat.le_of_ble_eq_true rfl) ?_
    refine z_iload F dX9_quarrel_68 rfl ?_
    refine z_iload F dX9_quarrel_70 rfl ?_
    refine z_iload_n F dX9_quarrel_72 rfl ?_
    refine z_iload_n F dX9_quarrel_73 rfl ?_
    refine z_callS F (k' := 1) (mc' := 0) [.int (x7 >>> ((1 : Int32) &&& 31)), .int (x7 &&& (1 : Int32)), .int x1, .int x2] [] dX9_quarrel_74 rfl cl_X9_308 hy_X9_gain.2 (by omega) (by decide) (by decide) (Nat.le_of_ble_eq_true rfl) rfl (con_mono h ?_ (fun _ _ h => h))
    rintro _ w2 ⟨v1, rfl, h⟩
    show Z M G 1 K X w2 77 [none, some (.int x1), some (.int x2), some (.int x3), some (.int x4), some (.int x5), some (.int x6), some (.int x7), some (.int (x7 >>> ((1 : Int32) &&& 31))), some (.int (x7 &&& (1 : Int32))), none, none] [.int v1]
    refine z_istore F dX9_quarrel_77 (Nat.le_of_ble_eq_true rfl) ?_
    refine z_iload F dX9_quarrel_79 rfl ?_
    refine z_iload F dX9_quarrel_81 rfl ?_
    refine z_iload_n F dX9_quarrel_83 rfl ?_
    refine z_iload_n F dX9_quarrel_84 rfl ?_
    refine z_callS F (k' := 1) (mc' := 0) [.int (x7 &&& (1 : Int32)), .int (x7 >>> ((1 : Int32) &&& 31)), .int x1, .int x2] [] dX9_quarrel_85 rfl cl_X9_308 hy_X9_gain.2 (by omega) (by decide) (by decide) (Nat.le_of_ble_eq_true rfl) rfl (con_mono h ?_ (fun _ _ h => h))
    rintro _ w4 ⟨v3, rfl, h⟩
    show Z M G 1 K X w4 88 [none, some (.int x1), some (.int x2), some (.int x3), some (.int x4), some (.int x5), some (.int x6), some (.int x7), some (.int (x7 >>> ((1 : Int32) &&& 31))), some (.int (x7 &&& (1 : Int32))), some (.int v1), none] [.int v3]
    refine z_istore F dX9_quarrel_88 (Nat.le_of_ble_eq_true rfl) ?_
    refine z_iconst F 1 dX9_quarrel_90 (by decide) ?_
    refine z_iload F dX9_quarrel_91 rfl ?_
    refine z_isub F dX9_quarrel_93 ?_
    refine z_iload F dX9_quarrel_94 rfl ?_
    refine z_iload_n F dX9_quarrel_96 rfl ?_
    refine z_iload_n F dX9_quarrel_97 rfl ?_
    refine z_callS F (k' := 1) (mc' := 0) [.int ((1 : Int32) - (x7 >>> ((1 : Int32) &&& 31))), .int (x7 &&& (1 : Int32)), .int x1, .int x2] [] dX9_quarrel_98 rfl cl_X9_308 hy_X9_gain.2 (by omega) (by decide) (by decide) (Nat.le_of_ble_eq_true rfl) rfl (con_mono h ?_ (fun _ _ h => h))
    rintro _ w6 ⟨v5, rfl, h⟩
    show Z M G 1 K X w6 101 [none, some (.int x1), some (.int x2), some (.int x3), some (.int x4), some (.int x5), some (.int x6), some (.int x7), some (.int (x7 >>> ((1 : Int32) &&& 31))), some (.int (x7 &&& (1 : Int32))), some (.int v1), some (.int v3)] [.int v5]
    refine z_iload F dX9_quarrel_101 rfl ?_
    refine z_icmp_gt F 150 dX9_quarrel_103 (by decide) ⟨fun hc => ?_, fun hc => ?_⟩
    · have h := h.1 hc
      refine z_iinc F (x7 + 1) dX9_quarrel_150 rfl rfl (Nat.le_of_ble_eq_true rfl) ?_
      refine z_goto F 50 dX9_quarrel_153 (by decide) ?_
      exact z_weak h (⟨rfl, ⟨rfl, ⟨rfl, ⟨rfl, ⟨rfl, ⟨rfl, ⟨rfl, trivial⟩⟩⟩⟩⟩⟩⟩)
    · have h := h.2 hc
      refine z_iconst F 1 dX9_quarrel_106 (by decide) ?_
      refine z_iload F dX9_quarrel_107 rfl ?_
      refine z_isub F dX9_quarrel_109 ?_
      refine z_iload F dX9_quarrel_110 rfl ?_
      refine z_iload_n F dX9_quarrel_112 rfl ?_
      refine z_iload_n F dX9_quarrel_113 rfl ?_
      refine z_callS F (k' := 1) (mc' := 0) [.int ((1 : Int32) - (x7 &&& (1 : Int32))), .int (x7 >>> ((1 : Int32) &&& 31)), .int x1, .int x2] [] dX9_quarrel_114 rfl cl_X9_308 hy_X9_gain.2 (by omega) (by decide) (by decide) (Nat.le_of_ble_eq_true rfl) rfl (con_mono h ?_ (fun _ _ h => h))
      rintro _ w8 ⟨v7, rfl, h⟩
      show Z M G 1 K X w8 117 [none, some (.int x1), some (.int x2), some (.int x3), some (.int x4), some (.int x5), some (.int x6), some (.int x7), some (.int (x7 >>> ((1 : Int32) &&& 31))), some (.int (x7 &&& (1 : Int32))), some (.int v1), some (.int v3)] [.int v7]
      refine z_iload F dX9_quarrel_117 rfl ?_
      refine z_icmp_le F 125 dX9_quarrel_119 (by decide) ⟨fun hc => ?_, fun hc => ?_⟩
      · have h := h.1 hc
        refine z_iload F dX9_quarrel_125 rfl ?_
        refine z_if_ne F 147 dX9_quarrel_127 (by decide) ⟨fun hc => ?_, fun hc => ?_⟩
        · have h := h.1 hc
          refine z_iinc F (x4 + 1) dX9_quarrel_147 rfl rfl (Nat.le_of_ble_eq_true rfl) ?_
          refine z_iinc F (x7 + 1) dX9_quarrel_150 rfl rfl (Nat.le_of_ble_eq_true rfl) ?_
          refine z_goto F 50 dX9_quarrel_153 (by decide) ?_
          exact z_weak h (⟨rfl, ⟨rfl, ⟨rfl, ⟨rfl, ⟨rfl, ⟨rfl, ⟨rfl, trivial⟩⟩⟩⟩⟩⟩⟩)
        · have h := h.2 hc
          refine z_bipush F 10 dX9_quarrel_130 (by decide) ?_
          refine z_iload F dX9_quarrel_132 rfl ?_
          refine z_imul F dX9_quarrel_134 ?_
          refine z_iload F dX9_quarrel_135 rfl ?_
          refine z_iadd F dX9_quarrel_137 ?_
          refine z_istore F dX9_quarrel_138 (Nat.le_of_ble_eq_true rfl) ?_
          refine z_iload F dX9_quarrel_140 rfl ?_
          refine z_iload F dX9_quarrel_142 rfl ?_
          refine z_iadd F dX9_quarrel_144 ?_
          refine z_istore F dX9_quarrel_145 (Nat.le_of_ble_eq_true rfl) ?_
          refine z_iinc F (x4 + 1) dX9_quarrel_147 rfl rfl (Nat.le_of_ble_eq_true rfl) ?_
          refine z_iinc F (x7 + 1) dX9_quarrel_150 rfl rfl (Nat.le_of_ble_eq_true rfl) ?_
          refine z_goto F 50 dX9_quarrel_153 (by decide) ?_
          exact z_weak h (⟨rfl, ⟨rfl, ⟨rfl, ⟨rfl, ⟨rfl, ⟨rfl, ⟨rfl, trivial⟩⟩⟩⟩⟩⟩⟩)
      · have h := h.2 hc
        refine z_goto F 150 dX9_quarrel_122 (by decide) ?_
        refine z_iinc F (x7 + 1) dX9_quarrel_150 rfl rfl (Nat.le_of_ble_eq_true rfl) ?_
        refine z_goto F 50 dX9_quarrel_153 (by decide) ?_
        exact z_weak h (⟨rfl, ⟨rfl, ⟨rfl, ⟨rfl, ⟨rfl, ⟨rfl, ⟨rfl, trivial⟩⟩⟩⟩⟩⟩⟩)
set_option maxRecDepth 20000 in
theorem e_X9_enough {l : Launch} {G : Gx} {w : Wd} {p0 : Int32} {p1 : Int32} {p2 : Int32} {p3 : Int32} {K : Option Value → Wd → Prop} {X : String → Wd → Prop} (hl : l.stackTraces = false)
    (h : ∀ (M : Mx) (kk : Nat), mL M = l → 7 ≤ kk → Fx M G RX9 cX9_enough 9 (some .long) kk 1 → Con (mL M) G 1 0 yX9_within cX9_within 3 (some .boolean) w [.int p0, .int 0, .int 12] (fun r w2 => ∃ v1 : Int32, r = some (.int v1) ∧ ((v1 = 0 → Z M G 0 K X w2 45 [none, some (.int p0), some (.int p1), some (.int p2), some (.int p3), none, none, none, none] [.ref (G.2.1 0 0)]) ∧ (¬ (v1 = 0) → Con (mL M) G 1 0 yX9_within cX9_within 3 (some .boolean) w2 [.int p1, .int 0, .int 13] (fun r w4 => ∃ v3 : Int32, r = some (.int v3) ∧ ((v3 = 0 → Z M G 0 K X w4 45 [none, some (.int p0), some (.int p1), some (.int p2), some (.int p3), none, none, none, none] [.ref (G.2.1 0 0)]) ∧ (¬ (v3 = 0) → Con (mL M) G 1 0 yX9_within cX9_within 3 (some .boolean) w4 [.int p2, .int 0, .int 16] (fun r w6 => ∃ v5 : Int32, r = some (.int v5) ∧ ((v5 = 0 → Z M G 0 K X w6 45 [none, some (.int p0), some (.int p1), some (.int p2), some (.int p3), none, none, none, none] [.ref (G.2.1 0 0)]) ∧ (¬ (v5 = 0) → Con (mL M) G 1 0 yX9_within cX9_within 3 (some .boolean) w6 [.int p3, .int 0, .int 1] (fun r w8 => ∃ v7 : Int32, r = some (.int v7) ∧ ((v7 = 0 → Z M G 0 K X w8 45 [none, some (.int p0), some (.int p1), some (.int p2), some (.int p3), none, none, none, none] [.ref (G.2.1 0 0)]) ∧ (¬ (v7 = 0) → Z M G 0 K X w8 46 [none, some (.int p0), some (.int p1), some (.int p2), some (.int p3), none, none, none, none] [.int 1, .ref (G.2.1 0 0)]))) X))) X))) X))) X) :
    Con l G 7 1 yX9_enough cX9_enough 9 (some .long) w [.ref (G.2.1 0 0), .int p0, .int p1, .int p2, .int p3] K X := by
  refine con_intro hl (by decide +kernel) (Nat.le_of_ble_eq_true rfl) (Nat.le_of_ble_eq_true rfl) (fun M kk hM hk F => ?_)
  have h := h M kk hM hk F
  show Z M G 0 K X w 0 [some (.ref (G.2.1 0 0)), some (.int p0), some (.int p1), some (.int p2), some (.int p3), none, none, none, none] []
  refine z_aload_n F dX9_enough_0 rfl ?_
  refine z_iload_n F dX9_enough_1 rfl ?_
  refine z_iconst F 0 dX9_enough_2 (by decide) ?_
  refine z_bipush F 12 dX9_enough_3 (by decide) ?_
  refine z_callS F (k' := 1) (mc' := 0) [.int p0, .int 0, .int 12] [.ref (G.2.1 0 0)] dX9_enough_5 rfl cl_X9_168 hy_X9_within.2 (by omega) (by decide) (by decide) (Nat.le_of_ble_eq_true rfl) rfl (con_mono h ?_ (fun _ _ h => h))
  rintro _ w2 ⟨v1, rfl, h⟩
  show Z M G 0 K X w2 8 [some (.ref (G.2.1 0 0)), some (.int p0), some (.int p1), some (.int p2), some (.int p3), none, none, none, none] [.int v1, .ref (G.2.1 0 0)]
  refine z_if_eq F 45 dX9_enough_8 (by decide) ⟨fun hc => ?_, fun hc => ?_⟩
  · have h := h.1 hc
    exact z_weak h (⟨rfl, ⟨rfl, ⟨rfl, ⟨rfl, trivial⟩⟩⟩⟩)
  · have h := h.2 hc
    refine z_iload_n F dX9_enough_11 rfl ?_
    refine z_iconst F 0 dX9_enough_12 (by decide) ?_
    refine z_bipush F 13 dX9_enough_13 (by decide) ?_
    refine z_callS F (k' := 1) (mc' := 0) [.int p1, .int 0, .int 13] [.ref (G.2.1 0 0)] dX9_enough_15 rfl cl_X9_168 hy_X9_within.2 (by omega) (by decide) (by decide) (Nat.le_of_ble_eq_true rfl) rfl (con_mono h ?_ (fun _ _ h => h))
    rintro _ w4 ⟨v3, rfl, h⟩
    show Z M G 0 K X w4 18 [some (.ref (G.2.1 0 0)), some (.int p0), some (.int p1), some (.int p2), some (.int p3), none, none, none, none] [.int v3, .ref (G.2.1 0 0)]
    refine z_if_eq F 45 dX9_enough_18 (by decide) ⟨fun hc => ?_, fun hc => ?_⟩
    · have h := h.1 hc
      exact z_weak h (⟨rfl, ⟨rfl, ⟨rfl, ⟨rfl, trivial⟩⟩⟩⟩)
    · have h := h.2 hc
      refine z_iload_n F dX9_enough_21 rfl ?_
      refine z_iconst F 0 dX9_enough_22 (by decide) ?_
      refine z_bipush F 16 dX9_enough_23 (by decide) ?_
      refine z_callS F (k' := 1) (mc' := 0) [.int p2, .int 0, .int 16] [.ref (G.2.1 0 0)] dX9_enough_25 rfl cl_X9_168 hy_X9_within.2 (by omega) (by decide) (by decide) (Nat.le_of_ble_eq_true rfl) rfl (con_mono h ?_ (fun _ _ h => h))
      rintro _ w6 ⟨v5, rfl, h⟩
      show Z M G 0 K X w6 28 [some (.ref (G.2.1 0 0)), some (.int p0), some (.int p1), some (.int p2), some (.int p3), none, none, none, none] [.int v5, .ref (G.2.1 0 0)]
      refine z_if_eq F 45 dX9_enough_28 (by decide) ⟨fun hc => ?_, fun hc => ?_⟩
      · have h := h.1 hc
        exact z_weak h (⟨rfl, ⟨rfl, ⟨rfl, ⟨rfl, trivial⟩⟩⟩⟩)
      · have h := h.2 hc
        refine z_iload F dX9_enough_31 rfl ?_
        refine z_iconst F 0 dX9_enough_33 (by decide) ?_
        refine z_iconst F 1 dX9_enough_34 (by decide) ?_
        refine z_callS F (k' := 1) (mc' := 0) [.int p3, .int 0, .int 1] [.ref (G.2.1 0 0)] dX9_enough_35 rfl cl_X9_168 hy_X9_within.2 (by omega) (by decide) (by decide) (Nat.le_of_ble_eq_true rfl) rfl (con_mono h ?_ (fun _ _ h => h))
        rintro _ w8 ⟨v7, rfl, h⟩
        show Z M G 0 K X w8 38 [some (.ref (G.2.1 0 0)), some (.int p0), some (.int p1), some (.int p2), some (.int p3), none, none, none, none] [.int v7, .ref (G.2.1 0 0)]
        refine z_if_eq F 45 dX9_enough_38 (by decide) ⟨fun hc => ?_, fun hc => ?_⟩
        · have h := h.1 hc
          exact z_weak h (⟨rfl, ⟨rfl, ⟨rfl, ⟨rfl, trivial⟩⟩⟩⟩)
        · have h := h.2 hc
          refine z_iconst F 1 dX9_enough_41 (by decide) ?_
          refine z_goto F 46 dX9_enough_42 (by decide) ?_
          exact z_weak h (⟨rfl, ⟨rfl, ⟨rfl, ⟨rfl, trivial⟩⟩⟩⟩)
set_option maxRecDepth 20000 in
theorem b_X9_enough_45 {M : Mx} {G : Gx} {kk : Nat} {w : Wd}  {x1 : Int32} {x2 : Int32} {x3 : Int32} {x4 : Int32} {K : Option Value → Wd → Prop} {X : String → Wd → Prop} (F : Fx M G RX9 cX9_enough 9 (some .long) kk 1) (hk : 7 ≤ kk)
    (h : Z M G 0 K X w 46 [none, some (.int x1), some (.int x2), some (.int x3), some (.int x4), none, none, none, none] [.int 0, .ref (G.2.1 0 0)]) :
    Z M G 0 K X w 45 [none, some (.int x1), some (.int x2), some (.int x3), some (.int x4), none, none, none, none] [.ref (G.2.1 0 0)] := by
  refine z_iconst F 0 dX9_enough_45 (by decide) ?_
  exact h
set_option maxRecDepth 20000 in
theorem b_X9_enough_46 {M : Mx} {G : Gx} {kk : Nat} {w : Wd}  {x1 : Int32} {x2 : Int32} {x3 : Int32} {x4 : Int32} {s0 : Int32} {K : Option Value → Wd → Prop} {X : String → Wd → Prop} (F : Fx M G RX9 cX9_enough 9 (some .long) kk 1) (hk : 7 ≤ kk)
    (h : Con (mL M) G 6 1 yX9_demand cX9_demand 2 none w [.ref (G.2.1 0 0), .int s0] (fun r w2 => r = none ∧ Z M G 1 K X w2 55 [none, some (.int x1), none, some (.int x3), some (.int x4), some (.long 0), none, some (.int x2), none] []) X) :
    Z M G 0 K X w 46 [none, some (.int x1), some (.int x2), some (.int x3), some (.int x4), none, none, none, none] [.int s0, .ref (G.2.1 0 0)] := by
  refine z_callV F (k' := 6) (mc' := 1) [.int s0] [] dX9_enough_46 rfl rfl (by decide) rfl cl_X9_172 hy_X9_demand (by omega) (by decide) (by decide) (Nat.le_of_ble_eq_true rfl) rfl (con_mono h ?_ (fun _ _ h => h))
  rintro _ w2 ⟨rfl, h⟩
  show Z M G 1 K X w2 49 [none, some (.int x1), some (.int x2), some (.int x3), some (.int x4), none, none, none, none] []
  refine z_lconst F 0 dX9_enough_49 (by decide) ?_
  refine z_lstore F dX9_enough_50 (Nat.le_of_ble_eq_true rfl) ?_
  refine z_iload_n F dX9_enough_52 rfl ?_
  refine z_istore F dX9_enough_53 (Nat.le_of_ble_eq_true rfl) ?_
  exact z_weak h (⟨rfl, ⟨rfl, ⟨rfl, ⟨rfl, ⟨rfl, trivial⟩⟩⟩⟩⟩)
set_option maxRecDepth 20000 in
theorem b_X9_enough_55 {M : Mx} {G : Gx} {kk : Nat} {w : Wd}  {x1 : Int32} {x3 : Int32} {x4 : Int32} {x5 : Int64} {x7 : Int32} {K : Option Value → Wd → Prop} {X : String → Wd → Prop} (F : Fx M G RX9 cX9_enough 9 (some .long) kk 1) (hk : 7 ≤ kk)
    (h : ((x1 < x7 → Con (mL M) G 1 0 yX9_power cX9_power 5 (some .long) w [.int 16, .int x1] (fun r w2 => ∃ v1 : Int64, r = some (.long v1) ∧ Z M G 1 K X w2 105 [none, none, none, none, some (.int x4), some (.long x5), none, some (.long v1), none] []) X) ∧ (¬ (x1 < x7) → Con (mL M) G 1 0 yX9_choices cX9_choices 5 (some .long) w [.int x1, .int x7] (fun r w4 => ∃ v3 : Int64, r = some (.long v3) ∧ Con (mL M) G 1 0 yX9_power cX9_power 5 (some .long) w4 [.int ((16 : Int32) - x3), .int x7] (fun r w6 => ∃ v5 : Int64, r = some (.long v5) ∧ Con (mL M) G 1 0 yX9_power cX9_power 5 (some .long) w6 [.int x3, .int (x1 - x7)] (fun r w8 => ∃ v7 : Int64, r = some (.long v7) ∧ Z M G 1 K X w8 55 [none, some (.int x1), none, some (.int x3), some (.int x4), some (.long (x5 + ((v3 * v5) * v7))), none, some (.int (x7 + 1)), none] []) X) X) X))) :
    Z M G 1 K X w 55 [none, some (.int x1), none, some (.int x3), some (.int x4), some (.long x5), none, some (.int x7), none] [] := by
  refine z_iload F dX9_enough_55 rfl ?_
  refine z_iload_n F dX9_enough_57 rfl ?_
  refine z_icmp_gt F 97 dX9_enough_58 (by decide) ⟨fun hc => ?_, fun hc => ?_⟩
  · have h := h.1 hc
    refine z_bipush F 16 dX9_enough_97 (by decide) ?_
    refine z_iload_n F dX9_enough_99 rfl ?_
    refine z_callS F (k' := 1) (mc' := 0) [.int 16, .int x1] [] dX9_enough_100 rfl cl_X9_316 hy_X9_power.2 (by omega) (by decide) (by decide) (Nat.le_of_ble_eq_true rfl) rfl (con_mono h ?_ (fun _ _ h => h))
    rintro _ w2 ⟨v1, rfl, h⟩
    show Z M G 1 K X w2 103 [none, some (.int x1), none, some (.int x3), some (.int x4), some (.long x5), none, some (.int x7), none] [.long v1]
    refine z_lstore F dX9_enough_103 (Nat.le_of_ble_eq_true rfl) ?_
    exact z_weak h (⟨rfl, ⟨rfl, ⟨rfl, trivial⟩⟩⟩)
  · have h := h.2 hc
    refine z_lload F dX9_enough_61 rfl ?_
    refine z_iload_n F dX9_enough_63 rfl ?_
    refine z_iload F dX9_enough_64 rfl ?_
    refine z_callS F (k' := 1) (mc' := 0) [.int x1, .int x7] [.long x5] dX9_enough_66 rfl cl_X9_312 hy_X9_choices.2 (by omega) (by decide) (by decide) (Nat.le_of_ble_eq_true rfl) rfl (con_mono h ?_ (fun _ _ h => h))
    rintro _ w4 ⟨v3, rfl, h⟩
    show Z M G 1 K X w4 69 [none, some (.int x1), none, some (.int x3), some (.int x4), some (.long x5), none, some (.int x7), none] [.long v3, .long x5]
    refine z_bipush F 16 dX9_enough_69 (by decide) ?_
    refine z_iload_n F dX9_enough_71 rfl ?_
    refine z_isub F dX9_enough_72 ?_
    refine z_iload F dX9_enough_73 rfl ?_
    refine z_callS F (k' := 1) (mc' := 0) [.int ((16 : Int32) - x3), .int x7] [.long v3, .long x5] dX9_enough_75 rfl cl_X9_316 hy_X9_power.2 (by omega) (by decide) (by decide) (Nat.le_of_ble_eq_true rfl) rfl (con_mono h ?_ (fun _ _ h => h))
    rintro _ w6 ⟨v5, rfl, h⟩
    show Z M G 1 K X w6 78 [none, some (.int x1), none, some (.int x3), some (.int x4), some (.long x5), none, some (.int x7), none] [.long v5, .long v3, .long x5]
    refine z_lmul F dX9_enough_78 ?_
    refine z_iload_n F dX9_enough_79 rfl ?_
    refine z_iload_n F dX9_enough_80 rfl ?_
    refine z_iload F dX9_enough_81 rfl ?_
    refine z_isub F dX9_enough_83 ?_
    refine z_callS F (k' := 1) (mc' := 0) [.int x3, .int (x1 - x7)] [.long (v3 * v5), .long x5] dX9_enough_84 rfl cl_X9_316 hy_X9_power.2 (by omega) (by decide) (by decide) (Nat.le_of_ble_eq_true rfl) rfl (con_mono h ?_ (fun _ _ h => h))
    rintro _ w8 ⟨v7, rfl, h⟩
    show Z M G 1 K X w8 87 [none, some (.int x1), none, some (.int x3), some (.int x4), some (.long x5), none, some (.int x7), none] [.long v7, .long (v3 * v5), .long x5]
    refine z_lmul F dX9_enough_87 ?_
    refine z_ladd F dX9_enough_88 ?_
    refine z_lstore F dX9_enough_89 (Nat.le_of_ble_eq_true rfl) ?_
    refine z_iinc F (x7 + 1) dX9_enough_91 rfl rfl (Nat.le_of_ble_eq_true rfl) ?_
    refine z_goto F 55 dX9_enough_94 (by decide) ?_
    exact h
set_option maxRecDepth 20000 in
theorem b_X9_enough_105 {M : Mx} {G : Gx} {kk : Nat} {w : Wd}  {x4 : Int32} {x5 : Int64} {x7 : Int64} {K : Option Value → Wd → Prop} {X : String → Wd → Prop} (F : Fx M G RX9 cX9_enough 9 (some .long) kk 1) (hk : 7 ≤ kk)
    (h : (((lg_cmp x7 (1 : Int64)) ≤ 0 → Z M G 1 K X w 136 [none, none, none, none, some (.int x4), some (.long x5), none, some (.long x7), none] []) ∧ (¬ ((lg_cmp x7 (1 : Int64)) ≤ 0) → ((¬ (lg_cmp (x5 &&& (1 : Int64)) (0 : Int64)) = 0 → Z M G 1 K X w 136 [none, none, none, none, some (.int x4), some (.long x5), none, some (.long x7), none] []) ∧ (¬ (¬ (lg_cmp (x5 &&& (1 : Int64)) (0 : Int64)) = 0) → Z M G 1 K X w 105 [none, none, none, none, some (.int x4), some (.long (x5 >>> ((1 : Int32).toInt64 &&& 63))), none, some (.long (x7 >>> ((1 : Int32).toInt64 &&& 63))), none] []))))) :
    Z M G 1 K X w 105 [none, none, none, none, some (.int x4), some (.long x5), none, some (.long x7), none] [] := by
  refine z_lload F dX9_enough_105 rfl ?_
  refine z_lconst F 1 dX9_enough_107 (by decide) ?_
  refine z_lcmp F dX9_enough_108 ?_
  refine z_if_le F 136 dX9_enough_109 (by decide) ⟨fun hc => ?_, fun hc => ?_⟩
  · have h := h.1 hc
    exact h
  · have h := h.2 hc
    refine z_lload F dX9_enough_112 rfl ?_
    refine z_lconst F 1 dX9_enough_114 (by decide) ?_
    refine z_land F dX9_enough_115 ?_
    refine z_lconst F 0 dX9_enough_116 (by decide) ?_
    refine z_lcmp F dX9_enough_117 ?_
    refine z_if_ne F 136 dX9_enough_118 (by decide) ⟨fun hc => ?_, fun hc => ?_⟩
    · have h := h.1 hc
      exact h
    · have h := h.2 hc
      refine z_lload F dX9_enough_121 rfl ?_
      refine z_iconst F 1 dX9_enough_123 (by decide) ?_
      refine z_lshr F dX9_enough_124 ?_
      refine z_lstore F dX9_enough_125 (Nat.le_of_ble_eq_true rfl) ?_
      refine z_lload F dX9_enough_127 rfl ?_
      refine z_iconst F 1 dX9_enough_129 (by decide) ?_
      refine z_lshr F dX9_enough_130 ?_
      refine z_lstore F dX9_enough_131 (Nat.le_of_ble_eq_true rfl) ?_
      refine z_goto F 105 dX9_enough_133 (by decide) ?_
      exact h
set_option maxRecDepth 20000 in
theorem b_X9_enough_136 {M : Mx} {G : Gx} {kk : Nat} {w : Wd}  {x4 : Int32} {x5 : Int64} {x7 : Int64} {K : Option Value → Wd → Prop} {X : String → Wd → Prop} (F : Fx M G RX9 cX9_enough 9 (some .long) kk 1) (hk : 7 ≤ kk)
    (h : ((¬ x4 = 0 → K (some (.long x7)) w) ∧ (¬ (¬ x4 = 0) → K (some (.long x5)) w))) :
    Z M G 1 K X w 136 [none, none, none, none, some (.int x4), some (.long x5), none, some (.long x7), none] [] := by
  refine z_iload F dX9_enough_136 rfl ?_
  refine z_if_ne F 146 dX9_enough_138 (by decide) ⟨fun hc => ?_, fun hc => ?_⟩
  · have h := h.1 hc
    refine z_lload F dX9_enough_146 rfl ?_
    exact z_lret F dX9_enough_148 (by decide) h
  · have h := h.2 hc
    refine z_lload F dX9_enough_141 rfl ?_
    refine z_goto F 148 dX9_enough_143 (by decide) ?_
    exact z_lret F dX9_enough_148 (by decide) h
set_option maxRecDepth 20000 in
theorem e_X9_rent {l : Launch} {G : Gx} {w : Wd} {p0 : Int32} {p1 : Int32} {p2 : Int32} {K : Option Value → Wd → Prop} {X : String → Wd → Prop} (hl : l.stackTraces = false)
    (h : ∀ (M : Mx) (kk : Nat), mL M = l → 7 ≤ kk → Fx M G RX9 cX9_rent 5 (some .int) kk 2 → Con (mL M) G 1 0 yX9_isSinger cX9_isSinger 2 (some .boolean) w [.ref (G.2.1 0 0), .int p0] (fun r w2 => ∃ v1 : Int32, r = some (.int v1) ∧ Con (mL M) G 6 1 yX9_find cX9_find 2 none w2 [.ref (G.2.1 0 0), .int v1] (fun r w4 => r = none ∧ Con (mL M) G 2 0 yX9_areSingers cX9_areSingers 2 (some .boolean) w4 [.ref (G.2.1 0 0), .int p1] (fun r w6 => ∃ v5 : Int32, r = some (.int v5) ∧ ((v5 = 0 → Z M G 1 K X w6 33 [some (.ref (G.2.1 0 0)), some (.int p0), some (.int p1), some (.int p2), none] [.ref (G.2.1 0 0)]) ∧ (¬ (v5 = 0) → Con (mL M) G 1 0 yX9_within cX9_within 3 (some .boolean) w6 [.int p2, .int 0, .int 999] (fun r w8 => ∃ v7 : Int32, r = some (.int v7) ∧ ((v7 = 0 → Z M G 1 K X w8 33 [some (.ref (G.2.1 0 0)), some (.int p0), some (.int p1), some (.int p2), none] [.ref (G.2.1 0 0)]) ∧ (¬ (v7 = 0) → Z M G 1 K X w8 34 [some (.ref (G.2.1 0 0)), some (.int p0), some (.int p1), some (.int p2), none] [.int 1, .ref (G.2.1 0 0)]))) X))) X) X) X) :
    Con l G 7 2 yX9_rent cX9_rent 5 (some .int) w [.ref (G.2.1 0 0), .int p0, .int p1, .int p2] K X := by
  refine con_intro hl (by decide +kernel) (Nat.le_of_ble_eq_true rfl) (Nat.le_of_ble_eq_true rfl) (fun M kk hM hk F => ?_)
  have h := h M kk hM hk F
  show Z M G 0 K X w 0 [some (.ref (G.2.1 0 0)), some (.int p0), some (.int p1), some (.int p2), none] []
  refine z_aload_n F dX9_rent_0 rfl ?_
  refine z_aload_n F dX9_rent_1 rfl ?_
  refine z_iload_n F dX9_rent_2 rfl ?_
  refine z_callV F (k' := 1) (mc' := 0) [.int p0] [.ref (G.2.1 0 0)] dX9_rent_3 rfl rfl (by decide) rfl cl_X9_205 hy_X9_isSinger (by omega) (by decide) (by decide) (Nat.le_of_ble_eq_true rfl) rfl (con_mono h ?_ (fun _ _ h => h))
  rintro _ w2 ⟨v1, rfl, h⟩
  show Z M G 0 K X w2 6 [some (.ref (G.2.1 0 0)), some (.int p0), some (.int p1), some (.int p2), none] [.int v1, .ref (G.2.1 0 0)]
  refine z_callV F (k' := 6) (mc' := 1) [.int v1] [] dX9_rent_6 rfl rfl (by decide) rfl cl_X9_209 hy_X9_find (by omega) (by decide) (by decide) (Nat.le_of_ble_eq_true rfl) rfl (con_mono h ?_ (fun _ _ h => h))
  rintro _ w4 ⟨rfl, h⟩
  show Z M G 1 K X w4 9 [some (.ref (G.2.1 0 0)), some (.int p0), some (.int p1), some (.int p2), none] []
  refine z_aload_n F dX9_rent_9 rfl ?_
  refine z_aload_n F dX9_rent_10 rfl ?_
  refine z_iload_n F dX9_rent_11 rfl ?_
  refine z_callV F (k' := 2) (mc' := 0) [.int p1] [.ref (G.2.1 0 0)] dX9_rent_12 rfl rfl (by decide) rfl cl_X9_319 hy_X9_areSingers (by omega) (by decide) (by decide) (Nat.le_of_ble_eq_true rfl) rfl (con_mono h ?_ (fun _ _ h => h))
  rintro _ w6 ⟨v5, rfl, h⟩
  show Z M G 1 K X w6 15 [some (.ref (G.2.1 0 0)), some (.int p0), some (.int p1), some (.int p2), none] [.int v5, .ref (G.2.1 0 0)]
  refine z_if_eq F 33 dX9_rent_15 (by decide) ⟨fun hc => ?_, fun hc => ?_⟩
  · have h := h.1 hc
    exact h
  · have h := h.2 hc
    refine z_iload_n F dX9_rent_18 rfl ?_
    refine z_iconst F 0 dX9_rent_19 (by decide) ?_
    refine z_sipush F 999 dX9_rent_20 (by decide) ?_
    refine z_callS F (k' := 1) (mc' := 0) [.int p2, .int 0, .int 999] [.ref (G.2.1 0 0)] dX9_rent_23 rfl cl_X9_168 hy_X9_within.2 (by omega) (by decide) (by decide) (Nat.le_of_ble_eq_true rfl) rfl (con_mono h ?_ (fun _ _ h => h))
    rintro _ w8 ⟨v7, rfl, h⟩
    show Z M G 1 K X w8 26 [some (.ref (G.2.1 0 0)), some (.int p0), some (.int p1), some (.int p2), none] [.int v7, .ref (G.2.1 0 0)]
    refine z_if_eq F 33 dX9_rent_26 (by decide) ⟨fun hc => ?_, fun hc => ?_⟩
    · have h := h.1 hc
      exact h
    · have h := h.2 hc
      refine z_iconst F 1 dX9_rent_29 (by decide) ?_
      refine z_goto F 34 dX9_rent_30 (by decide) ?_
      exact h
set_option maxRecDepth 20000 in
theorem b_X9_rent_33 {M : Mx} {G : Gx} {kk : Nat} {w : Wd}  {x1 : Int32} {x2 : Int32} {x3 : Int32} {K : Option Value → Wd → Prop} {X : String → Wd → Prop} (F : Fx M G RX9 cX9_rent 5 (some .int) kk 2) (hk : 7 ≤ kk)
    (h : Z M G 1 K X w 34 [some (.ref (G.2.1 0 0)), some (.int x1), some (.int x2), some (.int x3), none] [.int 0, .ref (G.2.1 0 0)]) :
    Z M G 1 K X w 33 [some (.ref (G.2.1 0 0)), some (.int x1), some (.int x2), some (.int x3), none] [.ref (G.2.1 0 0)] := by
  refine z_iconst F 0 dX9_rent_33 (by decide) ?_
  exact h
set_option maxRecDepth 20000 in
theorem b_X9_rent_34 {M : Mx} {G : Gx} {kk : Nat} {w : Wd}  {x1 : Int32} {x2 : Int32} {x3 : Int32} {s0 : Int32} {K : Option Value → Wd → Prop} {X : String → Wd → Prop} (F : Fx M G RX9 cX9_rent 5 (some .int) kk 2) (hk : 7 ≤ kk)
    (h : Con (mL M) G 6 1 yX9_demand cX9_demand 2 none w [.ref (G.2.1 0 0), .int s0] (fun r w2 => r = none ∧ ((¬ ((x2 >>> (x1 &&& 31)) &&& (1 : Int32)) = 0 → Z M G 2 K X w2 51 [some (.ref (G.2.1 0 0)), some (.int x1), some (.int x2), some (.int x3), some (.int 60)] []) ∧ (¬ (¬ ((x2 >>> (x1 &&& 31)) &&& (1 : Int32)) = 0) → K (some (.int 0)) w2))) X) :
    Z M G 1 K X w 34 [some (.ref (G.2.1 0 0)), some (.int x1), some (.int x2), some (.int x3), none] [.int s0, .ref (G.2.1 0 0)] := by
  refine z_callV F (k' := 6) (mc' := 1) [.int s0] [] dX9_rent_34 rfl rfl (by decide) rfl cl_X9_172 hy_X9_demand (by omega) (by decide) (by decide) (Nat.le_of_ble_eq_true rfl) rfl (con_mono h ?_ (fun _ _ h => h))
  rintro _ w2 ⟨rfl, h⟩
  show Z M G 2 K X w2 37 [some (.ref (G.2.1 0 0)), some (.int x1), some (.int x2), some (.int x3), none] []
  refine z_iload_n F dX9_rent_37 rfl ?_
  refine z_iload_n F dX9_rent_38 rfl ?_
  refine z_ishr F dX9_rent_39 ?_
  refine z_iconst F 1 dX9_rent_40 (by decide) ?_
  refine z_iand F dX9_rent_41 ?_
  refine z_if_ne F 47 dX9_rent_42 (by decide) ⟨fun hc => ?_, fun hc => ?_⟩
  · have h := h.1 hc
    refine z_bipush F 60 dX9_rent_47 (by decide) ?_
    refine z_istore F dX9_rent_49 (Nat.le_of_ble_eq_true rfl) ?_
    exact h
  · have h := h.2 hc
    refine z_iconst F 0 dX9_rent_45 (by decide) ?_
    exact z_iret F dX9_rent_46 (by decide) h
set_option maxRecDepth 20000 in
theorem b_X9_rent_51 {M : Mx} {G : Gx} {kk : Nat} {w : Wd}  {x1 : Int32} {x2 : Int32} {x3 : Int32} {x4 : Int32} {K : Option Value → Wd → Prop} {X : String → Wd → Prop} (F : Fx M G RX9 cX9_rent 5 (some .int) kk 2) (hk : 7 ≤ kk)
    (h : ((x4 ≤ 0 → Z M G 2 K X w 73 [some (.ref (G.2.1 0 0)), some (.int x1), none, none, some (.int x4)] []) ∧ (¬ (x4 ≤ 0) → Con (mL M) G 1 0 yX9_given cX9_given 5 (some .int) w [.ref (G.2.1 0 0), .int x2, .int x4] (fun r w2 => ∃ v1 : Int32, r = some (.int v1) ∧ ((v1 ≤ x3 → Z M G 2 K X w2 73 [some (.ref (G.2.1 0 0)), some (.int x1), none, none, some (.int x4)] []) ∧ (¬ (v1 ≤ x3) → Z M G 2 K X w2 51 [some (.ref (G.2.1 0 0)), some (.int x1), some (.int x2), some (.int x3), some (.int (x4 + (-1)))] []))) X))) :
    Z M G 2 K X w 51 [some (.ref (G.2.1 0 0)), some (.int x1), some (.int x2), some (.int x3), some (.int x4)] [] := by
  refine z_iload F dX9_rent_51 rfl ?_
  refine z_if_le F 73 dX9_rent_53 (by decide) ⟨fun hc => ?_, fun hc => ?_⟩
  · have h := h.1 hc
    exact z_weak h (⟨rfl, ⟨rfl, ⟨rfl, trivial⟩⟩⟩)
  · have h := h.2 hc
    refine z_aload_n F dX9_rent_56 rfl ?_
    refine z_iload_n F dX9_rent_57 rfl ?_
    refine z_iload F dX9_rent_58 rfl ?_
    refine z_callV F (k' := 1) (mc' := 0) [.int x2, .int x4] [] dX9_rent_60 rfl rfl (by decide) rfl cl_X9_322 hy_X9_given (by omega) (by decide) (by decide) (Nat.le_of_ble_eq_true rfl) rfl (con_mono h ?_ (fun _ _ h => h))
    rintro _ w2 ⟨v1, rfl, h⟩
    show Z M G 2 K X w2 63 [some (.ref (G.2.1 0 0)), some (.int x1), some (.int x2), some (.int x3), some (.int x4)] [.int v1]
    refine z_iload_n F dX9_rent_63 rfl ?_
    refine z_icmp_le F 73 dX9_rent_64 (by decide) ⟨fun hc => ?_, fun hc => ?_⟩
    · have h := h.1 hc
      exact z_weak h (⟨rfl, ⟨rfl, ⟨rfl, trivial⟩⟩⟩)
    · have h := h.2 hc
      refine z_iinc F (x4 + (-1)) dX9_rent_67 rfl rfl (Nat.le_of_ble_eq_true rfl) ?_
      refine z_goto F 51 dX9_rent_70 (by decide) ?_
      exact h
set_option maxRecDepth 20000 in
theorem b_X9_rent_73 {M : Mx} {G : Gx} {kk : Nat} {w : Wd}  {x1 : Int32} {x4 : Int32} {K : Option Value → Wd → Prop} {X : String → Wd → Prop} (F : Fx M G RX9 cX9_rent 5 (some .int) kk 2) (hk : 7 ≤ kk)
    (h : (vp_in x1 7 ∧ K (some (.int (if x4 < (w.1 26 (w.2.2 2 0 0) ((x1 : Int32).toNatClampNeg)) then x4 else (w.1 26 (w.2.2 2 0 0) ((x1 : Int32).toNatClampNeg))))) w)) :
    Z M G 2 K X w 73 [some (.ref (G.2.1 0 0)), some (.int x1), none, none, some (.int x4)] [] := by
  refine z_aload_n F dX9_rent_73 rfl ?_
  refine z_getR F 1 2 0 rfl (by decide) (by decide) rfl rfl rfl lk_X9_19 dX9_rent_74 ?_
  refine z_getD F 0 7 rfl (by decide) (by decide) rfl rfl lk_X9_106 dX9_rent_77 (fun hv1 => ?_)
  refine z_getR F 5 26 (w.2.2 2 0 0) rfl hv1 (by decide) rfl rfl rfl lk_X9_215 dX9_rent_80 ?_
  refine z_iload_n F dX9_rent_83 rfl ?_
  obtain ⟨hb, h⟩ := h
  refine z_ialdK F ((x1 : Int32).toNatClampNeg) rfl rfl (fix_lt 7 (w.2.2 2 0 0) 5 hv1 (by decide) rfl rfl) hb dX9_rent_84 ?_
  refine z_iload F dX9_rent_85 rfl ?_
  refine z_mmin F (GW_5 135 rfl rfl) (GW_4 135 rfl rfl) (GW_1 21 rfl rfl) (GW_4 136 rfl rfl) (by omega) (by decide) rfl (Nat.le_of_ble_eq_true rfl) dX9_rent_87 ?_
  exact z_iret F dX9_rent_90 (by decide) h
set_option maxRecDepth 20000 in
theorem e_X9_dearest {l : Launch} {G : Gx} {w : Wd} {p0 : Int32} {K : Option Value → Wd → Prop} {X : String → Wd → Prop} (hl : l.stackTraces = false)
    (h : ∀ (M : Mx) (kk : Nat), mL M = l → 7 ≤ kk → Fx M G RX9 cX9_dearest 3 (some .int) kk 1 → Con (mL M) G 1 0 yX9_within cX9_within 3 (some .boolean) w [.int p0, .int 0, .int 1] (fun r w2 => ∃ v1 : Int32, r = some (.int v1) ∧ Con (mL M) G 6 1 yX9_demand cX9_demand 2 none w2 [.ref (G.2.1 0 0), .int v1] (fun r w4 => r = none ∧ Con (mL M) G 1 0 yX9_firstMost cX9_firstMost 4 (some .int) w4 [.ref (G.2.1 26 (w4.2.2 2 0 0)), .int (w4.1 7 (w4.2.2 2 0 0) 0)] (fun r w8 => ∃ v7 : Int32, r = some (.int v7) ∧ ((p0 = 0 → K (some (.int v7)) w8) ∧ (¬ (p0 = 0) → ((¬ v7 = (-1) → (vp_in v7 7 ∧ K (some (.int (w8.1 26 (w8.2.2 2 0 0) ((v7 : Int32).toNatClampNeg)))) w8)) ∧ (¬ (¬ v7 = (-1)) → K (some (.int v7)) w8))))) X) X) X) :
    Con l G 7 1 yX9_dearest cX9_dearest 3 (some .int) w [.ref (G.2.1 0 0), .int p0] K X := by
  refine con_intro hl (by decide +kernel) (Nat.le_of_ble_eq_true rfl) (Nat.le_of_ble_eq_true rfl) (fun M kk hM hk F => ?_)
  have h := h M kk hM hk F
  show Z M G 0 K X w 0 [some (.ref (G.2.1 0 0)), some (.int p0), none] []
  refine z_aload_n F dX9_dearest_0 rfl ?_
  refine z_iload_n F dX9_dearest_1 rfl ?_
  refine z_iconst F 0 dX9_dearest_2 (by decide) ?_
  refine z_iconst F 1 dX9_dearest_3 (by decide) ?_
  refine z_callS F (k' := 1) (mc' := 0) [.int p0, .int 0, .int 1] [.ref (G.2.1 0 0)] dX9_dearest_4 rfl cl_X9_168 hy_X9_within.2 (by omega) (by decide) (by decide) (Nat.le_of_ble_eq_true rfl) rfl (con_mono h ?_ (fun _ _ h => h))
  rintro _ w2 ⟨v1, rfl, h⟩
  show Z M G 0 K X w2 7 [some (.ref (G.2.1 0 0)), some (.int p0), none] [.int v1, .ref (G.2.1 0 0)]
  refine z_callV F (k' := 6) (mc' := 1) [.int v1] [] dX9_dearest_7 rfl rfl (by decide) rfl cl_X9_172 hy_X9_demand (by omega) (by decide) (by decide) (Nat.le_of_ble_eq_true rfl) rfl (con_mono h ?_ (fun _ _ h => h))
  rintro _ w4 ⟨rfl, h⟩
  show Z M G 1 K X w4 10 [some (.ref (G.2.1 0 0)), some (.int p0), none] []
  refine z_aload_n F dX9_dearest_10 rfl ?_
  refine z_getR F 1 2 0 rfl (by decide) (by decide) rfl rfl rfl lk_X9_19 dX9_dearest_11 ?_
  refine z_getD F 0 7 rfl (by decide) (by decide) rfl rfl lk_X9_106 dX9_dearest_14 (fun hv5 => ?_)
  refine z_getR F 5 26 (w4.2.2 2 0 0) rfl hv5 (by decide) rfl rfl rfl lk_X9_215 dX9_dearest_17 ?_
  refine z_aload_n F dX9_dearest_20 rfl ?_
  refine z_getR F 1 2 0 rfl (by decide) (by decide) rfl rfl rfl lk_X9_19 dX9_dearest_21 ?_
  refine z_getD F 0 7 rfl (by decide) (by decide) rfl rfl lk_X9_106 dX9_dearest_24 (fun hv6 => ?_)
  refine z_getI F 0 rfl hv6 (by decide) rfl lk_X9_112 dX9_dearest_27 ?_
  refine z_callS F (k' := 1) (mc' := 0) [.ref (G.2.1 26 (w4.2.2 2 0 0)), .int (w4.1 7 (w4.2.2 2 0 0) 0)] [] dX9_dearest_30 rfl cl_X9_328 hy_X9_firstMost.2 (by omega) (by decide) (by decide) (Nat.le_of_ble_eq_true rfl) rfl (con_mono h ?_ (fun _ _ h => h))
  rintro _ w8 ⟨v7, rfl, h⟩
  show Z M G 1 K X w8 33 [some (.ref (G.2.1 0 0)), some (.int p0), none] [.int v7]
  refine z_istore_n F dX9_dearest_33 (Nat.le_of_ble_eq_true rfl) ?_
  refine z_iload_n F dX9_dearest_34 rfl ?_
  refine z_if_eq F 43 dX9_dearest_35 (by decide) ⟨fun hc => ?_, fun hc => ?_⟩
  · have h := h.1 hc
    refine z_iload_n F dX9_dearest_43 rfl ?_
    refine z_goto F 59 dX9_dearest_44 (by decide) ?_
    exact z_iret F dX9_dearest_59 (by decide) h
  · have h := h.2 hc
    refine z_iload_n F dX9_dearest_38 rfl ?_
    refine z_iconst F (-1) dX9_dearest_39 (by decide) ?_
    refine z_icmp_ne F 47 dX9_dearest_40 (by decide) ⟨fun hc => ?_, fun hc => ?_⟩
    · have h := h.1 hc
      refine z_aload_n F dX9_dearest_47 rfl ?_
      refine z_getR F 1 2 0 rfl (by decide) (by decide) rfl rfl rfl lk_X9_19 dX9_dearest_48 ?_
      refine z_getD F 0 7 rfl (by decide) (by decide) rfl rfl lk_X9_106 dX9_dearest_51 (fun hv9 => ?_)
      refine z_getR F 5 26 (w8.2.2 2 0 0) rfl hv9 (by decide) rfl rfl rfl lk_X9_215 dX9_dearest_54 ?_
      refine z_iload_n F dX9_dearest_57 rfl ?_
      obtain ⟨hb, h⟩ := h
      refine z_ialdK F ((v7 : Int32).toNatClampNeg) rfl rfl (fix_lt 7 (w8.2.2 2 0 0) 5 hv9 (by decide) rfl rfl) hb dX9_dearest_58 ?_
      exact z_iret F dX9_dearest_59 (by decide) h
    · have h := h.2 hc
      refine z_iload_n F dX9_dearest_43 rfl ?_
      refine z_goto F 59 dX9_dearest_44 (by decide) ?_
      exact z_iret F dX9_dearest_59 (by decide) h
set_option maxRecDepth 20000 in
theorem e_X9_voices {l : Launch} {G : Gx} {w : Wd} {p0 : Int32} {K : Option Value → Wd → Prop} {X : String → Wd → Prop} (hl : l.stackTraces = false)
    (h : ∀ (M : Mx) (kk : Nat), mL M = l → 7 ≤ kk → Fx M G RX9 cX9_voices 2 (some .int) kk 1 → Con (mL M) G 2 0 yX9_isVowel cX9_isVowel 1 (some .boolean) w [.int p0] (fun r w2 => ∃ v1 : Int32, r = some (.int v1) ∧ Con (mL M) G 6 1 yX9_demand cX9_demand 2 none w2 [.ref (G.2.1 0 0), .int v1] (fun r w4 => r = none ∧ Con (mL M) G 1 0 yX9_places cX9_places 5 (some .int) w4 [.ref (G.2.1 25 (w4.2.2 2 0 0)), .int (w4.1 7 (w4.2.2 2 0 0) 0), .int p0] (fun r w8 => ∃ v7 : Int32, r = some (.int v7) ∧ K (some (.int v7)) w8) X) X) X) :
    Con l G 7 1 yX9_voices cX9_voices 2 (some .int) w [.ref (G.2.1 0 0), .int p0] K X := by
  refine con_intro hl (by decide +kernel) (Nat.le_of_ble_eq_true rfl) (Nat.le_of_ble_eq_true rfl) (fun M kk hM hk F => ?_)
  have h := h M kk hM hk F
  show Z M G 0 K X w 0 [some (.ref (G.2.1 0 0)), some (.int p0)] []
  refine z_aload_n F dX9_voices_0 rfl ?_
  refine z_iload_n F dX9_voices_1 rfl ?_
  refine z_callS F (k' := 2) (mc' := 0) [.int p0] [.ref (G.2.1 0 0)] dX9_voices_2 rfl cl_X9_247 hy_X9_isVowel.2 (by omega) (by decide) (by decide) (Nat.le_of_ble_eq_true rfl) rfl (con_mono h ?_ (fun _ _ h => h))
  rintro _ w2 ⟨v1, rfl, h⟩
  show Z M G 0 K X w2 5 [some (.ref (G.2.1 0 0)), some (.int p0)] [.int v1, .ref (G.2.1 0 0)]
  refine z_callV F (k' := 6) (mc' := 1) [.int v1] [] dX9_voices_5 rfl rfl (by decide) rfl cl_X9_172 hy_X9_demand (by omega) (by decide) (by decide) (Nat.le_of_ble_eq_true rfl) rfl (con_mono h ?_ (fun _ _ h => h))
  rintro _ w4 ⟨rfl, h⟩
  show Z M G 1 K X w4 8 [some (.ref (G.2.1 0 0)), some (.int p0)] []
  refine z_aload_n F dX9_voices_8 rfl ?_
  refine z_getR F 1 2 0 rfl (by decide) (by decide) rfl rfl rfl lk_X9_19 dX9_voices_9 ?_
  refine z_getD F 0 7 rfl (by decide) (by decide) rfl rfl lk_X9_106 dX9_voices_12 (fun hv5 => ?_)
  refine z_getR F 4 25 (w4.2.2 2 0 0) rfl hv5 (by decide) rfl rfl rfl lk_X9_212 dX9_voices_15 ?_
  refine z_aload_n F dX9_voices_18 rfl ?_
  refine z_getR F 1 2 0 rfl (by decide) (by decide) rfl rfl rfl lk_X9_19 dX9_voices_19 ?_
  refine z_getD F 0 7 rfl (by decide) (by decide) rfl rfl lk_X9_106 dX9_voices_22 (fun hv6 => ?_)
  refine z_getI F 0 rfl hv6 (by decide) rfl lk_X9_112 dX9_voices_25 ?_
  refine z_iload_n F dX9_voices_28 rfl ?_
  refine z_callS F (k' := 1) (mc' := 0) [.ref (G.2.1 25 (w4.2.2 2 0 0)), .int (w4.1 7 (w4.2.2 2 0 0) 0), .int p0] [] dX9_voices_29 rfl cl_X9_332 hy_X9_places.2 (by omega) (by decide) (by decide) (Nat.le_of_ble_eq_true rfl) rfl (con_mono h ?_ (fun _ _ h => h))
  rintro _ w8 ⟨v7, rfl, h⟩
  show Z M G 1 K X w8 32 [some (.ref (G.2.1 0 0)), some (.int p0)] [.int v7]
  exact z_iret F dX9_voices_32 (by decide) h
set_option maxRecDepth 20000 in
theorem e_X9_sounds {l : Launch} {G : Gx} {w : Wd} {p0 : Int32} {K : Option Value → Wd → Prop} {X : String → Wd → Prop} (hl : l.stackTraces = false)
    (h : ∀ (M : Mx) (kk : Nat), mL M = l → 7 ≤ kk → Fx M G RX9 cX9_sounds 2 (some .int) kk 1 → Con (mL M) G 2 0 yX9_isVowel cX9_isVowel 1 (some .boolean) w [.int p0] (fun r w2 => ∃ v1 : Int32, r = some (.int v1) ∧ Con (mL M) G 6 1 yX9_demand cX9_demand 2 none w2 [.ref (G.2.1 0 0), .int v1] (fun r w4 => r = none ∧ Con (mL M) G 1 0 yX9_places cX9_places 5 (some .int) w4 [.ref (G.2.1 21 0), .int (w4.1 7 (w4.2.2 2 0 0) 1), .int p0] (fun r w7 => ∃ v6 : Int32, r = some (.int v6) ∧ K (some (.int v6)) w7) X) X) X) :
    Con l G 7 1 yX9_sounds cX9_sounds 2 (some .int) w [.ref (G.2.1 0 0), .int p0] K X := by
  refine con_intro hl (by decide +kernel) (Nat.le_of_ble_eq_true rfl) (Nat.le_of_ble_eq_true rfl) (fun M kk hM hk F => ?_)
  have h := h M kk hM hk F
  show Z M G 0 K X w 0 [some (.ref (G.2.1 0 0)), some (.int p0)] []
  refine z_aload_n F dX9_sounds_0 rfl ?_
  refine z_iload_n F dX9_sounds_1 rfl ?_
  refine z_callS F (k' := 2) (mc' := 0) [.int p0] [.ref (G.2.1 0 0)] dX9_sounds_2 rfl cl_X9_247 hy_X9_isVowel.2 (by omega) (by decide) (by decide) (Nat.le_of_ble_eq_true rfl) rfl (con_mono h ?_ (fun _ _ h => h))
  rintro _ w2 ⟨v1, rfl, h⟩
  show Z M G 0 K X w2 5 [some (.ref (G.2.1 0 0)), some (.int p0)] [.int v1, .ref (G.2.1 0 0)]
  refine z_callV F (k' := 6) (mc' := 1) [.int v1] [] dX9_sounds_5 rfl rfl (by decide) rfl cl_X9_172 hy_X9_demand (by omega) (by decide) (by decide) (Nat.le_of_ble_eq_true rfl) rfl (con_mono h ?_ (fun _ _ h => h))
  rintro _ w4 ⟨rfl, h⟩
  show Z M G 1 K X w4 8 [some (.ref (G.2.1 0 0)), some (.int p0)] []
  refine z_aload_n F dX9_sounds_8 rfl ?_
  refine z_getR F 3 4 0 rfl (by decide) (by decide) rfl rfl rfl lk_X9_33 dX9_sounds_9 ?_
  refine z_getR F 1 5 0 rfl (by decide) (by decide) rfl rfl rfl lk_X9_128 dX9_sounds_12 ?_
  refine z_getR F 7 21 0 rfl (by decide) (by decide) rfl rfl rfl lk_X9_227 dX9_sounds_15 ?_
  refine z_aload_n F dX9_sounds_18 rfl ?_
  refine z_getR F 1 2 0 rfl (by decide) (by decide) rfl rfl rfl lk_X9_19 dX9_sounds_19 ?_
  refine z_getD F 0 7 rfl (by decide) (by decide) rfl rfl lk_X9_106 dX9_sounds_22 (fun hv5 => ?_)
  refine z_getI F 1 rfl hv5 (by decide) rfl lk_X9_147 dX9_sounds_25 ?_
  refine z_iload_n F dX9_sounds_28 rfl ?_
  refine z_callS F (k' := 1) (mc' := 0) [.ref (G.2.1 21 0), .int (w4.1 7 (w4.2.2 2 0 0) 1), .int p0] [] dX9_sounds_29 rfl cl_X9_332 hy_X9_places.2 (by omega) (by decide) (by decide) (Nat.le_of_ble_eq_true rfl) rfl (con_mono h ?_ (fun _ _ h => h))
  rintro _ w7 ⟨v6, rfl, h⟩
  show Z M G 1 K X w7 32 [some (.ref (G.2.1 0 0)), some (.int p0)] [.int v6]
  exact z_iret F dX9_sounds_32 (by decide) h
set_option maxRecDepth 20000 in
theorem e_X9_beats {l : Launch} {G : Gx} {w : Wd} {p0 : Int32} {K : Option Value → Wd → Prop} {X : String → Wd → Prop} (hl : l.stackTraces = false)
    (h : ∀ (M : Mx) (kk : Nat), mL M = l → 7 ≤ kk → Fx M G RX9 cX9_beats 4 (some .int) kk 1 → Con (mL M) G 2 0 yX9_isVowel cX9_isVowel 1 (some .boolean) w [.int p0] (fun r w2 => ∃ v1 : Int32, r = some (.int v1) ∧ Con (mL M) G 6 1 yX9_demand cX9_demand 2 none w2 [.ref (G.2.1 0 0), .int v1] (fun r w4 => r = none ∧ Z M G 1 K X w4 12 [some (.ref (G.2.1 0 0)), some (.int p0), some (.int 0), some (.int 0)] []) X) X) :
    Con l G 7 1 yX9_beats cX9_beats 4 (some .int) w [.ref (G.2.1 0 0), .int p0] K X := by
  refine con_intro hl (by decide +kernel) (Nat.le_of_ble_eq_true rfl) (Nat.le_of_ble_eq_true rfl) (fun M kk hM hk F => ?_)
  have h := h M kk hM hk F
  show Z M G 0 K X w 0 [some (.ref (G.2.1 0 0)), some (.int p0), none, none] []
  refine z_aload_n F dX9_beats_0 rfl ?_
  refine z_iload_n F dX9_beats_1 rfl ?_
  refine z_callS F (k' := 2) (mc' := 0) [.int p0] [.ref (G.2.1 0 0)] dX9_beats_2 rfl cl_X9_247 hy_X9_isVowel.2 (by omega) (by decide) (by decide) (Nat.le_of_ble_eq_true rfl) rfl (con_mono h ?_ (fun _ _ h => h))
  rintro _ w2 ⟨v1, rfl, h⟩
  show Z M G 0 K X w2 5 [some (.ref (G.2.1 0 0)), some (.int p0), none, none] [.int v1, .ref (G.2.1 0 0)]
  refine z_callV F (k' := 6) (mc' := 1) [.int v1] [] dX9_beats_5 rfl rfl (by decide) rfl cl_X9_172 hy_X9_demand (by omega) (by decide) (by decide) (Nat.le_of_ble_eq_true rfl) rfl (con_mono h ?_ (fun _ _ h => h))
  rintro _ w4 ⟨rfl, h⟩
  show Z M G 1 K X w4 8 [some (.ref (G.2.1 0 0)), some (.int p0), none, none] []
  refine z_iconst F 0 dX9_beats_8 (by decide) ?_
  refine z_istore_n F dX9_beats_9 (Nat.le_of_ble_eq_true rfl) ?_
  refine z_iconst F 0 dX9_beats_10 (by decide) ?_
  refine z_istore_n F dX9_beats_11 (Nat.le_of_ble_eq_true rfl) ?_
  exact h
set_option maxRecDepth 20000 in
theorem b_X9_beats_12 {M : Mx} {G : Gx} {kk : Nat} {w : Wd}  {x1 : Int32} {x2 : Int32} {x3 : Int32} {K : Option Value → Wd → Prop} {X : String → Wd → Prop} (F : Fx M G RX9 cX9_beats 4 (some .int) kk 1) (hk : 7 ≤ kk)
    (h : (((w.1 7 (w.2.2 2 0 0) 1) ≤ x3 → K (some (.int x2)) w) ∧ (¬ ((w.1 7 (w.2.2 2 0 0) 1) ≤ x3) → (vp_in x3 20 ∧ ((¬ (w.1 21 0 ((x3 : Int32).toNatClampNeg)) = x1 → Z M G 1 K X w 12 [some (.ref (G.2.1 0 0)), some (.int x1), some (.int x2), some (.int (x3 + 1))] []) ∧ (¬ (¬ (w.1 21 0 ((x3 : Int32).toNatClampNeg)) = x1) → (vp_in x3 20 ∧ Z M G 1 K X w 12 [some (.ref (G.2.1 0 0)), some (.int x1), some (.int (x2 + (w.1 29 (w.2.2 2 0 0) ((x3 : Int32).toNatClampNeg)))), some (.int (x3 + 1))] []))))))) :
    Z M G 1 K X w 12 [some (.ref (G.2.1 0 0)), some (.int x1), some (.int x2), some (.int x3)] [] := by
  refine z_iload_n F dX9_beats_12 rfl ?_
  refine z_aload_n F dX9_beats_13 rfl ?_
  refine z_getR F 1 2 0 rfl (by decide) (by decide) rfl rfl rfl lk_X9_19 dX9_beats_14 ?_
  refine z_getD F 0 7 rfl (by decide) (by decide) rfl rfl lk_X9_106 dX9_beats_17 (fun hv1 => ?_)
  refine z_getI F 1 rfl hv1 (by decide) rfl lk_X9_147 dX9_beats_20 ?_
  refine z_icmp_ge F 63 dX9_beats_23 (by decide) ⟨fun hc => ?_, fun hc => ?_⟩
  · have h := h.1 hc
    refine z_iload_n F dX9_beats_63 rfl ?_
    exact z_iret F dX9_beats_64 (by decide) h
  · have h := h.2 hc
    refine z_aload_n F dX9_beats_26 rfl ?_
    refine z_getR F 3 4 0 rfl (by decide) (by decide) rfl rfl rfl lk_X9_33 dX9_beats_27 ?_
    refine z_getR F 1 5 0 rfl (by decide) (by decide) rfl rfl rfl lk_X9_128 dX9_beats_30 ?_
    refine z_getR F 7 21 0 rfl (by decide) (by decide) rfl rfl rfl lk_X9_227 dX9_beats_33 ?_
    refine z_iload_n F dX9_beats_36 rfl ?_
    obtain ⟨hb, h⟩ := h
    refine z_ialdK F ((x3 : Int32).toNatClampNeg) rfl rfl (by decide) hb dX9_beats_37 ?_
    refine z_iload_n F dX9_beats_38 rfl ?_
    refine z_icmp_ne F 57 dX9_beats_39 (by decide) ⟨fun hc => ?_, fun hc => ?_⟩
    · have h := h.1 hc
      refine z_iinc F (x3 + 1) dX9_beats_57 rfl rfl (Nat.le_of_ble_eq_true rfl) ?_
      refine z_goto F 12 dX9_beats_60 (by decide) ?_
      exact h
    · have h := h.2 hc
      refine z_iload_n F dX9_beats_42 rfl ?_
      refine z_aload_n F dX9_beats_43 rfl ?_
      refine z_getR F 1 2 0 rfl (by decide) (by decide) rfl rfl rfl lk_X9_19 dX9_beats_44 ?_
      refine z_getD F 0 7 rfl (by decide) (by decide) rfl rfl lk_X9_106 dX9_beats_47 (fun hv2 => ?_)
      refine z_getR F 8 29 (w.2.2 2 0 0) rfl hv2 (by decide) rfl rfl rfl lk_X9_231 dX9_beats_50 ?_
      refine z_iload_n F dX9_beats_53 rfl ?_
      obtain ⟨hb, h⟩ := h
      refine z_ialdK F ((x3 : Int32).toNatClampNeg) rfl rfl (fix_lt 7 (w.2.2 2 0 0) 8 hv2 (by decide) rfl rfl) hb dX9_beats_54 ?_
      refine z_iadd F dX9_beats_55 ?_
      refine z_istore_n F dX9_beats_56 (Nat.le_of_ble_eq_true rfl) ?_
      refine z_iinc F (x3 + 1) dX9_beats_57 rfl rfl (Nat.le_of_ble_eq_true rfl) ?_
      refine z_goto F 12 dX9_beats_60 (by decide) ?_
      exact h
set_option maxRecDepth 20000 in
theorem e_X9_words {l : Launch} {G : Gx} {w : Wd} {p0 : Int32} {K : Option Value → Wd → Prop} {X : String → Wd → Prop} (hl : l.stackTraces = false)
    (h : ∀ (M : Mx) (kk : Nat), mL M = l → 7 ≤ kk → Fx M G RX9 cX9_words 2 (some .int) kk 1 → Con (mL M) G 1 0 yX9_isNote cX9_isNote 2 (some .boolean) w [.ref (G.2.1 0 0), .int p0] (fun r w2 => ∃ v1 : Int32, r = some (.int v1) ∧ Con (mL M) G 6 1 yX9_find cX9_find 2 none w2 [.ref (G.2.1 0 0), .int v1] (fun r w4 => r = none ∧ (vp_in p0 20 ∧ K (some (.int (w4.1 30 (w4.2.2 2 0 0) ((p0 : Int32).toNatClampNeg)))) w4)) X) X) :
    Con l G 7 1 yX9_words cX9_words 2 (some .int) w [.ref (G.2.1 0 0), .int p0] K X := by
  refine con_intro hl (by decide +kernel) (Nat.le_of_ble_eq_true rfl) (Nat.le_of_ble_eq_true rfl) (fun M kk hM hk F => ?_)
  have h := h M kk hM hk F
  show Z M G 0 K X w 0 [some (.ref (G.2.1 0 0)), some (.int p0)] []
  refine z_aload_n F dX9_words_0 rfl ?_
  refine z_aload_n F dX9_words_1 rfl ?_
  refine z_iload_n F dX9_words_2 rfl ?_
  refine z_callV F (k' := 1) (mc' := 0) [.int p0] [.ref (G.2.1 0 0)] dX9_words_3 rfl rfl (by decide) rfl cl_X9_224 hy_X9_isNote (by omega) (by decide) (by decide) (Nat.le_of_ble_eq_true rfl) rfl (con_mono h ?_ (fun _ _ h => h))
  rintro _ w2 ⟨v1, rfl, h⟩
  show Z M G 0 K X w2 6 [some (.ref (G.2.1 0 0)), some (.int p0)] [.int v1, .ref (G.2.1 0 0)]
  refine z_callV F (k' := 6) (mc' := 1) [.int v1] [] dX9_words_6 rfl rfl (by decide) rfl cl_X9_209 hy_X9_find (by omega) (by decide) (by decide) (Nat.le_of_ble_eq_true rfl) rfl (con_mono h ?_ (fun _ _ h => h))
  rintro _ w4 ⟨rfl, h⟩
  show Z M G 1 K X w4 9 [some (.ref (G.2.1 0 0)), some (.int p0)] []
  refine z_aload_n F dX9_words_9 rfl ?_
  refine z_getR F 1 2 0 rfl (by decide) (by decide) rfl rfl rfl lk_X9_19 dX9_words_10 ?_
  refine z_getD F 0 7 rfl (by decide) (by decide) rfl rfl lk_X9_106 dX9_words_13 (fun hv5 => ?_)
  refine z_getR F 9 30 (w4.2.2 2 0 0) rfl hv5 (by decide) rfl rfl rfl lk_X9_336 dX9_words_16 ?_
  refine z_iload_n F dX9_words_19 rfl ?_
  obtain ⟨hb, h⟩ := h
  refine z_ialdK F ((p0 : Int32).toNatClampNeg) rfl rfl (fix_lt 7 (w4.2.2 2 0 0) 9 hv5 (by decide) rfl rfl) hb dX9_words_20 ?_
  exact z_iret F dX9_words_21 (by decide) h
set_option maxRecDepth 20000 in
theorem e_X9_mute {l : Launch} {G : Gx} {w : Wd}  {K : Option Value → Wd → Prop} {X : String → Wd → Prop} (hl : l.stackTraces = false)
    (h : ∀ (M : Mx) (kk : Nat), mL M = l → 6 ≤ kk → Fx M G RX9 cX9_mute 3 (some .int) kk 0 → Z M G 0 K X w 4 [some (.ref (G.2.1 0 0)), some (.int 0), some (.int 0)] []) :
    Con l G 6 0 yX9_mute cX9_mute 3 (some .int) w [.ref (G.2.1 0 0)] K X := by
  refine con_intro hl (by decide +kernel) (Nat.le_of_ble_eq_true rfl) (Nat.le_of_ble_eq_true rfl) (fun M kk hM hk F => ?_)
  have h := h M kk hM hk F
  show Z M G 0 K X w 0 [some (.ref (G.2.1 0 0)), none, none] []
  refine z_iconst F 0 dX9_mute_0 (by decide) ?_
  refine z_istore_n F dX9_mute_1 (Nat.le_of_ble_eq_true rfl) ?_
  refine z_iconst F 0 dX9_mute_2 (by decide) ?_
  refine z_istore_n F dX9_mute_3 (Nat.le_of_ble_eq_true rfl) ?_
  exact h
set_option maxRecDepth 20000 in
theorem b_X9_mute_4 {M : Mx} {G : Gx} {kk : Nat} {w : Wd}  {x1 : Int32} {x2 : Int32} {K : Option Value → Wd → Prop} {X : String → Wd → Prop} (F : Fx M G RX9 cX9_mute 3 (some .int) kk 0) (hk : 6 ≤ kk)
    (h : (((w.1 7 (w.2.2 2 0 0) 1) ≤ x2 → K (some (.int x1)) w) ∧ (¬ ((w.1 7 (w.2.2 2 0 0) 1) ≤ x2) → Con (mL M) G 5 0 yX9_sungByNow cX9_sungByNow 2 (some .int) w [.ref (G.2.1 0 0), .int x2] (fun r w3 => ∃ v2 : Int32, r = some (.int v2) ∧ ((¬ v2 = (-1) → Z M G 0 K X w3 4 [some (.ref (G.2.1 0 0)), some (.int x1), some (.int (x2 + 1))] []) ∧ (¬ (¬ v2 = (-1)) → Z M G 0 K X w3 4 [some (.ref (G.2.1 0 0)), some (.int (x1 ||| ((1 : Int32) <<< (x2 &&& 31)))), some (.int (x2 + 1))] []))) X))) :
    Z M G 0 K X w 4 [some (.ref (G.2.1 0 0)), some (.int x1), some (.int x2)] [] := by
  refine z_iload_n F dX9_mute_4 rfl ?_
  refine z_aload_n F dX9_mute_5 rfl ?_
  refine z_getR F 1 2 0 rfl (by decide) (by decide) rfl rfl rfl lk_X9_19 dX9_mute_6 ?_
  refine z_getD F 0 7 rfl (by decide) (by decide) rfl rfl lk_X9_106 dX9_mute_9 (fun hv1 => ?_)
  refine z_getI F 1 rfl hv1 (by decide) rfl lk_X9_147 dX9_mute_12 ?_
  refine z_icmp_ge F 39 dX9_mute_15 (by decide) ⟨fun hc => ?_, fun hc => ?_⟩
  · have h := h.1 hc
    refine z_iload_n F dX9_mute_39 rfl ?_
    exact z_iret F dX9_mute_40 (by decide) h
  · have h := h.2 hc
    refine z_aload_n F dX9_mute_18 rfl ?_
    refine z_iload_n F dX9_mute_19 rfl ?_
    refine z_callV F (k' := 5) (mc' := 0) [.int x2] [] dX9_mute_20 rfl rfl (by decide) rfl cl_X9_234 hy_X9_sungByNow (by omega) (by decide) (by decide) (Nat.le_of_ble_eq_true rfl) rfl (con_mono h ?_ (fun _ _ h => h))
    rintro _ w3 ⟨v2, rfl, h⟩
    show Z M G 0 K X w3 23 [some (.ref (G.2.1 0 0)), some (.int x1), some (.int x2)] [.int v2]
    refine z_iconst F (-1) dX9_mute_23 (by decide) ?_
    refine z_icmp_ne F 33 dX9_mute_24 (by decide) ⟨fun hc => ?_, fun hc => ?_⟩
    · have h := h.1 hc
      refine z_iinc F (x2 + 1) dX9_mute_33 rfl rfl (Nat.le_of_ble_eq_true rfl) ?_
      refine z_goto F 4 dX9_mute_36 (by decide) ?_
      exact h
    · have h := h.2 hc
      refine z_iload_n F dX9_mute_27 rfl ?_
      refine z_iconst F 1 dX9_mute_28 (by decide) ?_
      refine z_iload_n F dX9_mute_29 rfl ?_
      refine z_ishl F dX9_mute_30 ?_
      refine z_ior F dX9_mute_31 ?_
      refine z_istore_n F dX9_mute_32 (Nat.le_of_ble_eq_true rfl) ?_
      refine z_iinc F (x2 + 1) dX9_mute_33 rfl rfl (Nat.le_of_ble_eq_true rfl) ?_
      refine z_goto F 4 dX9_mute_36 (by decide) ?_
      exact h
set_option maxRecDepth 20000 in
theorem e_X9_idle {l : Launch} {G : Gx} {w : Wd}  {K : Option Value → Wd → Prop} {X : String → Wd → Prop} (hl : l.stackTraces = false)
    (h : ∀ (M : Mx) (kk : Nat), mL M = l → 6 ≤ kk → Fx M G RX9 cX9_idle 3 (some .int) kk 0 → Con (mL M) G 3 0 yX6_become cX6_become 2 none w [.ref (G.2.1 5 68), .ref (G.2.1 5 0)] (fun r w2 => r = none ∧ Con (mL M) G 5 0 yX7_singHymn cX7_singHymn 4 (some .int) w2 [.ref (G.2.1 2 0), .ref (G.2.1 5 68)] (fun r w4 => ∃ v3 : Int32, r = some (.int v3) ∧ Z M G 0 K X w4 30 [some (.ref (G.2.1 0 0)), some (.int 0), some (.int 0)] []) X) X) :
    Con l G 6 0 yX9_idle cX9_idle 3 (some .int) w [.ref (G.2.1 0 0)] K X := by
  refine con_intro hl (by decide +kernel) (Nat.le_of_ble_eq_true rfl) (Nat.le_of_ble_eq_true rfl) (fun M kk hM hk F => ?_)
  have h := h M kk hM hk F
  show Z M G 0 K X w 0 [some (.ref (G.2.1 0 0)), none, none] []
  refine z_aload_n F dX9_idle_0 rfl ?_
  refine z_getR F 5 5 68 rfl (by decide) (by decide) rfl rfl rfl lk_X9_44 dX9_idle_1 ?_
  refine z_aload_n F dX9_idle_4 rfl ?_
  refine z_getR F 3 4 0 rfl (by decide) (by decide) rfl rfl rfl lk_X9_33 dX9_idle_5 ?_
  refine z_getR F 1 5 0 rfl (by decide) (by decide) rfl rfl rfl lk_X9_128 dX9_idle_8 ?_
  refine z_callV F (k' := 3) (mc' := 0) [.ref (G.2.1 5 0)] [] dX9_idle_11 rfl rfl (by decide) rfl cl_X9_256 hy_X6_become (by omega) (by decide) (by decide) (Nat.le_of_ble_eq_true rfl) rfl (con_mono h ?_ (fun _ _ h => h))
  rintro _ w2 ⟨rfl, h⟩
  show Z M G 0 K X w2 14 [some (.ref (G.2.1 0 0)), none, none] []
  refine z_aload_n F dX9_idle_14 rfl ?_
  refine z_getR F 1 2 0 rfl (by decide) (by decide) rfl rfl rfl lk_X9_19 dX9_idle_15 ?_
  refine z_aload_n F dX9_idle_18 rfl ?_
  refine z_getR F 5 5 68 rfl (by decide) (by decide) rfl rfl rfl lk_X9_44 dX9_idle_19 ?_
  refine z_callV F (k' := 5) (mc' := 0) [.ref (G.2.1 5 68)] [] dX9_idle_22 rfl rfl (by decide) rfl cl_X9_260 hy_X7_singHymn (by omega) (by decide) (by decide) (Nat.le_of_ble_eq_true rfl) rfl (con_mono h ?_ (fun _ _ h => h))
  rintro _ w4 ⟨v3, rfl, h⟩
  show Z M G 0 K X w4 25 [some (.ref (G.2.1 0 0)), none, none] [.int v3]
  refine z_pop F dX9_idle_25 rfl ?_
  refine z_iconst F 0 dX9_idle_26 (by decide) ?_
  refine z_istore_n F dX9_idle_27 (Nat.le_of_ble_eq_true rfl) ?_
  refine z_iconst F 0 dX9_idle_28 (by decide) ?_
  refine z_istore_n F dX9_idle_29 (Nat.le_of_ble_eq_true rfl) ?_
  exact h
set_option maxRecDepth 20000 in
theorem b_X9_idle_30 {M : Mx} {G : Gx} {kk : Nat} {w : Wd}  {x1 : Int32} {x2 : Int32} {K : Option Value → Wd → Prop} {X : String → Wd → Prop} (F : Fx M G RX9 cX9_idle 3 (some .int) kk 0) (hk : 6 ≤ kk)
    (h : (((w.1 7 (w.2.2 2 0 0) 0) ≤ x2 → K (some (.int x1)) w) ∧ (¬ ((w.1 7 (w.2.2 2 0 0) 0) ≤ x2) → (vp_in x2 7 ∧ (vp_in x2 7 ∧ ((¬ (w.1 18 68 ((x2 : Int32).toNatClampNeg)) = (w.1 18 0 ((x2 : Int32).toNatClampNeg)) → Z M G 0 K X w 30 [some (.ref (G.2.1 0 0)), some (.int x1), some (.int (x2 + 1))] []) ∧ (¬ (¬ (w.1 18 68 ((x2 : Int32).toNatClampNeg)) = (w.1 18 0 ((x2 : Int32).toNatClampNeg))) → Z M G 0 K X w 30 [some (.ref (G.2.1 0 0)), some (.int (x1 ||| ((1 : Int32) <<< (x2 &&& 31)))), some (.int (x2 + 1))] []))))))) :
    Z M G 0 K X w 30 [some (.ref (G.2.1 0 0)), some (.int x1), some (.int x2)] [] := by
  refine z_iload_n F dX9_idle_30 rfl ?_
  refine z_aload_n F dX9_idle_31 rfl ?_
  refine z_getR F 1 2 0 rfl (by decide) (by decide) rfl rfl rfl lk_X9_19 dX9_idle_32 ?_
  refine z_getD F 0 7 rfl (by decide) (by decide) rfl rfl lk_X9_106 dX9_idle_35 (fun hv1 => ?_)
  refine z_getI F 0 rfl hv1 (by decide) rfl lk_X9_112 dX9_idle_38 ?_
  refine z_icmp_ge F 80 dX9_idle_41 (by decide) ⟨fun hc => ?_, fun hc => ?_⟩
  · have h := h.1 hc
    refine z_iload_n F dX9_idle_80 rfl ?_
    exact z_iret F dX9_idle_81 (by decide) h
  · have h := h.2 hc
    refine z_aload_n F dX9_idle_44 rfl ?_
    refine z_getR F 5 5 68 rfl (by decide) (by decide) rfl rfl rfl lk_X9_44 dX9_idle_45 ?_
    refine z_getR F 4 18 68 rfl (by decide) (by decide) rfl rfl rfl lk_X9_188 dX9_idle_48 ?_
    refine z_iload_n F dX9_idle_51 rfl ?_
    obtain ⟨hb, h⟩ := h
    refine z_ialdK F ((x2 : Int32).toNatClampNeg) rfl rfl (by decide) hb dX9_idle_52 ?_
    refine z_aload_n F dX9_idle_53 rfl ?_
    refine z_getR F 3 4 0 rfl (by decide) (by decide) rfl rfl rfl lk_X9_33 dX9_idle_54 ?_
    refine z_getR F 1 5 0 rfl (by decide) (by decide) rfl rfl rfl lk_X9_128 dX9_idle_57 ?_
    refine z_getR F 4 18 0 rfl (by decide) (by decide) rfl rfl rfl lk_X9_188 dX9_idle_60 ?_
    refine z_iload_n F dX9_idle_63 rfl ?_
    obtain ⟨hb, h⟩ := h
    refine z_ialdK F ((x2 : Int32).toNatClampNeg) rfl rfl (by decide) hb dX9_idle_64 ?_
    refine z_icmp_ne F 74 dX9_idle_65 (by decide) ⟨fun hc => ?_, fun hc => ?_⟩
    · have h := h.1 hc
      refine z_iinc F (x2 + 1) dX9_idle_74 rfl rfl (Nat.le_of_ble_eq_true rfl) ?_
      refine z_goto F 30 dX9_idle_77 (by decide) ?_
      exact h
    · have h := h.2 hc
      refine z_iload_n F dX9_idle_68 rfl ?_
      refine z_iconst F 1 dX9_idle_69 (by decide) ?_
      refine z_iload_n F dX9_idle_70 rfl ?_
      refine z_ishl F dX9_idle_71 ?_
      refine z_ior F dX9_idle_72 ?_
      refine z_istore_n F dX9_idle_73 (Nat.le_of_ble_eq_true rfl) ?_
      refine z_iinc F (x2 + 1) dX9_idle_74 rfl rfl (Nat.le_of_ble_eq_true rfl) ?_
      refine z_goto F 30 dX9_idle_77 (by decide) ?_
      exact h
set_option maxRecDepth 20000 in
theorem e_X9_alone {l : Launch} {G : Gx} {w : Wd} {p0 : Int32} {K : Option Value → Wd → Prop} {X : String → Wd → Prop} (hl : l.stackTraces = false)
    (h : ∀ (M : Mx) (kk : Nat), mL M = l → 7 ≤ kk → Fx M G RX9 cX9_alone 4 (some .int) kk 1 → Con (mL M) G 2 0 yX9_isVowel cX9_isVowel 1 (some .boolean) w [.int p0] (fun r w2 => ∃ v1 : Int32, r = some (.int v1) ∧ Con (mL M) G 6 1 yX9_demand cX9_demand 2 none w2 [.ref (G.2.1 0 0), .int v1] (fun r w4 => r = none ∧ Z M G 1 K X w4 12 [some (.ref (G.2.1 0 0)), some (.int p0), some (.int (-1)), some (.int 0)] []) X) X) :
    Con l G 7 1 yX9_alone cX9_alone 4 (some .int) w [.ref (G.2.1 0 0), .int p0] K X := by
  refine con_intro hl (by decide +kernel) (Nat.le_of_ble_eq_true rfl) (Nat.le_of_ble_eq_true rfl) (fun M kk hM hk F => ?_)
  have h := h M kk hM hk F
  show Z M G 0 K X w 0 [some (.ref (G.2.1 0 0)), some (.int p0), none, none] []
  refine z_aload_n F dX9_alone_0 rfl ?_
  refine z_iload_n F dX9_alone_1 rfl ?_
  refine z_callS F (k' := 2) (mc' := 0) [.int p0] [.ref (G.2.1 0 0)] dX9_alone_2 rfl cl_X9_247 hy_X9_isVowel.2 (by omega) (by decide) (by decide) (Nat.le_of_ble_eq_true rfl) rfl (con_mono h ?_ (fun _ _ h => h))
  rintro _ w2 ⟨v1, rfl, h⟩
  show Z M G 0 K X w2 5 [some (.ref (G.2.1 0 0)), some (.int p0), none, none] [.int v1, .ref (G.2.1 0 0)]
  refine z_callV F (k' := 6) (mc' := 1) [.int v1] [] dX9_alone_5 rfl rfl (by decide) rfl cl_X9_172 hy_X9_demand (by omega) (by decide) (by decide) (Nat.le_of_ble_eq_true rfl) rfl (con_mono h ?_ (fun _ _ h => h))
  rintro _ w4 ⟨rfl, h⟩
  show Z M G 1 K X w4 8 [some (.ref (G.2.1 0 0)), some (.int p0), none, none] []
  refine z_iconst F (-1) dX9_alone_8 (by decide) ?_
  refine z_istore_n F dX9_alone_9 (Nat.le_of_ble_eq_true rfl) ?_
  refine z_iconst F 0 dX9_alone_10 (by decide) ?_
  refine z_istore_n F dX9_alone_11 (Nat.le_of_ble_eq_true rfl) ?_
  exact h
set_option maxRecDepth 20000 in
theorem b_X9_alone_12 {M : Mx} {G : Gx} {kk : Nat} {w : Wd}  {x1 : Int32} {x2 : Int32} {x3 : Int32} {K : Option Value → Wd → Prop} {X : String → Wd → Prop} (F : Fx M G RX9 cX9_alone 4 (some .int) kk 1) (hk : 7 ≤ kk)
    (h : (((w.1 7 (w.2.2 2 0 0) 0) ≤ x3 → K (some (.int x2)) w) ∧ (¬ ((w.1 7 (w.2.2 2 0 0) 0) ≤ x3) → (vp_in x3 7 ∧ (((w.1 25 (w.2.2 2 0 0) ((x3 : Int32).toNatClampNeg)) = x1 → ((x2 = (-1) → Z M G 1 K X w 12 [some (.ref (G.2.1 0 0)), some (.int x1), some (.int x3), some (.int (x3 + 1))] []) ∧ (¬ (x2 = (-1)) → K (some (.int (-1))) w))) ∧ (¬ ((w.1 25 (w.2.2 2 0 0) ((x3 : Int32).toNatClampNeg)) = x1) → Z M G 1 K X w 12 [some (.ref (G.2.1 0 0)), some (.int x1), some (.int x2), some (.int (x3 + 1))] [])))))) :
    Z M G 1 K X w 12 [some (.ref (G.2.1 0 0)), some (.int x1), some (.int x2), some (.int x3)] [] := by
  refine z_iload_n F dX9_alone_12 rfl ?_
  refine z_aload_n F dX9_alone_13 rfl ?_
  refine z_getR F 1 2 0 rfl (by decide) (by decide) rfl rfl rfl lk_X9_19 dX9_alone_14 ?_
  refine z_getD F 0 7 rfl (by decide) (by decide) rfl rfl lk_X9_106 dX9_alone_17 (fun hv1 => ?_)
  refine z_getI F 0 rfl hv1 (by decide) rfl lk_X9_112 dX9_alone_20 ?_
  refine z_icmp_ge F 60 dX9_alone_23 (by decide) ⟨fun hc => ?_, fun hc => ?_⟩
  · have h := h.1 hc
    refine z_iload_n F dX9_alone_60 rfl ?_
    exact z_iret F dX9_alone_61 (by decide) h
  · have h := h.2 hc
    refine z_aload_n F dX9_alone_26 rfl ?_
    refine z_getR F 1 2 0 rfl (by decide) (by decide) rfl rfl rfl lk_X9_19 dX9_alone_27 ?_
    refine z_getD F 0 7 rfl (by decide) (by decide) rfl rfl lk_X9_106 dX9_alone_30 (fun hv2 => ?_)
    refine z_getR F 4 25 (w.2.2 2 0 0) rfl hv2 (by decide) rfl rfl rfl lk_X9_212 dX9_alone_33 ?_
    refine z_iload_n F dX9_alone_36 rfl ?_
    obtain ⟨hb, h⟩ := h
    refine z_ialdK F ((x3 : Int32).toNatClampNeg) rfl rfl (fix_lt 7 (w.2.2 2 0 0) 4 hv2 (by decide) rfl rfl) hb dX9_alone_37 ?_
    refine z_iload_n F dX9_alone_38 rfl ?_
    refine z_icmp_eq F 45 dX9_alone_39 (by decide) ⟨fun hc => ?_, fun hc => ?_⟩
    · have h := h.1 hc
      refine z_iload_n F dX9_alone_45 rfl ?_
      refine z_iconst F (-1) dX9_alone_46 (by decide) ?_
      refine z_icmp_eq F 52 dX9_alone_47 (by decide) ⟨fun hc => ?_, fun hc => ?_⟩
      · have h := h.1 hc
        refine z_iload_n F dX9_alone_52 rfl ?_
        refine z_istore_n F dX9_alone_53 (Nat.le_of_ble_eq_true rfl) ?_
        refine z_iinc F (x3 + 1) dX9_alone_54 rfl rfl (Nat.le_of_ble_eq_true rfl) ?_
        refine z_goto F 12 dX9_alone_57 (by decide) ?_
        exact h
      · have h := h.2 hc
        refine z_iconst F (-1) dX9_alone_50 (by decide) ?_
        exact z_iret F dX9_alone_51 (by decide) h
    · have h := h.2 hc
      refine z_goto F 54 dX9_alone_42 (by decide) ?_
      refine z_iinc F (x3 + 1) dX9_alone_54 rfl rfl (Nat.le_of_ble_eq_true rfl) ?_
      refine z_goto F 12 dX9_alone_57 (by decide) ?_
      exact h
set_option maxRecDepth 20000 in
theorem e_X9_longest {l : Launch} {G : Gx} {w : Wd} {p0 : Int32} {K : Option Value → Wd → Prop} {X : String → Wd → Prop} (hl : l.stackTraces = false)
    (h : ∀ (M : Mx) (kk : Nat), mL M = l → 7 ≤ kk → Fx M G RX9 cX9_longest 3 (some .int) kk 1 → Con (mL M) G 1 0 yX9_within cX9_within 3 (some .boolean) w [.int p0, .int 0, .int 1] (fun r w2 => ∃ v1 : Int32, r = some (.int v1) ∧ Con (mL M) G 6 1 yX9_demand cX9_demand 2 none w2 [.ref (G.2.1 0 0), .int v1] (fun r w4 => r = none ∧ Con (mL M) G 1 0 yX9_firstMost cX9_firstMost 4 (some .int) w4 [.ref (G.2.1 29 (w4.2.2 2 0 0)), .int (w4.1 7 (w4.2.2 2 0 0) 1)] (fun r w8 => ∃ v7 : Int32, r = some (.int v7) ∧ ((p0 = 0 → K (some (.int v7)) w8) ∧ (¬ (p0 = 0) → ((¬ v7 = (-1) → (vp_in v7 20 ∧ K (some (.int (w8.1 29 (w8.2.2 2 0 0) ((v7 : Int32).toNatClampNeg)))) w8)) ∧ (¬ (¬ v7 = (-1)) → K (some (.int v7)) w8))))) X) X) X) :
    Con l G 7 1 yX9_longest cX9_longest 3 (some .int) w [.ref (G.2.1 0 0), .int p0] K X := by
  refine con_intro hl (by decide +kernel) (Nat.le_of_ble_eq_true rfl) (Nat.le_of_ble_eq_true rfl) (fun M kk hM hk F => ?_)
  have h := h M kk hM hk F
  show Z M G 0 K X w 0 [some (.ref (G.2.1 0 0)), some (.int p0), none] []
  refine z_aload_n F dX9_longest_0 rfl ?_
  refine z_iload_n F dX9_longest_1 rfl ?_
  refine z_iconst F 0 dX9_longest_2 (by decide) ?_
  refine z_iconst F 1 dX9_longest_3 (by decide) ?_
  refine z_callS F (k' := 1) (mc' := 0) [.int p0, .int 0, .int 1] [.ref (G.2.1 0 0)] dX9_longest_4 rfl cl_X9_168 hy_X9_within.2 (by omega) (by decide) (by decide) (Nat.le_of_ble_eq_true rfl) rfl (con_mono h ?_ (fun _ _ h => h))
  rintro _ w2 ⟨v1, rfl, h⟩
  show Z M G 0 K X w2 7 [some (.ref (G.2.1 0 0)), some (.int p0), none] [.int v1, .ref (G.2.1 0 0)]
  refine z_callV F (k' := 6) (mc' := 1) [.int v1] [] dX9_longest_7 rfl rfl (by decide) rfl cl_X9_172 hy_X9_demand (by omega) (by decide) (by decide) (Nat.le_of_ble_eq_true rfl) rfl (con_mono h ?_ (fun _ _ h => h))
  rintro _ w4 ⟨rfl, h⟩
  show Z M G 1 K X w4 10 [some (.ref (G.2.1 0 0)), some (.int p0), none] []
  refine z_aload_n F dX9_longest_10 rfl ?_
  refine z_getR F 1 2 0 rfl (by decide) (by decide) rfl rfl rfl lk_X9_19 dX9_longest_11 ?_
  refine z_getD F 0 7 rfl (by decide) (by decide) rfl rfl lk_X9_106 dX9_longest_14 (fun hv5 => ?_)
  refine z_getR F 8 29 (w4.2.2 2 0 0) rfl hv5 (by decide) rfl rfl rfl lk_X9_231 dX9_longest_17 ?_
  refine z_aload_n F dX9_longest_20 rfl ?_
  refine z_getR F 1 2 0 rfl (by decide) (by decide) rfl rfl rfl lk_X9_19 dX9_longest_21 ?_
  refine z_getD F 0 7 rfl (by decide) (by decide) rfl rfl lk_X9_106 dX9_longest_24 (fun hv6 => ?_)
  refine z_getI F 1 rfl hv6 (by decide) rfl lk_X9_147 dX9_longest_27 ?_
  refine z_callS F (k' := 1) (mc' := 0) [.ref (G.2.1 29 (w4.2.2 2 0 0)), .int (w4.1 7 (w4.2.2 2 0 0) 1)] [] dX9_longest_30 rfl cl_X9_328 hy_X9_firstMost.2 (by omega) (by decide) (by decide) (Nat.le_of_ble_eq_true rfl) rfl (con_mono h ?_ (fun _ _ h => h))
  rintro _ w8 ⟨v7, rfl, h⟩
  show Z M G 1 K X w8 33 [some (.ref (G.2.1 0 0)), some (.int p0), none] [.int v7]
  refine z_istore_n F dX9_longest_33 (Nat.le_of_ble_eq_true rfl) ?_
  refine z_iload_n F dX9_longest_34 rfl ?_
  refine z_if_eq F 43 dX9_longest_35 (by decide) ⟨fun hc => ?_, fun hc => ?_⟩
  · have h := h.1 hc
    refine z_iload_n F dX9_longest_43 rfl ?_
    refine z_goto F 59 dX9_longest_44 (by decide) ?_
    exact z_iret F dX9_longest_59 (by decide) h
  · have h := h.2 hc
    refine z_iload_n F dX9_longest_38 rfl ?_
    refine z_iconst F (-1) dX9_longest_39 (by decide) ?_
    refine z_icmp_ne F 47 dX9_longest_40 (by decide) ⟨fun hc => ?_, fun hc => ?_⟩
    · have h := h.1 hc
      refine z_aload_n F dX9_longest_47 rfl ?_
      refine z_getR F 1 2 0 rfl (by decide) (by decide) rfl rfl rfl lk_X9_19 dX9_longest_48 ?_
      refine z_getD F 0 7 rfl (by decide) (by decide) rfl rfl lk_X9_106 dX9_longest_51 (fun hv9 => ?_)
      refine z_getR F 8 29 (w8.2.2 2 0 0) rfl hv9 (by decide) rfl rfl rfl lk_X9_231 dX9_longest_54 ?_
      refine z_iload_n F dX9_longest_57 rfl ?_
      obtain ⟨hb, h⟩ := h
      refine z_ialdK F ((v7 : Int32).toNatClampNeg) rfl rfl (fix_lt 7 (w8.2.2 2 0 0) 8 hv9 (by decide) rfl rfl) hb dX9_longest_58 ?_
      exact z_iret F dX9_longest_59 (by decide) h
    · have h := h.2 hc
      refine z_iload_n F dX9_longest_43 rfl ?_
      refine z_goto F 59 dX9_longest_44 (by decide) ?_
      exact z_iret F dX9_longest_59 (by decide) h
set_option maxRecDepth 20000 in
theorem e_X9_chorus {l : Launch} {G : Gx} {w : Wd} {p0 : Int32} {K : Option Value → Wd → Prop} {X : String → Wd → Prop} (hl : l.stackTraces = false)
    (h : ∀ (M : Mx) (kk : Nat), mL M = l → 7 ≤ kk → Fx M G RX9 cX9_chorus 2 (some .int) kk 1 → Con (mL M) G 2 0 yX9_areSingers cX9_areSingers 2 (some .boolean) w [.ref (G.2.1 0 0), .int p0] (fun r w2 => ∃ v1 : Int32, r = some (.int v1) ∧ Con (mL M) G 6 1 yX9_demand cX9_demand 2 none w2 [.ref (G.2.1 0 0), .int v1] (fun r w4 => r = none ∧ Con (mL M) G 1 0 yX9_allSingers cX9_allSingers 1 (some .int) w4 [.ref (G.2.1 0 0)] (fun r w6 => ∃ v5 : Int32, r = some (.int v5) ∧ Con (mL M) G 6 0 yX9_heardWithout cX9_heardWithout 2 (some .int) w6 [.ref (G.2.1 0 0), .int (v5 &&& (p0 ^^^ ((-1) : Int32)))] (fun r w8 => ∃ v7 : Int32, r = some (.int v7) ∧ Con (mL M) G 1 0 yJ6_bitCount_0f7a4 cJ6_bitCount_0f7a4 1 (some .int) w8 [.int v7] (fun r w10 => ∃ v9 : Int32, r = some (.int v9) ∧ K (some (.int v9)) w10) X) X) X) X) X) :
    Con l G 7 1 yX9_chorus cX9_chorus 2 (some .int) w [.ref (G.2.1 0 0), .int p0] K X := by
  refine con_intro hl (by decide +kernel) (Nat.le_of_ble_eq_true rfl) (Nat.le_of_ble_eq_true rfl) (fun M kk hM hk F => ?_)
  have h := h M kk hM hk F
  show Z M G 0 K X w 0 [some (.ref (G.2.1 0 0)), some (.int p0)] []
  refine z_aload_n F dX9_chorus_0 rfl ?_
  refine z_aload_n F dX9_chorus_1 rfl ?_
  refine z_iload_n F dX9_chorus_2 rfl ?_
  refine z_callV F (k' := 2) (mc' := 0) [.int p0] [.ref (G.2.1 0 0)] dX9_chorus_3 rfl rfl (by decide) rfl cl_X9_319 hy_X9_areSingers (by omega) (by decide) (by decide) (Nat.le_of_ble_eq_true rfl) rfl (con_mono h ?_ (fun _ _ h => h))
  rintro _ w2 ⟨v1, rfl, h⟩
  show Z M G 0 K X w2 6 [some (.ref (G.2.1 0 0)), some (.int p0)] [.int v1, .ref (G.2.1 0 0)]
  refine z_callV F (k' := 6) (mc' := 1) [.int v1] [] dX9_chorus_6 rfl rfl (by decide) rfl cl_X9_172 hy_X9_demand (by omega) (by decide) (by decide) (Nat.le_of_ble_eq_true rfl) rfl (con_mono h ?_ (fun _ _ h => h))
  rintro _ w4 ⟨rfl, h⟩
  show Z M G 1 K X w4 9 [some (.ref (G.2.1 0 0)), some (.int p0)] []
  refine z_aload_n F dX9_chorus_9 rfl ?_
  refine z_aload_n F dX9_chorus_10 rfl ?_
  refine z_callV F (k' := 1) (mc' := 0) [] [.ref (G.2.1 0 0)] dX9_chorus_11 rfl rfl (by decide) rfl cl_X9_339 hy_X9_allSingers (by omega) (by decide) (by decide) (Nat.le_of_ble_eq_true rfl) rfl (con_mono h ?_ (fun _ _ h => h))
  rintro _ w6 ⟨v5, rfl, h⟩
  show Z M G 1 K X w6 14 [some (.ref (G.2.1 0 0)), some (.int p0)] [.int v5, .ref (G.2.1 0 0)]
  refine z_iload_n F dX9_chorus_14 rfl ?_
  refine z_iconst F (-1) dX9_chorus_15 (by decide) ?_
  refine z_ixor F dX9_chorus_16 ?_
  refine z_iand F dX9_chorus_17 ?_
  refine z_callV F (k' := 6) (mc' := 0) [.int (v5 &&& (p0 ^^^ ((-1) : Int32)))] [] dX9_chorus_18 rfl rfl (by decide) rfl cl_X9_291 hy_X9_heardWithout (by omega) (by decide) (by decide) (Nat.le_of_ble_eq_true rfl) rfl (con_mono h ?_ (fun _ _ h => h))
  rintro _ w8 ⟨v7, rfl, h⟩
  show Z M G 1 K X w8 21 [some (.ref (G.2.1 0 0)), some (.int p0)] [.int v7]
  refine z_callS F (k' := 1) (mc' := 0) [.int v7] [] dX9_chorus_21 rfl cl_X9_156 hy_J6_bitCount_0f7a4.2 (by omega) (by decide) (by decide) (Nat.le_of_ble_eq_true rfl) rfl (con_mono h ?_ (fun _ _ h => h))
  rintro _ w10 ⟨v9, rfl, h⟩
  show Z M G 1 K X w10 24 [some (.ref (G.2.1 0 0)), some (.int p0)] [.int v9]
  exact z_iret F dX9_chorus_24 (by decide) h
