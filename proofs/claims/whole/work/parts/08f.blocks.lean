set_option maxRecDepth 20000 in
theorem e_X10_beginsAnew {l : Launch} {G : Gx} {w : Wd}  {K : Option Value → Wd → Prop} {X : String → Wd → Prop} (hl : l.stackTraces = false)
    (h : ∀ (M : Mx) (kk : Nat), mL M = l → 2 ≤ kk → Fx M G RX10 cX10_beginsAnew 2 none kk 0 → Z M G 0 K X w 2 [some (.ref (G.2.1 40 0)), some (.int 0)] []) :
    Con l G 2 0 yX10_beginsAnew cX10_beginsAnew 2 none w [.ref (G.2.1 40 0)] K X := by
  refine con_intro hl (by decide +kernel) (Nat.le_of_ble_eq_true rfl) (Nat.le_of_ble_eq_true rfl) (fun M kk hM hk F => ?_)
  have h := h M kk hM hk F
  show Z M G 0 K X w 0 [some (.ref (G.2.1 40 0)), none] []
  refine z_iconst F 0 dX10_beginsAnew_0 (by decide) ?_
  refine z_istore_n F dX10_beginsAnew_1 (Nat.le_of_ble_eq_true rfl) ?_
  exact h
set_option maxRecDepth 20000 in
theorem b_X10_beginsAnew_2 {M : Mx} {G : Gx} {kk : Nat} {w : Wd}  {x1 : Int32} {K : Option Value → Wd → Prop} {X : String → Wd → Prop} (F : Fx M G RX10 cX10_beginsAnew 2 none kk 0) (hk : 2 ≤ kk)
    (h : ((4 ≤ x1 → Con (mL M) G 1 0 yX10_lays cX10_lays 5 none w [.ref (G.2.1 45 0), .ref (G.2.1 47 0), .int (w.1 44 0 0)] (fun r w2 => r = none ∧ Con (mL M) G 1 0 yX10_lays cX10_lays 5 none w2 [.ref (G.2.1 49 0), .ref (G.2.1 51 0), .int (w2.1 44 0 1)] (fun r w4 => r = none ∧ Con (mL M) G 1 0 yX10_lays cX10_lays 5 none w4 [.ref (G.2.1 53 0), .ref (G.2.1 55 0), .int (w4.1 44 0 2)] (fun r w6 => r = none ∧ Z M G 0 K X w6 78 [some (.ref (G.2.1 40 0)), some (.int 0)] []) X) X) X) ∧ (¬ (4 ≤ x1) → (vp_in x1 4 ∧ (vp_in x1 4 ∧ ∀ w7 : Wd, w7 = setI w 44 0 ((x1 : Int32).toNatClampNeg) (w.1 43 0 ((x1 : Int32).toNatClampNeg)) → Z M G 0 K X w7 2 [some (.ref (G.2.1 40 0)), some (.int (x1 + 1))] []))))) :
    Z M G 0 K X w 2 [some (.ref (G.2.1 40 0)), some (.int x1)] [] := by
  refine z_iload_n F dX10_beginsAnew_2 rfl ?_
  refine z_iconst F 4 dX10_beginsAnew_3 (by decide) ?_
  refine z_icmp_ge F 25 dX10_beginsAnew_4 (by decide) ⟨fun hc => ?_, fun hc => ?_⟩
  · have h := h.1 hc
    refine z_aload_n F dX10_beginsAnew_25 rfl ?_
    refine z_getR F 13 45 0 rfl (by decide) (by decide) rfl rfl rfl lk_X10_28 dX10_beginsAnew_26 ?_
    refine z_aload_n F dX10_beginsAnew_29 rfl ?_
    refine z_getR F 14 47 0 rfl (by decide) (by decide) rfl rfl rfl lk_X10_31 dX10_beginsAnew_30 ?_
    refine z_aload_n F dX10_beginsAnew_33 rfl ?_
    refine z_getR F 12 44 0 rfl (by decide) (by decide) rfl rfl rfl lk_X10_23 dX10_beginsAnew_34 ?_
    refine z_iconst F 0 dX10_beginsAnew_37 (by decide) ?_
    refine z_ialdK F 0 (by decide) rfl (by decide) (by unfold vp_in; decide) dX10_beginsAnew_38 ?_
    refine z_callS F (k' := 1) (mc' := 0) [.ref (G.2.1 45 0), .ref (G.2.1 47 0), .int (w.1 44 0 0)] [] dX10_beginsAnew_39 rfl cl_X10_184 hy_X10_lays.2 (by omega) (by decide) (by decide) (Nat.le_of_ble_eq_true rfl) rfl (con_mono h ?_ (fun _ _ h => h))
    rintro _ w2 ⟨rfl, h⟩
    show Z M G 0 K X w2 42 [some (.ref (G.2.1 40 0)), some (.int x1)] []
    refine z_aload_n F dX10_beginsAnew_42 rfl ?_
    refine z_getR F 15 49 0 rfl (by decide) (by decide) rfl rfl rfl lk_X10_34 dX10_beginsAnew_43 ?_
    refine z_aload_n F dX10_beginsAnew_46 rfl ?_
    refine z_getR F 16 51 0 rfl (by decide) (by decide) rfl rfl rfl lk_X10_37 dX10_beginsAnew_47 ?_
    refine z_aload_n F dX10_beginsAnew_50 rfl ?_
    refine z_getR F 12 44 0 rfl (by decide) (by decide) rfl rfl rfl lk_X10_23 dX10_beginsAnew_51 ?_
    refine z_iconst F 1 dX10_beginsAnew_54 (by decide) ?_
    refine z_ialdK F 1 (by decide) rfl (by decide) (by unfold vp_in; decide) dX10_beginsAnew_55 ?_
    refine z_callS F (k' := 1) (mc' := 0) [.ref (G.2.1 49 0), .ref (G.2.1 51 0), .int (w2.1 44 0 1)] [] dX10_beginsAnew_56 rfl cl_X10_184 hy_X10_lays.2 (by omega) (by decide) (by decide) (Nat.le_of_ble_eq_true rfl) rfl (con_mono h ?_ (fun _ _ h => h))
    rintro _ w4 ⟨rfl, h⟩
    show Z M G 0 K X w4 59 [some (.ref (G.2.1 40 0)), some (.int x1)] []
    refine z_aload_n F dX10_beginsAnew_59 rfl ?_
    refine z_getR F 17 53 0 rfl (by decide) (by decide) rfl rfl rfl lk_X10_40 dX10_beginsAnew_60 ?_
    refine z_aload_n F dX10_beginsAnew_63 rfl ?_
    refine z_getR F 18 55 0 rfl (by decide) (by decide) rfl rfl rfl lk_X10_43 dX10_beginsAnew_64 ?_
    refine z_aload_n F dX10_beginsAnew_67 rfl ?_
    refine z_getR F 12 44 0 rfl (by decide) (by decide) rfl rfl rfl lk_X10_23 dX10_beginsAnew_68 ?_
    refine z_iconst F 2 dX10_beginsAnew_71 (by decide) ?_
    refine z_ialdK F 2 (by decide) rfl (by decide) (by unfold vp_in; decide) dX10_beginsAnew_72 ?_
    refine z_callS F (k' := 1) (mc' := 0) [.ref (G.2.1 53 0), .ref (G.2.1 55 0), .int (w4.1 44 0 2)] [] dX10_beginsAnew_73 rfl cl_X10_184 hy_X10_lays.2 (by omega) (by decide) (by decide) (Nat.le_of_ble_eq_true rfl) rfl (con_mono h ?_ (fun _ _ h => h))
    rintro _ w6 ⟨rfl, h⟩
    show Z M G 0 K X w6 76 [some (.ref (G.2.1 40 0)), some (.int x1)] []
    refine z_iconst F 0 dX10_beginsAnew_76 (by decide) ?_
    refine z_istore_n F dX10_beginsAnew_77 (Nat.le_of_ble_eq_true rfl) ?_
    exact h
  · have h := h.2 hc
    refine z_aload_n F dX10_beginsAnew_7 rfl ?_
    refine z_getR F 12 44 0 rfl (by decide) (by decide) rfl rfl rfl lk_X10_23 dX10_beginsAnew_8 ?_
    refine z_iload_n F dX10_beginsAnew_11 rfl ?_
    refine z_aload_n F dX10_beginsAnew_12 rfl ?_
    refine z_getR F 11 43 0 rfl (by decide) (by decide) rfl rfl rfl lk_X10_20 dX10_beginsAnew_13 ?_
    refine z_iload_n F dX10_beginsAnew_16 rfl ?_
    obtain ⟨hb, h⟩ := h
    refine z_ialdK F ((x1 : Int32).toNatClampNeg) rfl rfl (by decide) hb dX10_beginsAnew_17 ?_
    obtain ⟨hb, h⟩ := h
    refine z_iastW F ((x1 : Int32).toNatClampNeg) rfl rfl (by decide) hb dX10_beginsAnew_18 (fun w7 hw7 => ?_)
    have h := h w7 hw7
    refine z_iinc F (x1 + 1) dX10_beginsAnew_19 rfl rfl (Nat.le_of_ble_eq_true rfl) ?_
    refine z_goto F 2 dX10_beginsAnew_22 (by decide) ?_
    exact h
set_option maxRecDepth 20000 in
theorem b_X10_beginsAnew_78 {M : Mx} {G : Gx} {kk : Nat} {w : Wd}  {x1 : Int32} {K : Option Value → Wd → Prop} {X : String → Wd → Prop} (F : Fx M G RX10 cX10_beginsAnew 2 none kk 0) (hk : 2 ≤ kk)
    (h : ((57 ≤ x1 → Con (mL M) G 1 0 yX10_breathes cX10_breathes 3 none w [.ref (G.2.1 40 0), .ref (G.2.1 69 0)] (fun r w2 => r = none ∧ Z M G 0 K X w2 107 [some (.ref (G.2.1 40 0)), some (.int 0)] []) X) ∧ (¬ (57 ≤ x1) → (vp_in x1 57 ∧ ∀ w3 : Wd, w3 = setI w 69 0 ((x1 : Int32).toNatClampNeg) 0 → Z M G 0 K X w3 78 [some (.ref (G.2.1 40 0)), some (.int (x1 + 1))] [])))) :
    Z M G 0 K X w 78 [some (.ref (G.2.1 40 0)), some (.int x1)] [] := by
  refine z_iload_n F dX10_beginsAnew_78 rfl ?_
  refine z_bipush F 57 dX10_beginsAnew_79 (by decide) ?_
  refine z_icmp_ge F 97 dX10_beginsAnew_81 (by decide) ⟨fun hc => ?_, fun hc => ?_⟩
  · have h := h.1 hc
    refine z_aload_n F dX10_beginsAnew_97 rfl ?_
    refine z_aload_n F dX10_beginsAnew_98 rfl ?_
    refine z_getR F 29 69 0 rfl (by decide) (by decide) rfl rfl rfl lk_X10_67 dX10_beginsAnew_99 ?_
    refine z_callV F (k' := 1) (mc' := 0) [.ref (G.2.1 69 0)] [] dX10_beginsAnew_102 rfl rfl (by decide) rfl cl_X10_188 hy_X10_breathes (by omega) (by decide) (by decide) (Nat.le_of_ble_eq_true rfl) rfl (con_mono h ?_ (fun _ _ h => h))
    rintro _ w2 ⟨rfl, h⟩
    show Z M G 0 K X w2 105 [some (.ref (G.2.1 40 0)), some (.int x1)] []
    refine z_iconst F 0 dX10_beginsAnew_105 (by decide) ?_
    refine z_istore_n F dX10_beginsAnew_106 (Nat.le_of_ble_eq_true rfl) ?_
    exact h
  · have h := h.2 hc
    refine z_aload_n F dX10_beginsAnew_84 rfl ?_
    refine z_getR F 29 69 0 rfl (by decide) (by decide) rfl rfl rfl lk_X10_67 dX10_beginsAnew_85 ?_
    refine z_iload_n F dX10_beginsAnew_88 rfl ?_
    refine z_iconst F 0 dX10_beginsAnew_89 (by decide) ?_
    obtain ⟨hb, h⟩ := h
    refine z_iastW F ((x1 : Int32).toNatClampNeg) rfl rfl (by decide) hb dX10_beginsAnew_90 (fun w3 hw3 => ?_)
    have h := h w3 hw3
    refine z_iinc F (x1 + 1) dX10_beginsAnew_91 rfl rfl (Nat.le_of_ble_eq_true rfl) ?_
    refine z_goto F 78 dX10_beginsAnew_94 (by decide) ?_
    exact h
set_option maxRecDepth 20000 in
theorem b_X10_beginsAnew_107 {M : Mx} {G : Gx} {kk : Nat} {w : Wd}  {x1 : Int32} {K : Option Value → Wd → Prop} {X : String → Wd → Prop} (F : Fx M G RX10 cX10_beginsAnew 2 none kk 0) (hk : 2 ≤ kk)
    (h : (((w.1 44 0 1) ≤ x1 → (∀ w1 : Wd, w1 = setI w 40 0 19 0 → (∀ w2 : Wd, w2 = setI w1 40 0 33 0 → (∀ w3 : Wd, w3 = setI w2 40 0 34 0 → (∀ w4 : Wd, w4 = setI w3 40 0 35 0 → (∀ w5 : Wd, w5 = setI w4 40 0 36 0 → K none w5)))))) ∧ (¬ ((w.1 44 0 1) ≤ x1) → (vp_in x1 20 ∧ (vp_in ((35 : Int32) + x1) 57 ∧ ∀ w7 : Wd, w7 = setI w 69 0 (((35 : Int32) + x1 : Int32).toNatClampNeg) (w.1 52 ((x1 : Int32).toNatClampNeg) 0) → Z M G 0 K X w7 107 [some (.ref (G.2.1 40 0)), some (.int (x1 + 1))] []))))) :
    Z M G 0 K X w 107 [some (.ref (G.2.1 40 0)), some (.int x1)] [] := by
  refine z_iload_n F dX10_beginsAnew_107 rfl ?_
  refine z_aload_n F dX10_beginsAnew_108 rfl ?_
  refine z_getR F 12 44 0 rfl (by decide) (by decide) rfl rfl rfl lk_X10_23 dX10_beginsAnew_109 ?_
  refine z_iconst F 1 dX10_beginsAnew_112 (by decide) ?_
  refine z_ialdK F 1 (by decide) rfl (by decide) (by unfold vp_in; decide) dX10_beginsAnew_113 ?_
  refine z_icmp_ge F 140 dX10_beginsAnew_114 (by decide) ⟨fun hc => ?_, fun hc => ?_⟩
  · have h := h.1 hc
    refine z_aload_n F dX10_beginsAnew_140 rfl ?_
    refine z_iconst F 0 dX10_beginsAnew_141 (by decide) ?_
    refine z_putIW F 19 rfl (by decide) (by decide) rfl lk_X10_192 dX10_beginsAnew_142 (fun w1 hw1 => ?_)
    have h := h w1 hw1
    refine z_aload_n F dX10_beginsAnew_145 rfl ?_
    refine z_iconst F 0 dX10_beginsAnew_146 (by decide) ?_
    refine z_putIW F 33 rfl (by decide) (by decide) rfl lk_X10_195 dX10_beginsAnew_147 (fun w2 hw2 => ?_)
    have h := h w2 hw2
    refine z_aload_n F dX10_beginsAnew_150 rfl ?_
    refine z_iconst F 0 dX10_beginsAnew_151 (by decide) ?_
    refine z_putIW F 34 rfl (by decide) (by decide) rfl lk_X10_198 dX10_beginsAnew_152 (fun w3 hw3 => ?_)
    have h := h w3 hw3
    refine z_aload_n F dX10_beginsAnew_155 rfl ?_
    refine z_iconst F 0 dX10_beginsAnew_156 (by decide) ?_
    refine z_putIW F 35 rfl (by decide) (by decide) rfl lk_X10_201 dX10_beginsAnew_157 (fun w4 hw4 => ?_)
    have h := h w4 hw4
    refine z_aload_n F dX10_beginsAnew_160 rfl ?_
    refine z_iconst F 0 dX10_beginsAnew_161 (by decide) ?_
    refine z_putIW F 36 rfl (by decide) (by decide) rfl lk_X10_204 dX10_beginsAnew_162 (fun w5 hw5 => ?_)
    have h := h w5 hw5
    exact z_vret F dX10_beginsAnew_165 (by decide) h
  · have h := h.2 hc
    refine z_aload_n F dX10_beginsAnew_117 rfl ?_
    refine z_getR F 29 69 0 rfl (by decide) (by decide) rfl rfl rfl lk_X10_67 dX10_beginsAnew_118 ?_
    refine z_bipush F 35 dX10_beginsAnew_121 (by decide) ?_
    refine z_iload_n F dX10_beginsAnew_123 rfl ?_
    refine z_iadd F dX10_beginsAnew_124 ?_
    refine z_aload_n F dX10_beginsAnew_125 rfl ?_
    refine z_getR F 16 51 0 rfl (by decide) (by decide) rfl rfl rfl lk_X10_37 dX10_beginsAnew_126 ?_
    refine z_iload_n F dX10_beginsAnew_129 rfl ?_
    obtain ⟨hb, h⟩ := h
    refine z_aald F 52 ((x1 : Int32).toNatClampNeg) rfl (by decide) (by decide) (by decide) rfl rfl hb dX10_beginsAnew_130 (fun hv6 => ?_)
    refine z_iconst F 0 dX10_beginsAnew_131 (by decide) ?_
    refine z_ialdK F 0 (by decide) rfl hv6 (by unfold vp_in; decide) dX10_beginsAnew_132 ?_
    obtain ⟨hb, h⟩ := h
    refine z_iastW F (((35 : Int32) + x1 : Int32).toNatClampNeg) rfl rfl (by decide) hb dX10_beginsAnew_133 (fun w7 hw7 => ?_)
    have h := h w7 hw7
    refine z_iinc F (x1 + 1) dX10_beginsAnew_134 rfl rfl (Nat.le_of_ble_eq_true rfl) ?_
    refine z_goto F 107 dX10_beginsAnew_137 (by decide) ?_
    exact h
set_option maxRecDepth 20000 in
theorem e_X10_breathes {l : Launch} {G : Gx} {w : Wd} {jr0 : Nat} (hr0 : jr0 < cnt 69) {K : Option Value → Wd → Prop} {X : String → Wd → Prop} (hl : l.stackTraces = false)
    (h : ∀ (M : Mx) (kk : Nat), mL M = l → 1 ≤ kk → Fx M G RX10 cX10_breathes 3 none kk 0 → Z M G 0 K X w 2 [some (.ref (G.2.1 40 0)), some (.ref (G.2.1 69 jr0)), some (.int 0)] []) :
    Con l G 1 0 yX10_breathes cX10_breathes 3 none w [.ref (G.2.1 40 0), .ref (G.2.1 69 jr0)] K X := by
  refine con_intro hl (by decide +kernel) (Nat.le_of_ble_eq_true rfl) (Nat.le_of_ble_eq_true rfl) (fun M kk hM hk F => ?_)
  have h := h M kk hM hk F
  show Z M G 0 K X w 0 [some (.ref (G.2.1 40 0)), some (.ref (G.2.1 69 jr0)), none] []
  refine z_iconst F 0 dX10_breathes_0 (by decide) ?_
  refine z_istore_n F dX10_breathes_1 (Nat.le_of_ble_eq_true rfl) ?_
  exact h
set_option maxRecDepth 20000 in
theorem b_X10_breathes_2 {M : Mx} {G : Gx} {kk : Nat} {w : Wd} {jr0 : Nat} (hr0 : jr0 < cnt 69) {x2 : Int32} {K : Option Value → Wd → Prop} {X : String → Wd → Prop} (F : Fx M G RX10 cX10_breathes 3 none kk 0) (hk : 1 ≤ kk)
    (h : (((w.1 44 0 0) ≤ x2 → K none w) ∧ (¬ ((w.1 44 0 0) ≤ x2) → (vp_in x2 7 ∧ (vp_in ((0 : Int32) + x2) 57 ∧ ∀ w2 : Wd, w2 = setI w 69 jr0 (((0 : Int32) + x2 : Int32).toNatClampNeg) (w.1 48 ((x2 : Int32).toNatClampNeg) 2) → Z M G 0 K X w2 2 [some (.ref (G.2.1 40 0)), some (.ref (G.2.1 69 jr0)), some (.int (x2 + 1))] []))))) :
    Z M G 0 K X w 2 [some (.ref (G.2.1 40 0)), some (.ref (G.2.1 69 jr0)), some (.int x2)] [] := by
  refine z_iload_n F dX10_breathes_2 rfl ?_
  refine z_aload_n F dX10_breathes_3 rfl ?_
  refine z_getR F 12 44 0 rfl (by decide) (by decide) rfl rfl rfl lk_X10_23 dX10_breathes_4 ?_
  refine z_iconst F 0 dX10_breathes_7 (by decide) ?_
  refine z_ialdK F 0 (by decide) rfl (by decide) (by unfold vp_in; decide) dX10_breathes_8 ?_
  refine z_icmp_ge F 31 dX10_breathes_9 (by decide) ⟨fun hc => ?_, fun hc => ?_⟩
  · have h := h.1 hc
    exact z_vret F dX10_breathes_31 (by decide) h
  · have h := h.2 hc
    refine z_aload_n F dX10_breathes_12 rfl ?_
    refine z_iconst F 0 dX10_breathes_13 (by decide) ?_
    refine z_iload_n F dX10_breathes_14 rfl ?_
    refine z_iadd F dX10_breathes_15 ?_
    refine z_aload_n F dX10_breathes_16 rfl ?_
    refine z_getR F 14 47 0 rfl (by decide) (by decide) rfl rfl rfl lk_X10_31 dX10_breathes_17 ?_
    refine z_iload_n F dX10_breathes_20 rfl ?_
    obtain ⟨hb, h⟩ := h
    refine z_aald F 48 ((x2 : Int32).toNatClampNeg) rfl (by decide) (by decide) (by decide) rfl rfl hb dX10_breathes_21 (fun hv1 => ?_)
    refine z_iconst F 2 dX10_breathes_22 (by decide) ?_
    refine z_ialdK F 2 (by decide) rfl hv1 (by unfold vp_in; decide) dX10_breathes_23 ?_
    obtain ⟨hb, h⟩ := h
    refine z_iastW F (((0 : Int32) + x2 : Int32).toNatClampNeg) rfl rfl hr0 hb dX10_breathes_24 (fun w2 hw2 => ?_)
    have h := h w2 hw2
    refine z_iinc F (x2 + 1) dX10_breathes_25 rfl rfl (Nat.le_of_ble_eq_true rfl) ?_
    refine z_goto F 2 dX10_breathes_28 (by decide) ?_
    exact h
set_option maxRecDepth 20000 in
theorem e_X10_notes {l : Launch} {G : Gx} {w : Wd} {p0 : Int32} {p1 : Int32} {K : Option Value → Wd → Prop} {X : String → Wd → Prop} (hl : l.stackTraces = false)
    (h : ∀ (M : Mx) (kk : Nat), mL M = l → 1 ≤ kk → Fx M G RX10 cX10_notes 3 none kk 0 → (((w.1 40 0 5) = 0 → (vp_in (w.1 40 0 20) 160 ∧ (∀ w2 : Wd, w2 = setI w 60 ((w.1 40 0 20 : Int32).toNatClampNeg) 0 p0 → (vp_in (w2.1 40 0 20) 160 ∧ (∀ w4 : Wd, w4 = setI w2 60 ((w2.1 40 0 20 : Int32).toNatClampNeg) 1 p1 → (∀ w5 : Wd, w5 = setI w4 40 0 20 ((w4.1 40 0 20) + (1 : Int32)) → K none w5)))))) ∧ (¬ ((w.1 40 0 5) = 0) → K none w))) :
    Con l G 1 0 yX10_notes cX10_notes 3 none w [.ref (G.2.1 40 0), .int p0, .int p1] K X := by
  refine con_intro hl (by decide +kernel) (Nat.le_of_ble_eq_true rfl) (Nat.le_of_ble_eq_true rfl) (fun M kk hM hk F => ?_)
  have h := h M kk hM hk F
  show Z M G 0 K X w 0 [some (.ref (G.2.1 40 0)), some (.int p0), some (.int p1)] []
  refine z_aload_n F dX10_notes_0 rfl ?_
  refine z_getI F 5 rfl (by decide) (by decide) rfl lk_X10_111 dX10_notes_1 ?_
  refine z_if_eq F 8 dX10_notes_4 (by decide) ⟨fun hc => ?_, fun hc => ?_⟩
  · have h := h.1 hc
    refine z_aload_n F dX10_notes_8 rfl ?_
    refine z_getR F 22 59 0 rfl (by decide) (by decide) rfl rfl rfl lk_X10_49 dX10_notes_9 ?_
    refine z_aload_n F dX10_notes_12 rfl ?_
    refine z_getI F 20 rfl (by decide) (by decide) rfl lk_X10_207 dX10_notes_13 ?_
    obtain ⟨hb, h⟩ := h
    refine z_aald F 60 ((w.1 40 0 20 : Int32).toNatClampNeg) rfl (by decide) (by decide) (by decide) rfl rfl hb dX10_notes_16 (fun hv1 => ?_)
    refine z_iconst F 0 dX10_notes_17 (by decide) ?_
    refine z_iload_n F dX10_notes_18 rfl ?_
    refine z_iastW F 0 (by decide) rfl hv1 (by unfold vp_in; decide) dX10_notes_19 (fun w2 hw2 => ?_)
    have h := h w2 hw2
    refine z_aload_n F dX10_notes_20 rfl ?_
    refine z_getR F 22 59 0 rfl (by decide) (by decide) rfl rfl rfl lk_X10_49 dX10_notes_21 ?_
    refine z_aload_n F dX10_notes_24 rfl ?_
    refine z_getI F 20 rfl (by decide) (by decide) rfl lk_X10_207 dX10_notes_25 ?_
    obtain ⟨hb, h⟩ := h
    refine z_aald F 60 ((w2.1 40 0 20 : Int32).toNatClampNeg) rfl (by decide) (by decide) (by decide) rfl rfl hb dX10_notes_28 (fun hv3 => ?_)
    refine z_iconst F 1 dX10_notes_29 (by decide) ?_
    refine z_iload_n F dX10_notes_30 rfl ?_
    refine z_iastW F 1 (by decide) rfl hv3 (by unfold vp_in; decide) dX10_notes_31 (fun w4 hw4 => ?_)
    have h := h w4 hw4
    refine z_aload_n F dX10_notes_32 rfl ?_
    refine z_dup F dX10_notes_33 rfl ?_
    refine z_getI F 20 rfl (by decide) (by decide) rfl lk_X10_207 dX10_notes_34 ?_
    refine z_iconst F 1 dX10_notes_37 (by decide) ?_
    refine z_iadd F dX10_notes_38 ?_
    refine z_putIW F 20 rfl (by decide) (by decide) rfl lk_X10_207 dX10_notes_39 (fun w5 hw5 => ?_)
    have h := h w5 hw5
    exact z_vret F dX10_notes_42 (by decide) h
  · have h := h.2 hc
    exact z_vret F dX10_notes_7 (by decide) h
set_option maxRecDepth 20000 in
theorem e_X10_opensOne {l : Launch} {G : Gx} {w : Wd}  {K : Option Value → Wd → Prop} {X : String → Wd → Prop} (hl : l.stackTraces = false)
    (h : ∀ (M : Mx) (kk : Nat), mL M = l → 2 ≤ kk → Fx M G RX10 cX10_opensOne 1 (some .boolean) kk 0 → ((¬ (w.1 40 0 5) = 0 → Z M G 0 K X w 28 [some (.ref (G.2.1 40 0))] []) ∧ (¬ (¬ (w.1 40 0 5) = 0) → ((¬ (w.1 40 0 8) = 6 → Z M G 0 K X w 28 [some (.ref (G.2.1 40 0))] []) ∧ (¬ (¬ (w.1 40 0 8) = 6) → Con (mL M) G 1 0 yX10_wrong cX10_wrong 3 none w [.ref (G.2.1 40 0), .int 3, .int (w.1 40 0 4)] (fun r w2 => r = none ∧ Z M G 0 K X w2 45 [some (.ref (G.2.1 40 0))] []) X))))) :
    Con l G 2 0 yX10_opensOne cX10_opensOne 1 (some .boolean) w [.ref (G.2.1 40 0)] K X := by
  refine con_intro hl (by decide +kernel) (Nat.le_of_ble_eq_true rfl) (Nat.le_of_ble_eq_true rfl) (fun M kk hM hk F => ?_)
  have h := h M kk hM hk F
  show Z M G 0 K X w 0 [some (.ref (G.2.1 40 0))] []
  refine z_aload_n F dX10_opensOne_0 rfl ?_
  refine z_getI F 5 rfl (by decide) (by decide) rfl lk_X10_111 dX10_opensOne_1 ?_
  refine z_if_ne F 28 dX10_opensOne_4 (by decide) ⟨fun hc => ?_, fun hc => ?_⟩
  · have h := h.1 hc
    exact h
  · have h := h.2 hc
    refine z_aload_n F dX10_opensOne_7 rfl ?_
    refine z_getI F 8 rfl (by decide) (by decide) rfl lk_X10_154 dX10_opensOne_8 ?_
    refine z_bipush F 6 dX10_opensOne_11 (by decide) ?_
    refine z_icmp_ne F 28 dX10_opensOne_13 (by decide) ⟨fun hc => ?_, fun hc => ?_⟩
    · have h := h.1 hc
      exact h
    · have h := h.2 hc
      refine z_aload_n F dX10_opensOne_16 rfl ?_
      refine z_iconst F 3 dX10_opensOne_17 (by decide) ?_
      refine z_aload_n F dX10_opensOne_18 rfl ?_
      refine z_getI F 4 rfl (by decide) (by decide) rfl lk_X10_104 dX10_opensOne_19 ?_
      refine z_callV F (k' := 1) (mc' := 0) [.int 3, .int (w.1 40 0 4)] [] dX10_opensOne_22 rfl rfl (by decide) rfl cl_X10_124 hy_X10_wrong (by omega) (by decide) (by decide) (Nat.le_of_ble_eq_true rfl) rfl (con_mono h ?_ (fun _ _ h => h))
      rintro _ w2 ⟨rfl, h⟩
      show Z M G 0 K X w2 25 [some (.ref (G.2.1 40 0))] []
      refine z_goto F 45 dX10_opensOne_25 (by decide) ?_
      exact h
set_option maxRecDepth 20000 in
theorem b_X10_opensOne_28 {M : Mx} {G : Gx} {kk : Nat} {w : Wd}   {K : Option Value → Wd → Prop} {X : String → Wd → Prop} (F : Fx M G RX10 cX10_opensOne 1 (some .boolean) kk 0) (hk : 2 ≤ kk)
    (h : ((¬ (w.1 40 0 5) = 0 → Z M G 0 K X w 45 [some (.ref (G.2.1 40 0))] []) ∧ (¬ (¬ (w.1 40 0 5) = 0) → (∀ w1 : Wd, w1 = setI w 40 0 8 ((w.1 40 0 8) + (1 : Int32)) → Z M G 0 K X w1 45 [some (.ref (G.2.1 40 0))] [])))) :
    Z M G 0 K X w 28 [some (.ref (G.2.1 40 0))] [] := by
  refine z_aload_n F dX10_opensOne_28 rfl ?_
  refine z_getI F 5 rfl (by decide) (by decide) rfl lk_X10_111 dX10_opensOne_29 ?_
  refine z_if_ne F 45 dX10_opensOne_32 (by decide) ⟨fun hc => ?_, fun hc => ?_⟩
  · have h := h.1 hc
    exact h
  · have h := h.2 hc
    refine z_aload_n F dX10_opensOne_35 rfl ?_
    refine z_dup F dX10_opensOne_36 rfl ?_
    refine z_getI F 8 rfl (by decide) (by decide) rfl lk_X10_154 dX10_opensOne_37 ?_
    refine z_iconst F 1 dX10_opensOne_40 (by decide) ?_
    refine z_iadd F dX10_opensOne_41 ?_
    refine z_putIW F 8 rfl (by decide) (by decide) rfl lk_X10_154 dX10_opensOne_42 (fun w1 hw1 => ?_)
    have h := h w1 hw1
    exact h
set_option maxRecDepth 20000 in
theorem b_X10_opensOne_45 {M : Mx} {G : Gx} {kk : Nat} {w : Wd}   {K : Option Value → Wd → Prop} {X : String → Wd → Prop} (F : Fx M G RX10 cX10_opensOne 1 (some .boolean) kk 0) (hk : 2 ≤ kk)
    (h : ((¬ (w.1 40 0 5) = 0 → K (some (.int 0)) w) ∧ (¬ (¬ (w.1 40 0 5) = 0) → K (some (.int 1)) w))) :
    Z M G 0 K X w 45 [some (.ref (G.2.1 40 0))] [] := by
  refine z_aload_n F dX10_opensOne_45 rfl ?_
  refine z_getI F 5 rfl (by decide) (by decide) rfl lk_X10_111 dX10_opensOne_46 ?_
  refine z_if_ne F 56 dX10_opensOne_49 (by decide) ⟨fun hc => ?_, fun hc => ?_⟩
  · have h := h.1 hc
    refine z_iconst F 0 dX10_opensOne_56 (by decide) ?_
    exact z_zret F dX10_opensOne_57 (by decide) rfl h
  · have h := h.2 hc
    refine z_iconst F 1 dX10_opensOne_52 (by decide) ?_
    refine z_goto F 57 dX10_opensOne_53 (by decide) ?_
    exact z_zret F dX10_opensOne_57 (by decide) rfl h
set_option maxRecDepth 20000 in
theorem e_X10_sum {l : Launch} {G : Gx} {w : Wd}  {kr : Nat} (hkb : 7 ≤ kr) {K : Option Value → Wd → Prop} {X : String → Wd → Prop} (hl : l.stackTraces = false)
    (h : ∀ (M : Mx) (kk : Nat), mL M = l → (kr + 1) ≤ kk → Fx M G RX10 cX10_sum 2 none kk 0 → Con (mL M) G kr 0 yX10_product cX10_product 2 none w [.ref (G.2.1 40 0)] (fun r w2 => r = none ∧ Z M G 0 K X w2 4 [some (.ref (G.2.1 40 0)), none] []) X) :
    Con l G (kr + 1) 0 yX10_sum cX10_sum 2 none w [.ref (G.2.1 40 0)] K X := by
  refine con_intro hl (by decide +kernel) (Nat.le_of_ble_eq_true rfl) (Nat.le_of_ble_eq_true rfl) (fun M kk hM hk F => ?_)
  have h := h M kk hM hk F
  show Z M G 0 K X w 0 [some (.ref (G.2.1 40 0)), none] []
  refine z_aload_n F dX10_sum_0 rfl ?_
  refine z_callV F (k' := kr) (mc' := 0) [] [] dX10_sum_1 rfl rfl (by decide) rfl cl_X10_210 hy_X10_product (by omega) (by decide) (by decide) (Nat.le_of_ble_eq_true rfl) rfl (con_mono h ?_ (fun _ _ h => h))
  rintro _ w2 ⟨rfl, h⟩
  show Z M G 0 K X w2 4 [some (.ref (G.2.1 40 0)), none] []
  exact h
set_option maxRecDepth 20000 in
theorem b_X10_sum_4 {M : Mx} {G : Gx} {kk : Nat} {w : Wd}  {kr : Nat} (hkb : 7 ≤ kr)  {K : Option Value → Wd → Prop} {X : String → Wd → Prop} (F : Fx M G RX10 cX10_sum 2 none kk 0) (hk : (kr + 1) ≤ kk)
    (h : ((¬ (w.1 40 0 5) = 0 → K none w) ∧ (¬ (¬ (w.1 40 0 5) = 0) → Con (mL M) G 3 0 yX10_takesSign cX10_takesSign 3 (some .boolean) w [.ref (G.2.1 40 0), .int 43] (fun r w2 => ∃ v1 : Int32, r = some (.int v1) ∧ ((v1 = 0 → Con (mL M) G 3 0 yX10_takesSign cX10_takesSign 3 (some .boolean) w2 [.ref (G.2.1 40 0), .int 45] (fun r w4 => ∃ v3 : Int32, r = some (.int v3) ∧ ((v3 = 0 → Z M G 0 K X w4 38 [some (.ref (G.2.1 40 0)), none] [.int (-1)]) ∧ (¬ (v3 = 0) → Z M G 0 K X w4 38 [some (.ref (G.2.1 40 0)), none] [.int 3]))) X) ∧ (¬ (v1 = 0) → Z M G 0 K X w2 38 [some (.ref (G.2.1 40 0)), none] [.int 2]))) X))) :
    Z M G 0 K X w 4 [some (.ref (G.2.1 40 0)), none] [] := by
  refine z_aload_n F dX10_sum_4 rfl ?_
  refine z_getI F 5 rfl (by decide) (by decide) rfl lk_X10_111 dX10_sum_5 ?_
  refine z_if_ne F 58 dX10_sum_8 (by decide) ⟨fun hc => ?_, fun hc => ?_⟩
  · have h := h.1 hc
    exact z_vret F dX10_sum_58 (by decide) h
  · have h := h.2 hc
    refine z_aload_n F dX10_sum_11 rfl ?_
    refine z_bipush F 43 dX10_sum_12 (by decide) ?_
    refine z_callV F (k' := 3) (mc' := 0) [.int 43] [] dX10_sum_14 rfl rfl (by decide) rfl cl_X10_213 hy_X10_takesSign (by omega) (by decide) (by decide) (Nat.le_of_ble_eq_true rfl) rfl (con_mono h ?_ (fun _ _ h => h))
    rintro _ w2 ⟨v1, rfl, h⟩
    show Z M G 0 K X w2 17 [some (.ref (G.2.1 40 0)), none] [.int v1]
    refine z_if_eq F 24 dX10_sum_17 (by decide) ⟨fun hc => ?_, fun hc => ?_⟩
    · have h := h.1 hc
      refine z_aload_n F dX10_sum_24 rfl ?_
      refine z_bipush F 45 dX10_sum_25 (by decide) ?_
      refine z_callV F (k' := 3) (mc' := 0) [.int 45] [] dX10_sum_27 rfl rfl (by decide) rfl cl_X10_213 hy_X10_takesSign (by omega) (by decide) (by decide) (Nat.le_of_ble_eq_true rfl) rfl (con_mono h ?_ (fun _ _ h => h))
      rintro _ w4 ⟨v3, rfl, h⟩
      show Z M G 0 K X w4 30 [some (.ref (G.2.1 40 0)), none] [.int v3]
      refine z_if_eq F 37 dX10_sum_30 (by decide) ⟨fun hc => ?_, fun hc => ?_⟩
      · have h := h.1 hc
        refine z_iconst F (-1) dX10_sum_37 (by decide) ?_
        exact h
      · have h := h.2 hc
        refine z_iconst F 3 dX10_sum_33 (by decide) ?_
        refine z_goto F 38 dX10_sum_34 (by decide) ?_
        exact h
    · have h := h.2 hc
      refine z_iconst F 2 dX10_sum_20 (by decide) ?_
      refine z_goto F 38 dX10_sum_21 (by decide) ?_
      exact h
set_option maxRecDepth 20000 in
theorem b_X10_sum_38 {M : Mx} {G : Gx} {kk : Nat} {w : Wd}  {kr : Nat} (hkb : 7 ≤ kr) {s0 : Int32} {K : Option Value → Wd → Prop} {X : String → Wd → Prop} (F : Fx M G RX10 cX10_sum 2 none kk 0) (hk : (kr + 1) ≤ kk)
    (h : ((¬ s0 = (-1) → Con (mL M) G kr 0 yX10_product cX10_product 2 none w [.ref (G.2.1 40 0)] (fun r w2 => r = none ∧ Con (mL M) G 1 0 yX10_notes cX10_notes 3 none w2 [.ref (G.2.1 40 0), .int s0, .int 0] (fun r w4 => r = none ∧ Z M G 0 K X w4 4 [some (.ref (G.2.1 40 0)), none] []) X) X) ∧ (¬ (¬ s0 = (-1)) → K none w))) :
    Z M G 0 K X w 38 [some (.ref (G.2.1 40 0)), none] [.int s0] := by
  refine z_istore_n F dX10_sum_38 (Nat.le_of_ble_eq_true rfl) ?_
  refine z_iload_n F dX10_sum_39 rfl ?_
  refine z_iconst F (-1) dX10_sum_40 (by decide) ?_
  refine z_icmp_ne F 45 dX10_sum_41 (by decide) ⟨fun hc => ?_, fun hc => ?_⟩
  · have h := h.1 hc
    refine z_aload_n F dX10_sum_45 rfl ?_
    refine z_callV F (k' := kr) (mc' := 0) [] [] dX10_sum_46 rfl rfl (by decide) rfl cl_X10_210 hy_X10_product (by omega) (by decide) (by decide) (Nat.le_of_ble_eq_true rfl) rfl (con_mono h ?_ (fun _ _ h => h))
    rintro _ w2 ⟨rfl, h⟩
    show Z M G 0 K X w2 49 [some (.ref (G.2.1 40 0)), some (.int s0)] []
    refine z_aload_n F dX10_sum_49 rfl ?_
    refine z_iload_n F dX10_sum_50 rfl ?_
    refine z_iconst F 0 dX10_sum_51 (by decide) ?_
    refine z_callV F (k' := 1) (mc' := 0) [.int s0, .int 0] [] dX10_sum_52 rfl rfl (by decide) rfl cl_X10_216 hy_X10_notes (by omega) (by decide) (by decide) (Nat.le_of_ble_eq_true rfl) rfl (con_mono h ?_ (fun _ _ h => h))
    rintro _ w4 ⟨rfl, h⟩
    show Z M G 0 K X w4 55 [some (.ref (G.2.1 40 0)), some (.int s0)] []
    refine z_goto F 4 dX10_sum_55 (by decide) ?_
    exact z_weak h (⟨rfl, trivial⟩)
  · have h := h.2 hc
    exact z_vret F dX10_sum_44 (by decide) h
set_option maxRecDepth 20000 in
theorem e_X10_product {l : Launch} {G : Gx} {w : Wd}  {kr : Nat} (hkb : 7 ≤ kr) {K : Option Value → Wd → Prop} {X : String → Wd → Prop} (hl : l.stackTraces = false)
    (h : ∀ (M : Mx) (kk : Nat), mL M = l → (kr + 1) ≤ kk → Fx M G RX10 cX10_product 2 none kk 0 → Con (mL M) G kr 0 yX10_one cX10_one 3 none w [.ref (G.2.1 40 0)] (fun r w2 => r = none ∧ Z M G 0 K X w2 4 [some (.ref (G.2.1 40 0)), none] []) X) :
    Con l G (kr + 1) 0 yX10_product cX10_product 2 none w [.ref (G.2.1 40 0)] K X := by
  refine con_intro hl (by decide +kernel) (Nat.le_of_ble_eq_true rfl) (Nat.le_of_ble_eq_true rfl) (fun M kk hM hk F => ?_)
  have h := h M kk hM hk F
  show Z M G 0 K X w 0 [some (.ref (G.2.1 40 0)), none] []
  refine z_aload_n F dX10_product_0 rfl ?_
  refine z_callV F (k' := kr) (mc' := 0) [] [] dX10_product_1 rfl rfl (by decide) rfl cl_X10_219 hy_X10_one (by omega) (by decide) (by decide) (Nat.le_of_ble_eq_true rfl) rfl (con_mono h ?_ (fun _ _ h => h))
  rintro _ w2 ⟨rfl, h⟩
  show Z M G 0 K X w2 4 [some (.ref (G.2.1 40 0)), none] []
  exact h
set_option maxRecDepth 20000 in
theorem b_X10_product_4 {M : Mx} {G : Gx} {kk : Nat} {w : Wd}  {kr : Nat} (hkb : 7 ≤ kr)  {K : Option Value → Wd → Prop} {X : String → Wd → Prop} (F : Fx M G RX10 cX10_product 2 none kk 0) (hk : (kr + 1) ≤ kk)
    (h : ((¬ (w.1 40 0 5) = 0 → K none w) ∧ (¬ (¬ (w.1 40 0 5) = 0) → Con (mL M) G 3 0 yX10_takesSign cX10_takesSign 3 (some .boolean) w [.ref (G.2.1 40 0), .int 42] (fun r w2 => ∃ v1 : Int32, r = some (.int v1) ∧ ((v1 = 0 → Con (mL M) G 3 0 yX10_takesSign cX10_takesSign 3 (some .boolean) w2 [.ref (G.2.1 40 0), .int 47] (fun r w4 => ∃ v3 : Int32, r = some (.int v3) ∧ ((v3 = 0 → Con (mL M) G 3 0 yX10_takesSign cX10_takesSign 3 (some .boolean) w4 [.ref (G.2.1 40 0), .int 37] (fun r w6 => ∃ v5 : Int32, r = some (.int v5) ∧ ((v5 = 0 → Z M G 0 K X w6 52 [some (.ref (G.2.1 40 0)), none] [.int (-1)]) ∧ (¬ (v5 = 0) → Z M G 0 K X w6 52 [some (.ref (G.2.1 40 0)), none] [.int 6]))) X) ∧ (¬ (v3 = 0) → Z M G 0 K X w4 52 [some (.ref (G.2.1 40 0)), none] [.int 5]))) X) ∧ (¬ (v1 = 0) → Z M G 0 K X w2 52 [some (.ref (G.2.1 40 0)), none] [.int 4]))) X))) :
    Z M G 0 K X w 4 [some (.ref (G.2.1 40 0)), none] [] := by
  refine z_aload_n F dX10_product_4 rfl ?_
  refine z_getI F 5 rfl (by decide) (by decide) rfl lk_X10_111 dX10_product_5 ?_
  refine z_if_ne F 72 dX10_product_8 (by decide) ⟨fun hc => ?_, fun hc => ?_⟩
  · have h := h.1 hc
    exact z_vret F dX10_product_72 (by decide) h
  · have h := h.2 hc
    refine z_aload_n F dX10_product_11 rfl ?_
    refine z_bipush F 42 dX10_product_12 (by decide) ?_
    refine z_callV F (k' := 3) (mc' := 0) [.int 42] [] dX10_product_14 rfl rfl (by decide) rfl cl_X10_213 hy_X10_takesSign (by omega) (by decide) (by decide) (Nat.le_of_ble_eq_true rfl) rfl (con_mono h ?_ (fun _ _ h => h))
    rintro _ w2 ⟨v1, rfl, h⟩
    show Z M G 0 K X w2 17 [some (.ref (G.2.1 40 0)), none] [.int v1]
    refine z_if_eq F 24 dX10_product_17 (by decide) ⟨fun hc => ?_, fun hc => ?_⟩
    · have h := h.1 hc
      refine z_aload_n F dX10_product_24 rfl ?_
      refine z_bipush F 47 dX10_product_25 (by decide) ?_
      refine z_callV F (k' := 3) (mc' := 0) [.int 47] [] dX10_product_27 rfl rfl (by decide) rfl cl_X10_213 hy_X10_takesSign (by omega) (by decide) (by decide) (Nat.le_of_ble_eq_true rfl) rfl (con_mono h ?_ (fun _ _ h => h))
      rintro _ w4 ⟨v3, rfl, h⟩
      show Z M G 0 K X w4 30 [some (.ref (G.2.1 40 0)), none] [.int v3]
      refine z_if_eq F 37 dX10_product_30 (by decide) ⟨fun hc => ?_, fun hc => ?_⟩
      · have h := h.1 hc
        refine z_aload_n F dX10_product_37 rfl ?_
        refine z_bipush F 37 dX10_product_38 (by decide) ?_
        refine z_callV F (k' := 3) (mc' := 0) [.int 37] [] dX10_product_40 rfl rfl (by decide) rfl cl_X10_213 hy_X10_takesSign (by omega) (by decide) (by decide) (Nat.le_of_ble_eq_true rfl) rfl (con_mono h ?_ (fun _ _ h => h))
        rintro _ w6 ⟨v5, rfl, h⟩
        show Z M G 0 K X w6 43 [some (.ref (G.2.1 40 0)), none] [.int v5]
        refine z_if_eq F 51 dX10_product_43 (by decide) ⟨fun hc => ?_, fun hc => ?_⟩
        · have h := h.1 hc
          refine z_iconst F (-1) dX10_product_51 (by decide) ?_
          exact h
        · have h := h.2 hc
          refine z_bipush F 6 dX10_product_46 (by decide) ?_
          refine z_goto F 52 dX10_product_48 (by decide) ?_
          exact h
      · have h := h.2 hc
        refine z_iconst F 5 dX10_product_33 (by decide) ?_
        refine z_goto F 52 dX10_product_34 (by decide) ?_
        exact h
    · have h := h.2 hc
      refine z_iconst F 4 dX10_product_20 (by decide) ?_
      refine z_goto F 52 dX10_product_21 (by decide) ?_
      exact h
set_option maxRecDepth 20000 in
theorem b_X10_product_52 {M : Mx} {G : Gx} {kk : Nat} {w : Wd}  {kr : Nat} (hkb : 7 ≤ kr) {s0 : Int32} {K : Option Value → Wd → Prop} {X : String → Wd → Prop} (F : Fx M G RX10 cX10_product 2 none kk 0) (hk : (kr + 1) ≤ kk)
    (h : ((¬ s0 = (-1) → Con (mL M) G kr 0 yX10_one cX10_one 3 none w [.ref (G.2.1 40 0)] (fun r w2 => r = none ∧ Con (mL M) G 1 0 yX10_notes cX10_notes 3 none w2 [.ref (G.2.1 40 0), .int s0, .int 0] (fun r w4 => r = none ∧ Z M G 0 K X w4 4 [some (.ref (G.2.1 40 0)), none] []) X) X) ∧ (¬ (¬ s0 = (-1)) → K none w))) :
    Z M G 0 K X w 52 [some (.ref (G.2.1 40 0)), none] [.int s0] := by
  refine z_istore_n F dX10_product_52 (Nat.le_of_ble_eq_true rfl) ?_
  refine z_iload_n F dX10_product_53 rfl ?_
  refine z_iconst F (-1) dX10_product_54 (by decide) ?_
  refine z_icmp_ne F 59 dX10_product_55 (by decide) ⟨fun hc => ?_, fun hc => ?_⟩
  · have h := h.1 hc
    refine z_aload_n F dX10_product_59 rfl ?_
    refine z_callV F (k' := kr) (mc' := 0) [] [] dX10_product_60 rfl rfl (by decide) rfl cl_X10_219 hy_X10_one (by omega) (by decide) (by decide) (Nat.le_of_ble_eq_true rfl) rfl (con_mono h ?_ (fun _ _ h => h))
    rintro _ w2 ⟨rfl, h⟩
    show Z M G 0 K X w2 63 [some (.ref (G.2.1 40 0)), some (.int s0)] []
    refine z_aload_n F dX10_product_63 rfl ?_
    refine z_iload_n F dX10_product_64 rfl ?_
    refine z_iconst F 0 dX10_product_65 (by decide) ?_
    refine z_callV F (k' := 1) (mc' := 0) [.int s0, .int 0] [] dX10_product_66 rfl rfl (by decide) rfl cl_X10_216 hy_X10_notes (by omega) (by decide) (by decide) (Nat.le_of_ble_eq_true rfl) rfl (con_mono h ?_ (fun _ _ h => h))
    rintro _ w4 ⟨rfl, h⟩
    show Z M G 0 K X w4 69 [some (.ref (G.2.1 40 0)), some (.int s0)] []
    refine z_goto F 4 dX10_product_69 (by decide) ?_
    exact z_weak h (⟨rfl, trivial⟩)
  · have h := h.2 hc
    exact z_vret F dX10_product_58 (by decide) h
set_option maxRecDepth 20000 in
theorem e_X10_knownHere {l : Launch} {G : Gx} {w : Wd}  {K : Option Value → Wd → Prop} {X : String → Wd → Prop} (hl : l.stackTraces = false)
    (h : ∀ (M : Mx) (kk : Nat), mL M = l → 6 ≤ kk → Fx M G RX10 cX10_knownHere 1 (some .int) kk 0 → Con (mL M) G 5 0 yX10_isNext cX10_isNext 8 (some .boolean) w [.ref (G.2.1 40 0), .int 12, .int 5, .int 14, .int 7, .int 20, .int 8] (fun r w2 => ∃ v1 : Int32, r = some (.int v1) ∧ ((v1 = 0 → Con (mL M) G 5 0 yX10_isNext cX10_isNext 8 (some .boolean) w2 [.ref (G.2.1 40 0), .int 16, .int 1, .int 25, .int 0, .int 0, .int 0] (fun r w4 => ∃ v3 : Int32, r = some (.int v3) ∧ ((v3 = 0 → Con (mL M) G 5 0 yX10_isNext cX10_isNext 8 (some .boolean) w4 [.ref (G.2.1 40 0), .int 12, .int 5, .int 6, .int 20, .int 0, .int 0] (fun r w6 => ∃ v5 : Int32, r = some (.int v5) ∧ ((v5 = 0 → Con (mL M) G 5 0 yX10_isNext cX10_isNext 8 (some .boolean) w6 [.ref (G.2.1 40 0), .int 19, .int 21, .int 14, .int 7, .int 0, .int 0] (fun r w8 => ∃ v7 : Int32, r = some (.int v7) ∧ ((v7 = 0 → Con (mL M) G 5 0 yX10_isNext cX10_isNext 8 (some .boolean) w8 [.ref (G.2.1 40 0), .int 14, .int 15, .int 20, .int 5, .int 0, .int 0] (fun r w10 => ∃ v9 : Int32, r = some (.int v9) ∧ ((v9 = 0 → Con (mL M) G 5 0 yX10_isNext cX10_isNext 8 (some .boolean) w10 [.ref (G.2.1 40 0), .int 22, .int 15, .int 23, .int 5, .int 12, .int 0] (fun r w12 => ∃ v11 : Int32, r = some (.int v11) ∧ ((v11 = 0 → Con (mL M) G 5 0 yX10_isNext cX10_isNext 8 (some .boolean) w12 [.ref (G.2.1 40 0), .int 4, .int 1, .int 25, .int 0, .int 0, .int 0] (fun r w14 => ∃ v13 : Int32, r = some (.int v13) ∧ ((v13 = 0 → Con (mL M) G 5 0 yX10_isNext cX10_isNext 8 (some .boolean) w14 [.ref (G.2.1 40 0), .int 19, .int 9, .int 14, .int 7, .int 5, .int 18] (fun r w16 => ∃ v15 : Int32, r = some (.int v15) ∧ ((v15 = 0 → K (some (.int (-1))) w16) ∧ (¬ (v15 = 0) → K (some (.int 7)) w16))) X) ∧ (¬ (v13 = 0) → K (some (.int 6)) w14))) X) ∧ (¬ (v11 = 0) → K (some (.int 5)) w12))) X) ∧ (¬ (v9 = 0) → K (some (.int 4)) w10))) X) ∧ (¬ (v7 = 0) → K (some (.int 3)) w8))) X) ∧ (¬ (v5 = 0) → K (some (.int 2)) w6))) X) ∧ (¬ (v3 = 0) → K (some (.int 1)) w4))) X) ∧ (¬ (v1 = 0) → K (some (.int 0)) w2))) X) :
    Con l G 6 0 yX10_knownHere cX10_knownHere 1 (some .int) w [.ref (G.2.1 40 0)] K X := by
  refine con_intro hl (by decide +kernel) (Nat.le_of_ble_eq_true rfl) (Nat.le_of_ble_eq_true rfl) (fun M kk hM hk F => ?_)
  have h := h M kk hM hk F
  show Z M G 0 K X w 0 [some (.ref (G.2.1 40 0))] []
  refine z_aload_n F dX10_knownHere_0 rfl ?_
  refine z_bipush F 12 dX10_knownHere_1 (by decide) ?_
  refine z_iconst F 5 dX10_knownHere_3 (by decide) ?_
  refine z_bipush F 14 dX10_knownHere_4 (by decide) ?_
  refine z_bipush F 7 dX10_knownHere_6 (by decide) ?_
  refine z_bipush F 20 dX10_knownHere_8 (by decide) ?_
  refine z_bipush F 8 dX10_knownHere_10 (by decide) ?_
  refine z_callV F (k' := 5) (mc' := 0) [.int 12, .int 5, .int 14, .int 7, .int 20, .int 8] [] dX10_knownHere_12 rfl rfl (by decide) rfl cl_X10_222 hy_X10_isNext (by omega) (by decide) (by decide) (Nat.le_of_ble_eq_true rfl) rfl (con_mono h ?_ (fun _ _ h => h))
  rintro _ w2 ⟨v1, rfl, h⟩
  show Z M G 0 K X w2 15 [some (.ref (G.2.1 40 0))] [.int v1]
  refine z_if_eq F 20 dX10_knownHere_15 (by decide) ⟨fun hc => ?_, fun hc => ?_⟩
  · have h := h.1 hc
    refine z_aload_n F dX10_knownHere_20 rfl ?_
    refine z_bipush F 16 dX10_knownHere_21 (by decide) ?_
    refine z_iconst F 1 dX10_knownHere_23 (by decide) ?_
    refine z_bipush F 25 dX10_knownHere_24 (by decide) ?_
    refine z_iconst F 0 dX10_knownHere_26 (by decide) ?_
    refine z_iconst F 0 dX10_knownHere_27 (by decide) ?_
    refine z_iconst F 0 dX10_knownHere_28 (by decide) ?_
    refine z_callV F (k' := 5) (mc' := 0) [.int 16, .int 1, .int 25, .int 0, .int 0, .int 0] [] dX10_knownHere_29 rfl rfl (by decide) rfl cl_X10_222 hy_X10_isNext (by omega) (by decide) (by decide) (Nat.le_of_ble_eq_true rfl) rfl (con_mono h ?_ (fun _ _ h => h))
    rintro _ w4 ⟨v3, rfl, h⟩
    show Z M G 0 K X w4 32 [some (.ref (G.2.1 40 0))] [.int v3]
    refine z_if_eq F 37 dX10_knownHere_32 (by decide) ⟨fun hc => ?_, fun hc => ?_⟩
    · have h := h.1 hc
      refine z_aload_n F dX10_knownHere_37 rfl ?_
      refine z_bipush F 12 dX10_knownHere_38 (by decide) ?_
      refine z_iconst F 5 dX10_knownHere_40 (by decide) ?_
      refine z_bipush F 6 dX10_knownHere_41 (by decide) ?_
      refine z_bipush F 20 dX10_knownHere_43 (by decide) ?_
      refine z_iconst F 0 dX10_knownHere_45 (by decide) ?_
      refine z_iconst F 0 dX10_knownHere_46 (by decide) ?_
      refine z_callV F (k' := 5) (mc' := 0) [.int 12, .int 5, .int 6, .int 20, .int 0, .int 0] [] dX10_knownHere_47 rfl rfl (by decide) rfl cl_X10_222 hy_X10_isNext (by omega) (by decide) (by decide) (Nat.le_of_ble_eq_true rfl) rfl (con_mono h ?_ (fun _ _ h => h))
      rintro _ w6 ⟨v5, rfl, h⟩
      show Z M G 0 K X w6 50 [some (.ref (G.2.1 40 0))] [.int v5]
      refine z_if_eq F 55 dX10_knownHere_50 (by decide) ⟨fun hc => ?_, fun hc => ?_⟩
      · have h := h.1 hc
        refine z_aload_n F dX10_knownHere_55 rfl ?_
        refine z_bipush F 19 dX10_knownHere_56 (by decide) ?_
        refine z_bipush F 21 dX10_knownHere_58 (by decide) ?_
        refine z_bipush F 14 dX10_knownHere_60 (by decide) ?_
        refine z_bipush F 7 dX10_knownHere_62 (by decide) ?_
        refine z_iconst F 0 dX10_knownHere_64 (by decide) ?_
        refine z_iconst F 0 dX10_knownHere_65 (by decide) ?_
        refine z_callV F (k' := 5) (mc' := 0) [.int 19, .int 21, .int 14, .int 7, .int 0, .int 0] [] dX10_knownHere_66 rfl rfl (by decide) rfl cl_X10_222 hy_X10_isNext (by omega) (by decide) (by decide) (Nat.le_of_ble_eq_true rfl) rfl (con_mono h ?_ (fun _ _ h => h))
        rintro _ w8 ⟨v7, rfl, h⟩
        show Z M G 0 K X w8 69 [some (.ref (G.2.1 40 0))] [.int v7]
        refine z_if_eq F 74 dX10_knownHere_69 (by decide) ⟨fun hc => ?_, fun hc => ?_⟩
        · have h := h.1 hc
          refine z_aload_n F dX10_knownHere_74 rfl ?_
          refine z_bipush F 14 dX10_knownHere_75 (by decide) ?_
          refine z_bipush F 15 dX10_knownHere_77 (by decide) ?_
          refine z_bipush F 20 dX10_knownHere_79 (by decide) ?_
          refine z_iconst F 5 dX10_knownHere_81 (by decide) ?_
          refine z_iconst F 0 dX10_knownHere_82 (by decide) ?_
          refine z_iconst F 0 dX10_knownHere_83 (by decide) ?_
          refine z_callV F (k' := 5) (mc' := 0) [.int 14, .int 15, .int 20, .int 5, .int 0, .int 0] [] dX10_knownHere_84 rfl rfl (by decide) rfl cl_X10_222 hy_X10_isNext (by omega) (by decide) (by decide) (Nat.le_of_ble_eq_true rfl) rfl (con_mono h ?_ (fun _ _ h => h))
          rintro _ w10 ⟨v9, rfl, h⟩
          show Z M G 0 K X w10 87 [some (.ref (G.2.1 40 0))] [.int v9]
          refine z_if_eq F 92 dX10_knownHere_87 (by decide) ⟨fun hc => ?_, fun hc => ?_⟩
          · have h := h.1 hc
            refine z_aload_n F dX10_knownHere_92 rfl ?_
            refine z_bipush F 22 dX10_knownHere_93 (by decide) ?_
            refine z_bipush F 15 dX10_knownHere_95 (by decide) ?_
            refine z_bipush F 23 dX10_knownHere_97 (by decide) ?_
            refine z_iconst F 5 dX10_knownHere_99 (by decide) ?_
            refine z_bipush F 12 dX10_knownHere_100 (by decide) ?_
            refine z_iconst F 0 dX10_knownHere_102 (by decide) ?_
            refine z_callV F (k' := 5) (mc' := 0) [.int 22, .int 15, .int 23, .int 5, .int 12, .int 0] [] dX10_knownHere_103 rfl rfl (by decide) rfl cl_X10_222 hy_X10_isNext (by omega) (by decide) (by decide) (Nat.le_of_ble_eq_true rfl) rfl (con_mono h ?_ (fun _ _ h => h))
            rintro _ w12 ⟨v11, rfl, h⟩
            show Z M G 0 K X w12 106 [some (.ref (G.2.1 40 0))] [.int v11]
            refine z_if_eq F 111 dX10_knownHere_106 (by decide) ⟨fun hc => ?_, fun hc => ?_⟩
            · have h := h.1 hc
              refine z_aload_n F dX10_knownHere_111 rfl ?_
              refine z_iconst F 4 dX10_knownHere_112 (by decide) ?_
              refine z_iconst F 1 dX10_knownHere_113 (by decide) ?_
              refine z_bipush F 25 dX10_knownHere_114 (by decide) ?_
              refine z_iconst F 0 dX10_knownHere_116 (by decide) ?_
              refine z_iconst F 0 dX10_knownHere_117 (by decide) ?_
              refine z_iconst F 0 dX10_knownHere_118 (by decide) ?_
              refine z_callV F (k' := 5) (mc' := 0) [.int 4, .int 1, .int 25, .int 0, .int 0, .int 0] [] dX10_knownHere_119 rfl rfl (by decide) rfl cl_X10_222 hy_X10_isNext (by omega) (by decide) (by decide) (Nat.le_of_ble_eq_true rfl) rfl (con_mono h ?_ (fun _ _ h => h))
              rintro _ w14 ⟨v13, rfl, h⟩
              show Z M G 0 K X w14 122 [some (.ref (G.2.1 40 0))] [.int v13]
              refine z_if_eq F 128 dX10_knownHere_122 (by decide) ⟨fun hc => ?_, fun hc => ?_⟩
              · have h := h.1 hc
                refine z_aload_n F dX10_knownHere_128 rfl ?_
                refine z_bipush F 19 dX10_knownHere_129 (by decide) ?_
                refine z_bipush F 9 dX10_knownHere_131 (by decide) ?_
                refine z_bipush F 14 dX10_knownHere_133 (by decide) ?_
                refine z_bipush F 7 dX10_knownHere_135 (by decide) ?_
                refine z_iconst F 5 dX10_knownHere_137 (by decide) ?_
                refine z_bipush F 18 dX10_knownHere_138 (by decide) ?_
                refine z_callV F (k' := 5) (mc' := 0) [.int 19, .int 9, .int 14, .int 7, .int 5, .int 18] [] dX10_knownHere_140 rfl rfl (by decide) rfl cl_X10_222 hy_X10_isNext (by omega) (by decide) (by decide) (Nat.le_of_ble_eq_true rfl) rfl (con_mono h ?_ (fun _ _ h => h))
                rintro _ w16 ⟨v15, rfl, h⟩
                show Z M G 0 K X w16 143 [some (.ref (G.2.1 40 0))] [.int v15]
                refine z_if_eq F 151 dX10_knownHere_143 (by decide) ⟨fun hc => ?_, fun hc => ?_⟩
                · have h := h.1 hc
                  refine z_iconst F (-1) dX10_knownHere_151 (by decide) ?_
                  exact z_iret F dX10_knownHere_152 (by decide) h
                · have h := h.2 hc
                  refine z_bipush F 7 dX10_knownHere_146 (by decide) ?_
                  refine z_goto F 152 dX10_knownHere_148 (by decide) ?_
                  exact z_iret F dX10_knownHere_152 (by decide) h
              · have h := h.2 hc
                refine z_bipush F 6 dX10_knownHere_125 (by decide) ?_
                exact z_iret F dX10_knownHere_127 (by decide) h
            · have h := h.2 hc
              refine z_iconst F 5 dX10_knownHere_109 (by decide) ?_
              exact z_iret F dX10_knownHere_110 (by decide) h
          · have h := h.2 hc
            refine z_iconst F 4 dX10_knownHere_90 (by decide) ?_
            exact z_iret F dX10_knownHere_91 (by decide) h
        · have h := h.2 hc
          refine z_iconst F 3 dX10_knownHere_72 (by decide) ?_
          exact z_iret F dX10_knownHere_73 (by decide) h
      · have h := h.2 hc
        refine z_iconst F 2 dX10_knownHere_53 (by decide) ?_
        exact z_iret F dX10_knownHere_54 (by decide) h
    · have h := h.2 hc
      refine z_iconst F 1 dX10_knownHere_35 (by decide) ?_
      exact z_iret F dX10_knownHere_36 (by decide) h
  · have h := h.2 hc
    refine z_iconst F 0 dX10_knownHere_18 (by decide) ?_
    exact z_iret F dX10_knownHere_19 (by decide) h
set_option maxRecDepth 20000 in
theorem e_X10_one {l : Launch} {G : Gx} {w : Wd}  {kr : Nat} (hkb : 7 ≤ kr) {K : Option Value → Wd → Prop} {X : String → Wd → Prop} (hl : l.stackTraces = false)
    (h : ∀ (M : Mx) (kk : Nat), mL M = l → (kr + 1) ≤ kk → Fx M G RX10 cX10_one 3 none kk 0 → (((w.1 40 0 5) = 0 → Con (mL M) G 2 0 yX10_blanks cX10_blanks 1 none w [.ref (G.2.1 40 0)] (fun r w2 => r = none ∧ Con (mL M) G 4 0 yX10_isWord cX10_isWord 7 (some .boolean) w2 [.ref (G.2.1 40 0), .int 12, .int 5, .int 1, .int 19, .int 20, .int 0] (fun r w4 => ∃ v3 : Int32, r = some (.int v3) ∧ ((v3 = 0 → Con (mL M) G 4 0 yX10_isWord cX10_isWord 7 (some .boolean) w4 [.ref (G.2.1 40 0), .int 13, .int 15, .int 19, .int 20, .int 0, .int 0] (fun r w6 => ∃ v5 : Int32, r = some (.int v5) ∧ ((v5 = 0 → Z M G 0 K X w6 56 [some (.ref (G.2.1 40 0)), none, none] [.int (-1)]) ∧ (¬ (v5 = 0) → Z M G 0 K X w6 56 [some (.ref (G.2.1 40 0)), none, none] [.int 8]))) X) ∧ (¬ (v3 = 0) → Z M G 0 K X w4 56 [some (.ref (G.2.1 40 0)), none, none] [.int 7]))) X) X) ∧ (¬ ((w.1 40 0 5) = 0) → K none w))) :
    Con l G (kr + 1) 0 yX10_one cX10_one 3 none w [.ref (G.2.1 40 0)] K X := by
  refine con_intro hl (by decide +kernel) (Nat.le_of_ble_eq_true rfl) (Nat.le_of_ble_eq_true rfl) (fun M kk hM hk F => ?_)
  have h := h M kk hM hk F
  show Z M G 0 K X w 0 [some (.ref (G.2.1 40 0)), none, none] []
  refine z_aload_n F dX10_one_0 rfl ?_
  refine z_getI F 5 rfl (by decide) (by decide) rfl lk_X10_111 dX10_one_1 ?_
  refine z_if_eq F 8 dX10_one_4 (by decide) ⟨fun hc => ?_, fun hc => ?_⟩
  · have h := h.1 hc
    refine z_aload_n F dX10_one_8 rfl ?_
    refine z_callV F (k' := 2) (mc' := 0) [] [] dX10_one_9 rfl rfl (by decide) rfl cl_X10_117 hy_X10_blanks (by omega) (by decide) (by decide) (Nat.le_of_ble_eq_true rfl) rfl (con_mono h ?_ (fun _ _ h => h))
    rintro _ w2 ⟨rfl, h⟩
    show Z M G 0 K X w2 12 [some (.ref (G.2.1 40 0)), none, none] []
    refine z_aload_n F dX10_one_12 rfl ?_
    refine z_bipush F 12 dX10_one_13 (by decide) ?_
    refine z_iconst F 5 dX10_one_15 (by decide) ?_
    refine z_iconst F 1 dX10_one_16 (by decide) ?_
    refine z_bipush F 19 dX10_one_17 (by decide) ?_
    refine z_bipush F 20 dX10_one_19 (by decide) ?_
    refine z_iconst F 0 dX10_one_21 (by decide) ?_
    refine z_callV F (k' := 4) (mc' := 0) [.int 12, .int 5, .int 1, .int 19, .int 20, .int 0] [] dX10_one_22 rfl rfl (by decide) rfl cl_X10_144 hy_X10_isWord (by omega) (by decide) (by decide) (Nat.le_of_ble_eq_true rfl) rfl (con_mono h ?_ (fun _ _ h => h))
    rintro _ w4 ⟨v3, rfl, h⟩
    show Z M G 0 K X w4 25 [some (.ref (G.2.1 40 0)), none, none] [.int v3]
    refine z_if_eq F 33 dX10_one_25 (by decide) ⟨fun hc => ?_, fun hc => ?_⟩
    · have h := h.1 hc
      refine z_aload_n F dX10_one_33 rfl ?_
      refine z_bipush F 13 dX10_one_34 (by decide) ?_
      refine z_bipush F 15 dX10_one_36 (by decide) ?_
      refine z_bipush F 19 dX10_one_38 (by decide) ?_
      refine z_bipush F 20 dX10_one_40 (by decide) ?_
      refine z_iconst F 0 dX10_one_42 (by decide) ?_
      refine z_iconst F 0 dX10_one_43 (by decide) ?_
      refine z_callV F (k' := 4) (mc' := 0) [.int 13, .int 15, .int 19, .int 20, .int 0, .int 0] [] dX10_one_44 rfl rfl (by decide) rfl cl_X10_144 hy_X10_isWord (by omega) (by decide) (by decide) (Nat.le_of_ble_eq_true rfl) rfl (con_mono h ?_ (fun _ _ h => h))
      rintro _ w6 ⟨v5, rfl, h⟩
      show Z M G 0 K X w6 47 [some (.ref (G.2.1 40 0)), none, none] [.int v5]
      refine z_if_eq F 55 dX10_one_47 (by decide) ⟨fun hc => ?_, fun hc => ?_⟩
      · have h := h.1 hc
        refine z_iconst F (-1) dX10_one_55 (by decide) ?_
        exact h
      · have h := h.2 hc
        refine z_bipush F 8 dX10_one_50 (by decide) ?_
        refine z_goto F 56 dX10_one_52 (by decide) ?_
        exact h
    · have h := h.2 hc
      refine z_bipush F 7 dX10_one_28 (by decide) ?_
      refine z_goto F 56 dX10_one_30 (by decide) ?_
      exact h
  · have h := h.2 hc
    exact z_vret F dX10_one_7 (by decide) h
set_option maxRecDepth 20000 in
theorem b_X10_one_56 {M : Mx} {G : Gx} {kk : Nat} {w : Wd}  {kr : Nat} (hkb : 7 ≤ kr) {s0 : Int32} {K : Option Value → Wd → Prop} {X : String → Wd → Prop} (F : Fx M G RX10 cX10_one 3 none kk 0) (hk : (kr + 1) ≤ kk)
    (h : ((s0 = (-1) → Con (mL M) G 1 0 yX10_byteAt cX10_byteAt 2 (some .int) w [.ref (G.2.1 40 0), .int (w.1 40 0 4)] (fun r w2 => ∃ v1 : Int32, r = some (.int v1) ∧ ((¬ v1 = 40 → Con (mL M) G 6 0 yX10_knownHere cX10_knownHere 1 (some .int) w2 [.ref (G.2.1 40 0)] (fun r w4 => ∃ v3 : Int32, r = some (.int v3) ∧ ((v3 = (-1) → Con (mL M) G 3 0 yX10_number cX10_number 5 (some .int) w4 [.ref (G.2.1 40 0), .int 0, .int 999] (fun r w6 => ∃ v5 : Int32, r = some (.int v5) ∧ Con (mL M) G 1 0 yX10_notes cX10_notes 3 none w6 [.ref (G.2.1 40 0), .int 0, .int v5] (fun r w8 => r = none ∧ K none w8) X) X) ∧ (¬ (v3 = (-1)) → Con (mL M) G 1 0 yX10_notes cX10_notes 3 none w4 [.ref (G.2.1 40 0), .int 1, .int v3] (fun r w10 => r = none ∧ K none w10) X))) X) ∧ (¬ (¬ v1 = 40) → Con (mL M) G 2 0 yX10_opensOne cX10_opensOne 1 (some .boolean) w2 [.ref (G.2.1 40 0)] (fun r w12 => ∃ v11 : Int32, r = some (.int v11) ∧ ((¬ v11 = 0 → (∀ w13 : Wd, w13 = setI w12 40 0 4 ((w12.1 40 0 4) + (1 : Int32)) → Con (mL M) G kr 0 yX10_sum cX10_sum 2 none w13 [.ref (G.2.1 40 0)] (fun r w15 => r = none ∧ Con (mL M) G 3 0 yX10_sign cX10_sign 2 none w15 [.ref (G.2.1 40 0), .int 41] (fun r w17 => r = none ∧ (∀ w18 : Wd, w18 = setI w17 40 0 8 ((w17.1 40 0 8) - (1 : Int32)) → K none w18)) X) X)) ∧ (¬ (¬ v11 = 0) → K none w12))) X))) X) ∧ (¬ (s0 = (-1)) → Con (mL M) G 2 0 yX10_opensOne cX10_opensOne 1 (some .boolean) w [.ref (G.2.1 40 0)] (fun r w20 => ∃ v19 : Int32, r = some (.int v19) ∧ ((¬ v19 = 0 → Con (mL M) G 2 0 yX10_skipWord cX10_skipWord 1 none w20 [.ref (G.2.1 40 0)] (fun r w22 => r = none ∧ Con (mL M) G 3 0 yX10_sign cX10_sign 2 none w22 [.ref (G.2.1 40 0), .int 91] (fun r w24 => r = none ∧ Con (mL M) G kr 0 yX10_sum cX10_sum 2 none w24 [.ref (G.2.1 40 0)] (fun r w26 => r = none ∧ Con (mL M) G 3 0 yX10_sign cX10_sign 2 none w26 [.ref (G.2.1 40 0), .int 44] (fun r w28 => r = none ∧ Con (mL M) G kr 0 yX10_sum cX10_sum 2 none w28 [.ref (G.2.1 40 0)] (fun r w30 => r = none ∧ Con (mL M) G 3 0 yX10_sign cX10_sign 2 none w30 [.ref (G.2.1 40 0), .int 93] (fun r w32 => r = none ∧ Con (mL M) G 1 0 yX10_notes cX10_notes 3 none w32 [.ref (G.2.1 40 0), .int s0, .int 0] (fun r w34 => r = none ∧ (∀ w35 : Wd, w35 = setI w34 40 0 8 ((w34.1 40 0 8) - (1 : Int32)) → K none w35)) X) X) X) X) X) X) X) ∧ (¬ (¬ v19 = 0) → K none w20))) X))) :
    Z M G 0 K X w 56 [some (.ref (G.2.1 40 0)), none, none] [.int s0] := by
  refine z_istore_n F dX10_one_56 (Nat.le_of_ble_eq_true rfl) ?_
  refine z_iload_n F dX10_one_57 rfl ?_
  refine z_iconst F (-1) dX10_one_58 (by decide) ?_
  refine z_icmp_eq F 117 dX10_one_59 (by decide) ⟨fun hc => ?_, fun hc => ?_⟩
  · have h := h.1 hc
    refine z_aload_n F dX10_one_117 rfl ?_
    refine z_aload_n F dX10_one_118 rfl ?_
    refine z_getI F 4 rfl (by decide) (by decide) rfl lk_X10_104 dX10_one_119 ?_
    refine z_callV F (k' := 1) (mc' := 0) [.int (w.1 40 0 4)] [] dX10_one_122 rfl rfl (by decide) rfl cl_X10_107 hy_X10_byteAt (by omega) (by decide) (by decide) (Nat.le_of_ble_eq_true rfl) rfl (con_mono h ?_ (fun _ _ h => h))
    rintro _ w2 ⟨v1, rfl, h⟩
    show Z M G 0 K X w2 125 [some (.ref (G.2.1 40 0)), some (.int s0), none] [.int v1]
    refine z_bipush F 40 dX10_one_125 (by decide) ?_
    refine z_icmp_ne F 169 dX10_one_127 (by decide) ⟨fun hc => ?_, fun hc => ?_⟩
    · have h := h.1 hc
      refine z_aload_n F dX10_one_169 rfl ?_
      refine z_callV F (k' := 6) (mc' := 0) [] [] dX10_one_170 rfl rfl (by decide) rfl cl_X10_232 hy_X10_knownHere (by omega) (by decide) (by decide) (Nat.le_of_ble_eq_true rfl) rfl (con_mono h ?_ (fun _ _ h => h))
      rintro _ w4 ⟨v3, rfl, h⟩
      show Z M G 0 K X w4 173 [some (.ref (G.2.1 40 0)), some (.int s0), none] [.int v3]
      refine z_istore_n F dX10_one_173 (Nat.le_of_ble_eq_true rfl) ?_
      refine z_iload_n F dX10_one_174 rfl ?_
      refine z_iconst F (-1) dX10_one_175 (by decide) ?_
      refine z_icmp_eq F 188 dX10_one_176 (by decide) ⟨fun hc => ?_, fun hc => ?_⟩
      · have h := h.1 hc
        refine z_aload_n F dX10_one_188 rfl ?_
        refine z_iconst F 0 dX10_one_189 (by decide) ?_
        refine z_aload_n F dX10_one_190 rfl ?_
        refine z_iconst F 0 dX10_one_191 (by decide) ?_
        refine z_sipush F 999 dX10_one_192 (by decide) ?_
        refine z_callV F (k' := 3) (mc' := 0) [.int 0, .int 999] [.int 0, .ref (G.2.1 40 0)] dX10_one_195 rfl rfl (by decide) rfl cl_X10_163 hy_X10_number (by omega) (by decide) (by decide) (Nat.le_of_ble_eq_true rfl) rfl (con_mono h ?_ (fun _ _ h => h))
        rintro _ w6 ⟨v5, rfl, h⟩
        show Z M G 0 K X w6 198 [some (.ref (G.2.1 40 0)), some (.int s0), some (.int v3)] [.int v5, .int 0, .ref (G.2.1 40 0)]
        refine z_callV F (k' := 1) (mc' := 0) [.int 0, .int v5] [] dX10_one_198 rfl rfl (by decide) rfl cl_X10_216 hy_X10_notes (by omega) (by decide) (by decide) (Nat.le_of_ble_eq_true rfl) rfl (con_mono h ?_ (fun _ _ h => h))
        rintro _ w8 ⟨rfl, h⟩
        show Z M G 0 K X w8 201 [some (.ref (G.2.1 40 0)), some (.int s0), some (.int v3)] []
        exact z_vret F dX10_one_201 (by decide) h
      · have h := h.2 hc
        refine z_aload_n F dX10_one_179 rfl ?_
        refine z_iconst F 1 dX10_one_180 (by decide) ?_
        refine z_iload_n F dX10_one_181 rfl ?_
        refine z_callV F (k' := 1) (mc' := 0) [.int 1, .int v3] [] dX10_one_182 rfl rfl (by decide) rfl cl_X10_216 hy_X10_notes (by omega) (by decide) (by decide) (Nat.le_of_ble_eq_true rfl) rfl (con_mono h ?_ (fun _ _ h => h))
        rintro _ w10 ⟨rfl, h⟩
        show Z M G 0 K X w10 185 [some (.ref (G.2.1 40 0)), some (.int s0), some (.int v3)] []
        refine z_goto F 201 dX10_one_185 (by decide) ?_
        exact z_vret F dX10_one_201 (by decide) h
    · have h := h.2 hc
      refine z_aload_n F dX10_one_130 rfl ?_
      refine z_callV F (k' := 2) (mc' := 0) [] [] dX10_one_131 rfl rfl (by decide) rfl cl_X10_225 hy_X10_opensOne (by omega) (by decide) (by decide) (Nat.le_of_ble_eq_true rfl) rfl (con_mono h ?_ (fun _ _ h => h))
      rintro _ w12 ⟨v11, rfl, h⟩
      show Z M G 0 K X w12 134 [some (.ref (G.2.1 40 0)), some (.int s0), none] [.int v11]
      refine z_if_ne F 138 dX10_one_134 (by decide) ⟨fun hc => ?_, fun hc => ?_⟩
      · have h := h.1 hc
        refine z_aload_n F dX10_one_138 rfl ?_
        refine z_dup F dX10_one_139 rfl ?_
        refine z_getI F 4 rfl (by decide) (by decide) rfl lk_X10_104 dX10_one_140 ?_
        refine z_iconst F 1 dX10_one_143 (by decide) ?_
        refine z_iadd F dX10_one_144 ?_
        refine z_putIW F 4 rfl (by decide) (by decide) rfl lk_X10_104 dX10_one_145 (fun w13 hw13 => ?_)
        have h := h w13 hw13
        refine z_aload_n F dX10_one_148 rfl ?_
        refine z_callV F (k' := kr) (mc' := 0) [] [] dX10_one_149 rfl rfl (by decide) rfl cl_X10_229 hy_X10_sum (by omega) (by decide) (by decide) (Nat.le_of_ble_eq_true rfl) rfl (con_mono h ?_ (fun _ _ h => h))
        rintro _ w15 ⟨rfl, h⟩
        show Z M G 0 K X w15 152 [some (.ref (G.2.1 40 0)), some (.int s0), none] []
        refine z_aload_n F dX10_one_152 rfl ?_
        refine z_bipush F 41 dX10_one_153 (by decide) ?_
        refine z_callV F (k' := 3) (mc' := 0) [.int 41] [] dX10_one_155 rfl rfl (by decide) rfl cl_X10_167 hy_X10_sign (by omega) (by decide) (by decide) (Nat.le_of_ble_eq_true rfl) rfl (con_mono h ?_ (fun _ _ h => h))
        rintro _ w17 ⟨rfl, h⟩
        show Z M G 0 K X w17 158 [some (.ref (G.2.1 40 0)), some (.int s0), none] []
        refine z_aload_n F dX10_one_158 rfl ?_
        refine z_dup F dX10_one_159 rfl ?_
        refine z_getI F 8 rfl (by decide) (by decide) rfl lk_X10_154 dX10_one_160 ?_
        refine z_iconst F 1 dX10_one_163 (by decide) ?_
        refine z_isub F dX10_one_164 ?_
        refine z_putIW F 8 rfl (by decide) (by decide) rfl lk_X10_154 dX10_one_165 (fun w18 hw18 => ?_)
        have h := h w18 hw18
        exact z_vret F dX10_one_168 (by decide) h
      · have h := h.2 hc
        exact z_vret F dX10_one_137 (by decide) h
  · have h := h.2 hc
    refine z_aload_n F dX10_one_62 rfl ?_
    refine z_callV F (k' := 2) (mc' := 0) [] [] dX10_one_63 rfl rfl (by decide) rfl cl_X10_225 hy_X10_opensOne (by omega) (by decide) (by decide) (Nat.le_of_ble_eq_true rfl) rfl (con_mono h ?_ (fun _ _ h => h))
    rintro _ w20 ⟨v19, rfl, h⟩
    show Z M G 0 K X w20 66 [some (.ref (G.2.1 40 0)), some (.int s0), none] [.int v19]
    refine z_if_ne F 70 dX10_one_66 (by decide) ⟨fun hc => ?_, fun hc => ?_⟩
    · have h := h.1 hc
      refine z_aload_n F dX10_one_70 rfl ?_
      refine z_callV F (k' := 2) (mc' := 0) [] [] dX10_one_71 rfl rfl (by decide) rfl cl_X10_148 hy_X10_skipWord (by omega) (by decide) (by decide) (Nat.le_of_ble_eq_true rfl) rfl (con_mono h ?_ (fun _ _ h => h))
      rintro _ w22 ⟨rfl, h⟩
      show Z M G 0 K X w22 74 [some (.ref (G.2.1 40 0)), some (.int s0), none] []
      refine z_aload_n F dX10_one_74 rfl ?_
      refine z_bipush F 91 dX10_one_75 (by decide) ?_
      refine z_callV F (k' := 3) (mc' := 0) [.int 91] [] dX10_one_77 rfl rfl (by decide) rfl cl_X10_167 hy_X10_sign (by omega) (by decide) (by decide) (Nat.le_of_ble_eq_true rfl) rfl (con_mono h ?_ (fun _ _ h => h))
      rintro _ w24 ⟨rfl, h⟩
      show Z M G 0 K X w24 80 [some (.ref (G.2.1 40 0)), some (.int s0), none] []
      refine z_aload_n F dX10_one_80 rfl ?_
      refine z_callV F (k' := kr) (mc' := 0) [] [] dX10_one_81 rfl rfl (by decide) rfl cl_X10_229 hy_X10_sum (by omega) (by decide) (by decide) (Nat.le_of_ble_eq_true rfl) rfl (con_mono h ?_ (fun _ _ h => h))
      rintro _ w26 ⟨rfl, h⟩
      show Z M G 0 K X w26 84 [some (.ref (G.2.1 40 0)), some (.int s0), none] []
      refine z_aload_n F dX10_one_84 rfl ?_
      refine z_bipush F 44 dX10_one_85 (by decide) ?_
      refine z_callV F (k' := 3) (mc' := 0) [.int 44] [] dX10_one_87 rfl rfl (by decide) rfl cl_X10_167 hy_X10_sign (by omega) (by decide) (by decide) (Nat.le_of_ble_eq_true rfl) rfl (con_mono h ?_ (fun _ _ h => h))
      rintro _ w28 ⟨rfl, h⟩
      show Z M G 0 K X w28 90 [some (.ref (G.2.1 40 0)), some (.int s0), none] []
      refine z_aload_n F dX10_one_90 rfl ?_
      refine z_callV F (k' := kr) (mc' := 0) [] [] dX10_one_91 rfl rfl (by decide) rfl cl_X10_229 hy_X10_sum (by omega) (by decide) (by decide) (Nat.le_of_ble_eq_true rfl) rfl (con_mono h ?_ (fun _ _ h => h))
      rintro _ w30 ⟨rfl, h⟩
      show Z M G 0 K X w30 94 [some (.ref (G.2.1 40 0)), some (.int s0), none] []
      refine z_aload_n F dX10_one_94 rfl ?_
      refine z_bipush F 93 dX10_one_95 (by decide) ?_
      refine z_callV F (k' := 3) (mc' := 0) [.int 93] [] dX10_one_97 rfl rfl (by decide) rfl cl_X10_167 hy_X10_sign (by omega) (by decide) (by decide) (Nat.le_of_ble_eq_true rfl) rfl (con_mono h ?_ (fun _ _ h => h))
      rintro _ w32 ⟨rfl, h⟩
      show Z M G 0 K X w32 100 [some (.ref (G.2.1 40 0)), some (.int s0), none] []
      refine z_aload_n F dX10_one_100 rfl ?_
      refine z_iload_n F dX10_one_101 rfl ?_
      refine z_iconst F 0 dX10_one_102 (by decide) ?_
      refine z_callV F (k' := 1) (mc' := 0) [.int s0, .int 0] [] dX10_one_103 rfl rfl (by decide) rfl cl_X10_216 hy_X10_notes (by omega) (by decide) (by decide) (Nat.le_of_ble_eq_true rfl) rfl (con_mono h ?_ (fun _ _ h => h))
      rintro _ w34 ⟨rfl, h⟩
      show Z M G 0 K X w34 106 [some (.ref (G.2.1 40 0)), some (.int s0), none] []
      refine z_aload_n F dX10_one_106 rfl ?_
      refine z_dup F dX10_one_107 rfl ?_
      refine z_getI F 8 rfl (by decide) (by decide) rfl lk_X10_154 dX10_one_108 ?_
      refine z_iconst F 1 dX10_one_111 (by decide) ?_
      refine z_isub F dX10_one_112 ?_
      refine z_putIW F 8 rfl (by decide) (by decide) rfl lk_X10_154 dX10_one_113 (fun w35 hw35 => ?_)
      have h := h w35 hw35
      exact z_vret F dX10_one_116 (by decide) h
    · have h := h.2 hc
      exact z_vret F dX10_one_69 (by decide) h
set_option maxRecDepth 20000 in
theorem e_X10_law {l : Launch} {G : Gx} {w : Wd} {p0 : Int32} {K : Option Value → Wd → Prop} {X : String → Wd → Prop} (hl : l.stackTraces = false)
    (h : ∀ (M : Mx) (kk : Nat), mL M = l → 48 ≤ kk → Fx M G RX10 cX10_law 2 (some .int) kk 0 → (∀ w1 : Wd, w1 = setI w 40 0 0 0 → Con (mL M) G 1 0 yX10_in cX10_in 3 (some .boolean) w1 [.int p0, .int 0, .int (w1.1 40 0 1)] (fun r w3 => ∃ v2 : Int32, r = some (.int v2) ∧ ((v2 = 0 → Z M G 0 K X w3 25 [some (.ref (G.2.1 40 0)), some (.int p0)] [.ref (G.2.1 40 0)]) ∧ (¬ (v2 = 0) → ((p0 ≤ 150 → Z M G 0 K X w3 30 [some (.ref (G.2.1 40 0)), some (.int p0)] [.int 0, .ref (G.2.1 40 0)]) ∧ (¬ (p0 ≤ 150) → Z M G 0 K X w3 25 [some (.ref (G.2.1 40 0)), some (.int p0)] [.ref (G.2.1 40 0)]))))) X)) :
    Con l G 48 0 yX10_law cX10_law 2 (some .int) w [.ref (G.2.1 40 0), .int p0] K X := by
  refine con_intro hl (by decide +kernel) (Nat.le_of_ble_eq_true rfl) (Nat.le_of_ble_eq_true rfl) (fun M kk hM hk F => ?_)
  have h := h M kk hM hk F
  show Z M G 0 K X w 0 [some (.ref (G.2.1 40 0)), some (.int p0)] []
  refine z_aload_n F dX10_law_0 rfl ?_
  refine z_iconst F 0 dX10_law_1 (by decide) ?_
  refine z_putIW F 0 rfl (by decide) (by decide) rfl lk_X10_95 dX10_law_2 (fun w1 hw1 => ?_)
  have h := h w1 hw1
  refine z_aload_n F dX10_law_5 rfl ?_
  refine z_iload_n F dX10_law_6 rfl ?_
  refine z_iconst F 0 dX10_law_7 (by decide) ?_
  refine z_aload_n F dX10_law_8 rfl ?_
  refine z_getI F 1 rfl (by decide) (by decide) rfl lk_X10_98 dX10_law_9 ?_
  refine z_callS F (k' := 1) (mc' := 0) [.int p0, .int 0, .int (w1.1 40 0 1)] [.ref (G.2.1 40 0)] dX10_law_12 rfl cl_X10_129 hy_X10_in.2 (by omega) (by decide) (by decide) (Nat.le_of_ble_eq_true rfl) rfl (con_mono h ?_ (fun _ _ h => h))
  rintro _ w3 ⟨v2, rfl, h⟩
  show Z M G 0 K X w3 15 [some (.ref (G.2.1 40 0)), some (.int p0)] [.int v2, .ref (G.2.1 40 0)]
  refine z_if_eq F 25 dX10_law_15 (by decide) ⟨fun hc => ?_, fun hc => ?_⟩
  · have h := h.1 hc
    exact h
  · have h := h.2 hc
    refine z_iload_n F dX10_law_18 rfl ?_
    refine z_sipush F 150 dX10_law_19 (by decide) ?_
    refine z_icmp_le F 29 dX10_law_22 (by decide) ⟨fun hc => ?_, fun hc => ?_⟩
    · have h := h.1 hc
      refine z_iconst F 0 dX10_law_29 (by decide) ?_
      exact h
    · have h := h.2 hc
      exact h
set_option maxRecDepth 20000 in
theorem b_X10_law_25 {M : Mx} {G : Gx} {kk : Nat} {w : Wd}  {x1 : Int32} {K : Option Value → Wd → Prop} {X : String → Wd → Prop} (F : Fx M G RX10 cX10_law 2 (some .int) kk 0) (hk : 48 ≤ kk)
    (h : Z M G 0 K X w 30 [some (.ref (G.2.1 40 0)), some (.int x1)] [.int 1, .ref (G.2.1 40 0)]) :
    Z M G 0 K X w 25 [some (.ref (G.2.1 40 0)), some (.int x1)] [.ref (G.2.1 40 0)] := by
  refine z_iconst F 1 dX10_law_25 (by decide) ?_
  refine z_goto F 30 dX10_law_26 (by decide) ?_
  exact h
set_option maxRecDepth 20000 in
theorem b_X10_law_30 {M : Mx} {G : Gx} {kk : Nat} {w : Wd}  {x1 : Int32} {s0 : Int32} {K : Option Value → Wd → Prop} {X : String → Wd → Prop} (F : Fx M G RX10 cX10_law 2 (some .int) kk 0) (hk : 48 ≤ kk)
    (h : Con (mL M) G 1 0 yX10_bad cX10_bad 4 (some .boolean) w [.ref (G.2.1 40 0), .int s0, .int 1, .int 1] (fun r w2 => ∃ v1 : Int32, r = some (.int v1) ∧ ((v1 = 0 → Con (mL M) G 3 0 yX10_starts cX10_starts 2 none w2 [.ref (G.2.1 40 0), .int x1] (fun r w4 => r = none ∧ (∀ w5 : Wd, w5 = setI w4 40 0 20 0 → Con (mL M) G 47 0 yX10_sum cX10_sum 2 none w5 [.ref (G.2.1 40 0)] (fun r w7 => r = none ∧ Con (mL M) G 2 0 yX10_blanks cX10_blanks 1 none w7 [.ref (G.2.1 40 0)] (fun r w9 => r = none ∧ ((¬ (w9.1 40 0 5) = 0 → Z M G 0 K X w9 85 [some (.ref (G.2.1 40 0)), none] []) ∧ (¬ (¬ (w9.1 40 0 5) = 0) → (((w9.1 40 0 2) ≤ (w9.1 40 0 4) → Z M G 0 K X w9 85 [some (.ref (G.2.1 40 0)), none] []) ∧ (¬ ((w9.1 40 0 2) ≤ (w9.1 40 0 4)) → Con (mL M) G 1 0 yX10_wrong cX10_wrong 3 none w9 [.ref (G.2.1 40 0), .int 1, .int (w9.1 40 0 4)] (fun r w11 => r = none ∧ Z M G 0 K X w11 85 [some (.ref (G.2.1 40 0)), none] []) X))))) X) X)) X) ∧ (¬ (v1 = 0) → K (some (.int 0)) w2))) X) :
    Z M G 0 K X w 30 [some (.ref (G.2.1 40 0)), some (.int x1)] [.int s0, .ref (G.2.1 40 0)] := by
  refine z_iconst F 1 dX10_law_30 (by decide) ?_
  refine z_iconst F 1 dX10_law_31 (by decide) ?_
  refine z_callV F (k' := 1) (mc' := 0) [.int s0, .int 1, .int 1] [] dX10_law_32 rfl rfl (by decide) rfl cl_X10_171 hy_X10_bad (by omega) (by decide) (by decide) (Nat.le_of_ble_eq_true rfl) rfl (con_mono h ?_ (fun _ _ h => h))
  rintro _ w2 ⟨v1, rfl, h⟩
  show Z M G 0 K X w2 35 [some (.ref (G.2.1 40 0)), some (.int x1)] [.int v1]
  refine z_if_eq F 40 dX10_law_35 (by decide) ⟨fun hc => ?_, fun hc => ?_⟩
  · have h := h.1 hc
    refine z_aload_n F dX10_law_40 rfl ?_
    refine z_iload_n F dX10_law_41 rfl ?_
    refine z_callV F (k' := 3) (mc' := 0) [.int x1] [] dX10_law_42 rfl rfl (by decide) rfl cl_X10_175 hy_X10_starts (by omega) (by decide) (by decide) (Nat.le_of_ble_eq_true rfl) rfl (con_mono h ?_ (fun _ _ h => h))
    rintro _ w4 ⟨rfl, h⟩
    show Z M G 0 K X w4 45 [some (.ref (G.2.1 40 0)), some (.int x1)] []
    refine z_aload_n F dX10_law_45 rfl ?_
    refine z_iconst F 0 dX10_law_46 (by decide) ?_
    refine z_putIW F 20 rfl (by decide) (by decide) rfl lk_X10_207 dX10_law_47 (fun w5 hw5 => ?_)
    have h := h w5 hw5
    refine z_aload_n F dX10_law_50 rfl ?_
    refine z_callV F (k' := 47) (mc' := 0) [] [] dX10_law_51 rfl rfl (by decide) rfl cl_X10_229 hy_X10_sum (by omega) (by decide) (by decide) (Nat.le_of_ble_eq_true rfl) rfl (con_mono h ?_ (fun _ _ h => h))
    rintro _ w7 ⟨rfl, h⟩
    show Z M G 0 K X w7 54 [some (.ref (G.2.1 40 0)), some (.int x1)] []
    refine z_aload_n F dX10_law_54 rfl ?_
    refine z_callV F (k' := 2) (mc' := 0) [] [] dX10_law_55 rfl rfl (by decide) rfl cl_X10_117 hy_X10_blanks (by omega) (by decide) (by decide) (Nat.le_of_ble_eq_true rfl) rfl (con_mono h ?_ (fun _ _ h => h))
    rintro _ w9 ⟨rfl, h⟩
    show Z M G 0 K X w9 58 [some (.ref (G.2.1 40 0)), some (.int x1)] []
    refine z_aload_n F dX10_law_58 rfl ?_
    refine z_getI F 5 rfl (by decide) (by decide) rfl lk_X10_111 dX10_law_59 ?_
    refine z_if_ne F 85 dX10_law_62 (by decide) ⟨fun hc => ?_, fun hc => ?_⟩
    · have h := h.1 hc
      exact z_weak h (⟨rfl, trivial⟩)
    · have h := h.2 hc
      refine z_aload_n F dX10_law_65 rfl ?_
      refine z_getI F 4 rfl (by decide) (by decide) rfl lk_X10_104 dX10_law_66 ?_
      refine z_aload_n F dX10_law_69 rfl ?_
      refine z_getI F 2 rfl (by decide) (by decide) rfl lk_X10_101 dX10_law_70 ?_
      refine z_icmp_ge F 85 dX10_law_73 (by decide) ⟨fun hc => ?_, fun hc => ?_⟩
      · have h := h.1 hc
        exact z_weak h (⟨rfl, trivial⟩)
      · have h := h.2 hc
        refine z_aload_n F dX10_law_76 rfl ?_
        refine z_iconst F 1 dX10_law_77 (by decide) ?_
        refine z_aload_n F dX10_law_78 rfl ?_
        refine z_getI F 4 rfl (by decide) (by decide) rfl lk_X10_104 dX10_law_79 ?_
        refine z_callV F (k' := 1) (mc' := 0) [.int 1, .int (w9.1 40 0 4)] [] dX10_law_82 rfl rfl (by decide) rfl cl_X10_124 hy_X10_wrong (by omega) (by decide) (by decide) (Nat.le_of_ble_eq_true rfl) rfl (con_mono h ?_ (fun _ _ h => h))
        rintro _ w11 ⟨rfl, h⟩
        show Z M G 0 K X w11 85 [some (.ref (G.2.1 40 0)), some (.int x1)] []
        exact z_weak h (⟨rfl, trivial⟩)
  · have h := h.2 hc
    refine z_iconst F 0 dX10_law_38 (by decide) ?_
    exact z_iret F dX10_law_39 (by decide) h
set_option maxRecDepth 20000 in
theorem b_X10_law_85 {M : Mx} {G : Gx} {kk : Nat} {w : Wd}   {K : Option Value → Wd → Prop} {X : String → Wd → Prop} (F : Fx M G RX10 cX10_law 2 (some .int) kk 0) (hk : 48 ≤ kk)
    (h : (((w.1 40 0 5) = 0 → (∀ w1 : Wd, w1 = setI w 40 0 3 (-1) → (∀ w2 : Wd, w2 = setI w1 40 0 19 (w1.1 40 0 20) → Con (mL M) G 1 0 yX10_lays cX10_lays 5 none w2 [.ref (G.2.1 59 0), .ref (G.2.1 57 0), .int (w2.1 40 0 19)] (fun r w4 => r = none ∧ K (some (.int 1)) w4) X))) ∧ (¬ ((w.1 40 0 5) = 0) → Con (mL M) G 1 0 yX10_ends cX10_ends 1 (some .int) w [.ref (G.2.1 40 0)] (fun r w6 => ∃ v5 : Int32, r = some (.int v5) ∧ K (some (.int v5)) w6) X))) :
    Z M G 0 K X w 85 [some (.ref (G.2.1 40 0)), none] [] := by
  refine z_aload_n F dX10_law_85 rfl ?_
  refine z_getI F 5 rfl (by decide) (by decide) rfl lk_X10_111 dX10_law_86 ?_
  refine z_if_eq F 97 dX10_law_89 (by decide) ⟨fun hc => ?_, fun hc => ?_⟩
  · have h := h.1 hc
    refine z_aload_n F dX10_law_97 rfl ?_
    refine z_iconst F (-1) dX10_law_98 (by decide) ?_
    refine z_putIW F 3 rfl (by decide) (by decide) rfl lk_X10_9 dX10_law_99 (fun w1 hw1 => ?_)
    have h := h w1 hw1
    refine z_aload_n F dX10_law_102 rfl ?_
    refine z_aload_n F dX10_law_103 rfl ?_
    refine z_getI F 20 rfl (by decide) (by decide) rfl lk_X10_207 dX10_law_104 ?_
    refine z_putIW F 19 rfl (by decide) (by decide) rfl lk_X10_192 dX10_law_107 (fun w2 hw2 => ?_)
    have h := h w2 hw2
    refine z_aload_n F dX10_law_110 rfl ?_
    refine z_getR F 22 59 0 rfl (by decide) (by decide) rfl rfl rfl lk_X10_49 dX10_law_111 ?_
    refine z_aload_n F dX10_law_114 rfl ?_
    refine z_getR F 21 57 0 rfl (by decide) (by decide) rfl rfl rfl lk_X10_46 dX10_law_115 ?_
    refine z_aload_n F dX10_law_118 rfl ?_
    refine z_getI F 19 rfl (by decide) (by decide) rfl lk_X10_192 dX10_law_119 ?_
    refine z_callS F (k' := 1) (mc' := 0) [.ref (G.2.1 59 0), .ref (G.2.1 57 0), .int (w2.1 40 0 19)] [] dX10_law_122 rfl cl_X10_184 hy_X10_lays.2 (by omega) (by decide) (by decide) (Nat.le_of_ble_eq_true rfl) rfl (con_mono h ?_ (fun _ _ h => h))
    rintro _ w4 ⟨rfl, h⟩
    show Z M G 0 K X w4 125 [some (.ref (G.2.1 40 0)), none] []
    refine z_iconst F 1 dX10_law_125 (by decide) ?_
    exact z_iret F dX10_law_126 (by decide) h
  · have h := h.2 hc
    refine z_aload_n F dX10_law_92 rfl ?_
    refine z_callV F (k' := 1) (mc' := 0) [] [] dX10_law_93 rfl rfl (by decide) rfl cl_X10_181 hy_X10_ends (by omega) (by decide) (by decide) (Nat.le_of_ble_eq_true rfl) rfl (con_mono h ?_ (fun _ _ h => h))
    rintro _ w6 ⟨v5, rfl, h⟩
    show Z M G 0 K X w6 96 [some (.ref (G.2.1 40 0)), none] [.int v5]
    exact z_iret F dX10_law_96 (by decide) h
set_option maxRecDepth 20000 in
theorem e_X10_by {l : Launch} {G : Gx} {w : Wd} {p0 : Int32} {p1 : Int32} {p2 : Int32} {K : Option Value → Wd → Prop} {X : String → Wd → Prop} (hl : l.stackTraces = false)
    (h : ∀ (M : Mx) (kk : Nat), mL M = l → 2 ≤ kk → Fx M G RX10 cX10_by 3 (some .int) kk 0 → ((p0 = 2 → K (some (.int (p1 + p2))) w) ∧ (p0 = 3 → K (some (.int (p1 - p2))) w) ∧ (p0 = 4 → K (some (.int (p1 * p2))) w) ∧ (p0 = 5 → ((¬ p2 = 0 → ((¬ p2 = (-1) → (¬ p2 = 0) ∧ K (some (.int (p1 / p2))) w) ∧ (¬ (¬ p2 = (-1)) → K (some (.int (-p1))) w))) ∧ (¬ (¬ p2 = 0) → K (some (.int 0)) w))) ∧ (p0 = 6 → ((p2 = 0 → K (some (.int 0)) w) ∧ (¬ (p2 = 0) → ((¬ p2 = (-1) → (¬ p2 = 0) ∧ K (some (.int (p1 - p1 / p2 * p2))) w) ∧ (¬ (¬ p2 = (-1)) → K (some (.int 0)) w))))) ∧ (p0 = 7 → Con (mL M) G 1 0 yX10_less cX10_less 2 (some .int) w [.int p1, .int p2] (fun r w2 => ∃ v1 : Int32, r = some (.int v1) ∧ K (some (.int v1)) w2) X) ∧ (¬ p0 = 2 ∧ ¬ p0 = 3 ∧ ¬ p0 = 4 ∧ ¬ p0 = 5 ∧ ¬ p0 = 6 ∧ ¬ p0 = 7 → Con (mL M) G 1 0 yX10_more cX10_more 2 (some .int) w [.int p1, .int p2] (fun r w4 => ∃ v3 : Int32, r = some (.int v3) ∧ K (some (.int v3)) w4) X))) :
    Con l G 2 0 yX10_by cX10_by 3 (some .int) w [.int p0, .int p1, .int p2] K X := by
  refine con_intro hl (by decide +kernel) (Nat.le_of_ble_eq_true rfl) (Nat.le_of_ble_eq_true rfl) (fun M kk hM hk F => ?_)
  have h := h M kk hM hk F
  show Z M G 0 K X w 0 [some (.int p0), some (.int p1), some (.int p2)] []
  refine z_iload_n F dX10_by_0 rfl ?_
  by_cases hc0 : p0 = 2
  · have h := h.1 hc0
    refine z_tabIn F 40 dX10_by_1 (by rw [hc0]; decide) (by rw [hc0]; decide) (by rw [hc0]; rfl) (by decide) ?_
    refine z_iload_n F dX10_by_40 rfl ?_
    refine z_iload_n F dX10_by_41 rfl ?_
    refine z_iadd F dX10_by_42 ?_
    exact z_iret F dX10_by_43 (by decide) h
  by_cases hc1 : p0 = 3
  · have h := h.2.1 hc1
    refine z_tabIn F 44 dX10_by_1 (by rw [hc1]; decide) (by rw [hc1]; decide) (by rw [hc1]; rfl) (by decide) ?_
    refine z_iload_n F dX10_by_44 rfl ?_
    refine z_iload_n F dX10_by_45 rfl ?_
    refine z_isub F dX10_by_46 ?_
    exact z_iret F dX10_by_47 (by decide) h
  by_cases hc2 : p0 = 4
  · have h := h.2.2.1 hc2
    refine z_tabIn F 48 dX10_by_1 (by rw [hc2]; decide) (by rw [hc2]; decide) (by rw [hc2]; rfl) (by decide) ?_
    refine z_iload_n F dX10_by_48 rfl ?_
    refine z_iload_n F dX10_by_49 rfl ?_
    refine z_imul F dX10_by_50 ?_
    exact z_iret F dX10_by_51 (by decide) h
  by_cases hc3 : p0 = 5
  · have h := h.2.2.2.1 hc3
    refine z_tabIn F 52 dX10_by_1 (by rw [hc3]; decide) (by rw [hc3]; decide) (by rw [hc3]; rfl) (by decide) ?_
    refine z_iload_n F dX10_by_52 rfl ?_
    refine z_if_ne F 60 dX10_by_53 (by decide) ⟨fun hc => ?_, fun hc => ?_⟩
    · have h := h.1 hc
      refine z_iload_n F dX10_by_60 rfl ?_
      refine z_iconst F (-1) dX10_by_61 (by decide) ?_
      refine z_icmp_ne F 70 dX10_by_62 (by decide) ⟨fun hc => ?_, fun hc => ?_⟩
      · have h := h.1 hc
        refine z_iload_n F dX10_by_70 rfl ?_
        refine z_iload_n F dX10_by_71 rfl ?_
        obtain ⟨hb, h⟩ := h
        refine z_idiv F dX10_by_72 hb ?_
        exact z_iret F dX10_by_73 (by decide) h
      · have h := h.2 hc
        refine z_iload_n F dX10_by_65 rfl ?_
        refine z_ineg F dX10_by_66 ?_
        refine z_goto F 73 dX10_by_67 (by decide) ?_
        exact z_iret F dX10_by_73 (by decide) h
    · have h := h.2 hc
      refine z_iconst F 0 dX10_by_56 (by decide) ?_
      refine z_goto F 73 dX10_by_57 (by decide) ?_
      exact z_iret F dX10_by_73 (by decide) h
  by_cases hc4 : p0 = 6
  · have h := h.2.2.2.2.1 hc4
    refine z_tabIn F 74 dX10_by_1 (by rw [hc4]; decide) (by rw [hc4]; decide) (by rw [hc4]; rfl) (by decide) ?_
    refine z_iload_n F dX10_by_74 rfl ?_
    refine z_if_eq F 83 dX10_by_75 (by decide) ⟨fun hc => ?_, fun hc => ?_⟩
    · have h := h.1 hc
      refine z_iconst F 0 dX10_by_83 (by decide) ?_
      refine z_goto F 90 dX10_by_84 (by decide) ?_
      exact z_iret F dX10_by_90 (by decide) h
    · have h := h.2 hc
      refine z_iload_n F dX10_by_78 rfl ?_
      refine z_iconst F (-1) dX10_by_79 (by decide) ?_
      refine z_icmp_ne F 87 dX10_by_80 (by decide) ⟨fun hc => ?_, fun hc => ?_⟩
      · have h := h.1 hc
        refine z_iload_n F dX10_by_87 rfl ?_
        refine z_iload_n F dX10_by_88 rfl ?_
        obtain ⟨hb, h⟩ := h
        refine z_irem F dX10_by_89 hb ?_
        exact z_iret F dX10_by_90 (by decide) h
      · have h := h.2 hc
        refine z_iconst F 0 dX10_by_83 (by decide) ?_
        refine z_goto F 90 dX10_by_84 (by decide) ?_
        exact z_iret F dX10_by_90 (by decide) h
  by_cases hc5 : p0 = 7
  · have h := h.2.2.2.2.2.1 hc5
    refine z_tabIn F 91 dX10_by_1 (by rw [hc5]; decide) (by rw [hc5]; decide) (by rw [hc5]; rfl) (by decide) ?_
    refine z_iload_n F dX10_by_91 rfl ?_
    refine z_iload_n F dX10_by_92 rfl ?_
    refine z_callS F (k' := 1) (mc' := 0) [.int p1, .int p2] [] dX10_by_93 rfl cl_X10_235 hy_X10_less.2 (by omega) (by decide) (by decide) (Nat.le_of_ble_eq_true rfl) rfl (con_mono h ?_ (fun _ _ h => h))
    rintro _ w2 ⟨v1, rfl, h⟩
    show Z M G 0 K X w2 96 [some (.int p0), some (.int p1), some (.int p2)] [.int v1]
    exact z_iret F dX10_by_96 (by decide) h
  have e0 := lv_neT hc0 (show (2 : Int32).toInt = 2 by decide)
  have e1 := lv_neT hc1 (show (3 : Int32).toInt = 3 by decide)
  have e2 := lv_neT hc2 (show (4 : Int32).toInt = 4 by decide)
  have e3 := lv_neT hc3 (show (5 : Int32).toInt = 5 by decide)
  have e4 := lv_neT hc4 (show (6 : Int32).toInt = 6 by decide)
  have e5 := lv_neT hc5 (show (7 : Int32).toInt = 7 by decide)
  have h := h.2.2.2.2.2.2 ⟨hc0, hc1, hc2, hc3, hc4, hc5⟩
  refine z_tabOut F 97 dX10_by_1 (by omega) (by decide) ?_
  refine z_iload_n F dX10_by_97 rfl ?_
  refine z_iload_n F dX10_by_98 rfl ?_
  refine z_callS F (k' := 1) (mc' := 0) [.int p1, .int p2] [] dX10_by_99 rfl cl_X10_238 hy_X10_more.2 (by omega) (by decide) (by decide) (Nat.le_of_ble_eq_true rfl) rfl (con_mono h ?_ (fun _ _ h => h))
  rintro _ w4 ⟨v3, rfl, h⟩
  show Z M G 0 K X w4 102 [some (.int p0), some (.int p1), some (.int p2)] [.int v3]
  exact z_iret F dX10_by_102 (by decide) h
set_option maxRecDepth 20000 in
theorem e_X10_byLaw {l : Launch} {G : Gx} {w : Wd}  {K : Option Value → Wd → Prop} {X : String → Wd → Prop} (hl : l.stackTraces = false)
    (h : ∀ (M : Mx) (kk : Nat), mL M = l → 3 ≤ kk → Fx M G RX10 cX10_byLaw 3 (some .int) kk 0 → (∀ w1 : Wd, w1 = setI w 65 0 0 (w.1 66 0 0) → Z M G 0 K X w1 16 [some (.ref (G.2.1 40 0)), some (.int 0), some (.int 0)] [])) :
    Con l G 3 0 yX10_byLaw cX10_byLaw 3 (some .int) w [.ref (G.2.1 40 0)] K X := by
  refine con_intro hl (by decide +kernel) (Nat.le_of_ble_eq_true rfl) (Nat.le_of_ble_eq_true rfl) (fun M kk hM hk F => ?_)
  have h := h M kk hM hk F
  show Z M G 0 K X w 0 [some (.ref (G.2.1 40 0)), none, none] []
  refine z_iconst F 0 dX10_byLaw_0 (by decide) ?_
  refine z_istore_n F dX10_byLaw_1 (Nat.le_of_ble_eq_true rfl) ?_
  refine z_aload_n F dX10_byLaw_2 rfl ?_
  refine z_getR F 25 65 0 rfl (by decide) (by decide) rfl rfl rfl lk_X10_58 dX10_byLaw_3 ?_
  refine z_iconst F 0 dX10_byLaw_6 (by decide) ?_
  refine z_aload_n F dX10_byLaw_7 rfl ?_
  refine z_getR F 26 66 0 rfl (by decide) (by decide) rfl rfl rfl lk_X10_61 dX10_byLaw_8 ?_
  refine z_iconst F 0 dX10_byLaw_11 (by decide) ?_
  refine z_ialdK F 0 (by decide) rfl (by decide) (by unfold vp_in; decide) dX10_byLaw_12 ?_
  refine z_iastW F 0 (by decide) rfl (by decide) (by unfold vp_in; decide) dX10_byLaw_13 (fun w1 hw1 => ?_)
  have h := h w1 hw1
  refine z_iconst F 0 dX10_byLaw_14 (by decide) ?_
  refine z_istore_n F dX10_byLaw_15 (Nat.le_of_ble_eq_true rfl) ?_
  exact h
set_option maxRecDepth 20000 in
theorem b_X10_byLaw_16 {M : Mx} {G : Gx} {kk : Nat} {w : Wd}  {x1 : Int32} {x2 : Int32} {K : Option Value → Wd → Prop} {X : String → Wd → Prop} (F : Fx M G RX10 cX10_byLaw 3 (some .int) kk 0) (hk : 3 ≤ kk)
    (h : (((w.1 40 0 19) ≤ x2 → Con (mL M) G 1 0 yX10_more cX10_more 2 (some .int) w [.int 0, .int (w.1 65 0 0)] (fun r w2 => ∃ v1 : Int32, r = some (.int v1) ∧ Con (mL M) G 1 0 yX10_less cX10_less 2 (some .int) w2 [.int 30, .int v1] (fun r w4 => ∃ v3 : Int32, r = some (.int v3) ∧ K (some (.int v3)) w4) X) X) ∧ (¬ ((w.1 40 0 19) ≤ x2) → (vp_in x2 160 ∧ ((2 ≤ (w.1 58 ((x2 : Int32).toNatClampNeg) 0) → (vp_in x2 160 ∧ (vp_in ((x1 + (-1)) - (1 : Int32)) 160 ∧ (vp_in (x1 + (-1)) 160 ∧ Con (mL M) G 2 0 yX10_by cX10_by 3 (some .int) w [.int (w.1 58 ((x2 : Int32).toNatClampNeg) 0), .int (w.1 65 0 (((x1 + (-1)) - (1 : Int32) : Int32).toNatClampNeg)), .int (w.1 65 0 ((x1 + (-1) : Int32).toNatClampNeg))] (fun r w8 => ∃ v7 : Int32, r = some (.int v7) ∧ (vp_in ((x1 + (-1)) - (1 : Int32)) 160 ∧ ∀ w9 : Wd, w9 = setI w8 65 0 (((x1 + (-1)) - (1 : Int32) : Int32).toNatClampNeg) v7 → Z M G 0 K X w9 16 [some (.ref (G.2.1 40 0)), some (.int (x1 + (-1))), some (.int (x2 + 1))] [])) X)))) ∧ (¬ (2 ≤ (w.1 58 ((x2 : Int32).toNatClampNeg) 0)) → (vp_in x2 160 ∧ ((¬ (w.1 58 ((x2 : Int32).toNatClampNeg) 0) = 0 → (vp_in x2 160 ∧ (vp_in (w.1 58 ((x2 : Int32).toNatClampNeg) 1) 8 ∧ (vp_in x1 160 ∧ ∀ w12 : Wd, w12 = setI w 65 0 ((x1 : Int32).toNatClampNeg) (w.1 66 0 ((w.1 58 ((x2 : Int32).toNatClampNeg) 1 : Int32).toNatClampNeg)) → Z M G 0 K X w12 16 [some (.ref (G.2.1 40 0)), some (.int (x1 + 1)), some (.int (x2 + 1))] [])))) ∧ (¬ (¬ (w.1 58 ((x2 : Int32).toNatClampNeg) 0) = 0) → (vp_in x2 160 ∧ (vp_in x1 160 ∧ ∀ w14 : Wd, w14 = setI w 65 0 ((x1 : Int32).toNatClampNeg) (w.1 58 ((x2 : Int32).toNatClampNeg) 1) → Z M G 0 K X w14 16 [some (.ref (G.2.1 40 0)), some (.int (x1 + 1)), some (.int (x2 + 1))] []))))))))))) :
    Z M G 0 K X w 16 [some (.ref (G.2.1 40 0)), some (.int x1), some (.int x2)] [] := by
  refine z_iload_n F dX10_byLaw_16 rfl ?_
  refine z_aload_n F dX10_byLaw_17 rfl ?_
  refine z_getI F 19 rfl (by decide) (by decide) rfl lk_X10_192 dX10_byLaw_18 ?_
  refine z_icmp_ge F 125 dX10_byLaw_21 (by decide) ⟨fun hc => ?_, fun hc => ?_⟩
  · have h := h.1 hc
    refine z_bipush F 30 dX10_byLaw_125 (by decide) ?_
    refine z_iconst F 0 dX10_byLaw_127 (by decide) ?_
    refine z_aload_n F dX10_byLaw_128 rfl ?_
    refine z_getR F 25 65 0 rfl (by decide) (by decide) rfl rfl rfl lk_X10_58 dX10_byLaw_129 ?_
    refine z_iconst F 0 dX10_byLaw_132 (by decide) ?_
    refine z_ialdK F 0 (by decide) rfl (by decide) (by unfold vp_in; decide) dX10_byLaw_133 ?_
    refine z_callS F (k' := 1) (mc' := 0) [.int 0, .int (w.1 65 0 0)] [.int 30] dX10_byLaw_134 rfl cl_X10_238 hy_X10_more.2 (by omega) (by decide) (by decide) (Nat.le_of_ble_eq_true rfl) rfl (con_mono h ?_ (fun _ _ h => h))
    rintro _ w2 ⟨v1, rfl, h⟩
    show Z M G 0 K X w2 137 [some (.ref (G.2.1 40 0)), some (.int x1), some (.int x2)] [.int v1, .int 30]
    refine z_callS F (k' := 1) (mc' := 0) [.int 30, .int v1] [] dX10_byLaw_137 rfl cl_X10_235 hy_X10_less.2 (by omega) (by decide) (by decide) (Nat.le_of_ble_eq_true rfl) rfl (con_mono h ?_ (fun _ _ h => h))
    rintro _ w4 ⟨v3, rfl, h⟩
    show Z M G 0 K X w4 140 [some (.ref (G.2.1 40 0)), some (.int x1), some (.int x2)] [.int v3]
    exact z_iret F dX10_byLaw_140 (by decide) h
  · have h := h.2 hc
    refine z_aload_n F dX10_byLaw_24 rfl ?_
    refine z_getR F 21 57 0 rfl (by decide) (by decide) rfl rfl rfl lk_X10_46 dX10_byLaw_25 ?_
    refine z_iload_n F dX10_byLaw_28 rfl ?_
    obtain ⟨hb, h⟩ := h
    refine z_aald F 58 ((x2 : Int32).toNatClampNeg) rfl (by decide) (by decide) (by decide) rfl rfl hb dX10_byLaw_29 (fun hv5 => ?_)
    refine z_iconst F 0 dX10_byLaw_30 (by decide) ?_
    refine z_ialdK F 0 (by decide) rfl hv5 (by unfold vp_in; decide) dX10_byLaw_31 ?_
    refine z_iconst F 2 dX10_byLaw_32 (by decide) ?_
    refine z_icmp_ge F 83 dX10_byLaw_33 (by decide) ⟨fun hc => ?_, fun hc => ?_⟩
    · have h := h.1 hc
      refine z_iinc F (x1 + (-1)) dX10_byLaw_83 rfl rfl (Nat.le_of_ble_eq_true rfl) ?_
      refine z_aload_n F dX10_byLaw_86 rfl ?_
      refine z_getR F 25 65 0 rfl (by decide) (by decide) rfl rfl rfl lk_X10_58 dX10_byLaw_87 ?_
      refine z_iload_n F dX10_byLaw_90 rfl ?_
      refine z_iconst F 1 dX10_byLaw_91 (by decide) ?_
      refine z_isub F dX10_byLaw_92 ?_
      refine z_aload_n F dX10_byLaw_93 rfl ?_
      refine z_getR F 21 57 0 rfl (by decide) (by decide) rfl rfl rfl lk_X10_46 dX10_byLaw_94 ?_
      refine z_iload_n F dX10_byLaw_97 rfl ?_
      obtain ⟨hb, h⟩ := h
      refine z_aald F 58 ((x2 : Int32).toNatClampNeg) rfl (by decide) (by decide) (by decide) rfl rfl hb dX10_byLaw_98 (fun hv6 => ?_)
      refine z_iconst F 0 dX10_byLaw_99 (by decide) ?_
      refine z_ialdK F 0 (by decide) rfl hv6 (by unfold vp_in; decide) dX10_byLaw_100 ?_
      refine z_aload_n F dX10_byLaw_101 rfl ?_
      refine z_getR F 25 65 0 rfl (by decide) (by decide) rfl rfl rfl lk_X10_58 dX10_byLaw_102 ?_
      refine z_iload_n F dX10_byLaw_105 rfl ?_
      refine z_iconst F 1 dX10_byLaw_106 (by decide) ?_
      refine z_isub F dX10_byLaw_107 ?_
      obtain ⟨hb, h⟩ := h
      refine z_ialdK F (((x1 + (-1)) - (1 : Int32) : Int32).toNatClampNeg) rfl rfl (by decide) hb dX10_byLaw_108 ?_
      refine z_aload_n F dX10_byLaw_109 rfl ?_
      refine z_getR F 25 65 0 rfl (by decide) (by decide) rfl rfl rfl lk_X10_58 dX10_byLaw_110 ?_
      refine z_iload_n F dX10_byLaw_113 rfl ?_
      obtain ⟨hb, h⟩ := h
      refine z_ialdK F ((x1 + (-1) : Int32).toNatClampNeg) rfl rfl (by decide) hb dX10_byLaw_114 ?_
      refine z_callS F (k' := 2) (mc' := 0) [.int (w.1 58 ((x2 : Int32).toNatClampNeg) 0), .int (w.1 65 0 (((x1 + (-1)) - (1 : Int32) : Int32).toNatClampNeg)), .int (w.1 65 0 ((x1 + (-1) : Int32).toNatClampNeg))] [.int ((x1 + (-1)) - (1 : Int32)), .ref (G.2.1 65 0)] dX10_byLaw_115 rfl cl_X10_241 hy_X10_by.2 (by omega) (by decide) (by decide) (Nat.le_of_ble_eq_true rfl) rfl (con_mono h ?_ (fun _ _ h => h))
      rintro _ w8 ⟨v7, rfl, h⟩
      show Z M G 0 K X w8 118 [some (.ref (G.2.1 40 0)), some (.int (x1 + (-1))), some (.int x2)] [.int v7, .int ((x1 + (-1)) - (1 : Int32)), .ref (G.2.1 65 0)]
      obtain ⟨hb, h⟩ := h
      refine z_iastW F (((x1 + (-1)) - (1 : Int32) : Int32).toNatClampNeg) rfl rfl (by decide) hb dX10_byLaw_118 (fun w9 hw9 => ?_)
      have h := h w9 hw9
      refine z_iinc F (x2 + 1) dX10_byLaw_119 rfl rfl (Nat.le_of_ble_eq_true rfl) ?_
      refine z_goto F 16 dX10_byLaw_122 (by decide) ?_
      exact h
    · have h := h.2 hc
      refine z_aload_n F dX10_byLaw_36 rfl ?_
      refine z_getR F 25 65 0 rfl (by decide) (by decide) rfl rfl rfl lk_X10_58 dX10_byLaw_37 ?_
      refine z_iload_n F dX10_byLaw_40 rfl ?_
      refine z_aload_n F dX10_byLaw_41 rfl ?_
      refine z_getR F 21 57 0 rfl (by decide) (by decide) rfl rfl rfl lk_X10_46 dX10_byLaw_42 ?_
      refine z_iload_n F dX10_byLaw_45 rfl ?_
      obtain ⟨hb, h⟩ := h
      refine z_aald F 58 ((x2 : Int32).toNatClampNeg) rfl (by decide) (by decide) (by decide) rfl rfl hb dX10_byLaw_46 (fun hv10 => ?_)
      refine z_iconst F 0 dX10_byLaw_47 (by decide) ?_
      refine z_ialdK F 0 (by decide) rfl hv10 (by unfold vp_in; decide) dX10_byLaw_48 ?_
      refine z_if_ne F 63 dX10_byLaw_49 (by decide) ⟨fun hc => ?_, fun hc => ?_⟩
      · have h := h.1 hc
        refine z_aload_n F dX10_byLaw_63 rfl ?_
        refine z_getR F 26 66 0 rfl (by decide) (by decide) rfl rfl rfl lk_X10_61 dX10_byLaw_64 ?_
        refine z_aload_n F dX10_byLaw_67 rfl ?_
        refine z_getR F 21 57 0 rfl (by decide) (by decide) rfl rfl rfl lk_X10_46 dX10_byLaw_68 ?_
        refine z_iload_n F dX10_byLaw_71 rfl ?_
        obtain ⟨hb, h⟩ := h
        refine z_aald F 58 ((x2 : Int32).toNatClampNeg) rfl (by decide) (by decide) (by decide) rfl rfl hb dX10_byLaw_72 (fun hv11 => ?_)
        refine z_iconst F 1 dX10_byLaw_73 (by decide) ?_
        refine z_ialdK F 1 (by decide) rfl hv11 (by unfold vp_in; decide) dX10_byLaw_74 ?_
        obtain ⟨hb, h⟩ := h
        refine z_ialdK F ((w.1 58 ((x2 : Int32).toNatClampNeg) 1 : Int32).toNatClampNeg) rfl rfl (by decide) hb dX10_byLaw_75 ?_
        obtain ⟨hb, h⟩ := h
        refine z_iastW F ((x1 : Int32).toNatClampNeg) rfl rfl (by decide) hb dX10_byLaw_76 (fun w12 hw12 => ?_)
        have h := h w12 hw12
        refine z_iinc F (x1 + 1) dX10_byLaw_77 rfl rfl (Nat.le_of_ble_eq_true rfl) ?_
        refine z_goto F 119 dX10_byLaw_80 (by decide) ?_
        refine z_iinc F (x2 + 1) dX10_byLaw_119 rfl rfl (Nat.le_of_ble_eq_true rfl) ?_
        refine z_goto F 16 dX10_byLaw_122 (by decide) ?_
        exact h
      · have h := h.2 hc
        refine z_aload_n F dX10_byLaw_52 rfl ?_
        refine z_getR F 21 57 0 rfl (by decide) (by decide) rfl rfl rfl lk_X10_46 dX10_byLaw_53 ?_
        refine z_iload_n F dX10_byLaw_56 rfl ?_
        obtain ⟨hb, h⟩ := h
        refine z_aald F 58 ((x2 : Int32).toNatClampNeg) rfl (by decide) (by decide) (by decide) rfl rfl hb dX10_byLaw_57 (fun hv13 => ?_)
        refine z_iconst F 1 dX10_byLaw_58 (by decide) ?_
        refine z_ialdK F 1 (by decide) rfl hv13 (by unfold vp_in; decide) dX10_byLaw_59 ?_
        refine z_goto F 76 dX10_byLaw_60 (by decide) ?_
        obtain ⟨hb, h⟩ := h
        refine z_iastW F ((x1 : Int32).toNatClampNeg) rfl rfl (by decide) hb dX10_byLaw_76 (fun w14 hw14 => ?_)
        have h := h w14 hw14
        refine z_iinc F (x1 + 1) dX10_byLaw_77 rfl rfl (Nat.le_of_ble_eq_true rfl) ?_
        refine z_goto F 119 dX10_byLaw_80 (by decide) ?_
        refine z_iinc F (x2 + 1) dX10_byLaw_119 rfl rfl (Nat.le_of_ble_eq_true rfl) ?_
        refine z_goto F 16 dX10_byLaw_122 (by decide) ?_
        exact h
set_option maxRecDepth 20000 in
theorem e_X10_stepHere {l : Launch} {G : Gx} {w : Wd}  {K : Option Value → Wd → Prop} {X : String → Wd → Prop} (hl : l.stackTraces = false)
    (h : ∀ (M : Mx) (kk : Nat), mL M = l → 5 ≤ kk → Fx M G RX10 cX10_stepHere 1 (some .int) kk 0 → Con (mL M) G 4 0 yX10_isWord cX10_isWord 7 (some .boolean) w [.ref (G.2.1 40 0), .int 19, .int 9, .int 14, .int 7, .int 0, .int 0] (fun r w2 => ∃ v1 : Int32, r = some (.int v1) ∧ ((v1 = 0 → Con (mL M) G 4 0 yX10_isWord cX10_isWord 7 (some .boolean) w2 [.ref (G.2.1 40 0), .int 8, .int 25, .int 13, .int 14, .int 0, .int 0] (fun r w4 => ∃ v3 : Int32, r = some (.int v3) ∧ ((v3 = 0 → Con (mL M) G 4 0 yX10_isWord cX10_isWord 7 (some .boolean) w4 [.ref (G.2.1 40 0), .int 18, .int 5, .int 19, .int 20, .int 0, .int 0] (fun r w6 => ∃ v5 : Int32, r = some (.int v5) ∧ ((v5 = 0 → Con (mL M) G 4 0 yX10_isWord cX10_isWord 7 (some .boolean) w6 [.ref (G.2.1 40 0), .int 8, .int 15, .int 1, .int 18, .int 19, .int 5] (fun r w8 => ∃ v7 : Int32, r = some (.int v7) ∧ ((v7 = 0 → Con (mL M) G 4 0 yX10_isWord cX10_isWord 7 (some .boolean) w8 [.ref (G.2.1 40 0), .int 3, .int 21, .int 18, .int 5, .int 0, .int 0] (fun r w10 => ∃ v9 : Int32, r = some (.int v9) ∧ ((v9 = 0 → Con (mL M) G 4 0 yX10_isWord cX10_isWord 7 (some .boolean) w10 [.ref (G.2.1 40 0), .int 23, .int 15, .int 18, .int 4, .int 0, .int 0] (fun r w12 => ∃ v11 : Int32, r = some (.int v11) ∧ ((v11 = 0 → Con (mL M) G 4 0 yX10_isWord cX10_isWord 7 (some .boolean) w12 [.ref (G.2.1 40 0), .int 4, .int 1, .int 25, .int 0, .int 0, .int 0] (fun r w14 => ∃ v13 : Int32, r = some (.int v13) ∧ ((v13 = 0 → Con (mL M) G 4 0 yX10_isWord cX10_isWord 7 (some .boolean) w14 [.ref (G.2.1 40 0), .int 1, .int 7, .int 1, .int 9, .int 14, .int 0] (fun r w16 => ∃ v15 : Int32, r = some (.int v15) ∧ ((v15 = 0 → K (some (.int (-1))) w16) ∧ (¬ (v15 = 0) → K (some (.int 7)) w16))) X) ∧ (¬ (v13 = 0) → K (some (.int 6)) w14))) X) ∧ (¬ (v11 = 0) → K (some (.int 5)) w12))) X) ∧ (¬ (v9 = 0) → K (some (.int 4)) w10))) X) ∧ (¬ (v7 = 0) → K (some (.int 3)) w8))) X) ∧ (¬ (v5 = 0) → K (some (.int 2)) w6))) X) ∧ (¬ (v3 = 0) → K (some (.int 1)) w4))) X) ∧ (¬ (v1 = 0) → K (some (.int 0)) w2))) X) :
    Con l G 5 0 yX10_stepHere cX10_stepHere 1 (some .int) w [.ref (G.2.1 40 0)] K X := by
  refine con_intro hl (by decide +kernel) (Nat.le_of_ble_eq_true rfl) (Nat.le_of_ble_eq_true rfl) (fun M kk hM hk F => ?_)
  have h := h M kk hM hk F
  show Z M G 0 K X w 0 [some (.ref (G.2.1 40 0))] []
  refine z_aload_n F dX10_stepHere_0 rfl ?_
  refine z_bipush F 19 dX10_stepHere_1 (by decide) ?_
  refine z_bipush F 9 dX10_stepHere_3 (by decide) ?_
  refine z_bipush F 14 dX10_stepHere_5 (by decide) ?_
  refine z_bipush F 7 dX10_stepHere_7 (by decide) ?_
  refine z_iconst F 0 dX10_stepHere_9 (by decide) ?_
  refine z_iconst F 0 dX10_stepHere_10 (by decide) ?_
  refine z_callV F (k' := 4) (mc' := 0) [.int 19, .int 9, .int 14, .int 7, .int 0, .int 0] [] dX10_stepHere_11 rfl rfl (by decide) rfl cl_X10_144 hy_X10_isWord (by omega) (by decide) (by decide) (Nat.le_of_ble_eq_true rfl) rfl (con_mono h ?_ (fun _ _ h => h))
  rintro _ w2 ⟨v1, rfl, h⟩
  show Z M G 0 K X w2 14 [some (.ref (G.2.1 40 0))] [.int v1]
  refine z_if_eq F 19 dX10_stepHere_14 (by decide) ⟨fun hc => ?_, fun hc => ?_⟩
  · have h := h.1 hc
    refine z_aload_n F dX10_stepHere_19 rfl ?_
    refine z_bipush F 8 dX10_stepHere_20 (by decide) ?_
    refine z_bipush F 25 dX10_stepHere_22 (by decide) ?_
    refine z_bipush F 13 dX10_stepHere_24 (by decide) ?_
    refine z_bipush F 14 dX10_stepHere_26 (by decide) ?_
    refine z_iconst F 0 dX10_stepHere_28 (by decide) ?_
    refine z_iconst F 0 dX10_stepHere_29 (by decide) ?_
    refine z_callV F (k' := 4) (mc' := 0) [.int 8, .int 25, .int 13, .int 14, .int 0, .int 0] [] dX10_stepHere_30 rfl rfl (by decide) rfl cl_X10_144 hy_X10_isWord (by omega) (by decide) (by decide) (Nat.le_of_ble_eq_true rfl) rfl (con_mono h ?_ (fun _ _ h => h))
    rintro _ w4 ⟨v3, rfl, h⟩
    show Z M G 0 K X w4 33 [some (.ref (G.2.1 40 0))] [.int v3]
    refine z_if_eq F 38 dX10_stepHere_33 (by decide) ⟨fun hc => ?_, fun hc => ?_⟩
    · have h := h.1 hc
      refine z_aload_n F dX10_stepHere_38 rfl ?_
      refine z_bipush F 18 dX10_stepHere_39 (by decide) ?_
      refine z_iconst F 5 dX10_stepHere_41 (by decide) ?_
      refine z_bipush F 19 dX10_stepHere_42 (by decide) ?_
      refine z_bipush F 20 dX10_stepHere_44 (by decide) ?_
      refine z_iconst F 0 dX10_stepHere_46 (by decide) ?_
      refine z_iconst F 0 dX10_stepHere_47 (by decide) ?_
      refine z_callV F (k' := 4) (mc' := 0) [.int 18, .int 5, .int 19, .int 20, .int 0, .int 0] [] dX10_stepHere_48 rfl rfl (by decide) rfl cl_X10_144 hy_X10_isWord (by omega) (by decide) (by decide) (Nat.le_of_ble_eq_true rfl) rfl (con_mono h ?_ (fun _ _ h => h))
      rintro _ w6 ⟨v5, rfl, h⟩
      show Z M G 0 K X w6 51 [some (.ref (G.2.1 40 0))] [.int v5]
      refine z_if_eq F 56 dX10_stepHere_51 (by decide) ⟨fun hc => ?_, fun hc => ?_⟩
      · have h := h.1 hc
        refine z_aload_n F dX10_stepHere_56 rfl ?_
        refine z_bipush F 8 dX10_stepHere_57 (by decide) ?_
        refine z_bipush F 15 dX10_stepHere_59 (by decide) ?_
        refine z_iconst F 1 dX10_stepHere_61 (by decide) ?_
        refine z_bipush F 18 dX10_stepHere_62 (by decide) ?_
        refine z_bipush F 19 dX10_stepHere_64 (by decide) ?_
        refine z_iconst F 5 dX10_stepHere_66 (by decide) ?_
        refine z_callV F (k' := 4) (mc' := 0) [.int 8, .int 15, .int 1, .int 18, .int 19, .int 5] [] dX10_stepHere_67 rfl rfl (by decide) rfl cl_X10_144 hy_X10_isWord (by omega) (by decide) (by decide) (Nat.le_of_ble_eq_true rfl) rfl (con_mono h ?_ (fun _ _ h => h))
        rintro _ w8 ⟨v7, rfl, h⟩
        show Z M G 0 K X w8 70 [some (.ref (G.2.1 40 0))] [.int v7]
        refine z_if_eq F 75 dX10_stepHere_70 (by decide) ⟨fun hc => ?_, fun hc => ?_⟩
        · have h := h.1 hc
          refine z_aload_n F dX10_stepHere_75 rfl ?_
          refine z_iconst F 3 dX10_stepHere_76 (by decide) ?_
          refine z_bipush F 21 dX10_stepHere_77 (by decide) ?_
          refine z_bipush F 18 dX10_stepHere_79 (by decide) ?_
          refine z_iconst F 5 dX10_stepHere_81 (by decide) ?_
          refine z_iconst F 0 dX10_stepHere_82 (by decide) ?_
          refine z_iconst F 0 dX10_stepHere_83 (by decide) ?_
          refine z_callV F (k' := 4) (mc' := 0) [.int 3, .int 21, .int 18, .int 5, .int 0, .int 0] [] dX10_stepHere_84 rfl rfl (by decide) rfl cl_X10_144 hy_X10_isWord (by omega) (by decide) (by decide) (Nat.le_of_ble_eq_true rfl) rfl (con_mono h ?_ (fun _ _ h => h))
          rintro _ w10 ⟨v9, rfl, h⟩
          show Z M G 0 K X w10 87 [some (.ref (G.2.1 40 0))] [.int v9]
          refine z_if_eq F 92 dX10_stepHere_87 (by decide) ⟨fun hc => ?_, fun hc => ?_⟩
          · have h := h.1 hc
            refine z_aload_n F dX10_stepHere_92 rfl ?_
            refine z_bipush F 23 dX10_stepHere_93 (by decide) ?_
            refine z_bipush F 15 dX10_stepHere_95 (by decide) ?_
            refine z_bipush F 18 dX10_stepHere_97 (by decide) ?_
            refine z_iconst F 4 dX10_stepHere_99 (by decide) ?_
            refine z_iconst F 0 dX10_stepHere_100 (by decide) ?_
            refine z_iconst F 0 dX10_stepHere_101 (by decide) ?_
            refine z_callV F (k' := 4) (mc' := 0) [.int 23, .int 15, .int 18, .int 4, .int 0, .int 0] [] dX10_stepHere_102 rfl rfl (by decide) rfl cl_X10_144 hy_X10_isWord (by omega) (by decide) (by decide) (Nat.le_of_ble_eq_true rfl) rfl (con_mono h ?_ (fun _ _ h => h))
            rintro _ w12 ⟨v11, rfl, h⟩
            show Z M G 0 K X w12 105 [some (.ref (G.2.1 40 0))] [.int v11]
            refine z_if_eq F 110 dX10_stepHere_105 (by decide) ⟨fun hc => ?_, fun hc => ?_⟩
            · have h := h.1 hc
              refine z_aload_n F dX10_stepHere_110 rfl ?_
              refine z_iconst F 4 dX10_stepHere_111 (by decide) ?_
              refine z_iconst F 1 dX10_stepHere_112 (by decide) ?_
              refine z_bipush F 25 dX10_stepHere_113 (by decide) ?_
              refine z_iconst F 0 dX10_stepHere_115 (by decide) ?_
              refine z_iconst F 0 dX10_stepHere_116 (by decide) ?_
              refine z_iconst F 0 dX10_stepHere_117 (by decide) ?_
              refine z_callV F (k' := 4) (mc' := 0) [.int 4, .int 1, .int 25, .int 0, .int 0, .int 0] [] dX10_stepHere_118 rfl rfl (by decide) rfl cl_X10_144 hy_X10_isWord (by omega) (by decide) (by decide) (Nat.le_of_ble_eq_true rfl) rfl (con_mono h ?_ (fun _ _ h => h))
              rintro _ w14 ⟨v13, rfl, h⟩
              show Z M G 0 K X w14 121 [some (.ref (G.2.1 40 0))] [.int v13]
              refine z_if_eq F 127 dX10_stepHere_121 (by decide) ⟨fun hc => ?_, fun hc => ?_⟩
              · have h := h.1 hc
                refine z_aload_n F dX10_stepHere_127 rfl ?_
                refine z_iconst F 1 dX10_stepHere_128 (by decide) ?_
                refine z_bipush F 7 dX10_stepHere_129 (by decide) ?_
                refine z_iconst F 1 dX10_stepHere_131 (by decide) ?_
                refine z_bipush F 9 dX10_stepHere_132 (by decide) ?_
                refine z_bipush F 14 dX10_stepHere_134 (by decide) ?_
                refine z_iconst F 0 dX10_stepHere_136 (by decide) ?_
                refine z_callV F (k' := 4) (mc' := 0) [.int 1, .int 7, .int 1, .int 9, .int 14, .int 0] [] dX10_stepHere_137 rfl rfl (by decide) rfl cl_X10_144 hy_X10_isWord (by omega) (by decide) (by decide) (Nat.le_of_ble_eq_true rfl) rfl (con_mono h ?_ (fun _ _ h => h))
                rintro _ w16 ⟨v15, rfl, h⟩
                show Z M G 0 K X w16 140 [some (.ref (G.2.1 40 0))] [.int v15]
                refine z_if_eq F 148 dX10_stepHere_140 (by decide) ⟨fun hc => ?_, fun hc => ?_⟩
                · have h := h.1 hc
                  refine z_iconst F (-1) dX10_stepHere_148 (by decide) ?_
                  exact z_iret F dX10_stepHere_149 (by decide) h
                · have h := h.2 hc
                  refine z_bipush F 7 dX10_stepHere_143 (by decide) ?_
                  refine z_goto F 149 dX10_stepHere_145 (by decide) ?_
                  exact z_iret F dX10_stepHere_149 (by decide) h
              · have h := h.2 hc
                refine z_bipush F 6 dX10_stepHere_124 (by decide) ?_
                exact z_iret F dX10_stepHere_126 (by decide) h
            · have h := h.2 hc
              refine z_iconst F 5 dX10_stepHere_108 (by decide) ?_
              exact z_iret F dX10_stepHere_109 (by decide) h
          · have h := h.2 hc
            refine z_iconst F 4 dX10_stepHere_90 (by decide) ?_
            exact z_iret F dX10_stepHere_91 (by decide) h
        · have h := h.2 hc
          refine z_iconst F 3 dX10_stepHere_73 (by decide) ?_
          exact z_iret F dX10_stepHere_74 (by decide) h
      · have h := h.2 hc
        refine z_iconst F 2 dX10_stepHere_54 (by decide) ?_
        exact z_iret F dX10_stepHere_55 (by decide) h
    · have h := h.2 hc
      refine z_iconst F 1 dX10_stepHere_36 (by decide) ?_
      exact z_iret F dX10_stepHere_37 (by decide) h
  · have h := h.2 hc
    refine z_iconst F 0 dX10_stepHere_17 (by decide) ?_
    exact z_iret F dX10_stepHere_18 (by decide) h
set_option maxRecDepth 20000 in
theorem e_X10_readsStep {l : Launch} {G : Gx} {w : Wd}  {kr : Nat} (hkb : 6 ≤ kr) {K : Option Value → Wd → Prop} {X : String → Wd → Prop} (hl : l.stackTraces = false)
    (h : ∀ (M : Mx) (kk : Nat), mL M = l → (kr + 1) ≤ kk → Fx M G RX10 cX10_readsStep 3 none kk 0 → Con (mL M) G 5 0 yX10_stepHere cX10_stepHere 1 (some .int) w [.ref (G.2.1 40 0)] (fun r w2 => ∃ v1 : Int32, r = some (.int v1) ∧ ((¬ v1 = (-1) → Z M G 0 K X w2 19 [some (.ref (G.2.1 40 0)), some (.int v1), none] []) ∧ (¬ (¬ v1 = (-1)) → Con (mL M) G 1 0 yX10_wrong cX10_wrong 3 none w2 [.ref (G.2.1 40 0), .int 1, .int (w2.1 40 0 4)] (fun r w4 => r = none ∧ Z M G 0 K X w4 19 [some (.ref (G.2.1 40 0)), some (.int v1), none] []) X))) X) :
    Con l G (kr + 1) 0 yX10_readsStep cX10_readsStep 3 none w [.ref (G.2.1 40 0)] K X := by
  refine con_intro hl (by decide +kernel) (Nat.le_of_ble_eq_true rfl) (Nat.le_of_ble_eq_true rfl) (fun M kk hM hk F => ?_)
  have h := h M kk hM hk F
  show Z M G 0 K X w 0 [some (.ref (G.2.1 40 0)), none, none] []
  refine z_aload_n F dX10_readsStep_0 rfl ?_
  refine z_callV F (k' := 5) (mc' := 0) [] [] dX10_readsStep_1 rfl rfl (by decide) rfl cl_X10_245 hy_X10_stepHere (by omega) (by decide) (by decide) (Nat.le_of_ble_eq_true rfl) rfl (con_mono h ?_ (fun _ _ h => h))
  rintro _ w2 ⟨v1, rfl, h⟩
  show Z M G 0 K X w2 4 [some (.ref (G.2.1 40 0)), none, none] [.int v1]
  refine z_istore_n F dX10_readsStep_4 (Nat.le_of_ble_eq_true rfl) ?_
  refine z_iload_n F dX10_readsStep_5 rfl ?_
  refine z_iconst F (-1) dX10_readsStep_6 (by decide) ?_
  refine z_icmp_ne F 19 dX10_readsStep_7 (by decide) ⟨fun hc => ?_, fun hc => ?_⟩
  · have h := h.1 hc
    exact h
  · have h := h.2 hc
    refine z_aload_n F dX10_readsStep_10 rfl ?_
    refine z_iconst F 1 dX10_readsStep_11 (by decide) ?_
    refine z_aload_n F dX10_readsStep_12 rfl ?_
    refine z_getI F 4 rfl (by decide) (by decide) rfl lk_X10_104 dX10_readsStep_13 ?_
    refine z_callV F (k' := 1) (mc' := 0) [.int 1, .int (w2.1 40 0 4)] [] dX10_readsStep_16 rfl rfl (by decide) rfl cl_X10_124 hy_X10_wrong (by omega) (by decide) (by decide) (Nat.le_of_ble_eq_true rfl) rfl (con_mono h ?_ (fun _ _ h => h))
    rintro _ w4 ⟨rfl, h⟩
    show Z M G 0 K X w4 19 [some (.ref (G.2.1 40 0)), some (.int v1), none] []
    exact h
set_option maxRecDepth 20000 in
theorem b_X10_readsStep_19 {M : Mx} {G : Gx} {kk : Nat} {w : Wd}  {kr : Nat} (hkb : 6 ≤ kr) {x1 : Int32} {K : Option Value → Wd → Prop} {X : String → Wd → Prop} (F : Fx M G RX10 cX10_readsStep 3 none kk 0) (hk : (kr + 1) ≤ kk)
    (h : ((¬ x1 = 7 → Z M G 0 K X w 33 [some (.ref (G.2.1 40 0)), some (.int x1), none] []) ∧ (¬ (¬ x1 = 7) → Con (mL M) G 2 0 yX10_opensOne cX10_opensOne 1 (some .boolean) w [.ref (G.2.1 40 0)] (fun r w2 => ∃ v1 : Int32, r = some (.int v1) ∧ ((¬ v1 = 0 → Z M G 0 K X w2 33 [some (.ref (G.2.1 40 0)), some (.int x1), none] []) ∧ (¬ (¬ v1 = 0) → K none w2))) X))) :
    Z M G 0 K X w 19 [some (.ref (G.2.1 40 0)), some (.int x1), none] [] := by
  refine z_iload_n F dX10_readsStep_19 rfl ?_
  refine z_bipush F 7 dX10_readsStep_20 (by decide) ?_
  refine z_icmp_ne F 33 dX10_readsStep_22 (by decide) ⟨fun hc => ?_, fun hc => ?_⟩
  · have h := h.1 hc
    exact h
  · have h := h.2 hc
    refine z_aload_n F dX10_readsStep_25 rfl ?_
    refine z_callV F (k' := 2) (mc' := 0) [] [] dX10_readsStep_26 rfl rfl (by decide) rfl cl_X10_225 hy_X10_opensOne (by omega) (by decide) (by decide) (Nat.le_of_ble_eq_true rfl) rfl (con_mono h ?_ (fun _ _ h => h))
    rintro _ w2 ⟨v1, rfl, h⟩
    show Z M G 0 K X w2 29 [some (.ref (G.2.1 40 0)), some (.int x1), none] [.int v1]
    refine z_if_ne F 33 dX10_readsStep_29 (by decide) ⟨fun hc => ?_, fun hc => ?_⟩
    · have h := h.1 hc
      exact h
    · have h := h.2 hc
      exact z_vret F dX10_readsStep_32 (by decide) h
set_option maxRecDepth 20000 in
theorem b_X10_readsStep_33 {M : Mx} {G : Gx} {kk : Nat} {w : Wd}  {kr : Nat} (hkb : 6 ≤ kr) {x1 : Int32} {K : Option Value → Wd → Prop} {X : String → Wd → Prop} (F : Fx M G RX10 cX10_readsStep 3 none kk 0) (hk : (kr + 1) ≤ kk)
    (h : (((w.1 40 0 5) = 0 → Con (mL M) G 2 0 yX10_skipWord cX10_skipWord 1 none w [.ref (G.2.1 40 0)] (fun r w2 => r = none ∧ (vp_in (w2.1 40 0 28) 80 ∧ (∀ w4 : Wd, w4 = setI w2 40 0 28 ((w2.1 40 0 28) + (1 : Int32)) → (∀ w5 : Wd, w5 = setI w4 68 ((w2.1 40 0 28 : Int32).toNatClampNeg) 0 x1 → ((x1 = 0 → Z M G 0 K X w5 78 [some (.ref (G.2.1 40 0)), some (.int x1), some (.ref (G.2.1 68 ((w2.1 40 0 28 : Int32).toNatClampNeg)))] []) ∧ (¬ (x1 = 0) → ((¬ x1 = 5 → Z M G 0 K X w5 94 [some (.ref (G.2.1 40 0)), some (.int x1), some (.ref (G.2.1 68 ((w2.1 40 0 28 : Int32).toNatClampNeg)))] []) ∧ (¬ (¬ x1 = 5) → Z M G 0 K X w5 78 [some (.ref (G.2.1 40 0)), some (.int x1), some (.ref (G.2.1 68 ((w2.1 40 0 28 : Int32).toNatClampNeg)))] [])))))))) X) ∧ (¬ ((w.1 40 0 5) = 0) → K none w))) :
    Z M G 0 K X w 33 [some (.ref (G.2.1 40 0)), some (.int x1), none] [] := by
  refine z_aload_n F dX10_readsStep_33 rfl ?_
  refine z_getI F 5 rfl (by decide) (by decide) rfl lk_X10_111 dX10_readsStep_34 ?_
  refine z_if_eq F 41 dX10_readsStep_37 (by decide) ⟨fun hc => ?_, fun hc => ?_⟩
  · have h := h.1 hc
    refine z_aload_n F dX10_readsStep_41 rfl ?_
    refine z_callV F (k' := 2) (mc' := 0) [] [] dX10_readsStep_42 rfl rfl (by decide) rfl cl_X10_148 hy_X10_skipWord (by omega) (by decide) (by decide) (Nat.le_of_ble_eq_true rfl) rfl (con_mono h ?_ (fun _ _ h => h))
    rintro _ w2 ⟨rfl, h⟩
    show Z M G 0 K X w2 45 [some (.ref (G.2.1 40 0)), some (.int x1), none] []
    refine z_aload_n F dX10_readsStep_45 rfl ?_
    refine z_getR F 27 67 0 rfl (by decide) (by decide) rfl rfl rfl lk_X10_64 dX10_readsStep_46 ?_
    refine z_aload_n F dX10_readsStep_49 rfl ?_
    refine z_getI F 28 rfl (by decide) (by decide) rfl lk_X10_248 dX10_readsStep_50 ?_
    obtain ⟨hb, h⟩ := h
    refine z_aald F 68 ((w2.1 40 0 28 : Int32).toNatClampNeg) rfl (by decide) (by decide) (by decide) rfl rfl hb dX10_readsStep_53 (fun hv3 => ?_)
    refine z_astore_n F dX10_readsStep_54 (Nat.le_of_ble_eq_true rfl) ?_
    refine z_aload_n F dX10_readsStep_55 rfl ?_
    refine z_dup F dX10_readsStep_56 rfl ?_
    refine z_getI F 28 rfl (by decide) (by decide) rfl lk_X10_248 dX10_readsStep_57 ?_
    refine z_iconst F 1 dX10_readsStep_60 (by decide) ?_
    refine z_iadd F dX10_readsStep_61 ?_
    refine z_putIW F 28 rfl (by decide) (by decide) rfl lk_X10_248 dX10_readsStep_62 (fun w4 hw4 => ?_)
    have h := h w4 hw4
    refine z_aload_n F dX10_readsStep_65 rfl ?_
    refine z_iconst F 0 dX10_readsStep_66 (by decide) ?_
    refine z_iload_n F dX10_readsStep_67 rfl ?_
    refine z_iastW F 0 (by decide) rfl hv3 (by unfold vp_in; decide) dX10_readsStep_68 (fun w5 hw5 => ?_)
    have h := h w5 hw5
    refine z_iload_n F dX10_readsStep_69 rfl ?_
    refine z_if_eq F 78 dX10_readsStep_70 (by decide) ⟨fun hc => ?_, fun hc => ?_⟩
    · have h := h.1 hc
      exact h
    · have h := h.2 hc
      refine z_iload_n F dX10_readsStep_73 rfl ?_
      refine z_iconst F 5 dX10_readsStep_74 (by decide) ?_
      refine z_icmp_ne F 94 dX10_readsStep_75 (by decide) ⟨fun hc => ?_, fun hc => ?_⟩
      · have h := h.1 hc
        exact h
      · have h := h.2 hc
        exact h
  · have h := h.2 hc
    exact z_vret F dX10_readsStep_40 (by decide) h
set_option maxRecDepth 20000 in
theorem b_X10_readsStep_78 {M : Mx} {G : Gx} {kk : Nat} {w : Wd}  {kr : Nat} (hkb : 6 ≤ kr) {x1 : Int32} {y2 : Nat} (hy2 : y2 < cnt 68) {K : Option Value → Wd → Prop} {X : String → Wd → Prop} (F : Fx M G RX10 cX10_readsStep 3 none kk 0) (hk : (kr + 1) ≤ kk)
    (h : Con (mL M) G 3 0 yX10_number cX10_number 5 (some .int) w [.ref (G.2.1 40 0), .int 0, .int ((w.1 44 0 1) - (1 : Int32))] (fun r w2 => ∃ v1 : Int32, r = some (.int v1) ∧ (∀ w3 : Wd, w3 = setI w2 68 y2 1 v1 → Z M G 0 K X w3 94 [some (.ref (G.2.1 40 0)), some (.int x1), some (.ref (G.2.1 68 y2))] [])) X) :
    Z M G 0 K X w 78 [some (.ref (G.2.1 40 0)), some (.int x1), some (.ref (G.2.1 68 y2))] [] := by
  refine z_aload_n F dX10_readsStep_78 rfl ?_
  refine z_iconst F 1 dX10_readsStep_79 (by decide) ?_
  refine z_aload_n F dX10_readsStep_80 rfl ?_
  refine z_iconst F 0 dX10_readsStep_81 (by decide) ?_
  refine z_aload_n F dX10_readsStep_82 rfl ?_
  refine z_getR F 12 44 0 rfl (by decide) (by decide) rfl rfl rfl lk_X10_23 dX10_readsStep_83 ?_
  refine z_iconst F 1 dX10_readsStep_86 (by decide) ?_
  refine z_ialdK F 1 (by decide) rfl (by decide) (by unfold vp_in; decide) dX10_readsStep_87 ?_
  refine z_iconst F 1 dX10_readsStep_88 (by decide) ?_
  refine z_isub F dX10_readsStep_89 ?_
  refine z_callV F (k' := 3) (mc' := 0) [.int 0, .int ((w.1 44 0 1) - (1 : Int32))] [.int 1, .ref (G.2.1 68 y2)] dX10_readsStep_90 rfl rfl (by decide) rfl cl_X10_163 hy_X10_number (by omega) (by decide) (by decide) (Nat.le_of_ble_eq_true rfl) rfl (con_mono h ?_ (fun _ _ h => h))
  rintro _ w2 ⟨v1, rfl, h⟩
  show Z M G 0 K X w2 93 [some (.ref (G.2.1 40 0)), some (.int x1), some (.ref (G.2.1 68 y2))] [.int v1, .int 1, .ref (G.2.1 68 y2)]
  refine z_iastW F 1 (by decide) rfl hy2 (by unfold vp_in; decide) dX10_readsStep_93 (fun w3 hw3 => ?_)
  have h := h w3 hw3
  exact h
set_option maxRecDepth 20000 in
theorem b_X10_readsStep_94 {M : Mx} {G : Gx} {kk : Nat} {w : Wd}  {kr : Nat} (hkb : 6 ≤ kr) {x1 : Int32} {y2 : Nat} (hy2 : y2 < cnt 68) {K : Option Value → Wd → Prop} {X : String → Wd → Prop} (F : Fx M G RX10 cX10_readsStep 3 none kk 0) (hk : (kr + 1) ≤ kk)
    (h : ((x1 = 3 → Z M G 0 K X w 104 [some (.ref (G.2.1 40 0)), some (.int x1), some (.ref (G.2.1 68 y2))] []) ∧ (¬ (x1 = 3) → ((¬ x1 = 4 → Z M G 0 K X w 120 [some (.ref (G.2.1 40 0)), some (.int x1), some (.ref (G.2.1 68 y2))] []) ∧ (¬ (¬ x1 = 4) → Z M G 0 K X w 104 [some (.ref (G.2.1 40 0)), some (.int x1), some (.ref (G.2.1 68 y2))] []))))) :
    Z M G 0 K X w 94 [some (.ref (G.2.1 40 0)), some (.int x1), some (.ref (G.2.1 68 y2))] [] := by
  refine z_iload_n F dX10_readsStep_94 rfl ?_
  refine z_iconst F 3 dX10_readsStep_95 (by decide) ?_
  refine z_icmp_eq F 104 dX10_readsStep_96 (by decide) ⟨fun hc => ?_, fun hc => ?_⟩
  · have h := h.1 hc
    exact h
  · have h := h.2 hc
    refine z_iload_n F dX10_readsStep_99 rfl ?_
    refine z_iconst F 4 dX10_readsStep_100 (by decide) ?_
    refine z_icmp_ne F 120 dX10_readsStep_101 (by decide) ⟨fun hc => ?_, fun hc => ?_⟩
    · have h := h.1 hc
      exact h
    · have h := h.2 hc
      exact h
set_option maxRecDepth 20000 in
theorem b_X10_readsStep_104 {M : Mx} {G : Gx} {kk : Nat} {w : Wd}  {kr : Nat} (hkb : 6 ≤ kr) {x1 : Int32} {y2 : Nat} (hy2 : y2 < cnt 68) {K : Option Value → Wd → Prop} {X : String → Wd → Prop} (F : Fx M G RX10 cX10_readsStep 3 none kk 0) (hk : (kr + 1) ≤ kk)
    (h : Con (mL M) G 3 0 yX10_number cX10_number 5 (some .int) w [.ref (G.2.1 40 0), .int 0, .int ((w.1 44 0 0) - (1 : Int32))] (fun r w2 => ∃ v1 : Int32, r = some (.int v1) ∧ (∀ w3 : Wd, w3 = setI w2 68 y2 1 v1 → Z M G 0 K X w3 120 [some (.ref (G.2.1 40 0)), some (.int x1), some (.ref (G.2.1 68 y2))] [])) X) :
    Z M G 0 K X w 104 [some (.ref (G.2.1 40 0)), some (.int x1), some (.ref (G.2.1 68 y2))] [] := by
  refine z_aload_n F dX10_readsStep_104 rfl ?_
  refine z_iconst F 1 dX10_readsStep_105 (by decide) ?_
  refine z_aload_n F dX10_readsStep_106 rfl ?_
  refine z_iconst F 0 dX10_readsStep_107 (by decide) ?_
  refine z_aload_n F dX10_readsStep_108 rfl ?_
  refine z_getR F 12 44 0 rfl (by decide) (by decide) rfl rfl rfl lk_X10_23 dX10_readsStep_109 ?_
  refine z_iconst F 0 dX10_readsStep_112 (by decide) ?_
  refine z_ialdK F 0 (by decide) rfl (by decide) (by unfold vp_in; decide) dX10_readsStep_113 ?_
  refine z_iconst F 1 dX10_readsStep_114 (by decide) ?_
  refine z_isub F dX10_readsStep_115 ?_
  refine z_callV F (k' := 3) (mc' := 0) [.int 0, .int ((w.1 44 0 0) - (1 : Int32))] [.int 1, .ref (G.2.1 68 y2)] dX10_readsStep_116 rfl rfl (by decide) rfl cl_X10_163 hy_X10_number (by omega) (by decide) (by decide) (Nat.le_of_ble_eq_true rfl) rfl (con_mono h ?_ (fun _ _ h => h))
  rintro _ w2 ⟨v1, rfl, h⟩
  show Z M G 0 K X w2 119 [some (.ref (G.2.1 40 0)), some (.int x1), some (.ref (G.2.1 68 y2))] [.int v1, .int 1, .ref (G.2.1 68 y2)]
  refine z_iastW F 1 (by decide) rfl hy2 (by unfold vp_in; decide) dX10_readsStep_119 (fun w3 hw3 => ?_)
  have h := h w3 hw3
  exact h
set_option maxRecDepth 20000 in
theorem b_X10_readsStep_120 {M : Mx} {G : Gx} {kk : Nat} {w : Wd}  {kr : Nat} (hkb : 6 ≤ kr) {x1 : Int32} {y2 : Nat} (hy2 : y2 < cnt 68) {K : Option Value → Wd → Prop} {X : String → Wd → Prop} (F : Fx M G RX10 cX10_readsStep 3 none kk 0) (hk : (kr + 1) ≤ kk)
    (h : ((¬ x1 = 5 → Z M G 0 K X w 134 [some (.ref (G.2.1 40 0)), some (.int x1), some (.ref (G.2.1 68 y2))] []) ∧ (¬ (¬ x1 = 5) → Con (mL M) G 3 0 yX10_number cX10_number 5 (some .int) w [.ref (G.2.1 40 0), .int 0, .int 5] (fun r w2 => ∃ v1 : Int32, r = some (.int v1) ∧ (∀ w3 : Wd, w3 = setI w2 68 y2 2 v1 → Z M G 0 K X w3 134 [some (.ref (G.2.1 40 0)), some (.int x1), some (.ref (G.2.1 68 y2))] [])) X))) :
    Z M G 0 K X w 120 [some (.ref (G.2.1 40 0)), some (.int x1), some (.ref (G.2.1 68 y2))] [] := by
  refine z_iload_n F dX10_readsStep_120 rfl ?_
  refine z_iconst F 5 dX10_readsStep_121 (by decide) ?_
  refine z_icmp_ne F 134 dX10_readsStep_122 (by decide) ⟨fun hc => ?_, fun hc => ?_⟩
  · have h := h.1 hc
    exact h
  · have h := h.2 hc
    refine z_aload_n F dX10_readsStep_125 rfl ?_
    refine z_iconst F 2 dX10_readsStep_126 (by decide) ?_
    refine z_aload_n F dX10_readsStep_127 rfl ?_
    refine z_iconst F 0 dX10_readsStep_128 (by decide) ?_
    refine z_iconst F 5 dX10_readsStep_129 (by decide) ?_
    refine z_callV F (k' := 3) (mc' := 0) [.int 0, .int 5] [.int 2, .ref (G.2.1 68 y2)] dX10_readsStep_130 rfl rfl (by decide) rfl cl_X10_163 hy_X10_number (by omega) (by decide) (by decide) (Nat.le_of_ble_eq_true rfl) rfl (con_mono h ?_ (fun _ _ h => h))
    rintro _ w2 ⟨v1, rfl, h⟩
    show Z M G 0 K X w2 133 [some (.ref (G.2.1 40 0)), some (.int x1), some (.ref (G.2.1 68 y2))] [.int v1, .int 2, .ref (G.2.1 68 y2)]
    refine z_iastW F 2 (by decide) rfl hy2 (by unfold vp_in; decide) dX10_readsStep_133 (fun w3 hw3 => ?_)
    have h := h w3 hw3
    exact h
set_option maxRecDepth 20000 in
theorem b_X10_readsStep_134 {M : Mx} {G : Gx} {kk : Nat} {w : Wd}  {kr : Nat} (hkb : 6 ≤ kr) {x1 : Int32} {y2 : Nat} (hy2 : y2 < cnt 68) {K : Option Value → Wd → Prop} {X : String → Wd → Prop} (F : Fx M G RX10 cX10_readsStep 3 none kk 0) (hk : (kr + 1) ≤ kk)
    (h : ((¬ x1 = 7 → Z M G 0 K X w 207 [some (.ref (G.2.1 40 0)), none, some (.ref (G.2.1 68 y2))] []) ∧ (¬ (¬ x1 = 7) → Con (mL M) G 3 0 yX10_number cX10_number 5 (some .int) w [.ref (G.2.1 40 0), .int 0, .int 60] (fun r w2 => ∃ v1 : Int32, r = some (.int v1) ∧ (∀ w3 : Wd, w3 = setI w2 68 y2 1 v1 → Con (mL M) G 3 0 yX10_sign cX10_sign 2 none w3 [.ref (G.2.1 40 0), .int 91] (fun r w5 => r = none ∧ Con (mL M) G 2 0 yX10_blanks cX10_blanks 1 none w5 [.ref (G.2.1 40 0)] (fun r w7 => r = none ∧ Z M G 0 K X w7 160 [some (.ref (G.2.1 40 0)), none, some (.ref (G.2.1 68 y2))] []) X) X)) X))) :
    Z M G 0 K X w 134 [some (.ref (G.2.1 40 0)), some (.int x1), some (.ref (G.2.1 68 y2))] [] := by
  refine z_iload_n F dX10_readsStep_134 rfl ?_
  refine z_bipush F 7 dX10_readsStep_135 (by decide) ?_
  refine z_icmp_ne F 207 dX10_readsStep_137 (by decide) ⟨fun hc => ?_, fun hc => ?_⟩
  · have h := h.1 hc
    exact z_weak h (⟨rfl, ⟨rfl, trivial⟩⟩)
  · have h := h.2 hc
    refine z_aload_n F dX10_readsStep_140 rfl ?_
    refine z_iconst F 1 dX10_readsStep_141 (by decide) ?_
    refine z_aload_n F dX10_readsStep_142 rfl ?_
    refine z_iconst F 0 dX10_readsStep_143 (by decide) ?_
    refine z_bipush F 60 dX10_readsStep_144 (by decide) ?_
    refine z_callV F (k' := 3) (mc' := 0) [.int 0, .int 60] [.int 1, .ref (G.2.1 68 y2)] dX10_readsStep_146 rfl rfl (by decide) rfl cl_X10_163 hy_X10_number (by omega) (by decide) (by decide) (Nat.le_of_ble_eq_true rfl) rfl (con_mono h ?_ (fun _ _ h => h))
    rintro _ w2 ⟨v1, rfl, h⟩
    show Z M G 0 K X w2 149 [some (.ref (G.2.1 40 0)), some (.int x1), some (.ref (G.2.1 68 y2))] [.int v1, .int 1, .ref (G.2.1 68 y2)]
    refine z_iastW F 1 (by decide) rfl hy2 (by unfold vp_in; decide) dX10_readsStep_149 (fun w3 hw3 => ?_)
    have h := h w3 hw3
    refine z_aload_n F dX10_readsStep_150 rfl ?_
    refine z_bipush F 91 dX10_readsStep_151 (by decide) ?_
    refine z_callV F (k' := 3) (mc' := 0) [.int 91] [] dX10_readsStep_153 rfl rfl (by decide) rfl cl_X10_167 hy_X10_sign (by omega) (by decide) (by decide) (Nat.le_of_ble_eq_true rfl) rfl (con_mono h ?_ (fun _ _ h => h))
    rintro _ w5 ⟨rfl, h⟩
    show Z M G 0 K X w5 156 [some (.ref (G.2.1 40 0)), some (.int x1), some (.ref (G.2.1 68 y2))] []
    refine z_aload_n F dX10_readsStep_156 rfl ?_
    refine z_callV F (k' := 2) (mc' := 0) [] [] dX10_readsStep_157 rfl rfl (by decide) rfl cl_X10_117 hy_X10_blanks (by omega) (by decide) (by decide) (Nat.le_of_ble_eq_true rfl) rfl (con_mono h ?_ (fun _ _ h => h))
    rintro _ w7 ⟨rfl, h⟩
    show Z M G 0 K X w7 160 [some (.ref (G.2.1 40 0)), some (.int x1), some (.ref (G.2.1 68 y2))] []
    exact z_weak h (⟨rfl, ⟨rfl, trivial⟩⟩)
set_option maxRecDepth 20000 in
theorem b_X10_readsStep_160 {M : Mx} {G : Gx} {kk : Nat} {w : Wd}  {kr : Nat} (hkb : 6 ≤ kr) {y2 : Nat} (hy2 : y2 < cnt 68) {K : Option Value → Wd → Prop} {X : String → Wd → Prop} (F : Fx M G RX10 cX10_readsStep 3 none kk 0) (hk : (kr + 1) ≤ kk)
    (h : ((¬ (w.1 40 0 5) = 0 → Z M G 0 K X w 191 [some (.ref (G.2.1 40 0)), none, some (.ref (G.2.1 68 y2))] []) ∧ (¬ (¬ (w.1 40 0 5) = 0) → Con (mL M) G 1 0 yX10_byteAt cX10_byteAt 2 (some .int) w [.ref (G.2.1 40 0), .int (w.1 40 0 4)] (fun r w2 => ∃ v1 : Int32, r = some (.int v1) ∧ ((v1 = 93 → Z M G 0 K X w2 191 [some (.ref (G.2.1 40 0)), none, some (.ref (G.2.1 68 y2))] []) ∧ (¬ (v1 = 93) → Con (mL M) G kr 0 yX10_readsStep cX10_readsStep 3 none w2 [.ref (G.2.1 40 0)] (fun r w4 => r = none ∧ Con (mL M) G 2 0 yX10_blanks cX10_blanks 1 none w4 [.ref (G.2.1 40 0)] (fun r w6 => r = none ∧ Z M G 0 K X w6 160 [some (.ref (G.2.1 40 0)), none, some (.ref (G.2.1 68 y2))] []) X) X))) X))) :
    Z M G 0 K X w 160 [some (.ref (G.2.1 40 0)), none, some (.ref (G.2.1 68 y2))] [] := by
  refine z_aload_n F dX10_readsStep_160 rfl ?_
  refine z_getI F 5 rfl (by decide) (by decide) rfl lk_X10_111 dX10_readsStep_161 ?_
  refine z_if_ne F 191 dX10_readsStep_164 (by decide) ⟨fun hc => ?_, fun hc => ?_⟩
  · have h := h.1 hc
    exact h
  · have h := h.2 hc
    refine z_aload_n F dX10_readsStep_167 rfl ?_
    refine z_aload_n F dX10_readsStep_168 rfl ?_
    refine z_getI F 4 rfl (by decide) (by decide) rfl lk_X10_104 dX10_readsStep_169 ?_
    refine z_callV F (k' := 1) (mc' := 0) [.int (w.1 40 0 4)] [] dX10_readsStep_172 rfl rfl (by decide) rfl cl_X10_107 hy_X10_byteAt (by omega) (by decide) (by decide) (Nat.le_of_ble_eq_true rfl) rfl (con_mono h ?_ (fun _ _ h => h))
    rintro _ w2 ⟨v1, rfl, h⟩
    show Z M G 0 K X w2 175 [some (.ref (G.2.1 40 0)), none, some (.ref (G.2.1 68 y2))] [.int v1]
    refine z_bipush F 93 dX10_readsStep_175 (by decide) ?_
    refine z_icmp_eq F 191 dX10_readsStep_177 (by decide) ⟨fun hc => ?_, fun hc => ?_⟩
    · have h := h.1 hc
      exact h
    · have h := h.2 hc
      refine z_aload_n F dX10_readsStep_180 rfl ?_
      refine z_callV F (k' := kr) (mc' := 0) [] [] dX10_readsStep_181 rfl rfl (by decide) rfl cl_X10_251 hy_X10_readsStep (by omega) (by decide) (by decide) (Nat.le_of_ble_eq_true rfl) rfl (con_mono h ?_ (fun _ _ h => h))
      rintro _ w4 ⟨rfl, h⟩
      show Z M G 0 K X w4 184 [some (.ref (G.2.1 40 0)), none, some (.ref (G.2.1 68 y2))] []
      refine z_aload_n F dX10_readsStep_184 rfl ?_
      refine z_callV F (k' := 2) (mc' := 0) [] [] dX10_readsStep_185 rfl rfl (by decide) rfl cl_X10_117 hy_X10_blanks (by omega) (by decide) (by decide) (Nat.le_of_ble_eq_true rfl) rfl (con_mono h ?_ (fun _ _ h => h))
      rintro _ w6 ⟨rfl, h⟩
      show Z M G 0 K X w6 188 [some (.ref (G.2.1 40 0)), none, some (.ref (G.2.1 68 y2))] []
      refine z_goto F 160 dX10_readsStep_188 (by decide) ?_
      exact h
set_option maxRecDepth 20000 in
theorem b_X10_readsStep_191 {M : Mx} {G : Gx} {kk : Nat} {w : Wd}  {kr : Nat} (hkb : 6 ≤ kr) {y2 : Nat} (hy2 : y2 < cnt 68) {K : Option Value → Wd → Prop} {X : String → Wd → Prop} (F : Fx M G RX10 cX10_readsStep 3 none kk 0) (hk : (kr + 1) ≤ kk)
    (h : Con (mL M) G 3 0 yX10_sign cX10_sign 2 none w [.ref (G.2.1 40 0), .int 93] (fun r w2 => r = none ∧ (∀ w3 : Wd, w3 = setI w2 40 0 8 ((w2.1 40 0 8) - (1 : Int32)) → Z M G 0 K X w3 207 [some (.ref (G.2.1 40 0)), none, some (.ref (G.2.1 68 y2))] [])) X) :
    Z M G 0 K X w 191 [some (.ref (G.2.1 40 0)), none, some (.ref (G.2.1 68 y2))] [] := by
  refine z_aload_n F dX10_readsStep_191 rfl ?_
  refine z_bipush F 93 dX10_readsStep_192 (by decide) ?_
  refine z_callV F (k' := 3) (mc' := 0) [.int 93] [] dX10_readsStep_194 rfl rfl (by decide) rfl cl_X10_167 hy_X10_sign (by omega) (by decide) (by decide) (Nat.le_of_ble_eq_true rfl) rfl (con_mono h ?_ (fun _ _ h => h))
  rintro _ w2 ⟨rfl, h⟩
  show Z M G 0 K X w2 197 [some (.ref (G.2.1 40 0)), none, some (.ref (G.2.1 68 y2))] []
  refine z_aload_n F dX10_readsStep_197 rfl ?_
  refine z_dup F dX10_readsStep_198 rfl ?_
  refine z_getI F 8 rfl (by decide) (by decide) rfl lk_X10_154 dX10_readsStep_199 ?_
  refine z_iconst F 1 dX10_readsStep_202 (by decide) ?_
  refine z_isub F dX10_readsStep_203 ?_
  refine z_putIW F 8 rfl (by decide) (by decide) rfl lk_X10_154 dX10_readsStep_204 (fun w3 hw3 => ?_)
  have h := h w3 hw3
  exact h
set_option maxRecDepth 20000 in
theorem b_X10_readsStep_207 {M : Mx} {G : Gx} {kk : Nat} {w : Wd}  {kr : Nat} (hkb : 6 ≤ kr) {y2 : Nat} (hy2 : y2 < cnt 68) {K : Option Value → Wd → Prop} {X : String → Wd → Prop} (F : Fx M G RX10 cX10_readsStep 3 none kk 0) (hk : (kr + 1) ≤ kk)
    (h : (∀ w1 : Wd, w1 = setI w 68 y2 3 (w.1 40 0 28) → Con (mL M) G 3 0 yX10_sign cX10_sign 2 none w1 [.ref (G.2.1 40 0), .int 59] (fun r w3 => r = none ∧ K none w3) X)) :
    Z M G 0 K X w 207 [some (.ref (G.2.1 40 0)), none, some (.ref (G.2.1 68 y2))] [] := by
  refine z_aload_n F dX10_readsStep_207 rfl ?_
  refine z_iconst F 3 dX10_readsStep_208 (by decide) ?_
  refine z_aload_n F dX10_readsStep_209 rfl ?_
  refine z_getI F 28 rfl (by decide) (by decide) rfl lk_X10_248 dX10_readsStep_210 ?_
  refine z_iastW F 3 (by decide) rfl hy2 (by unfold vp_in; decide) dX10_readsStep_213 (fun w1 hw1 => ?_)
  have h := h w1 hw1
  refine z_aload_n F dX10_readsStep_214 rfl ?_
  refine z_bipush F 59 dX10_readsStep_215 (by decide) ?_
  refine z_callV F (k' := 3) (mc' := 0) [.int 59] [] dX10_readsStep_217 rfl rfl (by decide) rfl cl_X10_167 hy_X10_sign (by omega) (by decide) (by decide) (Nat.le_of_ble_eq_true rfl) rfl (con_mono h ?_ (fun _ _ h => h))
  rintro _ w3 ⟨rfl, h⟩
  show Z M G 0 K X w3 220 [some (.ref (G.2.1 40 0)), none, some (.ref (G.2.1 68 y2))] []
  exact z_vret F dX10_readsStep_220 (by decide) h
set_option maxRecDepth 20000 in
theorem e_X10_book {l : Launch} {G : Gx} {w : Wd} {p0 : Int32} {K : Option Value → Wd → Prop} {X : String → Wd → Prop} (hl : l.stackTraces = false)
    (h : ∀ (M : Mx) (kk : Nat), mL M = l → 4 ≤ kk → Fx M G RX10 cX10_book 7 (some .int) kk 0 → (∀ w1 : Wd, w1 = setI w 40 0 0 0 → Con (mL M) G 1 0 yX10_in cX10_in 3 (some .boolean) w1 [.int p0, .int 0, .int (w1.1 40 0 1)] (fun r w3 => ∃ v2 : Int32, r = some (.int v2) ∧ ((v2 = 0 → Z M G 0 K X w3 24 [some (.ref (G.2.1 40 0)), some (.int p0), none, none, none, none, none] [.ref (G.2.1 40 0)]) ∧ (¬ (v2 = 0) → ((p0 ≤ 60 → Z M G 0 K X w3 29 [some (.ref (G.2.1 40 0)), some (.int p0), none, none, none, none, none] [.int 0, .ref (G.2.1 40 0)]) ∧ (¬ (p0 ≤ 60) → Z M G 0 K X w3 24 [some (.ref (G.2.1 40 0)), some (.int p0), none, none, none, none, none] [.ref (G.2.1 40 0)]))))) X)) :
    Con l G 4 0 yX10_book cX10_book 7 (some .int) w [.ref (G.2.1 40 0), .int p0] K X := by
  refine con_intro hl (by decide +kernel) (Nat.le_of_ble_eq_true rfl) (Nat.le_of_ble_eq_true rfl) (fun M kk hM hk F => ?_)
  have h := h M kk hM hk F
  show Z M G 0 K X w 0 [some (.ref (G.2.1 40 0)), some (.int p0), none, none, none, none, none] []
  refine z_aload_n F dX10_book_0 rfl ?_
  refine z_iconst F 0 dX10_book_1 (by decide) ?_
  refine z_putIW F 0 rfl (by decide) (by decide) rfl lk_X10_95 dX10_book_2 (fun w1 hw1 => ?_)
  have h := h w1 hw1
  refine z_aload_n F dX10_book_5 rfl ?_
  refine z_iload_n F dX10_book_6 rfl ?_
  refine z_iconst F 0 dX10_book_7 (by decide) ?_
  refine z_aload_n F dX10_book_8 rfl ?_
  refine z_getI F 1 rfl (by decide) (by decide) rfl lk_X10_98 dX10_book_9 ?_
  refine z_callS F (k' := 1) (mc' := 0) [.int p0, .int 0, .int (w1.1 40 0 1)] [.ref (G.2.1 40 0)] dX10_book_12 rfl cl_X10_129 hy_X10_in.2 (by omega) (by decide) (by decide) (Nat.le_of_ble_eq_true rfl) rfl (con_mono h ?_ (fun _ _ h => h))
  rintro _ w3 ⟨v2, rfl, h⟩
  show Z M G 0 K X w3 15 [some (.ref (G.2.1 40 0)), some (.int p0), none, none, none, none, none] [.int v2, .ref (G.2.1 40 0)]
  refine z_if_eq F 24 dX10_book_15 (by decide) ⟨fun hc => ?_, fun hc => ?_⟩
  · have h := h.1 hc
    exact h
  · have h := h.2 hc
    refine z_iload_n F dX10_book_18 rfl ?_
    refine z_bipush F 60 dX10_book_19 (by decide) ?_
    refine z_icmp_le F 28 dX10_book_21 (by decide) ⟨fun hc => ?_, fun hc => ?_⟩
    · have h := h.1 hc
      refine z_iconst F 0 dX10_book_28 (by decide) ?_
      exact h
    · have h := h.2 hc
      exact h
set_option maxRecDepth 20000 in
theorem b_X10_book_24 {M : Mx} {G : Gx} {kk : Nat} {w : Wd}  {x1 : Int32} {K : Option Value → Wd → Prop} {X : String → Wd → Prop} (F : Fx M G RX10 cX10_book 7 (some .int) kk 0) (hk : 4 ≤ kk)
    (h : Z M G 0 K X w 29 [some (.ref (G.2.1 40 0)), some (.int x1), none, none, none, none, none] [.int 1, .ref (G.2.1 40 0)]) :
    Z M G 0 K X w 24 [some (.ref (G.2.1 40 0)), some (.int x1), none, none, none, none, none] [.ref (G.2.1 40 0)] := by
  refine z_iconst F 1 dX10_book_24 (by decide) ?_
  refine z_goto F 29 dX10_book_25 (by decide) ?_
  exact h
set_option maxRecDepth 20000 in
theorem b_X10_book_29 {M : Mx} {G : Gx} {kk : Nat} {w : Wd}  {x1 : Int32} {s0 : Int32} {K : Option Value → Wd → Prop} {X : String → Wd → Prop} (F : Fx M G RX10 cX10_book 7 (some .int) kk 0) (hk : 4 ≤ kk)
    (h : Con (mL M) G 1 0 yX10_bad cX10_bad 4 (some .boolean) w [.ref (G.2.1 40 0), .int s0, .int 1, .int 1] (fun r w2 => ∃ v1 : Int32, r = some (.int v1) ∧ ((v1 = 0 → Con (mL M) G 3 0 yX10_starts cX10_starts 2 none w2 [.ref (G.2.1 40 0), .int x1] (fun r w4 => r = none ∧ Z M G 0 K X w4 48 [some (.ref (G.2.1 40 0)), none, some (.int 0), some (.int 0), none, none, none] []) X) ∧ (¬ (v1 = 0) → K (some (.int 0)) w2))) X) :
    Z M G 0 K X w 29 [some (.ref (G.2.1 40 0)), some (.int x1), none, none, none, none, none] [.int s0, .ref (G.2.1 40 0)] := by
  refine z_iconst F 1 dX10_book_29 (by decide) ?_
  refine z_iconst F 1 dX10_book_30 (by decide) ?_
  refine z_callV F (k' := 1) (mc' := 0) [.int s0, .int 1, .int 1] [] dX10_book_31 rfl rfl (by decide) rfl cl_X10_171 hy_X10_bad (by omega) (by decide) (by decide) (Nat.le_of_ble_eq_true rfl) rfl (con_mono h ?_ (fun _ _ h => h))
  rintro _ w2 ⟨v1, rfl, h⟩
  show Z M G 0 K X w2 34 [some (.ref (G.2.1 40 0)), some (.int x1), none, none, none, none, none] [.int v1]
  refine z_if_eq F 39 dX10_book_34 (by decide) ⟨fun hc => ?_, fun hc => ?_⟩
  · have h := h.1 hc
    refine z_aload_n F dX10_book_39 rfl ?_
    refine z_iload_n F dX10_book_40 rfl ?_
    refine z_callV F (k' := 3) (mc' := 0) [.int x1] [] dX10_book_41 rfl rfl (by decide) rfl cl_X10_175 hy_X10_starts (by omega) (by decide) (by decide) (Nat.le_of_ble_eq_true rfl) rfl (con_mono h ?_ (fun _ _ h => h))
    rintro _ w4 ⟨rfl, h⟩
    show Z M G 0 K X w4 44 [some (.ref (G.2.1 40 0)), some (.int x1), none, none, none, none, none] []
    refine z_iconst F 0 dX10_book_44 (by decide) ?_
    refine z_istore_n F dX10_book_45 (Nat.le_of_ble_eq_true rfl) ?_
    refine z_iconst F 0 dX10_book_46 (by decide) ?_
    refine z_istore_n F dX10_book_47 (Nat.le_of_ble_eq_true rfl) ?_
    exact z_weak h (⟨rfl, ⟨rfl, ⟨rfl, trivial⟩⟩⟩)
  · have h := h.2 hc
    refine z_iconst F 0 dX10_book_37 (by decide) ?_
    exact z_iret F dX10_book_38 (by decide) h
set_option maxRecDepth 20000 in
theorem b_X10_book_48 {M : Mx} {G : Gx} {kk : Nat} {w : Wd}  {x2 : Int32} {x3 : Int32} {K : Option Value → Wd → Prop} {X : String → Wd → Prop} (F : Fx M G RX10 cX10_book 7 (some .int) kk 0) (hk : 4 ≤ kk)
    (h : ((¬ (w.1 40 0 5) = 0 → Z M G 0 K X w 168 [some (.ref (G.2.1 40 0)), none, some (.int x2), none, none, none, none] []) ∧ (¬ (¬ (w.1 40 0 5) = 0) → (((w.1 40 0 2) ≤ (w.1 40 0 4) → Z M G 0 K X w 168 [some (.ref (G.2.1 40 0)), none, some (.int x2), none, none, none, none] []) ∧ (¬ ((w.1 40 0 2) ≤ (w.1 40 0 4)) → Con (mL M) G 3 0 yX10_number cX10_number 5 (some .int) w [.ref (G.2.1 40 0), .int 0, .int ((w.1 44 0 1) - (1 : Int32))] (fun r w2 => ∃ v1 : Int32, r = some (.int v1) ∧ ((¬ (w2.1 40 0 5) = 0 → Z M G 0 K X w2 110 [some (.ref (G.2.1 40 0)), none, some (.int x2), some (.int x3), none, some (.int v1), none] []) ∧ (¬ (¬ (w2.1 40 0 5) = 0) → Con (mL M) G 1 0 yX10_has cX10_has 2 (some .boolean) w2 [.int x3, .int v1] (fun r w4 => ∃ v3 : Int32, r = some (.int v3) ∧ ((v3 = 0 → Z M G 0 K X w4 110 [some (.ref (G.2.1 40 0)), none, some (.int x2), some (.int x3), none, some (.int v1), none] []) ∧ (¬ (v3 = 0) → Con (mL M) G 1 0 yX10_wrong cX10_wrong 3 none w4 [.ref (G.2.1 40 0), .int 2, .int (w.1 40 0 4)] (fun r w6 => r = none ∧ Z M G 0 K X w6 110 [some (.ref (G.2.1 40 0)), none, some (.int x2), some (.int x3), none, some (.int v1), none] []) X))) X))) X))))) :
    Z M G 0 K X w 48 [some (.ref (G.2.1 40 0)), none, some (.int x2), some (.int x3), none, none, none] [] := by
  refine z_aload_n F dX10_book_48 rfl ?_
  refine z_getI F 5 rfl (by decide) (by decide) rfl lk_X10_111 dX10_book_49 ?_
  refine z_if_ne F 168 dX10_book_52 (by decide) ⟨fun hc => ?_, fun hc => ?_⟩
  · have h := h.1 hc
    exact z_weak h (⟨rfl, ⟨rfl, trivial⟩⟩)
  · have h := h.2 hc
    refine z_aload_n F dX10_book_55 rfl ?_
    refine z_getI F 4 rfl (by decide) (by decide) rfl lk_X10_104 dX10_book_56 ?_
    refine z_aload_n F dX10_book_59 rfl ?_
    refine z_getI F 2 rfl (by decide) (by decide) rfl lk_X10_101 dX10_book_60 ?_
    refine z_icmp_ge F 168 dX10_book_63 (by decide) ⟨fun hc => ?_, fun hc => ?_⟩
    · have h := h.1 hc
      exact z_weak h (⟨rfl, ⟨rfl, trivial⟩⟩)
    · have h := h.2 hc
      refine z_aload_n F dX10_book_66 rfl ?_
      refine z_getI F 4 rfl (by decide) (by decide) rfl lk_X10_104 dX10_book_67 ?_
      refine z_istore F dX10_book_70 (Nat.le_of_ble_eq_true rfl) ?_
      refine z_aload_n F dX10_book_72 rfl ?_
      refine z_iconst F 0 dX10_book_73 (by decide) ?_
      refine z_aload_n F dX10_book_74 rfl ?_
      refine z_getR F 12 44 0 rfl (by decide) (by decide) rfl rfl rfl lk_X10_23 dX10_book_75 ?_
      refine z_iconst F 1 dX10_book_78 (by decide) ?_
      refine z_ialdK F 1 (by decide) rfl (by decide) (by unfold vp_in; decide) dX10_book_79 ?_
      refine z_iconst F 1 dX10_book_80 (by decide) ?_
      refine z_isub F dX10_book_81 ?_
      refine z_callV F (k' := 3) (mc' := 0) [.int 0, .int ((w.1 44 0 1) - (1 : Int32))] [] dX10_book_82 rfl rfl (by decide) rfl cl_X10_163 hy_X10_number (by omega) (by decide) (by decide) (Nat.le_of_ble_eq_true rfl) rfl (con_mono h ?_ (fun _ _ h => h))
      rintro _ w2 ⟨v1, rfl, h⟩
      show Z M G 0 K X w2 85 [some (.ref (G.2.1 40 0)), none, some (.int x2), some (.int x3), some (.int (w.1 40 0 4)), none, none] [.int v1]
      refine z_istore F dX10_book_85 (Nat.le_of_ble_eq_true rfl) ?_
      refine z_aload_n F dX10_book_87 rfl ?_
      refine z_getI F 5 rfl (by decide) (by decide) rfl lk_X10_111 dX10_book_88 ?_
      refine z_if_ne F 110 dX10_book_91 (by decide) ⟨fun hc => ?_, fun hc => ?_⟩
      · have h := h.1 hc
        exact z_weak h (⟨rfl, ⟨rfl, ⟨rfl, ⟨rfl, trivial⟩⟩⟩⟩)
      · have h := h.2 hc
        refine z_iload_n F dX10_book_94 rfl ?_
        refine z_iload F dX10_book_95 rfl ?_
        refine z_callS F (k' := 1) (mc' := 0) [.int x3, .int v1] [] dX10_book_97 rfl cl_X10_254 hy_X10_has.2 (by omega) (by decide) (by decide) (Nat.le_of_ble_eq_true rfl) rfl (con_mono h ?_ (fun _ _ h => h))
        rintro _ w4 ⟨v3, rfl, h⟩
        show Z M G 0 K X w4 100 [some (.ref (G.2.1 40 0)), none, some (.int x2), some (.int x3), some (.int (w.1 40 0 4)), some (.int v1), none] [.int v3]
        refine z_if_eq F 110 dX10_book_100 (by decide) ⟨fun hc => ?_, fun hc => ?_⟩
        · have h := h.1 hc
          exact z_weak h (⟨rfl, ⟨rfl, ⟨rfl, ⟨rfl, trivial⟩⟩⟩⟩)
        · have h := h.2 hc
          refine z_aload_n F dX10_book_103 rfl ?_
          refine z_iconst F 2 dX10_book_104 (by decide) ?_
          refine z_iload F dX10_book_105 rfl ?_
          refine z_callV F (k' := 1) (mc' := 0) [.int 2, .int (w.1 40 0 4)] [] dX10_book_107 rfl rfl (by decide) rfl cl_X10_124 hy_X10_wrong (by omega) (by decide) (by decide) (Nat.le_of_ble_eq_true rfl) rfl (con_mono h ?_ (fun _ _ h => h))
          rintro _ w6 ⟨rfl, h⟩
          show Z M G 0 K X w6 110 [some (.ref (G.2.1 40 0)), none, some (.int x2), some (.int x3), some (.int (w.1 40 0 4)), some (.int v1), none] []
          exact z_weak h (⟨rfl, ⟨rfl, ⟨rfl, ⟨rfl, trivial⟩⟩⟩⟩)
set_option maxRecDepth 20000 in
theorem b_X10_book_110 {M : Mx} {G : Gx} {kk : Nat} {w : Wd}  {x2 : Int32} {x3 : Int32} {x5 : Int32} {K : Option Value → Wd → Prop} {X : String → Wd → Prop} (F : Fx M G RX10 cX10_book 7 (some .int) kk 0) (hk : 4 ≤ kk)
    (h : Con (mL M) G 3 0 yX10_number cX10_number 5 (some .int) w [.ref (G.2.1 40 0), .int 0, .int 1] (fun r w2 => ∃ v1 : Int32, r = some (.int v1) ∧ Con (mL M) G 3 0 yX10_sign cX10_sign 2 none w2 [.ref (G.2.1 40 0), .int 59] (fun r w4 => r = none ∧ ((¬ (w4.1 40 0 5) = 0 → Z M G 0 K X w4 161 [some (.ref (G.2.1 40 0)), none, some (.int x2), some (.int x3), none, none, none] []) ∧ (¬ (¬ (w4.1 40 0 5) = 0) → (vp_in x2 20 ∧ (∀ w6 : Wd, w6 = setI w4 64 ((x2 : Int32).toNatClampNeg) 0 x5 → (vp_in x2 20 ∧ (∀ w8 : Wd, w8 = setI w6 64 ((x2 : Int32).toNatClampNeg) 1 v1 → Z M G 0 K X w8 161 [some (.ref (G.2.1 40 0)), none, some (.int (x2 + 1)), some (.int (x3 ||| ((1 : Int32) <<< (x5 &&& 31)))), none, none, none] []))))))) X) X) :
    Z M G 0 K X w 110 [some (.ref (G.2.1 40 0)), none, some (.int x2), some (.int x3), none, some (.int x5), none] [] := by
  refine z_aload_n F dX10_book_110 rfl ?_
  refine z_iconst F 0 dX10_book_111 (by decide) ?_
  refine z_iconst F 1 dX10_book_112 (by decide) ?_
  refine z_callV F (k' := 3) (mc' := 0) [.int 0, .int 1] [] dX10_book_113 rfl rfl (by decide) rfl cl_X10_163 hy_X10_number (by omega) (by decide) (by decide) (Nat.le_of_ble_eq_true rfl) rfl (con_mono h ?_ (fun _ _ h => h))
  rintro _ w2 ⟨v1, rfl, h⟩
  show Z M G 0 K X w2 116 [some (.ref (G.2.1 40 0)), none, some (.int x2), some (.int x3), none, some (.int x5), none] [.int v1]
  refine z_istore F dX10_book_116 (Nat.le_of_ble_eq_true rfl) ?_
  refine z_aload_n F dX10_book_118 rfl ?_
  refine z_bipush F 59 dX10_book_119 (by decide) ?_
  refine z_callV F (k' := 3) (mc' := 0) [.int 59] [] dX10_book_121 rfl rfl (by decide) rfl cl_X10_167 hy_X10_sign (by omega) (by decide) (by decide) (Nat.le_of_ble_eq_true rfl) rfl (con_mono h ?_ (fun _ _ h => h))
  rintro _ w4 ⟨rfl, h⟩
  show Z M G 0 K X w4 124 [some (.ref (G.2.1 40 0)), none, some (.int x2), some (.int x3), none, some (.int x5), some (.int v1)] []
  refine z_aload_n F dX10_book_124 rfl ?_
  refine z_getI F 5 rfl (by decide) (by decide) rfl lk_X10_111 dX10_book_125 ?_
  refine z_if_ne F 161 dX10_book_128 (by decide) ⟨fun hc => ?_, fun hc => ?_⟩
  · have h := h.1 hc
    exact z_weak h (⟨rfl, ⟨rfl, ⟨rfl, trivial⟩⟩⟩)
  · have h := h.2 hc
    refine z_iload_n F dX10_book_131 rfl ?_
    refine z_iconst F 1 dX10_book_132 (by decide) ?_
    refine z_iload F dX10_book_133 rfl ?_
    refine z_ishl F dX10_book_135 ?_
    refine z_ior F dX10_book_136 ?_
    refine z_istore_n F dX10_book_137 (Nat.le_of_ble_eq_true rfl) ?_
    refine z_aload_n F dX10_book_138 rfl ?_
    refine z_getR F 24 63 0 rfl (by decide) (by decide) rfl rfl rfl lk_X10_55 dX10_book_139 ?_
    refine z_iload_n F dX10_book_142 rfl ?_
    obtain ⟨hb, h⟩ := h
    refine z_aald F 64 ((x2 : Int32).toNatClampNeg) rfl (by decide) (by decide) (by decide) rfl rfl hb dX10_book_143 (fun hv5 => ?_)
    refine z_iconst F 0 dX10_book_144 (by decide) ?_
    refine z_iload F dX10_book_145 rfl ?_
    refine z_iastW F 0 (by decide) rfl hv5 (by unfold vp_in; decide) dX10_book_147 (fun w6 hw6 => ?_)
    have h := h w6 hw6
    refine z_aload_n F dX10_book_148 rfl ?_
    refine z_getR F 24 63 0 rfl (by decide) (by decide) rfl rfl rfl lk_X10_55 dX10_book_149 ?_
    refine z_iload_n F dX10_book_152 rfl ?_
    obtain ⟨hb, h⟩ := h
    refine z_aald F 64 ((x2 : Int32).toNatClampNeg) rfl (by decide) (by decide) (by decide) rfl rfl hb dX10_book_153 (fun hv7 => ?_)
    refine z_iconst F 1 dX10_book_154 (by decide) ?_
    refine z_iload F dX10_book_155 rfl ?_
    refine z_iastW F 1 (by decide) rfl hv7 (by unfold vp_in; decide) dX10_book_157 (fun w8 hw8 => ?_)
    have h := h w8 hw8
    refine z_iinc F (x2 + 1) dX10_book_158 rfl rfl (Nat.le_of_ble_eq_true rfl) ?_
    exact z_weak h (⟨rfl, ⟨rfl, ⟨rfl, trivial⟩⟩⟩)
set_option maxRecDepth 20000 in
theorem b_X10_book_161 {M : Mx} {G : Gx} {kk : Nat} {w : Wd}  {x2 : Int32} {x3 : Int32} {K : Option Value → Wd → Prop} {X : String → Wd → Prop} (F : Fx M G RX10 cX10_book 7 (some .int) kk 0) (hk : 4 ≤ kk)
    (h : Con (mL M) G 2 0 yX10_blanks cX10_blanks 1 none w [.ref (G.2.1 40 0)] (fun r w2 => r = none ∧ Z M G 0 K X w2 48 [some (.ref (G.2.1 40 0)), none, some (.int x2), some (.int x3), none, none, none] []) X) :
    Z M G 0 K X w 161 [some (.ref (G.2.1 40 0)), none, some (.int x2), some (.int x3), none, none, none] [] := by
  refine z_aload_n F dX10_book_161 rfl ?_
  refine z_callV F (k' := 2) (mc' := 0) [] [] dX10_book_162 rfl rfl (by decide) rfl cl_X10_117 hy_X10_blanks (by omega) (by decide) (by decide) (Nat.le_of_ble_eq_true rfl) rfl (con_mono h ?_ (fun _ _ h => h))
  rintro _ w2 ⟨rfl, h⟩
  show Z M G 0 K X w2 165 [some (.ref (G.2.1 40 0)), none, some (.int x2), some (.int x3), none, none, none] []
  refine z_goto F 48 dX10_book_165 (by decide) ?_
  exact h
set_option maxRecDepth 20000 in
theorem b_X10_book_168 {M : Mx} {G : Gx} {kk : Nat} {w : Wd}  {x2 : Int32} {K : Option Value → Wd → Prop} {X : String → Wd → Prop} (F : Fx M G RX10 cX10_book 7 (some .int) kk 0) (hk : 4 ≤ kk)
    (h : (((w.1 40 0 5) = 0 → (∀ w1 : Wd, w1 = setI w 40 0 3 (-1) → (∀ w2 : Wd, w2 = setI w1 40 0 33 x2 → Con (mL M) G 1 0 yX10_lays cX10_lays 5 none w2 [.ref (G.2.1 63 0), .ref (G.2.1 61 0), .int x2] (fun r w4 => r = none ∧ K (some (.int x2)) w4) X))) ∧ (¬ ((w.1 40 0 5) = 0) → Con (mL M) G 1 0 yX10_ends cX10_ends 1 (some .int) w [.ref (G.2.1 40 0)] (fun r w6 => ∃ v5 : Int32, r = some (.int v5) ∧ K (some (.int v5)) w6) X))) :
    Z M G 0 K X w 168 [some (.ref (G.2.1 40 0)), none, some (.int x2), none, none, none, none] [] := by
  refine z_aload_n F dX10_book_168 rfl ?_
  refine z_getI F 5 rfl (by decide) (by decide) rfl lk_X10_111 dX10_book_169 ?_
  refine z_if_eq F 180 dX10_book_172 (by decide) ⟨fun hc => ?_, fun hc => ?_⟩
  · have h := h.1 hc
    refine z_aload_n F dX10_book_180 rfl ?_
    refine z_iconst F (-1) dX10_book_181 (by decide) ?_
    refine z_putIW F 3 rfl (by decide) (by decide) rfl lk_X10_9 dX10_book_182 (fun w1 hw1 => ?_)
    have h := h w1 hw1
    refine z_aload_n F dX10_book_185 rfl ?_
    refine z_iload_n F dX10_book_186 rfl ?_
    refine z_putIW F 33 rfl (by decide) (by decide) rfl lk_X10_195 dX10_book_187 (fun w2 hw2 => ?_)
    have h := h w2 hw2
    refine z_aload_n F dX10_book_190 rfl ?_
    refine z_getR F 24 63 0 rfl (by decide) (by decide) rfl rfl rfl lk_X10_55 dX10_book_191 ?_
    refine z_aload_n F dX10_book_194 rfl ?_
    refine z_getR F 23 61 0 rfl (by decide) (by decide) rfl rfl rfl lk_X10_52 dX10_book_195 ?_
    refine z_iload_n F dX10_book_198 rfl ?_
    refine z_callS F (k' := 1) (mc' := 0) [.ref (G.2.1 63 0), .ref (G.2.1 61 0), .int x2] [] dX10_book_199 rfl cl_X10_184 hy_X10_lays.2 (by omega) (by decide) (by decide) (Nat.le_of_ble_eq_true rfl) rfl (con_mono h ?_ (fun _ _ h => h))
    rintro _ w4 ⟨rfl, h⟩
    show Z M G 0 K X w4 202 [some (.ref (G.2.1 40 0)), none, some (.int x2), none, none, none, none] []
    refine z_iload_n F dX10_book_202 rfl ?_
    exact z_iret F dX10_book_203 (by decide) h
  · have h := h.2 hc
    refine z_aload_n F dX10_book_175 rfl ?_
    refine z_callV F (k' := 1) (mc' := 0) [] [] dX10_book_176 rfl rfl (by decide) rfl cl_X10_181 hy_X10_ends (by omega) (by decide) (by decide) (Nat.le_of_ble_eq_true rfl) rfl (con_mono h ?_ (fun _ _ h => h))
    rintro _ w6 ⟨v5, rfl, h⟩
    show Z M G 0 K X w6 179 [some (.ref (G.2.1 40 0)), none, some (.int x2), none, none, none, none] [.int v5]
    exact z_iret F dX10_book_179 (by decide) h
set_option maxRecDepth 20000 in
theorem e_X10_fault {l : Launch} {G : Gx} {w : Wd}  {K : Option Value → Wd → Prop} {X : String → Wd → Prop} (hl : l.stackTraces = false)
    (h : ∀ (M : Mx) (kk : Nat), mL M = l → 1 ≤ kk → Fx M G RX10 cX10_fault 1 (some .int) kk 0 → (∀ w1 : Wd, w1 = setI w 40 0 0 0 → K (some (.int (w1.1 40 0 3))) w1)) :
    Con l G 1 0 yX10_fault cX10_fault 1 (some .int) w [.ref (G.2.1 40 0)] K X := by
  refine con_intro hl (by decide +kernel) (Nat.le_of_ble_eq_true rfl) (Nat.le_of_ble_eq_true rfl) (fun M kk hM hk F => ?_)
  have h := h M kk hM hk F
  show Z M G 0 K X w 0 [some (.ref (G.2.1 40 0))] []
  refine z_aload_n F dX10_fault_0 rfl ?_
  refine z_iconst F 0 dX10_fault_1 (by decide) ?_
  refine z_putIW F 0 rfl (by decide) (by decide) rfl lk_X10_95 dX10_fault_2 (fun w1 hw1 => ?_)
  have h := h w1 hw1
  refine z_aload_n F dX10_fault_5 rfl ?_
  refine z_getI F 3 rfl (by decide) (by decide) rfl lk_X10_9 dX10_fault_6 ?_
  exact z_iret F dX10_fault_9 (by decide) h
set_option maxRecDepth 20000 in
theorem e_X10_breathBy {l : Launch} {G : Gx} {w : Wd} {p0 : Int32} {p1 : Int32} {p2 : Int32} {p3 : Int32} {p4 : Int32} {p5 : Int32} {p6 : Int32} {p7 : Int32} {K : Option Value → Wd → Prop} {X : String → Wd → Prop} (hl : l.stackTraces = false)
    (h : ∀ (M : Mx) (kk : Nat), mL M = l → 4 ≤ kk → Fx M G RX10 cX10_breathBy 9 (some .int) kk 0 → (∀ w1 : Wd, w1 = setI w 66 0 0 p0 → (∀ w2 : Wd, w2 = setI w1 66 0 1 p1 → (∀ w3 : Wd, w3 = setI w2 66 0 2 p2 → (∀ w4 : Wd, w4 = setI w3 66 0 3 p3 → (∀ w5 : Wd, w5 = setI w4 66 0 4 p4 → (∀ w6 : Wd, w6 = setI w5 66 0 5 p5 → (∀ w7 : Wd, w7 = setI w6 66 0 6 p6 → (∀ w8 : Wd, w8 = setI w7 66 0 7 p7 → Con (mL M) G 3 0 yX10_byLaw cX10_byLaw 3 (some .int) w8 [.ref (G.2.1 40 0)] (fun r w10 => ∃ v9 : Int32, r = some (.int v9) ∧ K (some (.int v9)) w10) X))))))))) :
    Con l G 4 0 yX10_breathBy cX10_breathBy 9 (some .int) w [.ref (G.2.1 40 0), .int p0, .int p1, .int p2, .int p3, .int p4, .int p5, .int p6, .int p7] K X := by
  refine con_intro hl (by decide +kernel) (Nat.le_of_ble_eq_true rfl) (Nat.le_of_ble_eq_true rfl) (fun M kk hM hk F => ?_)
  have h := h M kk hM hk F
  show Z M G 0 K X w 0 [some (.ref (G.2.1 40 0)), some (.int p0), some (.int p1), some (.int p2), some (.int p3), some (.int p4), some (.int p5), some (.int p6), some (.int p7)] []
  refine z_aload_n F dX10_breathBy_0 rfl ?_
  refine z_getR F 26 66 0 rfl (by decide) (by decide) rfl rfl rfl lk_X10_61 dX10_breathBy_1 ?_
  refine z_iconst F 0 dX10_breathBy_4 (by decide) ?_
  refine z_iload_n F dX10_breathBy_5 rfl ?_
  refine z_iastW F 0 (by decide) rfl (by decide) (by unfold vp_in; decide) dX10_breathBy_6 (fun w1 hw1 => ?_)
  have h := h w1 hw1
  refine z_aload_n F dX10_breathBy_7 rfl ?_
  refine z_getR F 26 66 0 rfl (by decide) (by decide) rfl rfl rfl lk_X10_61 dX10_breathBy_8 ?_
  refine z_iconst F 1 dX10_breathBy_11 (by decide) ?_
  refine z_iload_n F dX10_breathBy_12 rfl ?_
  refine z_iastW F 1 (by decide) rfl (by decide) (by unfold vp_in; decide) dX10_breathBy_13 (fun w2 hw2 => ?_)
  have h := h w2 hw2
  refine z_aload_n F dX10_breathBy_14 rfl ?_
  refine z_getR F 26 66 0 rfl (by decide) (by decide) rfl rfl rfl lk_X10_61 dX10_breathBy_15 ?_
  refine z_iconst F 2 dX10_breathBy_18 (by decide) ?_
  refine z_iload_n F dX10_breathBy_19 rfl ?_
  refine z_iastW F 2 (by decide) rfl (by decide) (by unfold vp_in; decide) dX10_breathBy_20 (fun w3 hw3 => ?_)
  have h := h w3 hw3
  refine z_aload_n F dX10_breathBy_21 rfl ?_
  refine z_getR F 26 66 0 rfl (by decide) (by decide) rfl rfl rfl lk_X10_61 dX10_breathBy_22 ?_
  refine z_iconst F 3 dX10_breathBy_25 (by decide) ?_
  refine z_iload F dX10_breathBy_26 rfl ?_
  refine z_iastW F 3 (by decide) rfl (by decide) (by unfold vp_in; decide) dX10_breathBy_28 (fun w4 hw4 => ?_)
  have h := h w4 hw4
  refine z_aload_n F dX10_breathBy_29 rfl ?_
  refine z_getR F 26 66 0 rfl (by decide) (by decide) rfl rfl rfl lk_X10_61 dX10_breathBy_30 ?_
  refine z_iconst F 4 dX10_breathBy_33 (by decide) ?_
  refine z_iload F dX10_breathBy_34 rfl ?_
  refine z_iastW F 4 (by decide) rfl (by decide) (by unfold vp_in; decide) dX10_breathBy_36 (fun w5 hw5 => ?_)
  have h := h w5 hw5
  refine z_aload_n F dX10_breathBy_37 rfl ?_
  refine z_getR F 26 66 0 rfl (by decide) (by decide) rfl rfl rfl lk_X10_61 dX10_breathBy_38 ?_
  refine z_iconst F 5 dX10_breathBy_41 (by decide) ?_
  refine z_iload F dX10_breathBy_42 rfl ?_
  refine z_iastW F 5 (by decide) rfl (by decide) (by unfold vp_in; decide) dX10_breathBy_44 (fun w6 hw6 => ?_)
  have h := h w6 hw6
  refine z_aload_n F dX10_breathBy_45 rfl ?_
  refine z_getR F 26 66 0 rfl (by decide) (by decide) rfl rfl rfl lk_X10_61 dX10_breathBy_46 ?_
  refine z_bipush F 6 dX10_breathBy_49 (by decide) ?_
  refine z_iload F dX10_breathBy_51 rfl ?_
  refine z_iastW F 6 (by decide) rfl (by decide) (by unfold vp_in; decide) dX10_breathBy_53 (fun w7 hw7 => ?_)
  have h := h w7 hw7
  refine z_aload_n F dX10_breathBy_54 rfl ?_
  refine z_getR F 26 66 0 rfl (by decide) (by decide) rfl rfl rfl lk_X10_61 dX10_breathBy_55 ?_
  refine z_bipush F 7 dX10_breathBy_58 (by decide) ?_
  refine z_iload F dX10_breathBy_60 rfl ?_
  refine z_iastW F 7 (by decide) rfl (by decide) (by unfold vp_in; decide) dX10_breathBy_62 (fun w8 hw8 => ?_)
  have h := h w8 hw8
  refine z_aload_n F dX10_breathBy_63 rfl ?_
  refine z_callV F (k' := 3) (mc' := 0) [] [] dX10_breathBy_64 rfl rfl (by decide) rfl cl_X10_258 hy_X10_byLaw (by omega) (by decide) (by decide) (Nat.le_of_ble_eq_true rfl) rfl (con_mono h ?_ (fun _ _ h => h))
  rintro _ w10 ⟨v9, rfl, h⟩
  show Z M G 0 K X w10 67 [some (.ref (G.2.1 40 0)), some (.int p0), some (.int p1), some (.int p2), some (.int p3), some (.int p4), some (.int p5), some (.int p6), some (.int p7)] [.int v9]
  exact z_iret F dX10_breathBy_67 (by decide) h
set_option maxRecDepth 20000 in
theorem e_X10_breathOf {l : Launch} {G : Gx} {w : Wd} {jr0 : Nat} (hr0 : jr0 < cnt 69) {p1 : Int32} {p2 : Int32} {K : Option Value → Wd → Prop} {X : String → Wd → Prop} (hl : l.stackTraces = false)
    (h : ∀ (M : Mx) (kk : Nat), mL M = l → 5 ≤ kk → Fx M G RX10 cX10_breathOf 4 (some .int) kk 0 → (vp_in p1 20 ∧ (vp_in p2 7 ∧ (vp_in ((0 : Int32) + p2) 57 ∧ (vp_in ((14 : Int32) + p2) 57 ∧ (vp_in ((35 : Int32) + p1) 57 ∧ Con (mL M) G 4 0 yX10_breathBy cX10_breathBy 9 (some .int) w [.ref (G.2.1 40 0), .int (w.1 52 ((p1 : Int32).toNatClampNeg) 1), .int (w.1 48 ((p2 : Int32).toNatClampNeg) 1), .int (w.1 69 jr0 (((0 : Int32) + p2 : Int32).toNatClampNeg)), .int (w.1 69 jr0 (((14 : Int32) + p2 : Int32).toNatClampNeg)), .int p1, .int (w.1 69 jr0 (((35 : Int32) + p1 : Int32).toNatClampNeg)), .int (w.1 69 jr0 56), .int p2] (fun r w4 => ∃ v3 : Int32, r = some (.int v3) ∧ K (some (.int v3)) w4) X)))))) :
    Con l G 5 0 yX10_breathOf cX10_breathOf 4 (some .int) w [.ref (G.2.1 40 0), .ref (G.2.1 69 jr0), .int p1, .int p2] K X := by
  refine con_intro hl (by decide +kernel) (Nat.le_of_ble_eq_true rfl) (Nat.le_of_ble_eq_true rfl) (fun M kk hM hk F => ?_)
  have h := h M kk hM hk F
  show Z M G 0 K X w 0 [some (.ref (G.2.1 40 0)), some (.ref (G.2.1 69 jr0)), some (.int p1), some (.int p2)] []
  refine z_aload_n F dX10_breathOf_0 rfl ?_
  refine z_aload_n F dX10_breathOf_1 rfl ?_
  refine z_getR F 16 51 0 rfl (by decide) (by decide) rfl rfl rfl lk_X10_37 dX10_breathOf_2 ?_
  refine z_iload_n F dX10_breathOf_5 rfl ?_
  obtain ⟨hb, h⟩ := h
  refine z_aald F 52 ((p1 : Int32).toNatClampNeg) rfl (by decide) (by decide) (by decide) rfl rfl hb dX10_breathOf_6 (fun hv1 => ?_)
  refine z_iconst F 1 dX10_breathOf_7 (by decide) ?_
  refine z_ialdK F 1 (by decide) rfl hv1 (by unfold vp_in; decide) dX10_breathOf_8 ?_
  refine z_aload_n F dX10_breathOf_9 rfl ?_
  refine z_getR F 14 47 0 rfl (by decide) (by decide) rfl rfl rfl lk_X10_31 dX10_breathOf_10 ?_
  refine z_iload_n F dX10_breathOf_13 rfl ?_
  obtain ⟨hb, h⟩ := h
  refine z_aald F 48 ((p2 : Int32).toNatClampNeg) rfl (by decide) (by decide) (by decide) rfl rfl hb dX10_breathOf_14 (fun hv2 => ?_)
  refine z_iconst F 1 dX10_breathOf_15 (by decide) ?_
  refine z_ialdK F 1 (by decide) rfl hv2 (by unfold vp_in; decide) dX10_breathOf_16 ?_
  refine z_aload_n F dX10_breathOf_17 rfl ?_
  refine z_iconst F 0 dX10_breathOf_18 (by decide) ?_
  refine z_iload_n F dX10_breathOf_19 rfl ?_
  refine z_iadd F dX10_breathOf_20 ?_
  obtain ⟨hb, h⟩ := h
  refine z_ialdK F (((0 : Int32) + p2 : Int32).toNatClampNeg) rfl rfl hr0 hb dX10_breathOf_21 ?_
  refine z_aload_n F dX10_breathOf_22 rfl ?_
  refine z_bipush F 14 dX10_breathOf_23 (by decide) ?_
  refine z_iload_n F dX10_breathOf_25 rfl ?_
  refine z_iadd F dX10_breathOf_26 ?_
  obtain ⟨hb, h⟩ := h
  refine z_ialdK F (((14 : Int32) + p2 : Int32).toNatClampNeg) rfl rfl hr0 hb dX10_breathOf_27 ?_
  refine z_iload_n F dX10_breathOf_28 rfl ?_
  refine z_aload_n F dX10_breathOf_29 rfl ?_
  refine z_bipush F 35 dX10_breathOf_30 (by decide) ?_
  refine z_iload_n F dX10_breathOf_32 rfl ?_
  refine z_iadd F dX10_breathOf_33 ?_
  obtain ⟨hb, h⟩ := h
  refine z_ialdK F (((35 : Int32) + p1 : Int32).toNatClampNeg) rfl rfl hr0 hb dX10_breathOf_34 ?_
  refine z_aload_n F dX10_breathOf_35 rfl ?_
  refine z_bipush F 56 dX10_breathOf_36 (by decide) ?_
  refine z_ialdK F 56 (by decide) rfl hr0 (by unfold vp_in; decide) dX10_breathOf_38 ?_
  refine z_iload_n F dX10_breathOf_39 rfl ?_
  refine z_callV F (k' := 4) (mc' := 0) [.int (w.1 52 ((p1 : Int32).toNatClampNeg) 1), .int (w.1 48 ((p2 : Int32).toNatClampNeg) 1), .int (w.1 69 jr0 (((0 : Int32) + p2 : Int32).toNatClampNeg)), .int (w.1 69 jr0 (((14 : Int32) + p2 : Int32).toNatClampNeg)), .int p1, .int (w.1 69 jr0 (((35 : Int32) + p1 : Int32).toNatClampNeg)), .int (w.1 69 jr0 56), .int p2] [] dX10_breathOf_40 rfl rfl (by decide) rfl cl_X10_261 hy_X10_breathBy (by omega) (by decide) (by decide) (Nat.le_of_ble_eq_true rfl) rfl (con_mono h ?_ (fun _ _ h => h))
  rintro _ w4 ⟨v3, rfl, h⟩
  show Z M G 0 K X w4 43 [some (.ref (G.2.1 40 0)), some (.ref (G.2.1 69 jr0)), some (.int p1), some (.int p2)] [.int v3]
  exact z_iret F dX10_breathOf_43 (by decide) h
set_option maxRecDepth 20000 in
theorem e_X10_ones {l : Launch} {G : Gx} {w : Wd} {p0 : Int32} {K : Option Value → Wd → Prop} {X : String → Wd → Prop} (hl : l.stackTraces = false)
    (h : ∀ (M : Mx) (kk : Nat), mL M = l → 1 ≤ kk → Fx M G RX10 cX10_ones 3 (some .int) kk 0 → Z M G 0 K X w 4 [some (.int p0), some (.int 0), some (.int 0)] []) :
    Con l G 1 0 yX10_ones cX10_ones 3 (some .int) w [.int p0] K X := by
  refine con_intro hl (by decide +kernel) (Nat.le_of_ble_eq_true rfl) (Nat.le_of_ble_eq_true rfl) (fun M kk hM hk F => ?_)
  have h := h M kk hM hk F
  show Z M G 0 K X w 0 [some (.int p0), none, none] []
  refine z_iconst F 0 dX10_ones_0 (by decide) ?_
  refine z_istore_n F dX10_ones_1 (Nat.le_of_ble_eq_true rfl) ?_
  refine z_iconst F 0 dX10_ones_2 (by decide) ?_
  refine z_istore_n F dX10_ones_3 (Nat.le_of_ble_eq_true rfl) ?_
  exact h
set_option maxRecDepth 20000 in
theorem b_X10_ones_4 {M : Mx} {G : Gx} {kk : Nat} {w : Wd}  {x0 : Int32} {x1 : Int32} {x2 : Int32} {K : Option Value → Wd → Prop} {X : String → Wd → Prop} (F : Fx M G RX10 cX10_ones 3 (some .int) kk 0) (hk : 1 ≤ kk)
    (h : ((7 ≤ x2 → K (some (.int x1)) w) ∧ (¬ (7 ≤ x2) → Z M G 0 K X w 4 [some (.int x0), some (.int (x1 + ((x0 >>> (x2 &&& 31)) &&& (1 : Int32)))), some (.int (x2 + 1))] []))) :
    Z M G 0 K X w 4 [some (.int x0), some (.int x1), some (.int x2)] [] := by
  refine z_iload_n F dX10_ones_4 rfl ?_
  refine z_bipush F 7 dX10_ones_5 (by decide) ?_
  refine z_icmp_ge F 24 dX10_ones_7 (by decide) ⟨fun hc => ?_, fun hc => ?_⟩
  · have h := h.1 hc
    refine z_iload_n F dX10_ones_24 rfl ?_
    exact z_iret F dX10_ones_25 (by decide) h
  · have h := h.2 hc
    refine z_iload_n F dX10_ones_10 rfl ?_
    refine z_iload_n F dX10_ones_11 rfl ?_
    refine z_iload_n F dX10_ones_12 rfl ?_
    refine z_ishr F dX10_ones_13 ?_
    refine z_iconst F 1 dX10_ones_14 (by decide) ?_
    refine z_iand F dX10_ones_15 ?_
    refine z_iadd F dX10_ones_16 ?_
    refine z_istore_n F dX10_ones_17 (Nat.le_of_ble_eq_true rfl) ?_
    refine z_iinc F (x2 + 1) dX10_ones_18 rfl rfl (Nat.le_of_ble_eq_true rfl) ?_
    refine z_goto F 4 dX10_ones_21 (by decide) ?_
    exact h
set_option maxRecDepth 20000 in
theorem e_X10_sungBy {l : Launch} {G : Gx} {w : Wd} {jr0 : Nat} (hr0 : jr0 < cnt 69) {p1 : Int32} {K : Option Value → Wd → Prop} {X : String → Wd → Prop} (hl : l.stackTraces = false)
    (h : ∀ (M : Mx) (kk : Nat), mL M = l → 6 ≤ kk → Fx M G RX10 cX10_sungBy 4 (some .int) kk 0 → Z M G 0 K X w 2 [some (.ref (G.2.1 40 0)), some (.ref (G.2.1 69 jr0)), some (.int p1), some (.int 0)] []) :
    Con l G 6 0 yX10_sungBy cX10_sungBy 4 (some .int) w [.ref (G.2.1 40 0), .ref (G.2.1 69 jr0), .int p1] K X := by
  refine con_intro hl (by decide +kernel) (Nat.le_of_ble_eq_true rfl) (Nat.le_of_ble_eq_true rfl) (fun M kk hM hk F => ?_)
  have h := h M kk hM hk F
  show Z M G 0 K X w 0 [some (.ref (G.2.1 40 0)), some (.ref (G.2.1 69 jr0)), some (.int p1), none] []
  refine z_iconst F 0 dX10_sungBy_0 (by decide) ?_
  refine z_istore_n F dX10_sungBy_1 (Nat.le_of_ble_eq_true rfl) ?_
  exact h
set_option maxRecDepth 20000 in
theorem b_X10_sungBy_2 {M : Mx} {G : Gx} {kk : Nat} {w : Wd} {jr0 : Nat} (hr0 : jr0 < cnt 69) {x2 : Int32} {x3 : Int32} {K : Option Value → Wd → Prop} {X : String → Wd → Prop} (F : Fx M G RX10 cX10_sungBy 4 (some .int) kk 0) (hk : 6 ≤ kk)
    (h : (((w.1 44 0 0) ≤ x3 → K (some (.int (-1))) w) ∧ (¬ ((w.1 44 0 0) ≤ x3) → (vp_in x3 7 ∧ (vp_in ((35 : Int32) + x2) 57 ∧ ((¬ (w.1 48 ((x3 : Int32).toNatClampNeg) 0) = (w.1 69 jr0 (((35 : Int32) + x2 : Int32).toNatClampNeg)) → Z M G 0 K X w 2 [some (.ref (G.2.1 40 0)), some (.ref (G.2.1 69 jr0)), some (.int x2), some (.int (x3 + 1))] []) ∧ (¬ (¬ (w.1 48 ((x3 : Int32).toNatClampNeg) 0) = (w.1 69 jr0 (((35 : Int32) + x2 : Int32).toNatClampNeg))) → (vp_in ((7 : Int32) + x3) 57 ∧ ((¬ (w.1 69 jr0 (((7 : Int32) + x3 : Int32).toNatClampNeg)) = 0 → Z M G 0 K X w 2 [some (.ref (G.2.1 40 0)), some (.ref (G.2.1 69 jr0)), some (.int x2), some (.int (x3 + 1))] []) ∧ (¬ (¬ (w.1 69 jr0 (((7 : Int32) + x3 : Int32).toNatClampNeg)) = 0) → Con (mL M) G 5 0 yX10_breathOf cX10_breathOf 4 (some .int) w [.ref (G.2.1 40 0), .ref (G.2.1 69 jr0), .int x2, .int x3] (fun r w3 => ∃ v2 : Int32, r = some (.int v2) ∧ (vp_in ((0 : Int32) + x3) 57 ∧ (((w3.1 69 jr0 (((0 : Int32) + x3 : Int32).toNatClampNeg)) < v2 → Z M G 0 K X w3 2 [some (.ref (G.2.1 40 0)), some (.ref (G.2.1 69 jr0)), some (.int x2), some (.int (x3 + 1))] []) ∧ (¬ ((w3.1 69 jr0 (((0 : Int32) + x3 : Int32).toNatClampNeg)) < v2) → K (some (.int x3)) w3)))) X)))))))))) :
    Z M G 0 K X w 2 [some (.ref (G.2.1 40 0)), some (.ref (G.2.1 69 jr0)), some (.int x2), some (.int x3)] [] := by
  refine z_iload_n F dX10_sungBy_2 rfl ?_
  refine z_aload_n F dX10_sungBy_3 rfl ?_
  refine z_getR F 12 44 0 rfl (by decide) (by decide) rfl rfl rfl lk_X10_23 dX10_sungBy_4 ?_
  refine z_iconst F 0 dX10_sungBy_7 (by decide) ?_
  refine z_ialdK F 0 (by decide) rfl (by decide) (by unfold vp_in; decide) dX10_sungBy_8 ?_
  refine z_icmp_ge F 61 dX10_sungBy_9 (by decide) ⟨fun hc => ?_, fun hc => ?_⟩
  · have h := h.1 hc
    refine z_iconst F (-1) dX10_sungBy_61 (by decide) ?_
    exact z_iret F dX10_sungBy_62 (by decide) h
  · have h := h.2 hc
    refine z_aload_n F dX10_sungBy_12 rfl ?_
    refine z_getR F 14 47 0 rfl (by decide) (by decide) rfl rfl rfl lk_X10_31 dX10_sungBy_13 ?_
    refine z_iload_n F dX10_sungBy_16 rfl ?_
    obtain ⟨hb, h⟩ := h
    refine z_aald F 48 ((x3 : Int32).toNatClampNeg) rfl (by decide) (by decide) (by decide) rfl rfl hb dX10_sungBy_17 (fun hv1 => ?_)
    refine z_iconst F 0 dX10_sungBy_18 (by decide) ?_
    refine z_ialdK F 0 (by decide) rfl hv1 (by unfold vp_in; decide) dX10_sungBy_19 ?_
    refine z_aload_n F dX10_sungBy_20 rfl ?_
    refine z_bipush F 35 dX10_sungBy_21 (by decide) ?_
    refine z_iload_n F dX10_sungBy_23 rfl ?_
    refine z_iadd F dX10_sungBy_24 ?_
    obtain ⟨hb, h⟩ := h
    refine z_ialdK F (((35 : Int32) + x2 : Int32).toNatClampNeg) rfl rfl hr0 hb dX10_sungBy_25 ?_
    refine z_icmp_ne F 55 dX10_sungBy_26 (by decide) ⟨fun hc => ?_, fun hc => ?_⟩
    · have h := h.1 hc
      refine z_iinc F (x3 + 1) dX10_sungBy_55 rfl rfl (Nat.le_of_ble_eq_true rfl) ?_
      refine z_goto F 2 dX10_sungBy_58 (by decide) ?_
      exact h
    · have h := h.2 hc
      refine z_aload_n F dX10_sungBy_29 rfl ?_
      refine z_bipush F 7 dX10_sungBy_30 (by decide) ?_
      refine z_iload_n F dX10_sungBy_32 rfl ?_
      refine z_iadd F dX10_sungBy_33 ?_
      obtain ⟨hb, h⟩ := h
      refine z_ialdK F (((7 : Int32) + x3 : Int32).toNatClampNeg) rfl rfl hr0 hb dX10_sungBy_34 ?_
      refine z_if_ne F 55 dX10_sungBy_35 (by decide) ⟨fun hc => ?_, fun hc => ?_⟩
      · have h := h.1 hc
        refine z_iinc F (x3 + 1) dX10_sungBy_55 rfl rfl (Nat.le_of_ble_eq_true rfl) ?_
        refine z_goto F 2 dX10_sungBy_58 (by decide) ?_
        exact h
      · have h := h.2 hc
        refine z_aload_n F dX10_sungBy_38 rfl ?_
        refine z_aload_n F dX10_sungBy_39 rfl ?_
        refine z_iload_n F dX10_sungBy_40 rfl ?_
        refine z_iload_n F dX10_sungBy_41 rfl ?_
        refine z_callV F (k' := 5) (mc' := 0) [.ref (G.2.1 69 jr0), .int x2, .int x3] [] dX10_sungBy_42 rfl rfl (by decide) rfl cl_X10_265 hy_X10_breathOf (by omega) (by decide) (by decide) (Nat.le_of_ble_eq_true rfl) rfl (con_mono h ?_ (fun _ _ h => h))
        rintro _ w3 ⟨v2, rfl, h⟩
        show Z M G 0 K X w3 45 [some (.ref (G.2.1 40 0)), some (.ref (G.2.1 69 jr0)), some (.int x2), some (.int x3)] [.int v2]
        refine z_aload_n F dX10_sungBy_45 rfl ?_
        refine z_iconst F 0 dX10_sungBy_46 (by decide) ?_
        refine z_iload_n F dX10_sungBy_47 rfl ?_
        refine z_iadd F dX10_sungBy_48 ?_
        obtain ⟨hb, h⟩ := h
        refine z_ialdK F (((0 : Int32) + x3 : Int32).toNatClampNeg) rfl rfl hr0 hb dX10_sungBy_49 ?_
        refine z_icmp_gt F 55 dX10_sungBy_50 (by decide) ⟨fun hc => ?_, fun hc => ?_⟩
        · have h := h.1 hc
          refine z_iinc F (x3 + 1) dX10_sungBy_55 rfl rfl (Nat.le_of_ble_eq_true rfl) ?_
          refine z_goto F 2 dX10_sungBy_58 (by decide) ?_
          exact h
        · have h := h.2 hc
          refine z_iload_n F dX10_sungBy_53 rfl ?_
          exact z_iret F dX10_sungBy_54 (by decide) h
set_option maxRecDepth 20000 in
theorem e_X10_sings {l : Launch} {G : Gx} {w : Wd} {jr0 : Nat} (hr0 : jr0 < cnt 69) {p1 : Int32} {K : Option Value → Wd → Prop} {X : String → Wd → Prop} (hl : l.stackTraces = false)
    (h : ∀ (M : Mx) (kk : Nat), mL M = l → 7 ≤ kk → Fx M G RX10 cX10_sings 4 (some .boolean) kk 0 → Con (mL M) G 6 0 yX10_sungBy cX10_sungBy 4 (some .int) w [.ref (G.2.1 40 0), .ref (G.2.1 69 jr0), .int p1] (fun r w2 => ∃ v1 : Int32, r = some (.int v1) ∧ ((¬ v1 = (-1) → (vp_in ((0 : Int32) + v1) 57 ∧ Con (mL M) G 5 0 yX10_breathOf cX10_breathOf 4 (some .int) w2 [.ref (G.2.1 40 0), .ref (G.2.1 69 jr0), .int p1, .int v1] (fun r w4 => ∃ v3 : Int32, r = some (.int v3) ∧ (vp_in ((0 : Int32) + v1) 57 ∧ ∀ w5 : Wd, w5 = setI w4 69 jr0 (((0 : Int32) + v1 : Int32).toNatClampNeg) ((w2.1 69 jr0 (((0 : Int32) + v1 : Int32).toNatClampNeg)) - v3) → (vp_in ((14 : Int32) + v1) 57 ∧ (vp_in ((14 : Int32) + v1) 57 ∧ ∀ w6 : Wd, w6 = setI w5 69 jr0 (((14 : Int32) + v1 : Int32).toNatClampNeg) ((w5.1 69 jr0 (((14 : Int32) + v1 : Int32).toNatClampNeg)) + (1 : Int32)) → (vp_in ((28 : Int32) + v1) 57 ∧ (vp_in ((28 : Int32) + v1) 57 ∧ ∀ w7 : Wd, w7 = setI w6 69 jr0 (((28 : Int32) + v1 : Int32).toNatClampNeg) ((w6.1 69 jr0 (((28 : Int32) + v1 : Int32).toNatClampNeg)) + (1 : Int32)) → K (some (.int 1)) w7)))))) X)) ∧ (¬ (¬ v1 = (-1)) → K (some (.int 0)) w2))) X) :
    Con l G 7 0 yX10_sings cX10_sings 4 (some .boolean) w [.ref (G.2.1 40 0), .ref (G.2.1 69 jr0), .int p1] K X := by
  refine con_intro hl (by decide +kernel) (Nat.le_of_ble_eq_true rfl) (Nat.le_of_ble_eq_true rfl) (fun M kk hM hk F => ?_)
  have h := h M kk hM hk F
  show Z M G 0 K X w 0 [some (.ref (G.2.1 40 0)), some (.ref (G.2.1 69 jr0)), some (.int p1), none] []
  refine z_aload_n F dX10_sings_0 rfl ?_
  refine z_aload_n F dX10_sings_1 rfl ?_
  refine z_iload_n F dX10_sings_2 rfl ?_
  refine z_callV F (k' := 6) (mc' := 0) [.ref (G.2.1 69 jr0), .int p1] [] dX10_sings_3 rfl rfl (by decide) rfl cl_X10_269 hy_X10_sungBy (by omega) (by decide) (by decide) (Nat.le_of_ble_eq_true rfl) rfl (con_mono h ?_ (fun _ _ h => h))
  rintro _ w2 ⟨v1, rfl, h⟩
  show Z M G 0 K X w2 6 [some (.ref (G.2.1 40 0)), some (.ref (G.2.1 69 jr0)), some (.int p1), none] [.int v1]
  refine z_istore_n F dX10_sings_6 (Nat.le_of_ble_eq_true rfl) ?_
  refine z_iload_n F dX10_sings_7 rfl ?_
  refine z_iconst F (-1) dX10_sings_8 (by decide) ?_
  refine z_icmp_ne F 14 dX10_sings_9 (by decide) ⟨fun hc => ?_, fun hc => ?_⟩
  · have h := h.1 hc
    refine z_aload_n F dX10_sings_14 rfl ?_
    refine z_iconst F 0 dX10_sings_15 (by decide) ?_
    refine z_iload_n F dX10_sings_16 rfl ?_
    refine z_iadd F dX10_sings_17 ?_
    refine z_dup2 F dX10_sings_18 rfl rfl ?_
    obtain ⟨hb, h⟩ := h
    refine z_ialdK F (((0 : Int32) + v1 : Int32).toNatClampNeg) rfl rfl hr0 hb dX10_sings_19 ?_
    refine z_aload_n F dX10_sings_20 rfl ?_
    refine z_aload_n F dX10_sings_21 rfl ?_
    refine z_iload_n F dX10_sings_22 rfl ?_
    refine z_iload_n F dX10_sings_23 rfl ?_
    refine z_callV F (k' := 5) (mc' := 0) [.ref (G.2.1 69 jr0), .int p1, .int v1] [.int (w2.1 69 jr0 (((0 : Int32) + v1 : Int32).toNatClampNeg)), .int ((0 : Int32) + v1), .ref (G.2.1 69 jr0)] dX10_sings_24 rfl rfl (by decide) rfl cl_X10_265 hy_X10_breathOf (by omega) (by decide) (by decide) (Nat.le_of_ble_eq_true rfl) rfl (con_mono h ?_ (fun _ _ h => h))
    rintro _ w4 ⟨v3, rfl, h⟩
    show Z M G 0 K X w4 27 [some (.ref (G.2.1 40 0)), some (.ref (G.2.1 69 jr0)), some (.int p1), some (.int v1)] [.int v3, .int (w2.1 69 jr0 (((0 : Int32) + v1 : Int32).toNatClampNeg)), .int ((0 : Int32) + v1), .ref (G.2.1 69 jr0)]
    refine z_isub F dX10_sings_27 ?_
    obtain ⟨hb, h⟩ := h
    refine z_iastW F (((0 : Int32) + v1 : Int32).toNatClampNeg) rfl rfl hr0 hb dX10_sings_28 (fun w5 hw5 => ?_)
    have h := h w5 hw5
    refine z_aload_n F dX10_sings_29 rfl ?_
    refine z_bipush F 14 dX10_sings_30 (by decide) ?_
    refine z_iload_n F dX10_sings_32 rfl ?_
    refine z_iadd F dX10_sings_33 ?_
    refine z_dup2 F dX10_sings_34 rfl rfl ?_
    obtain ⟨hb, h⟩ := h
    refine z_ialdK F (((14 : Int32) + v1 : Int32).toNatClampNeg) rfl rfl hr0 hb dX10_sings_35 ?_
    refine z_iconst F 1 dX10_sings_36 (by decide) ?_
    refine z_iadd F dX10_sings_37 ?_
    obtain ⟨hb, h⟩ := h
    refine z_iastW F (((14 : Int32) + v1 : Int32).toNatClampNeg) rfl rfl hr0 hb dX10_sings_38 (fun w6 hw6 => ?_)
    have h := h w6 hw6
    refine z_aload_n F dX10_sings_39 rfl ?_
    refine z_bipush F 28 dX10_sings_40 (by decide) ?_
    refine z_iload_n F dX10_sings_42 rfl ?_
    refine z_iadd F dX10_sings_43 ?_
    refine z_dup2 F dX10_sings_44 rfl rfl ?_
    obtain ⟨hb, h⟩ := h
    refine z_ialdK F (((28 : Int32) + v1 : Int32).toNatClampNeg) rfl rfl hr0 hb dX10_sings_45 ?_
    refine z_iconst F 1 dX10_sings_46 (by decide) ?_
    refine z_iadd F dX10_sings_47 ?_
    obtain ⟨hb, h⟩ := h
    refine z_iastW F (((28 : Int32) + v1 : Int32).toNatClampNeg) rfl rfl hr0 hb dX10_sings_48 (fun w7 hw7 => ?_)
    have h := h w7 hw7
    refine z_iconst F 1 dX10_sings_49 (by decide) ?_
    exact z_zret F dX10_sings_50 (by decide) rfl h
  · have h := h.2 hc
    refine z_iconst F 0 dX10_sings_12 (by decide) ?_
    exact z_zret F dX10_sings_13 (by decide) rfl h
set_option maxRecDepth 20000 in
theorem e_X10_hymns {l : Launch} {G : Gx} {w : Wd} {jr0 : Nat} (hr0 : jr0 < cnt 69) {K : Option Value → Wd → Prop} {X : String → Wd → Prop} (hl : l.stackTraces = false)
    (h : ∀ (M : Mx) (kk : Nat), mL M = l → 8 ≤ kk → Fx M G RX10 cX10_hymns 4 none kk 0 → (∀ w1 : Wd, w1 = setI w 40 0 38 0 → Z M G 0 K X w1 7 [some (.ref (G.2.1 40 0)), some (.ref (G.2.1 69 jr0)), some (.int 0), none] [])) :
    Con l G 8 0 yX10_hymns cX10_hymns 4 none w [.ref (G.2.1 40 0), .ref (G.2.1 69 jr0)] K X := by
  refine con_intro hl (by decide +kernel) (Nat.le_of_ble_eq_true rfl) (Nat.le_of_ble_eq_true rfl) (fun M kk hM hk F => ?_)
  have h := h M kk hM hk F
  show Z M G 0 K X w 0 [some (.ref (G.2.1 40 0)), some (.ref (G.2.1 69 jr0)), none, none] []
  refine z_aload_n F dX10_hymns_0 rfl ?_
  refine z_iconst F 0 dX10_hymns_1 (by decide) ?_
  refine z_putIW F 38 rfl (by decide) (by decide) rfl lk_X10_273 dX10_hymns_2 (fun w1 hw1 => ?_)
  have h := h w1 hw1
  refine z_iconst F 0 dX10_hymns_5 (by decide) ?_
  refine z_istore_n F dX10_hymns_6 (Nat.le_of_ble_eq_true rfl) ?_
  exact h
set_option maxRecDepth 20000 in
theorem b_X10_hymns_7 {M : Mx} {G : Gx} {kk : Nat} {w : Wd} {jr0 : Nat} (hr0 : jr0 < cnt 69) {x2 : Int32} {K : Option Value → Wd → Prop} {X : String → Wd → Prop} (F : Fx M G RX10 cX10_hymns 4 none kk 0) (hk : 8 ≤ kk)
    (h : (((w.1 44 0 1) ≤ x2 → K none w) ∧ (¬ ((w.1 44 0 1) ≤ x2) → Con (mL M) G 7 0 yX10_sings cX10_sings 4 (some .boolean) w [.ref (G.2.1 40 0), .ref (G.2.1 69 jr0), .int x2] (fun r w2 => ∃ v1 : Int32, r = some (.int v1) ∧ ((v1 = 0 → Z M G 0 K X w2 38 [some (.ref (G.2.1 40 0)), some (.ref (G.2.1 69 jr0)), some (.int x2), some (.int v1)] [.int 1, .int (w2.1 69 jr0 55), .int 55, .ref (G.2.1 69 jr0)]) ∧ (¬ (v1 = 0) → Z M G 0 K X w2 38 [some (.ref (G.2.1 40 0)), some (.ref (G.2.1 69 jr0)), some (.int x2), some (.int v1)] [.int 0, .int (w2.1 69 jr0 55), .int 55, .ref (G.2.1 69 jr0)]))) X))) :
    Z M G 0 K X w 7 [some (.ref (G.2.1 40 0)), some (.ref (G.2.1 69 jr0)), some (.int x2), none] [] := by
  refine z_iload_n F dX10_hymns_7 rfl ?_
  refine z_aload_n F dX10_hymns_8 rfl ?_
  refine z_getR F 12 44 0 rfl (by decide) (by decide) rfl rfl rfl lk_X10_23 dX10_hymns_9 ?_
  refine z_iconst F 1 dX10_hymns_12 (by decide) ?_
  refine z_ialdK F 1 (by decide) rfl (by decide) (by unfold vp_in; decide) dX10_hymns_13 ?_
  refine z_icmp_ge F 66 dX10_hymns_14 (by decide) ⟨fun hc => ?_, fun hc => ?_⟩
  · have h := h.1 hc
    exact z_vret F dX10_hymns_66 (by decide) h
  · have h := h.2 hc
    refine z_aload_n F dX10_hymns_17 rfl ?_
    refine z_aload_n F dX10_hymns_18 rfl ?_
    refine z_iload_n F dX10_hymns_19 rfl ?_
    refine z_callV F (k' := 7) (mc' := 0) [.ref (G.2.1 69 jr0), .int x2] [] dX10_hymns_20 rfl rfl (by decide) rfl cl_X10_276 hy_X10_sings (by omega) (by decide) (by decide) (Nat.le_of_ble_eq_true rfl) rfl (con_mono h ?_ (fun _ _ h => h))
    rintro _ w2 ⟨v1, rfl, h⟩
    show Z M G 0 K X w2 23 [some (.ref (G.2.1 40 0)), some (.ref (G.2.1 69 jr0)), some (.int x2), none] [.int v1]
    refine z_istore_n F dX10_hymns_23 (Nat.le_of_ble_eq_true rfl) ?_
    refine z_aload_n F dX10_hymns_24 rfl ?_
    refine z_bipush F 55 dX10_hymns_25 (by decide) ?_
    refine z_dup2 F dX10_hymns_27 rfl rfl ?_
    refine z_ialdK F 55 (by decide) rfl hr0 (by unfold vp_in; decide) dX10_hymns_28 ?_
    refine z_iload_n F dX10_hymns_29 rfl ?_
    refine z_if_eq F 37 dX10_hymns_30 (by decide) ⟨fun hc => ?_, fun hc => ?_⟩
    · have h := h.1 hc
      refine z_iconst F 1 dX10_hymns_37 (by decide) ?_
      exact h
    · have h := h.2 hc
      refine z_iconst F 0 dX10_hymns_33 (by decide) ?_
      refine z_goto F 38 dX10_hymns_34 (by decide) ?_
      exact h
set_option maxRecDepth 20000 in
theorem b_X10_hymns_38 {M : Mx} {G : Gx} {kk : Nat} {w : Wd} {jr0 : Nat} (hr0 : jr0 < cnt 69) {x2 : Int32} {x3 : Int32} {s0 : Int32} {s1 : Int32} {s2 : Int32} {K : Option Value → Wd → Prop} {X : String → Wd → Prop} (F : Fx M G RX10 cX10_hymns 4 none kk 0) (hk : 8 ≤ kk)
    (h : (vp_in s2 57 ∧ ∀ w1 : Wd, w1 = setI w 69 jr0 ((s2 : Int32).toNatClampNeg) (s1 + s0) → ((x3 = 0 → (∀ w2 : Wd, w2 = setI w1 40 0 38 ((w1.1 40 0 38) ||| (0 : Int32)) → Z M G 0 K X w2 7 [some (.ref (G.2.1 40 0)), some (.ref (G.2.1 69 jr0)), some (.int (x2 + 1)), none] [])) ∧ (¬ (x3 = 0) → (∀ w3 : Wd, w3 = setI w1 40 0 38 ((w1.1 40 0 38) ||| ((1 : Int32) <<< (x2 &&& 31))) → Z M G 0 K X w3 7 [some (.ref (G.2.1 40 0)), some (.ref (G.2.1 69 jr0)), some (.int (x2 + 1)), none] []))))) :
    Z M G 0 K X w 38 [some (.ref (G.2.1 40 0)), some (.ref (G.2.1 69 jr0)), some (.int x2), some (.int x3)] [.int s0, .int s1, .int s2, .ref (G.2.1 69 jr0)] := by
  refine z_iadd F dX10_hymns_38 ?_
  obtain ⟨hb, h⟩ := h
  refine z_iastW F ((s2 : Int32).toNatClampNeg) rfl rfl hr0 hb dX10_hymns_39 (fun w1 hw1 => ?_)
  have h := h w1 hw1
  refine z_aload_n F dX10_hymns_40 rfl ?_
  refine z_dup F dX10_hymns_41 rfl ?_
  refine z_getI F 38 rfl (by decide) (by decide) rfl lk_X10_273 dX10_hymns_42 ?_
  refine z_iload_n F dX10_hymns_45 rfl ?_
  refine z_if_eq F 55 dX10_hymns_46 (by decide) ⟨fun hc => ?_, fun hc => ?_⟩
  · have h := h.1 hc
    refine z_iconst F 0 dX10_hymns_55 (by decide) ?_
    refine z_ior F dX10_hymns_56 ?_
    refine z_putIW F 38 rfl (by decide) (by decide) rfl lk_X10_273 dX10_hymns_57 (fun w2 hw2 => ?_)
    have h := h w2 hw2
    refine z_iinc F (x2 + 1) dX10_hymns_60 rfl rfl (Nat.le_of_ble_eq_true rfl) ?_
    refine z_goto F 7 dX10_hymns_63 (by decide) ?_
    exact z_weak h (⟨rfl, ⟨rfl, ⟨rfl, trivial⟩⟩⟩)
  · have h := h.2 hc
    refine z_iconst F 1 dX10_hymns_49 (by decide) ?_
    refine z_iload_n F dX10_hymns_50 rfl ?_
    refine z_ishl F dX10_hymns_51 ?_
    refine z_goto F 56 dX10_hymns_52 (by decide) ?_
    refine z_ior F dX10_hymns_56 ?_
    refine z_putIW F 38 rfl (by decide) (by decide) rfl lk_X10_273 dX10_hymns_57 (fun w3 hw3 => ?_)
    have h := h w3 hw3
    refine z_iinc F (x2 + 1) dX10_hymns_60 rfl rfl (Nat.le_of_ble_eq_true rfl) ?_
    refine z_goto F 7 dX10_hymns_63 (by decide) ?_
    exact z_weak h (⟨rfl, ⟨rfl, ⟨rfl, trivial⟩⟩⟩)
set_option maxRecDepth 20000 in
theorem e_X10_rests {l : Launch} {G : Gx} {w : Wd} {jr0 : Nat} (hr0 : jr0 < cnt 69) {K : Option Value → Wd → Prop} {X : String → Wd → Prop} (hl : l.stackTraces = false)
    (h : ∀ (M : Mx) (kk : Nat), mL M = l → 2 ≤ kk → Fx M G RX10 cX10_rests 4 (some .boolean) kk 0 → Z M G 0 K X w 4 [some (.ref (G.2.1 40 0)), some (.ref (G.2.1 69 jr0)), some (.int 0), some (.int 0)] []) :
    Con l G 2 0 yX10_rests cX10_rests 4 (some .boolean) w [.ref (G.2.1 40 0), .ref (G.2.1 69 jr0)] K X := by
  refine con_intro hl (by decide +kernel) (Nat.le_of_ble_eq_true rfl) (Nat.le_of_ble_eq_true rfl) (fun M kk hM hk F => ?_)
  have h := h M kk hM hk F
  show Z M G 0 K X w 0 [some (.ref (G.2.1 40 0)), some (.ref (G.2.1 69 jr0)), none, none] []
  refine z_iconst F 0 dX10_rests_0 (by decide) ?_
  refine z_istore_n F dX10_rests_1 (Nat.le_of_ble_eq_true rfl) ?_
  refine z_iconst F 0 dX10_rests_2 (by decide) ?_
  refine z_istore_n F dX10_rests_3 (Nat.le_of_ble_eq_true rfl) ?_
  exact h
set_option maxRecDepth 20000 in
theorem b_X10_rests_4 {M : Mx} {G : Gx} {kk : Nat} {w : Wd} {jr0 : Nat} (hr0 : jr0 < cnt 69) {x2 : Int32} {x3 : Int32} {K : Option Value → Wd → Prop} {X : String → Wd → Prop} (F : Fx M G RX10 cX10_rests 4 (some .boolean) kk 0) (hk : 2 ≤ kk)
    (h : (((w.1 44 0 0) ≤ x3 → (narrow .boolean (.int x2) = .int x2 ∧ K (some (.int x2)) w)) ∧ (¬ ((w.1 44 0 0) ≤ x3) → (vp_in ((0 : Int32) + x3) 57 ∧ (vp_in x3 7 ∧ (((w.1 48 ((x3 : Int32).toNatClampNeg) 2) ≤ (w.1 69 jr0 (((0 : Int32) + x3 : Int32).toNatClampNeg)) → Z M G 0 K X w 36 [some (.ref (G.2.1 40 0)), some (.ref (G.2.1 69 jr0)), none, some (.int x3)] [.int 0, .int x2]) ∧ (¬ ((w.1 48 ((x3 : Int32).toNatClampNeg) 2) ≤ (w.1 69 jr0 (((0 : Int32) + x3 : Int32).toNatClampNeg))) → Z M G 0 K X w 36 [some (.ref (G.2.1 40 0)), some (.ref (G.2.1 69 jr0)), none, some (.int x3)] [.int 1, .int x2]))))))) :
    Z M G 0 K X w 4 [some (.ref (G.2.1 40 0)), some (.ref (G.2.1 69 jr0)), some (.int x2), some (.int x3)] [] := by
  refine z_iload_n F dX10_rests_4 rfl ?_
  refine z_aload_n F dX10_rests_5 rfl ?_
  refine z_getR F 12 44 0 rfl (by decide) (by decide) rfl rfl rfl lk_X10_23 dX10_rests_6 ?_
  refine z_iconst F 0 dX10_rests_9 (by decide) ?_
  refine z_ialdK F 0 (by decide) rfl (by decide) (by unfold vp_in; decide) dX10_rests_10 ?_
  refine z_icmp_ge F 72 dX10_rests_11 (by decide) ⟨fun hc => ?_, fun hc => ?_⟩
  · have h := h.1 hc
    refine z_iload_n F dX10_rests_72 rfl ?_
    exact z_zret F dX10_rests_73 (by decide) h.1 h.2
  · have h := h.2 hc
    refine z_iload_n F dX10_rests_14 rfl ?_
    refine z_aload_n F dX10_rests_15 rfl ?_
    refine z_iconst F 0 dX10_rests_16 (by decide) ?_
    refine z_iload_n F dX10_rests_17 rfl ?_
    refine z_iadd F dX10_rests_18 ?_
    obtain ⟨hb, h⟩ := h
    refine z_ialdK F (((0 : Int32) + x3 : Int32).toNatClampNeg) rfl rfl hr0 hb dX10_rests_19 ?_
    refine z_aload_n F dX10_rests_20 rfl ?_
    refine z_getR F 14 47 0 rfl (by decide) (by decide) rfl rfl rfl lk_X10_31 dX10_rests_21 ?_
    refine z_iload_n F dX10_rests_24 rfl ?_
    obtain ⟨hb, h⟩ := h
    refine z_aald F 48 ((x3 : Int32).toNatClampNeg) rfl (by decide) (by decide) (by decide) rfl rfl hb dX10_rests_25 (fun hv1 => ?_)
    refine z_iconst F 2 dX10_rests_26 (by decide) ?_
    refine z_ialdK F 2 (by decide) rfl hv1 (by unfold vp_in; decide) dX10_rests_27 ?_
    refine z_icmp_ge F 35 dX10_rests_28 (by decide) ⟨fun hc => ?_, fun hc => ?_⟩
    · have h := h.1 hc
      refine z_iconst F 0 dX10_rests_35 (by decide) ?_
      exact z_weak h (⟨rfl, ⟨rfl, ⟨rfl, trivial⟩⟩⟩)
    · have h := h.2 hc
      refine z_iconst F 1 dX10_rests_31 (by decide) ?_
      refine z_goto F 36 dX10_rests_32 (by decide) ?_
      exact z_weak h (⟨rfl, ⟨rfl, ⟨rfl, trivial⟩⟩⟩)
set_option maxRecDepth 20000 in
theorem b_X10_rests_36 {M : Mx} {G : Gx} {kk : Nat} {w : Wd} {jr0 : Nat} (hr0 : jr0 < cnt 69) {x3 : Int32} {s0 : Int32} {s1 : Int32} {K : Option Value → Wd → Prop} {X : String → Wd → Prop} (F : Fx M G RX10 cX10_rests 4 (some .boolean) kk 0) (hk : 2 ≤ kk)
    (h : (vp_in x3 7 ∧ (vp_in ((0 : Int32) + x3) 57 ∧ Con (mL M) G 1 0 yX10_less cX10_less 2 (some .int) w [.int (w.1 48 ((x3 : Int32).toNatClampNeg) 2), .int ((w.1 69 jr0 (((0 : Int32) + x3 : Int32).toNatClampNeg)) + (w.1 44 0 3))] (fun r w3 => ∃ v2 : Int32, r = some (.int v2) ∧ (vp_in ((0 : Int32) + x3) 57 ∧ ∀ w4 : Wd, w4 = setI w3 69 jr0 (((0 : Int32) + x3 : Int32).toNatClampNeg) v2 → Z M G 0 K X w4 4 [some (.ref (G.2.1 40 0)), some (.ref (G.2.1 69 jr0)), some (.int (s1 ||| s0)), some (.int (x3 + 1))] [])) X))) :
    Z M G 0 K X w 36 [some (.ref (G.2.1 40 0)), some (.ref (G.2.1 69 jr0)), none, some (.int x3)] [.int s0, .int s1] := by
  refine z_ior F dX10_rests_36 ?_
  refine z_istore_n F dX10_rests_37 (Nat.le_of_ble_eq_true rfl) ?_
  refine z_aload_n F dX10_rests_38 rfl ?_
  refine z_iconst F 0 dX10_rests_39 (by decide) ?_
  refine z_iload_n F dX10_rests_40 rfl ?_
  refine z_iadd F dX10_rests_41 ?_
  refine z_aload_n F dX10_rests_42 rfl ?_
  refine z_getR F 14 47 0 rfl (by decide) (by decide) rfl rfl rfl lk_X10_31 dX10_rests_43 ?_
  refine z_iload_n F dX10_rests_46 rfl ?_
  obtain ⟨hb, h⟩ := h
  refine z_aald F 48 ((x3 : Int32).toNatClampNeg) rfl (by decide) (by decide) (by decide) rfl rfl hb dX10_rests_47 (fun hv1 => ?_)
  refine z_iconst F 2 dX10_rests_48 (by decide) ?_
  refine z_ialdK F 2 (by decide) rfl hv1 (by unfold vp_in; decide) dX10_rests_49 ?_
  refine z_aload_n F dX10_rests_50 rfl ?_
  refine z_iconst F 0 dX10_rests_51 (by decide) ?_
  refine z_iload_n F dX10_rests_52 rfl ?_
  refine z_iadd F dX10_rests_53 ?_
  obtain ⟨hb, h⟩ := h
  refine z_ialdK F (((0 : Int32) + x3 : Int32).toNatClampNeg) rfl rfl hr0 hb dX10_rests_54 ?_
  refine z_aload_n F dX10_rests_55 rfl ?_
  refine z_getR F 12 44 0 rfl (by decide) (by decide) rfl rfl rfl lk_X10_23 dX10_rests_56 ?_
  refine z_iconst F 3 dX10_rests_59 (by decide) ?_
  refine z_ialdK F 3 (by decide) rfl (by decide) (by unfold vp_in; decide) dX10_rests_60 ?_
  refine z_iadd F dX10_rests_61 ?_
  refine z_callS F (k' := 1) (mc' := 0) [.int (w.1 48 ((x3 : Int32).toNatClampNeg) 2), .int ((w.1 69 jr0 (((0 : Int32) + x3 : Int32).toNatClampNeg)) + (w.1 44 0 3))] [.int ((0 : Int32) + x3), .ref (G.2.1 69 jr0)] dX10_rests_62 rfl cl_X10_235 hy_X10_less.2 (by omega) (by decide) (by decide) (Nat.le_of_ble_eq_true rfl) rfl (con_mono h ?_ (fun _ _ h => h))
  rintro _ w3 ⟨v2, rfl, h⟩
  show Z M G 0 K X w3 65 [some (.ref (G.2.1 40 0)), some (.ref (G.2.1 69 jr0)), some (.int (s1 ||| s0)), some (.int x3)] [.int v2, .int ((0 : Int32) + x3), .ref (G.2.1 69 jr0)]
  obtain ⟨hb, h⟩ := h
  refine z_iastW F (((0 : Int32) + x3 : Int32).toNatClampNeg) rfl rfl hr0 hb dX10_rests_65 (fun w4 hw4 => ?_)
  have h := h w4 hw4
  refine z_iinc F (x3 + 1) dX10_rests_66 rfl rfl (Nat.le_of_ble_eq_true rfl) ?_
  refine z_goto F 4 dX10_rests_69 (by decide) ?_
  exact h
set_option maxRecDepth 20000 in
theorem e_X10_wordsOf {l : Launch} {G : Gx} {w : Wd} {p0 : Int32} {K : Option Value → Wd → Prop} {X : String → Wd → Prop} (hl : l.stackTraces = false)
    (h : ∀ (M : Mx) (kk : Nat), mL M = l → 1 ≤ kk → Fx M G RX10 cX10_wordsOf 4 (some .int) kk 0 → (vp_in p0 20 ∧ Z M G 0 K X w 13 [some (.ref (G.2.1 40 0)), some (.int p0), some (.int ((1 : Int32) <<< ((w.1 52 ((p0 : Int32).toNatClampNeg) 0) &&& 31))), some (.int 0)] [])) :
    Con l G 1 0 yX10_wordsOf cX10_wordsOf 4 (some .int) w [.ref (G.2.1 40 0), .int p0] K X := by
  refine con_intro hl (by decide +kernel) (Nat.le_of_ble_eq_true rfl) (Nat.le_of_ble_eq_true rfl) (fun M kk hM hk F => ?_)
  have h := h M kk hM hk F
  show Z M G 0 K X w 0 [some (.ref (G.2.1 40 0)), some (.int p0), none, none] []
  refine z_iconst F 1 dX10_wordsOf_0 (by decide) ?_
  refine z_aload_n F dX10_wordsOf_1 rfl ?_
  refine z_getR F 16 51 0 rfl (by decide) (by decide) rfl rfl rfl lk_X10_37 dX10_wordsOf_2 ?_
  refine z_iload_n F dX10_wordsOf_5 rfl ?_
  obtain ⟨hb, h⟩ := h
  refine z_aald F 52 ((p0 : Int32).toNatClampNeg) rfl (by decide) (by decide) (by decide) rfl rfl hb dX10_wordsOf_6 (fun hv1 => ?_)
  refine z_iconst F 0 dX10_wordsOf_7 (by decide) ?_
  refine z_ialdK F 0 (by decide) rfl hv1 (by unfold vp_in; decide) dX10_wordsOf_8 ?_
  refine z_ishl F dX10_wordsOf_9 ?_
  refine z_istore_n F dX10_wordsOf_10 (Nat.le_of_ble_eq_true rfl) ?_
  refine z_iconst F 0 dX10_wordsOf_11 (by decide) ?_
  refine z_istore_n F dX10_wordsOf_12 (Nat.le_of_ble_eq_true rfl) ?_
  exact h
set_option maxRecDepth 20000 in
theorem b_X10_wordsOf_13 {M : Mx} {G : Gx} {kk : Nat} {w : Wd}  {x1 : Int32} {x2 : Int32} {x3 : Int32} {K : Option Value → Wd → Prop} {X : String → Wd → Prop} (F : Fx M G RX10 cX10_wordsOf 4 (some .int) kk 0) (hk : 1 ≤ kk)
    (h : (((w.1 44 0 2) ≤ x3 → K (some (.int x2)) w) ∧ (¬ ((w.1 44 0 2) ≤ x3) → (vp_in x3 12 ∧ ((¬ (w.1 56 ((x3 : Int32).toNatClampNeg) 0) = x1 → Z M G 0 K X w 13 [some (.ref (G.2.1 40 0)), some (.int x1), some (.int (x2 ||| (0 : Int32))), some (.int (x3 + 1))] []) ∧ (¬ (¬ (w.1 56 ((x3 : Int32).toNatClampNeg) 0) = x1) → (vp_in x3 12 ∧ Z M G 0 K X w 13 [some (.ref (G.2.1 40 0)), some (.int x1), some (.int (x2 ||| ((1 : Int32) <<< ((w.1 56 ((x3 : Int32).toNatClampNeg) 1) &&& 31)))), some (.int (x3 + 1))] []))))))) :
    Z M G 0 K X w 13 [some (.ref (G.2.1 40 0)), some (.int x1), some (.int x2), some (.int x3)] [] := by
  refine z_iload_n F dX10_wordsOf_13 rfl ?_
  refine z_aload_n F dX10_wordsOf_14 rfl ?_
  refine z_getR F 12 44 0 rfl (by decide) (by decide) rfl rfl rfl lk_X10_23 dX10_wordsOf_15 ?_
  refine z_iconst F 2 dX10_wordsOf_18 (by decide) ?_
  refine z_ialdK F 2 (by decide) rfl (by decide) (by unfold vp_in; decide) dX10_wordsOf_19 ?_
  refine z_icmp_ge F 58 dX10_wordsOf_20 (by decide) ⟨fun hc => ?_, fun hc => ?_⟩
  · have h := h.1 hc
    refine z_iload_n F dX10_wordsOf_58 rfl ?_
    exact z_iret F dX10_wordsOf_59 (by decide) h
  · have h := h.2 hc
    refine z_iload_n F dX10_wordsOf_23 rfl ?_
    refine z_aload_n F dX10_wordsOf_24 rfl ?_
    refine z_getR F 18 55 0 rfl (by decide) (by decide) rfl rfl rfl lk_X10_43 dX10_wordsOf_25 ?_
    refine z_iload_n F dX10_wordsOf_28 rfl ?_
    obtain ⟨hb, h⟩ := h
    refine z_aald F 56 ((x3 : Int32).toNatClampNeg) rfl (by decide) (by decide) (by decide) rfl rfl hb dX10_wordsOf_29 (fun hv1 => ?_)
    refine z_iconst F 0 dX10_wordsOf_30 (by decide) ?_
    refine z_ialdK F 0 (by decide) rfl hv1 (by unfold vp_in; decide) dX10_wordsOf_31 ?_
    refine z_iload_n F dX10_wordsOf_32 rfl ?_
    refine z_icmp_ne F 49 dX10_wordsOf_33 (by decide) ⟨fun hc => ?_, fun hc => ?_⟩
    · have h := h.1 hc
      refine z_iconst F 0 dX10_wordsOf_49 (by decide) ?_
      refine z_ior F dX10_wordsOf_50 ?_
      refine z_istore_n F dX10_wordsOf_51 (Nat.le_of_ble_eq_true rfl) ?_
      refine z_iinc F (x3 + 1) dX10_wordsOf_52 rfl rfl (Nat.le_of_ble_eq_true rfl) ?_
      refine z_goto F 13 dX10_wordsOf_55 (by decide) ?_
      exact h
    · have h := h.2 hc
      refine z_iconst F 1 dX10_wordsOf_36 (by decide) ?_
      refine z_aload_n F dX10_wordsOf_37 rfl ?_
      refine z_getR F 18 55 0 rfl (by decide) (by decide) rfl rfl rfl lk_X10_43 dX10_wordsOf_38 ?_
      refine z_iload_n F dX10_wordsOf_41 rfl ?_
      obtain ⟨hb, h⟩ := h
      refine z_aald F 56 ((x3 : Int32).toNatClampNeg) rfl (by decide) (by decide) (by decide) rfl rfl hb dX10_wordsOf_42 (fun hv2 => ?_)
      refine z_iconst F 1 dX10_wordsOf_43 (by decide) ?_
      refine z_ialdK F 1 (by decide) rfl hv2 (by unfold vp_in; decide) dX10_wordsOf_44 ?_
      refine z_ishl F dX10_wordsOf_45 ?_
      refine z_goto F 50 dX10_wordsOf_46 (by decide) ?_
      refine z_ior F dX10_wordsOf_50 ?_
      refine z_istore_n F dX10_wordsOf_51 (Nat.le_of_ble_eq_true rfl) ?_
      refine z_iinc F (x3 + 1) dX10_wordsOf_52 rfl rfl (Nat.le_of_ble_eq_true rfl) ?_
      refine z_goto F 13 dX10_wordsOf_55 (by decide) ?_
      exact h
set_option maxRecDepth 20000 in
theorem e_X10_becomes {l : Launch} {G : Gx} {w : Wd} {jr0 : Nat} (hr0 : jr0 < cnt 69) {p1 : Int32} {p2 : Int32} {K : Option Value → Wd → Prop} {X : String → Wd → Prop} (hl : l.stackTraces = false)
    (h : ∀ (M : Mx) (kk : Nat), mL M = l → 1 ≤ kk → Fx M G RX10 cX10_becomes 3 (some .boolean) kk 0 → (vp_in p1 57 ∧ ((¬ (w.1 69 jr0 ((p1 : Int32).toNatClampNeg)) = p2 → (vp_in p1 57 ∧ ∀ w1 : Wd, w1 = setI w 69 jr0 ((p1 : Int32).toNatClampNeg) p2 → K (some (.int 1)) w1)) ∧ (¬ (¬ (w.1 69 jr0 ((p1 : Int32).toNatClampNeg)) = p2) → K (some (.int 0)) w)))) :
    Con l G 1 0 yX10_becomes cX10_becomes 3 (some .boolean) w [.ref (G.2.1 69 jr0), .int p1, .int p2] K X := by
  refine con_intro hl (by decide +kernel) (Nat.le_of_ble_eq_true rfl) (Nat.le_of_ble_eq_true rfl) (fun M kk hM hk F => ?_)
  have h := h M kk hM hk F
  show Z M G 0 K X w 0 [some (.ref (G.2.1 69 jr0)), some (.int p1), some (.int p2)] []
  refine z_aload_n F dX10_becomes_0 rfl ?_
  refine z_iload_n F dX10_becomes_1 rfl ?_
  obtain ⟨hb, h⟩ := h
  refine z_ialdK F ((p1 : Int32).toNatClampNeg) rfl rfl hr0 hb dX10_becomes_2 ?_
  refine z_iload_n F dX10_becomes_3 rfl ?_
  refine z_icmp_ne F 9 dX10_becomes_4 (by decide) ⟨fun hc => ?_, fun hc => ?_⟩
  · have h := h.1 hc
    refine z_aload_n F dX10_becomes_9 rfl ?_
    refine z_iload_n F dX10_becomes_10 rfl ?_
    refine z_iload_n F dX10_becomes_11 rfl ?_
    obtain ⟨hb, h⟩ := h
    refine z_iastW F ((p1 : Int32).toNatClampNeg) rfl rfl hr0 hb dX10_becomes_12 (fun w1 hw1 => ?_)
    have h := h w1 hw1
    refine z_iconst F 1 dX10_becomes_13 (by decide) ?_
    exact z_zret F dX10_becomes_14 (by decide) rfl h
  · have h := h.2 hc
    refine z_iconst F 0 dX10_becomes_7 (by decide) ?_
    exact z_zret F dX10_becomes_8 (by decide) rfl h
set_option maxRecDepth 20000 in
theorem e_X10_dayEnds {l : Launch} {G : Gx} {w : Wd} {jr0 : Nat} (hr0 : jr0 < cnt 69) {K : Option Value → Wd → Prop} {X : String → Wd → Prop} (hl : l.stackTraces = false)
    (h : ∀ (M : Mx) (kk : Nat), mL M = l → 2 ≤ kk → Fx M G RX10 cX10_dayEnds 3 none kk 0 → Con (mL M) G 1 0 yX10_breathes cX10_breathes 3 none w [.ref (G.2.1 40 0), .ref (G.2.1 69 jr0)] (fun r w2 => r = none ∧ Z M G 0 K X w2 7 [some (.ref (G.2.1 40 0)), some (.ref (G.2.1 69 jr0)), some (.int 0)] []) X) :
    Con l G 2 0 yX10_dayEnds cX10_dayEnds 3 none w [.ref (G.2.1 40 0), .ref (G.2.1 69 jr0)] K X := by
  refine con_intro hl (by decide +kernel) (Nat.le_of_ble_eq_true rfl) (Nat.le_of_ble_eq_true rfl) (fun M kk hM hk F => ?_)
  have h := h M kk hM hk F
  show Z M G 0 K X w 0 [some (.ref (G.2.1 40 0)), some (.ref (G.2.1 69 jr0)), none] []
  refine z_aload_n F dX10_dayEnds_0 rfl ?_
  refine z_aload_n F dX10_dayEnds_1 rfl ?_
  refine z_callV F (k' := 1) (mc' := 0) [.ref (G.2.1 69 jr0)] [] dX10_dayEnds_2 rfl rfl (by decide) rfl cl_X10_188 hy_X10_breathes (by omega) (by decide) (by decide) (Nat.le_of_ble_eq_true rfl) rfl (con_mono h ?_ (fun _ _ h => h))
  rintro _ w2 ⟨rfl, h⟩
  show Z M G 0 K X w2 5 [some (.ref (G.2.1 40 0)), some (.ref (G.2.1 69 jr0)), none] []
  refine z_iconst F 0 dX10_dayEnds_5 (by decide) ?_
  refine z_istore_n F dX10_dayEnds_6 (Nat.le_of_ble_eq_true rfl) ?_
  exact h
set_option maxRecDepth 20000 in
theorem b_X10_dayEnds_7 {M : Mx} {G : Gx} {kk : Nat} {w : Wd} {jr0 : Nat} (hr0 : jr0 < cnt 69) {x2 : Int32} {K : Option Value → Wd → Prop} {X : String → Wd → Prop} (F : Fx M G RX10 cX10_dayEnds 3 none kk 0) (hk : 2 ≤ kk)
    (h : (((w.1 44 0 0) ≤ x2 → (∀ w1 : Wd, w1 = setI w 69 jr0 56 ((w.1 69 jr0 56) + (1 : Int32)) → K none w1)) ∧ (¬ ((w.1 44 0 0) ≤ x2) → (vp_in ((28 : Int32) + x2) 57 ∧ ((¬ (w.1 69 jr0 (((28 : Int32) + x2 : Int32).toNatClampNeg)) = 0 → (vp_in ((21 : Int32) + x2) 57 ∧ (vp_in x2 7 ∧ Con (mL M) G 1 0 yX10_less cX10_less 2 (some .int) w [.int 9999, .int ((w.1 69 jr0 (((21 : Int32) + x2 : Int32).toNatClampNeg)) + (w.1 48 ((x2 : Int32).toNatClampNeg) 1))] (fun r w4 => ∃ v3 : Int32, r = some (.int v3) ∧ (vp_in ((21 : Int32) + x2) 57 ∧ ∀ w5 : Wd, w5 = setI w4 69 jr0 (((21 : Int32) + x2 : Int32).toNatClampNeg) v3 → (vp_in ((28 : Int32) + x2) 57 ∧ ∀ w6 : Wd, w6 = setI w5 69 jr0 (((28 : Int32) + x2 : Int32).toNatClampNeg) 0 → Z M G 0 K X w6 7 [some (.ref (G.2.1 40 0)), some (.ref (G.2.1 69 jr0)), some (.int (x2 + 1))] []))) X))) ∧ (¬ (¬ (w.1 69 jr0 (((28 : Int32) + x2 : Int32).toNatClampNeg)) = 0) → (vp_in ((21 : Int32) + x2) 57 ∧ (vp_in ((21 : Int32) + x2) 57 ∧ ∀ w7 : Wd, w7 = setI w 69 jr0 (((21 : Int32) + x2 : Int32).toNatClampNeg) (w.1 69 jr0 (((21 : Int32) + x2 : Int32).toNatClampNeg)) → (vp_in ((28 : Int32) + x2) 57 ∧ ∀ w8 : Wd, w8 = setI w7 69 jr0 (((28 : Int32) + x2 : Int32).toNatClampNeg) 0 → Z M G 0 K X w8 7 [some (.ref (G.2.1 40 0)), some (.ref (G.2.1 69 jr0)), some (.int (x2 + 1))] []))))))))) :
    Z M G 0 K X w 7 [some (.ref (G.2.1 40 0)), some (.ref (G.2.1 69 jr0)), some (.int x2)] [] := by
  refine z_iload_n F dX10_dayEnds_7 rfl ?_
  refine z_aload_n F dX10_dayEnds_8 rfl ?_
  refine z_getR F 12 44 0 rfl (by decide) (by decide) rfl rfl rfl lk_X10_23 dX10_dayEnds_9 ?_
  refine z_iconst F 0 dX10_dayEnds_12 (by decide) ?_
  refine z_ialdK F 0 (by decide) rfl (by decide) (by unfold vp_in; decide) dX10_dayEnds_13 ?_
  refine z_icmp_ge F 75 dX10_dayEnds_14 (by decide) ⟨fun hc => ?_, fun hc => ?_⟩
  · have h := h.1 hc
    refine z_aload_n F dX10_dayEnds_75 rfl ?_
    refine z_bipush F 56 dX10_dayEnds_76 (by decide) ?_
    refine z_dup2 F dX10_dayEnds_78 rfl rfl ?_
    refine z_ialdK F 56 (by decide) rfl hr0 (by unfold vp_in; decide) dX10_dayEnds_79 ?_
    refine z_iconst F 1 dX10_dayEnds_80 (by decide) ?_
    refine z_iadd F dX10_dayEnds_81 ?_
    refine z_iastW F 56 (by decide) rfl hr0 (by unfold vp_in; decide) dX10_dayEnds_82 (fun w1 hw1 => ?_)
    have h := h w1 hw1
    exact z_vret F dX10_dayEnds_83 (by decide) h
  · have h := h.2 hc
    refine z_aload_n F dX10_dayEnds_17 rfl ?_
    refine z_bipush F 21 dX10_dayEnds_18 (by decide) ?_
    refine z_iload_n F dX10_dayEnds_20 rfl ?_
    refine z_iadd F dX10_dayEnds_21 ?_
    refine z_aload_n F dX10_dayEnds_22 rfl ?_
    refine z_bipush F 28 dX10_dayEnds_23 (by decide) ?_
    refine z_iload_n F dX10_dayEnds_25 rfl ?_
    refine z_iadd F dX10_dayEnds_26 ?_
    obtain ⟨hb, h⟩ := h
    refine z_ialdK F (((28 : Int32) + x2 : Int32).toNatClampNeg) rfl rfl hr0 hb dX10_dayEnds_27 ?_
    refine z_if_ne F 40 dX10_dayEnds_28 (by decide) ⟨fun hc => ?_, fun hc => ?_⟩
    · have h := h.1 hc
      refine z_sipush F 9999 dX10_dayEnds_40 (by decide) ?_
      refine z_aload_n F dX10_dayEnds_43 rfl ?_
      refine z_bipush F 21 dX10_dayEnds_44 (by decide) ?_
      refine z_iload_n F dX10_dayEnds_46 rfl ?_
      refine z_iadd F dX10_dayEnds_47 ?_
      obtain ⟨hb, h⟩ := h
      refine z_ialdK F (((21 : Int32) + x2 : Int32).toNatClampNeg) rfl rfl hr0 hb dX10_dayEnds_48 ?_
      refine z_aload_n F dX10_dayEnds_49 rfl ?_
      refine z_getR F 14 47 0 rfl (by decide) (by decide) rfl rfl rfl lk_X10_31 dX10_dayEnds_50 ?_
      refine z_iload_n F dX10_dayEnds_53 rfl ?_
      obtain ⟨hb, h⟩ := h
      refine z_aald F 48 ((x2 : Int32).toNatClampNeg) rfl (by decide) (by decide) (by decide) rfl rfl hb dX10_dayEnds_54 (fun hv2 => ?_)
      refine z_iconst F 1 dX10_dayEnds_55 (by decide) ?_
      refine z_ialdK F 1 (by decide) rfl hv2 (by unfold vp_in; decide) dX10_dayEnds_56 ?_
      refine z_iadd F dX10_dayEnds_57 ?_
      refine z_callS F (k' := 1) (mc' := 0) [.int 9999, .int ((w.1 69 jr0 (((21 : Int32) + x2 : Int32).toNatClampNeg)) + (w.1 48 ((x2 : Int32).toNatClampNeg) 1))] [.int ((21 : Int32) + x2), .ref (G.2.1 69 jr0)] dX10_dayEnds_58 rfl cl_X10_235 hy_X10_less.2 (by omega) (by decide) (by decide) (Nat.le_of_ble_eq_true rfl) rfl (con_mono h ?_ (fun _ _ h => h))
      rintro _ w4 ⟨v3, rfl, h⟩
      show Z M G 0 K X w4 61 [some (.ref (G.2.1 40 0)), some (.ref (G.2.1 69 jr0)), some (.int x2)] [.int v3, .int ((21 : Int32) + x2), .ref (G.2.1 69 jr0)]
      obtain ⟨hb, h⟩ := h
      refine z_iastW F (((21 : Int32) + x2 : Int32).toNatClampNeg) rfl rfl hr0 hb dX10_dayEnds_61 (fun w5 hw5 => ?_)
      have h := h w5 hw5
      refine z_aload_n F dX10_dayEnds_62 rfl ?_
      refine z_bipush F 28 dX10_dayEnds_63 (by decide) ?_
      refine z_iload_n F dX10_dayEnds_65 rfl ?_
      refine z_iadd F dX10_dayEnds_66 ?_
      refine z_iconst F 0 dX10_dayEnds_67 (by decide) ?_
      obtain ⟨hb, h⟩ := h
      refine z_iastW F (((28 : Int32) + x2 : Int32).toNatClampNeg) rfl rfl hr0 hb dX10_dayEnds_68 (fun w6 hw6 => ?_)
      have h := h w6 hw6
      refine z_iinc F (x2 + 1) dX10_dayEnds_69 rfl rfl (Nat.le_of_ble_eq_true rfl) ?_
      refine z_goto F 7 dX10_dayEnds_72 (by decide) ?_
      exact h
    · have h := h.2 hc
      refine z_aload_n F dX10_dayEnds_31 rfl ?_
      refine z_bipush F 21 dX10_dayEnds_32 (by decide) ?_
      refine z_iload_n F dX10_dayEnds_34 rfl ?_
      refine z_iadd F dX10_dayEnds_35 ?_
      obtain ⟨hb, h⟩ := h
      refine z_ialdK F (((21 : Int32) + x2 : Int32).toNatClampNeg) rfl rfl hr0 hb dX10_dayEnds_36 ?_
      refine z_goto F 61 dX10_dayEnds_37 (by decide) ?_
      obtain ⟨hb, h⟩ := h
      refine z_iastW F (((21 : Int32) + x2 : Int32).toNatClampNeg) rfl rfl hr0 hb dX10_dayEnds_61 (fun w7 hw7 => ?_)
      have h := h w7 hw7
      refine z_aload_n F dX10_dayEnds_62 rfl ?_
      refine z_bipush F 28 dX10_dayEnds_63 (by decide) ?_
      refine z_iload_n F dX10_dayEnds_65 rfl ?_
      refine z_iadd F dX10_dayEnds_66 ?_
      refine z_iconst F 0 dX10_dayEnds_67 (by decide) ?_
      obtain ⟨hb, h⟩ := h
      refine z_iastW F (((28 : Int32) + x2 : Int32).toNatClampNeg) rfl rfl hr0 hb dX10_dayEnds_68 (fun w8 hw8 => ?_)
      have h := h w8 hw8
      refine z_iinc F (x2 + 1) dX10_dayEnds_69 rfl rfl (Nat.le_of_ble_eq_true rfl) ?_
      refine z_goto F 7 dX10_dayEnds_72 (by decide) ?_
      exact h
set_option maxRecDepth 20000 in
theorem e_X10_does {l : Launch} {G : Gx} {w : Wd} {jr0 : Nat} (hr0 : jr0 < cnt 69) {jr1 : Nat} (hr1 : jr1 < cnt 68) {K : Option Value → Wd → Prop} {X : String → Wd → Prop} (hl : l.stackTraces = false)
    (h : ∀ (M : Mx) (kk : Nat), mL M = l → 9 ≤ kk → Fx M G RX10 cX10_does 3 (some .boolean) kk 0 → (((w.1 68 jr1 0) = 0 → Con (mL M) G 7 0 yX10_sings cX10_sings 4 (some .boolean) w [.ref (G.2.1 40 0), .ref (G.2.1 69 jr0), .int (w.1 68 jr1 1)] (fun r w2 => ∃ v1 : Int32, r = some (.int v1) ∧ (narrow .boolean (.int v1) = .int v1 ∧ K (some (.int v1)) w2)) X) ∧ ((w.1 68 jr1 0) = 1 → Con (mL M) G 8 0 yX10_hymns cX10_hymns 4 none w [.ref (G.2.1 40 0), .ref (G.2.1 69 jr0)] (fun r w4 => r = none ∧ K (some (.int 1)) w4) X) ∧ ((w.1 68 jr1 0) = 2 → Con (mL M) G 2 0 yX10_rests cX10_rests 4 (some .boolean) w [.ref (G.2.1 40 0), .ref (G.2.1 69 jr0)] (fun r w6 => ∃ v5 : Int32, r = some (.int v5) ∧ (narrow .boolean (.int v5) = .int v5 ∧ K (some (.int v5)) w6)) X) ∧ ((w.1 68 jr1 0) = 3 → Z M G 0 K X w 62 [none, some (.ref (G.2.1 69 jr0)), some (.ref (G.2.1 68 jr1))] []) ∧ ((w.1 68 jr1 0) = 4 → Z M G 0 K X w 62 [none, some (.ref (G.2.1 69 jr0)), some (.ref (G.2.1 68 jr1))] []) ∧ ((w.1 68 jr1 0) = 5 → Con (mL M) G 1 0 yX10_wordsOf cX10_wordsOf 4 (some .int) w [.ref (G.2.1 40 0), .int (w.1 68 jr1 1)] (fun r w8 => ∃ v7 : Int32, r = some (.int v7) ∧ Con (mL M) G 1 0 yX10_has cX10_has 2 (some .boolean) w8 [.int v7, .int (w8.1 68 jr1 2)] (fun r w10 => ∃ v9 : Int32, r = some (.int v9) ∧ ((v9 = 0 → K (some (.int 0)) w10) ∧ (¬ (v9 = 0) → Con (mL M) G 1 0 yX10_becomes cX10_becomes 3 (some .boolean) w10 [.ref (G.2.1 69 jr0), .int ((35 : Int32) + (w10.1 68 jr1 1)), .int (w10.1 68 jr1 2)] (fun r w12 => ∃ v11 : Int32, r = some (.int v11) ∧ ((v11 = 0 → K (some (.int 0)) w12) ∧ (¬ (v11 = 0) → K (some (.int 1)) w12))) X))) X) X) ∧ (¬ (w.1 68 jr1 0) = 0 ∧ ¬ (w.1 68 jr1 0) = 1 ∧ ¬ (w.1 68 jr1 0) = 2 ∧ ¬ (w.1 68 jr1 0) = 3 ∧ ¬ (w.1 68 jr1 0) = 4 ∧ ¬ (w.1 68 jr1 0) = 5 → (((w.1 69 jr0 56) < 400 → Con (mL M) G 2 0 yX10_dayEnds cX10_dayEnds 3 none w [.ref (G.2.1 40 0), .ref (G.2.1 69 jr0)] (fun r w14 => r = none ∧ K (some (.int 1)) w14) X) ∧ (¬ ((w.1 69 jr0 56) < 400) → K (some (.int 0)) w))))) :
    Con l G 9 0 yX10_does cX10_does 3 (some .boolean) w [.ref (G.2.1 40 0), .ref (G.2.1 69 jr0), .ref (G.2.1 68 jr1)] K X := by
  refine con_intro hl (by decide +kernel) (Nat.le_of_ble_eq_true rfl) (Nat.le_of_ble_eq_true rfl) (fun M kk hM hk F => ?_)
  have h := h M kk hM hk F
  show Z M G 0 K X w 0 [some (.ref (G.2.1 40 0)), some (.ref (G.2.1 69 jr0)), some (.ref (G.2.1 68 jr1))] []
  refine z_aload_n F dX10_does_0 rfl ?_
  refine z_iconst F 0 dX10_does_1 (by decide) ?_
  refine z_ialdK F 0 (by decide) rfl hr1 (by unfold vp_in; decide) dX10_does_2 ?_
  by_cases hc0 : (w.1 68 jr1 0) = 0
  · have h := h.1 hc0
    refine z_tabIn F 40 dX10_does_3 (by rw [hc0]; decide) (by rw [hc0]; decide) (by rw [hc0]; rfl) (by decide) ?_
    refine z_aload_n F dX10_does_40 rfl ?_
    refine z_aload_n F dX10_does_41 rfl ?_
    refine z_aload_n F dX10_does_42 rfl ?_
    refine z_iconst F 1 dX10_does_43 (by decide) ?_
    refine z_ialdK F 1 (by decide) rfl hr1 (by unfold vp_in; decide) dX10_does_44 ?_
    refine z_callV F (k' := 7) (mc' := 0) [.ref (G.2.1 69 jr0), .int (w.1 68 jr1 1)] [] dX10_does_45 rfl rfl (by decide) rfl cl_X10_276 hy_X10_sings (by omega) (by decide) (by decide) (Nat.le_of_ble_eq_true rfl) rfl (con_mono h ?_ (fun _ _ h => h))
    rintro _ w2 ⟨v1, rfl, h⟩
    show Z M G 0 K X w2 48 [some (.ref (G.2.1 40 0)), some (.ref (G.2.1 69 jr0)), some (.ref (G.2.1 68 jr1))] [.int v1]
    exact z_zret F dX10_does_48 (by decide) h.1 h.2
  by_cases hc1 : (w.1 68 jr1 0) = 1
  · have h := h.2.1 hc1
    refine z_tabIn F 49 dX10_does_3 (by rw [hc1]; decide) (by rw [hc1]; decide) (by rw [hc1]; rfl) (by decide) ?_
    refine z_aload_n F dX10_does_49 rfl ?_
    refine z_aload_n F dX10_does_50 rfl ?_
    refine z_callV F (k' := 8) (mc' := 0) [.ref (G.2.1 69 jr0)] [] dX10_does_51 rfl rfl (by decide) rfl cl_X10_280 hy_X10_hymns (by omega) (by decide) (by decide) (Nat.le_of_ble_eq_true rfl) rfl (con_mono h ?_ (fun _ _ h => h))
    rintro _ w4 ⟨rfl, h⟩
    show Z M G 0 K X w4 54 [some (.ref (G.2.1 40 0)), some (.ref (G.2.1 69 jr0)), some (.ref (G.2.1 68 jr1))] []
    refine z_iconst F 1 dX10_does_54 (by decide) ?_
    exact z_zret F dX10_does_55 (by decide) rfl h
  by_cases hc2 : (w.1 68 jr1 0) = 2
  · have h := h.2.2.1 hc2
    refine z_tabIn F 56 dX10_does_3 (by rw [hc2]; decide) (by rw [hc2]; decide) (by rw [hc2]; rfl) (by decide) ?_
    refine z_aload_n F dX10_does_56 rfl ?_
    refine z_aload_n F dX10_does_57 rfl ?_
    refine z_callV F (k' := 2) (mc' := 0) [.ref (G.2.1 69 jr0)] [] dX10_does_58 rfl rfl (by decide) rfl cl_X10_283 hy_X10_rests (by omega) (by decide) (by decide) (Nat.le_of_ble_eq_true rfl) rfl (con_mono h ?_ (fun _ _ h => h))
    rintro _ w6 ⟨v5, rfl, h⟩
    show Z M G 0 K X w6 61 [some (.ref (G.2.1 40 0)), some (.ref (G.2.1 69 jr0)), some (.ref (G.2.1 68 jr1))] [.int v5]
    exact z_zret F dX10_does_61 (by decide) h.1 h.2
  by_cases hc3 : (w.1 68 jr1 0) = 3
  · have h := h.2.2.2.1 hc3
    refine z_tabIn F 62 dX10_does_3 (by rw [hc3]; decide) (by rw [hc3]; decide) (by rw [hc3]; rfl) (by decide) ?_
    exact z_weak h (⟨rfl, ⟨rfl, trivial⟩⟩)
  by_cases hc4 : (w.1 68 jr1 0) = 4
  · have h := h.2.2.2.2.1 hc4
    refine z_tabIn F 62 dX10_does_3 (by rw [hc4]; decide) (by rw [hc4]; decide) (by rw [hc4]; rfl) (by decide) ?_
    exact z_weak h (⟨rfl, ⟨rfl, trivial⟩⟩)
  by_cases hc5 : (w.1 68 jr1 0) = 5
  · have h := h.2.2.2.2.2.1 hc5
    refine z_tabIn F 85 dX10_does_3 (by rw [hc5]; decide) (by rw [hc5]; decide) (by rw [hc5]; rfl) (by decide) ?_
    refine z_aload_n F dX10_does_85 rfl ?_
    refine z_aload_n F dX10_does_86 rfl ?_
    refine z_iconst F 1 dX10_does_87 (by decide) ?_
    refine z_ialdK F 1 (by decide) rfl hr1 (by unfold vp_in; decide) dX10_does_88 ?_
    refine z_callV F (k' := 1) (mc' := 0) [.int (w.1 68 jr1 1)] [] dX10_does_89 rfl rfl (by decide) rfl cl_X10_291 hy_X10_wordsOf (by omega) (by decide) (by decide) (Nat.le_of_ble_eq_true rfl) rfl (con_mono h ?_ (fun _ _ h => h))
    rintro _ w8 ⟨v7, rfl, h⟩
    show Z M G 0 K X w8 92 [some (.ref (G.2.1 40 0)), some (.ref (G.2.1 69 jr0)), some (.ref (G.2.1 68 jr1))] [.int v7]
    refine z_aload_n F dX10_does_92 rfl ?_
    refine z_iconst F 2 dX10_does_93 (by decide) ?_
    refine z_ialdK F 2 (by decide) rfl hr1 (by unfold vp_in; decide) dX10_does_94 ?_
    refine z_callS F (k' := 1) (mc' := 0) [.int v7, .int (w8.1 68 jr1 2)] [] dX10_does_95 rfl cl_X10_254 hy_X10_has.2 (by omega) (by decide) (by decide) (Nat.le_of_ble_eq_true rfl) rfl (con_mono h ?_ (fun _ _ h => h))
    rintro _ w10 ⟨v9, rfl, h⟩
    show Z M G 0 K X w10 98 [some (.ref (G.2.1 40 0)), some (.ref (G.2.1 69 jr0)), some (.ref (G.2.1 68 jr1))] [.int v9]
    refine z_if_eq F 121 dX10_does_98 (by decide) ⟨fun hc => ?_, fun hc => ?_⟩
    · have h := h.1 hc
      refine z_iconst F 0 dX10_does_121 (by decide) ?_
      exact z_zret F dX10_does_122 (by decide) rfl h
    · have h := h.2 hc
      refine z_aload_n F dX10_does_101 rfl ?_
      refine z_bipush F 35 dX10_does_102 (by decide) ?_
      refine z_aload_n F dX10_does_104 rfl ?_
      refine z_iconst F 1 dX10_does_105 (by decide) ?_
      refine z_ialdK F 1 (by decide) rfl hr1 (by unfold vp_in; decide) dX10_does_106 ?_
      refine z_iadd F dX10_does_107 ?_
      refine z_aload_n F dX10_does_108 rfl ?_
      refine z_iconst F 2 dX10_does_109 (by decide) ?_
      refine z_ialdK F 2 (by decide) rfl hr1 (by unfold vp_in; decide) dX10_does_110 ?_
      refine z_callS F (k' := 1) (mc' := 0) [.ref (G.2.1 69 jr0), .int ((35 : Int32) + (w10.1 68 jr1 1)), .int (w10.1 68 jr1 2)] [] dX10_does_111 rfl cl_X10_287 hy_X10_becomes.2 (by omega) (by decide) (by decide) (Nat.le_of_ble_eq_true rfl) rfl (con_mono h ?_ (fun _ _ h => h))
      rintro _ w12 ⟨v11, rfl, h⟩
      show Z M G 0 K X w12 114 [some (.ref (G.2.1 40 0)), some (.ref (G.2.1 69 jr0)), some (.ref (G.2.1 68 jr1))] [.int v11]
      refine z_if_eq F 121 dX10_does_114 (by decide) ⟨fun hc => ?_, fun hc => ?_⟩
      · have h := h.1 hc
        refine z_iconst F 0 dX10_does_121 (by decide) ?_
        exact z_zret F dX10_does_122 (by decide) rfl h
      · have h := h.2 hc
        refine z_iconst F 1 dX10_does_117 (by decide) ?_
        refine z_goto F 122 dX10_does_118 (by decide) ?_
        exact z_zret F dX10_does_122 (by decide) rfl h
  have e0 := lv_neT hc0 (show (0 : Int32).toInt = 0 by decide)
  have e1 := lv_neT hc1 (show (1 : Int32).toInt = 1 by decide)
  have e2 := lv_neT hc2 (show (2 : Int32).toInt = 2 by decide)
  have e3 := lv_neT hc3 (show (3 : Int32).toInt = 3 by decide)
  have e4 := lv_neT hc4 (show (4 : Int32).toInt = 4 by decide)
  have e5 := lv_neT hc5 (show (5 : Int32).toInt = 5 by decide)
  have h := h.2.2.2.2.2.2 ⟨hc0, hc1, hc2, hc3, hc4, hc5⟩
  refine z_tabOut F 123 dX10_does_3 (by omega) (by decide) ?_
  refine z_aload_n F dX10_does_123 rfl ?_
  refine z_bipush F 56 dX10_does_124 (by decide) ?_
  refine z_ialdK F 56 (by decide) rfl hr0 (by unfold vp_in; decide) dX10_does_126 ?_
  refine z_sipush F 400 dX10_does_127 (by decide) ?_
  refine z_icmp_lt F 135 dX10_does_130 (by decide) ⟨fun hc => ?_, fun hc => ?_⟩
  · have h := h.1 hc
    refine z_aload_n F dX10_does_135 rfl ?_
    refine z_aload_n F dX10_does_136 rfl ?_
    refine z_callV F (k' := 2) (mc' := 0) [.ref (G.2.1 69 jr0)] [] dX10_does_137 rfl rfl (by decide) rfl cl_X10_294 hy_X10_dayEnds (by omega) (by decide) (by decide) (Nat.le_of_ble_eq_true rfl) rfl (con_mono h ?_ (fun _ _ h => h))
    rintro _ w14 ⟨rfl, h⟩
    show Z M G 0 K X w14 140 [some (.ref (G.2.1 40 0)), some (.ref (G.2.1 69 jr0)), some (.ref (G.2.1 68 jr1))] []
    refine z_iconst F 1 dX10_does_140 (by decide) ?_
    exact z_zret F dX10_does_141 (by decide) rfl h
  · have h := h.2 hc
    refine z_iconst F 0 dX10_does_133 (by decide) ?_
    exact z_zret F dX10_does_134 (by decide) rfl h
set_option maxRecDepth 20000 in
theorem b_X10_does_62 {M : Mx} {G : Gx} {kk : Nat} {w : Wd} {jr0 : Nat} (hr0 : jr0 < cnt 69) {jr1 : Nat} (hr1 : jr1 < cnt 68)  {K : Option Value → Wd → Prop} {X : String → Wd → Prop} (F : Fx M G RX10 cX10_does 3 (some .boolean) kk 0) (hk : 9 ≤ kk)
    (h : ((¬ (w.1 68 jr1 0) = 3 → Z M G 0 K X w 81 [none, none, none] [.int 0, .int ((7 : Int32) + (w.1 68 jr1 1)), .ref (G.2.1 69 jr0)]) ∧ (¬ (¬ (w.1 68 jr1 0) = 3) → Z M G 0 K X w 81 [none, none, none] [.int 1, .int ((7 : Int32) + (w.1 68 jr1 1)), .ref (G.2.1 69 jr0)]))) :
    Z M G 0 K X w 62 [none, some (.ref (G.2.1 69 jr0)), some (.ref (G.2.1 68 jr1))] [] := by
  refine z_aload_n F dX10_does_62 rfl ?_
  refine z_bipush F 7 dX10_does_63 (by decide) ?_
  refine z_aload_n F dX10_does_65 rfl ?_
  refine z_iconst F 1 dX10_does_66 (by decide) ?_
  refine z_ialdK F 1 (by decide) rfl hr1 (by unfold vp_in; decide) dX10_does_67 ?_
  refine z_iadd F dX10_does_68 ?_
  refine z_aload_n F dX10_does_69 rfl ?_
  refine z_iconst F 0 dX10_does_70 (by decide) ?_
  refine z_ialdK F 0 (by decide) rfl hr1 (by unfold vp_in; decide) dX10_does_71 ?_
  refine z_iconst F 3 dX10_does_72 (by decide) ?_
  refine z_icmp_ne F 80 dX10_does_73 (by decide) ⟨fun hc => ?_, fun hc => ?_⟩
  · have h := h.1 hc
    refine z_iconst F 0 dX10_does_80 (by decide) ?_
    exact z_weak h (trivial)
  · have h := h.2 hc
    refine z_iconst F 1 dX10_does_76 (by decide) ?_
    refine z_goto F 81 dX10_does_77 (by decide) ?_
    exact z_weak h (trivial)
set_option maxRecDepth 20000 in
theorem b_X10_does_81 {M : Mx} {G : Gx} {kk : Nat} {w : Wd} {jr0 : Nat} (hr0 : jr0 < cnt 69) {s0 : Int32} {s1 : Int32} {K : Option Value → Wd → Prop} {X : String → Wd → Prop} (F : Fx M G RX10 cX10_does 3 (some .boolean) kk 0) (hk : 9 ≤ kk)
    (h : Con (mL M) G 1 0 yX10_becomes cX10_becomes 3 (some .boolean) w [.ref (G.2.1 69 jr0), .int s1, .int s0] (fun r w2 => ∃ v1 : Int32, r = some (.int v1) ∧ (narrow .boolean (.int v1) = .int v1 ∧ K (some (.int v1)) w2)) X) :
    Z M G 0 K X w 81 [none, none, none] [.int s0, .int s1, .ref (G.2.1 69 jr0)] := by
  refine z_callS F (k' := 1) (mc' := 0) [.ref (G.2.1 69 jr0), .int s1, .int s0] [] dX10_does_81 rfl cl_X10_287 hy_X10_becomes.2 (by omega) (by decide) (by decide) (Nat.le_of_ble_eq_true rfl) rfl (con_mono h ?_ (fun _ _ h => h))
  rintro _ w2 ⟨v1, rfl, h⟩
  show Z M G 0 K X w2 84 [none, none, none] [.int v1]
  exact z_zret F dX10_does_84 (by decide) h.1 h.2
set_option maxRecDepth 20000 in
theorem e_X10_goes {l : Launch} {G : Gx} {w : Wd} {p0 : Int32} {p1 : Int32} {kr : Nat} (hkb : 10 ≤ kr) {K : Option Value → Wd → Prop} {X : String → Wd → Prop} (hl : l.stackTraces = false)
    (h : ∀ (M : Mx) (kk : Nat), mL M = l → (kr + 1) ≤ kk → Fx M G RX10 cX10_goes 5 none kk 0 → Z M G 0 K X w 2 [some (.ref (G.2.1 40 0)), none, some (.int p1), some (.int p0), none] []) :
    Con l G (kr + 1) 0 yX10_goes cX10_goes 5 none w [.ref (G.2.1 40 0), .int p0, .int p1] K X := by
  refine con_intro hl (by decide +kernel) (Nat.le_of_ble_eq_true rfl) (Nat.le_of_ble_eq_true rfl) (fun M kk hM hk F => ?_)
  have h := h M kk hM hk F
  show Z M G 0 K X w 0 [some (.ref (G.2.1 40 0)), some (.int p0), some (.int p1), none, none] []
  refine z_iload_n F dX10_goes_0 rfl ?_
  refine z_istore_n F dX10_goes_1 (Nat.le_of_ble_eq_true rfl) ?_
  exact z_weak h (⟨rfl, ⟨rfl, ⟨rfl, trivial⟩⟩⟩)
set_option maxRecDepth 20000 in
theorem b_X10_goes_2 {M : Mx} {G : Gx} {kk : Nat} {w : Wd}  {kr : Nat} (hkb : 10 ≤ kr) {x2 : Int32} {x3 : Int32} {K : Option Value → Wd → Prop} {X : String → Wd → Prop} (F : Fx M G RX10 cX10_goes 5 none kk 0) (hk : (kr + 1) ≤ kk)
    (h : ((x2 ≤ x3 → K none w) ∧ (¬ (x2 ≤ x3) → ((200 ≤ (w.1 40 0 39) → K none w) ∧ (¬ (200 ≤ (w.1 40 0 39)) → (∀ w1 : Wd, w1 = setI w 40 0 39 ((w.1 40 0 39) + (1 : Int32)) → (vp_in x3 80 ∧ ((¬ (w1.1 68 ((x3 : Int32).toNatClampNeg) 0) = 7 → (vp_in x3 80 ∧ Con (mL M) G 9 0 yX10_does cX10_does 3 (some .boolean) w1 [.ref (G.2.1 40 0), .ref (G.2.1 69 0), .ref (G.2.1 68 ((x3 : Int32).toNatClampNeg))] (fun r w5 => ∃ v4 : Int32, r = some (.int v4) ∧ ((v4 = 0 → Z M G 0 K X w5 121 [some (.ref (G.2.1 40 0)), none, some (.int x2), some (.int x3), some (.int v4)] [.int 0, .int (w5.1 40 0 40), .ref (G.2.1 40 0)]) ∧ (¬ (v4 = 0) → Z M G 0 K X w5 121 [some (.ref (G.2.1 40 0)), none, some (.int x2), some (.int x3), some (.int v4)] [.int 1, .int (w5.1 40 0 40), .ref (G.2.1 40 0)]))) X)) ∧ (¬ (¬ (w1.1 68 ((x3 : Int32).toNatClampNeg) 0) = 7) → Z M G 0 K X w1 43 [some (.ref (G.2.1 40 0)), none, some (.int x2), some (.int x3), some (.int 0)] []))))))))) :
    Z M G 0 K X w 2 [some (.ref (G.2.1 40 0)), none, some (.int x2), some (.int x3), none] [] := by
  refine z_iload_n F dX10_goes_2 rfl ?_
  refine z_iload_n F dX10_goes_3 rfl ?_
  refine z_icmp_ge F 156 dX10_goes_4 (by decide) ⟨fun hc => ?_, fun hc => ?_⟩
  · have h := h.1 hc
    exact z_vret F dX10_goes_156 (by decide) h
  · have h := h.2 hc
    refine z_aload_n F dX10_goes_7 rfl ?_
    refine z_getI F 39 rfl (by decide) (by decide) rfl lk_X10_297 dX10_goes_8 ?_
    refine z_sipush F 200 dX10_goes_11 (by decide) ?_
    refine z_icmp_ge F 156 dX10_goes_14 (by decide) ⟨fun hc => ?_, fun hc => ?_⟩
    · have h := h.1 hc
      exact z_vret F dX10_goes_156 (by decide) h
    · have h := h.2 hc
      refine z_aload_n F dX10_goes_17 rfl ?_
      refine z_dup F dX10_goes_18 rfl ?_
      refine z_getI F 39 rfl (by decide) (by decide) rfl lk_X10_297 dX10_goes_19 ?_
      refine z_iconst F 1 dX10_goes_22 (by decide) ?_
      refine z_iadd F dX10_goes_23 ?_
      refine z_putIW F 39 rfl (by decide) (by decide) rfl lk_X10_297 dX10_goes_24 (fun w1 hw1 => ?_)
      have h := h w1 hw1
      refine z_aload_n F dX10_goes_27 rfl ?_
      refine z_getR F 27 67 0 rfl (by decide) (by decide) rfl rfl rfl lk_X10_64 dX10_goes_28 ?_
      refine z_iload_n F dX10_goes_31 rfl ?_
      obtain ⟨hb, h⟩ := h
      refine z_aald F 68 ((x3 : Int32).toNatClampNeg) rfl (by decide) (by decide) (by decide) rfl rfl hb dX10_goes_32 (fun hv2 => ?_)
      refine z_iconst F 0 dX10_goes_33 (by decide) ?_
      refine z_ialdK F 0 (by decide) rfl hv2 (by unfold vp_in; decide) dX10_goes_34 ?_
      refine z_bipush F 7 dX10_goes_35 (by decide) ?_
      refine z_icmp_ne F 90 dX10_goes_37 (by decide) ⟨fun hc => ?_, fun hc => ?_⟩
      · have h := h.1 hc
        refine z_aload_n F dX10_goes_90 rfl ?_
        refine z_aload_n F dX10_goes_91 rfl ?_
        refine z_getR F 29 69 0 rfl (by decide) (by decide) rfl rfl rfl lk_X10_67 dX10_goes_92 ?_
        refine z_aload_n F dX10_goes_95 rfl ?_
        refine z_getR F 27 67 0 rfl (by decide) (by decide) rfl rfl rfl lk_X10_64 dX10_goes_96 ?_
        refine z_iload_n F dX10_goes_99 rfl ?_
        obtain ⟨hb, h⟩ := h
        refine z_aald F 68 ((x3 : Int32).toNatClampNeg) rfl (by decide) (by decide) (by decide) rfl rfl hb dX10_goes_100 (fun hv3 => ?_)
        refine z_callV F (k' := 9) (mc' := 0) [.ref (G.2.1 69 0), .ref (G.2.1 68 ((x3 : Int32).toNatClampNeg))] [] dX10_goes_101 rfl rfl (by decide) rfl cl_X10_303 hy_X10_does (by omega) (by decide) (by decide) (Nat.le_of_ble_eq_true rfl) rfl (con_mono h ?_ (fun _ _ h => h))
        rintro _ w5 ⟨v4, rfl, h⟩
        show Z M G 0 K X w5 104 [some (.ref (G.2.1 40 0)), none, some (.int x2), some (.int x3), none] [.int v4]
        refine z_istore F dX10_goes_104 (Nat.le_of_ble_eq_true rfl) ?_
        refine z_aload_n F dX10_goes_106 rfl ?_
        refine z_dup F dX10_goes_107 rfl ?_
        refine z_getI F 40 rfl (by decide) (by decide) rfl lk_X10_307 dX10_goes_108 ?_
        refine z_iload F dX10_goes_111 rfl ?_
        refine z_if_eq F 120 dX10_goes_113 (by decide) ⟨fun hc => ?_, fun hc => ?_⟩
        · have h := h.1 hc
          refine z_iconst F 0 dX10_goes_120 (by decide) ?_
          exact h
        · have h := h.2 hc
          refine z_iconst F 1 dX10_goes_116 (by decide) ?_
          refine z_goto F 121 dX10_goes_117 (by decide) ?_
          exact h
      · have h := h.2 hc
        refine z_iconst F 0 dX10_goes_40 (by decide) ?_
        refine z_istore F dX10_goes_41 (Nat.le_of_ble_eq_true rfl) ?_
        exact h
set_option maxRecDepth 20000 in
theorem b_X10_goes_43 {M : Mx} {G : Gx} {kk : Nat} {w : Wd}  {kr : Nat} (hkb : 10 ≤ kr) {x2 : Int32} {x3 : Int32} {x4 : Int32} {K : Option Value → Wd → Prop} {X : String → Wd → Prop} (F : Fx M G RX10 cX10_goes 5 none kk 0) (hk : (kr + 1) ≤ kk)
    (h : (vp_in x3 80 ∧ (((w.1 68 ((x3 : Int32).toNatClampNeg) 1) ≤ x4 → (vp_in x3 80 ∧ Z M G 0 K X w 2 [some (.ref (G.2.1 40 0)), none, some (.int x2), some (.int (w.1 68 ((x3 : Int32).toNatClampNeg) 3)), none] [])) ∧ (¬ ((w.1 68 ((x3 : Int32).toNatClampNeg) 1) ≤ x4) → ((200 ≤ (w.1 40 0 39) → (vp_in x3 80 ∧ Z M G 0 K X w 2 [some (.ref (G.2.1 40 0)), none, some (.int x2), some (.int (w.1 68 ((x3 : Int32).toNatClampNeg) 3)), none] [])) ∧ (¬ (200 ≤ (w.1 40 0 39)) → (vp_in x3 80 ∧ Con (mL M) G kr 0 yX10_goes cX10_goes 5 none w [.ref (G.2.1 40 0), .int (x3 + (1 : Int32)), .int (w.1 68 ((x3 : Int32).toNatClampNeg) 3)] (fun r w6 => r = none ∧ Z M G 0 K X w6 43 [some (.ref (G.2.1 40 0)), none, some (.int x2), some (.int x3), some (.int (x4 + 1))] []) X))))))) :
    Z M G 0 K X w 43 [some (.ref (G.2.1 40 0)), none, some (.int x2), some (.int x3), some (.int x4)] [] := by
  refine z_iload F dX10_goes_43 rfl ?_
  refine z_aload_n F dX10_goes_45 rfl ?_
  refine z_getR F 27 67 0 rfl (by decide) (by decide) rfl rfl rfl lk_X10_64 dX10_goes_46 ?_
  refine z_iload_n F dX10_goes_49 rfl ?_
  obtain ⟨hb, h⟩ := h
  refine z_aald F 68 ((x3 : Int32).toNatClampNeg) rfl (by decide) (by decide) (by decide) rfl rfl hb dX10_goes_50 (fun hv1 => ?_)
  refine z_iconst F 1 dX10_goes_51 (by decide) ?_
  refine z_ialdK F 1 (by decide) rfl hv1 (by unfold vp_in; decide) dX10_goes_52 ?_
  refine z_icmp_ge F 87 dX10_goes_53 (by decide) ⟨fun hc => ?_, fun hc => ?_⟩
  · have h := h.1 hc
    refine z_goto F 144 dX10_goes_87 (by decide) ?_
    refine z_aload_n F dX10_goes_144 rfl ?_
    refine z_getR F 27 67 0 rfl (by decide) (by decide) rfl rfl rfl lk_X10_64 dX10_goes_145 ?_
    refine z_iload_n F dX10_goes_148 rfl ?_
    obtain ⟨hb, h⟩ := h
    refine z_aald F 68 ((x3 : Int32).toNatClampNeg) rfl (by decide) (by decide) (by decide) rfl rfl hb dX10_goes_149 (fun hv2 => ?_)
    refine z_iconst F 3 dX10_goes_150 (by decide) ?_
    refine z_ialdK F 3 (by decide) rfl hv2 (by unfold vp_in; decide) dX10_goes_151 ?_
    refine z_istore_n F dX10_goes_152 (Nat.le_of_ble_eq_true rfl) ?_
    refine z_goto F 2 dX10_goes_153 (by decide) ?_
    exact z_weak h (⟨rfl, ⟨rfl, ⟨rfl, trivial⟩⟩⟩)
  · have h := h.2 hc
    refine z_aload_n F dX10_goes_56 rfl ?_
    refine z_getI F 39 rfl (by decide) (by decide) rfl lk_X10_297 dX10_goes_57 ?_
    refine z_sipush F 200 dX10_goes_60 (by decide) ?_
    refine z_icmp_ge F 87 dX10_goes_63 (by decide) ⟨fun hc => ?_, fun hc => ?_⟩
    · have h := h.1 hc
      refine z_goto F 144 dX10_goes_87 (by decide) ?_
      refine z_aload_n F dX10_goes_144 rfl ?_
      refine z_getR F 27 67 0 rfl (by decide) (by decide) rfl rfl rfl lk_X10_64 dX10_goes_145 ?_
      refine z_iload_n F dX10_goes_148 rfl ?_
      obtain ⟨hb, h⟩ := h
      refine z_aald F 68 ((x3 : Int32).toNatClampNeg) rfl (by decide) (by decide) (by decide) rfl rfl hb dX10_goes_149 (fun hv3 => ?_)
      refine z_iconst F 3 dX10_goes_150 (by decide) ?_
      refine z_ialdK F 3 (by decide) rfl hv3 (by unfold vp_in; decide) dX10_goes_151 ?_
      refine z_istore_n F dX10_goes_152 (Nat.le_of_ble_eq_true rfl) ?_
      refine z_goto F 2 dX10_goes_153 (by decide) ?_
      exact z_weak h (⟨rfl, ⟨rfl, ⟨rfl, trivial⟩⟩⟩)
    · have h := h.2 hc
      refine z_aload_n F dX10_goes_66 rfl ?_
      refine z_iload_n F dX10_goes_67 rfl ?_
      refine z_iconst F 1 dX10_goes_68 (by decide) ?_
      refine z_iadd F dX10_goes_69 ?_
      refine z_aload_n F dX10_goes_70 rfl ?_
      refine z_getR F 27 67 0 rfl (by decide) (by decide) rfl rfl rfl lk_X10_64 dX10_goes_71 ?_
      refine z_iload_n F dX10_goes_74 rfl ?_
      obtain ⟨hb, h⟩ := h
      refine z_aald F 68 ((x3 : Int32).toNatClampNeg) rfl (by decide) (by decide) (by decide) rfl rfl hb dX10_goes_75 (fun hv4 => ?_)
      refine z_iconst F 3 dX10_goes_76 (by decide) ?_
      refine z_ialdK F 3 (by decide) rfl hv4 (by unfold vp_in; decide) dX10_goes_77 ?_
      refine z_callV F (k' := kr) (mc' := 0) [.int (x3 + (1 : Int32)), .int (w.1 68 ((x3 : Int32).toNatClampNeg) 3)] [] dX10_goes_78 rfl rfl (by decide) rfl cl_X10_300 hy_X10_goes (by omega) (by decide) (by decide) (Nat.le_of_ble_eq_true rfl) rfl (con_mono h ?_ (fun _ _ h => h))
      rintro _ w6 ⟨rfl, h⟩
      show Z M G 0 K X w6 81 [some (.ref (G.2.1 40 0)), none, some (.int x2), some (.int x3), some (.int x4)] []
      refine z_iinc F (x4 + 1) dX10_goes_81 rfl rfl (Nat.le_of_ble_eq_true rfl) ?_
      refine z_goto F 43 dX10_goes_84 (by decide) ?_
      exact h
set_option maxRecDepth 20000 in
theorem b_X10_goes_121 {M : Mx} {G : Gx} {kk : Nat} {w : Wd}  {kr : Nat} (hkb : 10 ≤ kr) {x2 : Int32} {x3 : Int32} {x4 : Int32} {s0 : Int32} {s1 : Int32} {K : Option Value → Wd → Prop} {X : String → Wd → Prop} (F : Fx M G RX10 cX10_goes 5 none kk 0) (hk : (kr + 1) ≤ kk)
    (h : (∀ w1 : Wd, w1 = setI w 40 0 40 (s1 + s0) → ((x4 = 0 → (∀ w2 : Wd, w2 = setI w1 40 0 35 ((w1.1 40 0 35) + (1 : Int32)) → (vp_in x3 80 ∧ Z M G 0 K X w2 2 [some (.ref (G.2.1 40 0)), none, some (.int x2), some (.int (w2.1 68 ((x3 : Int32).toNatClampNeg) 3)), none] []))) ∧ (¬ (x4 = 0) → (∀ w4 : Wd, w4 = setI w1 40 0 35 ((w1.1 40 0 35) + (0 : Int32)) → (vp_in x3 80 ∧ Z M G 0 K X w4 2 [some (.ref (G.2.1 40 0)), none, some (.int x2), some (.int (w4.1 68 ((x3 : Int32).toNatClampNeg) 3)), none] [])))))) :
    Z M G 0 K X w 121 [some (.ref (G.2.1 40 0)), none, some (.int x2), some (.int x3), some (.int x4)] [.int s0, .int s1, .ref (G.2.1 40 0)] := by
  refine z_iadd F dX10_goes_121 ?_
  refine z_putIW F 40 rfl (by decide) (by decide) rfl lk_X10_307 dX10_goes_122 (fun w1 hw1 => ?_)
  have h := h w1 hw1
  refine z_aload_n F dX10_goes_125 rfl ?_
  refine z_dup F dX10_goes_126 rfl ?_
  refine z_getI F 35 rfl (by decide) (by decide) rfl lk_X10_201 dX10_goes_127 ?_
  refine z_iload F dX10_goes_130 rfl ?_
  refine z_if_eq F 139 dX10_goes_132 (by decide) ⟨fun hc => ?_, fun hc => ?_⟩
  · have h := h.1 hc
    refine z_iconst F 1 dX10_goes_139 (by decide) ?_
    refine z_iadd F dX10_goes_140 ?_
    refine z_putIW F 35 rfl (by decide) (by decide) rfl lk_X10_201 dX10_goes_141 (fun w2 hw2 => ?_)
    have h := h w2 hw2
    refine z_aload_n F dX10_goes_144 rfl ?_
    refine z_getR F 27 67 0 rfl (by decide) (by decide) rfl rfl rfl lk_X10_64 dX10_goes_145 ?_
    refine z_iload_n F dX10_goes_148 rfl ?_
    obtain ⟨hb, h⟩ := h
    refine z_aald F 68 ((x3 : Int32).toNatClampNeg) rfl (by decide) (by decide) (by decide) rfl rfl hb dX10_goes_149 (fun hv3 => ?_)
    refine z_iconst F 3 dX10_goes_150 (by decide) ?_
    refine z_ialdK F 3 (by decide) rfl hv3 (by unfold vp_in; decide) dX10_goes_151 ?_
    refine z_istore_n F dX10_goes_152 (Nat.le_of_ble_eq_true rfl) ?_
    refine z_goto F 2 dX10_goes_153 (by decide) ?_
    exact z_weak h (⟨rfl, ⟨rfl, ⟨rfl, trivial⟩⟩⟩)
  · have h := h.2 hc
    refine z_iconst F 0 dX10_goes_135 (by decide) ?_
    refine z_goto F 140 dX10_goes_136 (by decide) ?_
    refine z_iadd F dX10_goes_140 ?_
    refine z_putIW F 35 rfl (by decide) (by decide) rfl lk_X10_201 dX10_goes_141 (fun w4 hw4 => ?_)
    have h := h w4 hw4
    refine z_aload_n F dX10_goes_144 rfl ?_
    refine z_getR F 27 67 0 rfl (by decide) (by decide) rfl rfl rfl lk_X10_64 dX10_goes_145 ?_
    refine z_iload_n F dX10_goes_148 rfl ?_
    obtain ⟨hb, h⟩ := h
    refine z_aald F 68 ((x3 : Int32).toNatClampNeg) rfl (by decide) (by decide) (by decide) rfl rfl hb dX10_goes_149 (fun hv5 => ?_)
    refine z_iconst F 3 dX10_goes_150 (by decide) ?_
    refine z_ialdK F 3 (by decide) rfl hv5 (by unfold vp_in; decide) dX10_goes_151 ?_
    refine z_istore_n F dX10_goes_152 (Nat.le_of_ble_eq_true rfl) ?_
    refine z_goto F 2 dX10_goes_153 (by decide) ?_
    exact z_weak h (⟨rfl, ⟨rfl, ⟨rfl, trivial⟩⟩⟩)
set_option maxRecDepth 20000 in
theorem e_X10_work {l : Launch} {G : Gx} {w : Wd} {p0 : Int32} {K : Option Value → Wd → Prop} {X : String → Wd → Prop} (hl : l.stackTraces = false)
    (h : ∀ (M : Mx) (kk : Nat), mL M = l → 51 ≤ kk → Fx M G RX10 cX10_work 2 (some .int) kk 0 → (∀ w1 : Wd, w1 = setI w 40 0 0 0 → Con (mL M) G 1 0 yX10_in cX10_in 3 (some .boolean) w1 [.int p0, .int 0, .int (w1.1 40 0 1)] (fun r w3 => ∃ v2 : Int32, r = some (.int v2) ∧ ((v2 = 0 → Z M G 0 K X w3 25 [some (.ref (G.2.1 40 0)), some (.int p0)] [.ref (G.2.1 40 0)]) ∧ (¬ (v2 = 0) → ((p0 ≤ 150 → Z M G 0 K X w3 30 [some (.ref (G.2.1 40 0)), some (.int p0)] [.int 0, .ref (G.2.1 40 0)]) ∧ (¬ (p0 ≤ 150) → Z M G 0 K X w3 25 [some (.ref (G.2.1 40 0)), some (.int p0)] [.ref (G.2.1 40 0)]))))) X)) :
    Con l G 51 0 yX10_work cX10_work 2 (some .int) w [.ref (G.2.1 40 0), .int p0] K X := by
  refine con_intro hl (by decide +kernel) (Nat.le_of_ble_eq_true rfl) (Nat.le_of_ble_eq_true rfl) (fun M kk hM hk F => ?_)
  have h := h M kk hM hk F
  show Z M G 0 K X w 0 [some (.ref (G.2.1 40 0)), some (.int p0)] []
  refine z_aload_n F dX10_work_0 rfl ?_
  refine z_iconst F 0 dX10_work_1 (by decide) ?_
  refine z_putIW F 0 rfl (by decide) (by decide) rfl lk_X10_95 dX10_work_2 (fun w1 hw1 => ?_)
  have h := h w1 hw1
  refine z_aload_n F dX10_work_5 rfl ?_
  refine z_iload_n F dX10_work_6 rfl ?_
  refine z_iconst F 0 dX10_work_7 (by decide) ?_
  refine z_aload_n F dX10_work_8 rfl ?_
  refine z_getI F 1 rfl (by decide) (by decide) rfl lk_X10_98 dX10_work_9 ?_
  refine z_callS F (k' := 1) (mc' := 0) [.int p0, .int 0, .int (w1.1 40 0 1)] [.ref (G.2.1 40 0)] dX10_work_12 rfl cl_X10_129 hy_X10_in.2 (by omega) (by decide) (by decide) (Nat.le_of_ble_eq_true rfl) rfl (con_mono h ?_ (fun _ _ h => h))
  rintro _ w3 ⟨v2, rfl, h⟩
  show Z M G 0 K X w3 15 [some (.ref (G.2.1 40 0)), some (.int p0)] [.int v2, .ref (G.2.1 40 0)]
  refine z_if_eq F 25 dX10_work_15 (by decide) ⟨fun hc => ?_, fun hc => ?_⟩
  · have h := h.1 hc
    exact h
  · have h := h.2 hc
    refine z_iload_n F dX10_work_18 rfl ?_
    refine z_sipush F 150 dX10_work_19 (by decide) ?_
    refine z_icmp_le F 29 dX10_work_22 (by decide) ⟨fun hc => ?_, fun hc => ?_⟩
    · have h := h.1 hc
      refine z_iconst F 0 dX10_work_29 (by decide) ?_
      exact h
    · have h := h.2 hc
      exact h
set_option maxRecDepth 20000 in
theorem b_X10_work_25 {M : Mx} {G : Gx} {kk : Nat} {w : Wd}  {x1 : Int32} {K : Option Value → Wd → Prop} {X : String → Wd → Prop} (F : Fx M G RX10 cX10_work 2 (some .int) kk 0) (hk : 51 ≤ kk)
    (h : Z M G 0 K X w 30 [some (.ref (G.2.1 40 0)), some (.int x1)] [.int 1, .ref (G.2.1 40 0)]) :
    Z M G 0 K X w 25 [some (.ref (G.2.1 40 0)), some (.int x1)] [.ref (G.2.1 40 0)] := by
  refine z_iconst F 1 dX10_work_25 (by decide) ?_
  refine z_goto F 30 dX10_work_26 (by decide) ?_
  exact h
set_option maxRecDepth 20000 in
theorem b_X10_work_30 {M : Mx} {G : Gx} {kk : Nat} {w : Wd}  {x1 : Int32} {s0 : Int32} {K : Option Value → Wd → Prop} {X : String → Wd → Prop} (F : Fx M G RX10 cX10_work 2 (some .int) kk 0) (hk : 51 ≤ kk)
    (h : Con (mL M) G 1 0 yX10_bad cX10_bad 4 (some .boolean) w [.ref (G.2.1 40 0), .int s0, .int 1, .int 1] (fun r w2 => ∃ v1 : Int32, r = some (.int v1) ∧ ((v1 = 0 → ((¬ (w2.1 40 0 34) = 16 → Con (mL M) G 3 0 yX10_starts cX10_starts 2 none w2 [.ref (G.2.1 40 0), .int x1] (fun r w4 => r = none ∧ (∀ w5 : Wd, w5 = setI w4 40 0 28 0 → Z M G 0 K X w5 72 [some (.ref (G.2.1 40 0)), none] [])) X) ∧ (¬ (¬ (w2.1 40 0 34) = 16) → (∀ w6 : Wd, w6 = setI w2 40 0 1 0 → (∀ w7 : Wd, w7 = setI w6 40 0 3 (-1) → K (some (.int (-20))) w7))))) ∧ (¬ (v1 = 0) → K (some (.int 0)) w2))) X) :
    Z M G 0 K X w 30 [some (.ref (G.2.1 40 0)), some (.int x1)] [.int s0, .ref (G.2.1 40 0)] := by
  refine z_iconst F 1 dX10_work_30 (by decide) ?_
  refine z_iconst F 1 dX10_work_31 (by decide) ?_
  refine z_callV F (k' := 1) (mc' := 0) [.int s0, .int 1, .int 1] [] dX10_work_32 rfl rfl (by decide) rfl cl_X10_171 hy_X10_bad (by omega) (by decide) (by decide) (Nat.le_of_ble_eq_true rfl) rfl (con_mono h ?_ (fun _ _ h => h))
  rintro _ w2 ⟨v1, rfl, h⟩
  show Z M G 0 K X w2 35 [some (.ref (G.2.1 40 0)), some (.int x1)] [.int v1]
  refine z_if_eq F 40 dX10_work_35 (by decide) ⟨fun hc => ?_, fun hc => ?_⟩
  · have h := h.1 hc
    refine z_aload_n F dX10_work_40 rfl ?_
    refine z_getI F 34 rfl (by decide) (by decide) rfl lk_X10_198 dX10_work_41 ?_
    refine z_bipush F 16 dX10_work_44 (by decide) ?_
    refine z_icmp_ne F 62 dX10_work_46 (by decide) ⟨fun hc => ?_, fun hc => ?_⟩
    · have h := h.1 hc
      refine z_aload_n F dX10_work_62 rfl ?_
      refine z_iload_n F dX10_work_63 rfl ?_
      refine z_callV F (k' := 3) (mc' := 0) [.int x1] [] dX10_work_64 rfl rfl (by decide) rfl cl_X10_175 hy_X10_starts (by omega) (by decide) (by decide) (Nat.le_of_ble_eq_true rfl) rfl (con_mono h ?_ (fun _ _ h => h))
      rintro _ w4 ⟨rfl, h⟩
      show Z M G 0 K X w4 67 [some (.ref (G.2.1 40 0)), some (.int x1)] []
      refine z_aload_n F dX10_work_67 rfl ?_
      refine z_iconst F 0 dX10_work_68 (by decide) ?_
      refine z_putIW F 28 rfl (by decide) (by decide) rfl lk_X10_248 dX10_work_69 (fun w5 hw5 => ?_)
      have h := h w5 hw5
      exact z_weak h (⟨rfl, trivial⟩)
    · have h := h.2 hc
      refine z_aload_n F dX10_work_49 rfl ?_
      refine z_iconst F 0 dX10_work_50 (by decide) ?_
      refine z_putIW F 1 rfl (by decide) (by decide) rfl lk_X10_98 dX10_work_51 (fun w6 hw6 => ?_)
      have h := h w6 hw6
      refine z_aload_n F dX10_work_54 rfl ?_
      refine z_iconst F (-1) dX10_work_55 (by decide) ?_
      refine z_putIW F 3 rfl (by decide) (by decide) rfl lk_X10_9 dX10_work_56 (fun w7 hw7 => ?_)
      have h := h w7 hw7
      refine z_bipush F (-20) dX10_work_59 (by decide) ?_
      exact z_iret F dX10_work_61 (by decide) h
  · have h := h.2 hc
    refine z_iconst F 0 dX10_work_38 (by decide) ?_
    exact z_iret F dX10_work_39 (by decide) h
set_option maxRecDepth 20000 in
theorem b_X10_work_72 {M : Mx} {G : Gx} {kk : Nat} {w : Wd}   {K : Option Value → Wd → Prop} {X : String → Wd → Prop} (F : Fx M G RX10 cX10_work 2 (some .int) kk 0) (hk : 51 ≤ kk)
    (h : ((¬ (w.1 40 0 5) = 0 → Z M G 0 K X w 101 [some (.ref (G.2.1 40 0)), none] []) ∧ (¬ (¬ (w.1 40 0 5) = 0) → (((w.1 40 0 2) ≤ (w.1 40 0 4) → Z M G 0 K X w 101 [some (.ref (G.2.1 40 0)), none] []) ∧ (¬ ((w.1 40 0 2) ≤ (w.1 40 0 4)) → Con (mL M) G 46 0 yX10_readsStep cX10_readsStep 3 none w [.ref (G.2.1 40 0)] (fun r w2 => r = none ∧ Con (mL M) G 2 0 yX10_blanks cX10_blanks 1 none w2 [.ref (G.2.1 40 0)] (fun r w4 => r = none ∧ Z M G 0 K X w4 72 [some (.ref (G.2.1 40 0)), none] []) X) X))))) :
    Z M G 0 K X w 72 [some (.ref (G.2.1 40 0)), none] [] := by
  refine z_aload_n F dX10_work_72 rfl ?_
  refine z_getI F 5 rfl (by decide) (by decide) rfl lk_X10_111 dX10_work_73 ?_
  refine z_if_ne F 101 dX10_work_76 (by decide) ⟨fun hc => ?_, fun hc => ?_⟩
  · have h := h.1 hc
    exact h
  · have h := h.2 hc
    refine z_aload_n F dX10_work_79 rfl ?_
    refine z_getI F 4 rfl (by decide) (by decide) rfl lk_X10_104 dX10_work_80 ?_
    refine z_aload_n F dX10_work_83 rfl ?_
    refine z_getI F 2 rfl (by decide) (by decide) rfl lk_X10_101 dX10_work_84 ?_
    refine z_icmp_ge F 101 dX10_work_87 (by decide) ⟨fun hc => ?_, fun hc => ?_⟩
    · have h := h.1 hc
      exact h
    · have h := h.2 hc
      refine z_aload_n F dX10_work_90 rfl ?_
      refine z_callV F (k' := 46) (mc' := 0) [] [] dX10_work_91 rfl rfl (by decide) rfl cl_X10_251 hy_X10_readsStep (by omega) (by decide) (by decide) (Nat.le_of_ble_eq_true rfl) rfl (con_mono h ?_ (fun _ _ h => h))
      rintro _ w2 ⟨rfl, h⟩
      show Z M G 0 K X w2 94 [some (.ref (G.2.1 40 0)), none] []
      refine z_aload_n F dX10_work_94 rfl ?_
      refine z_callV F (k' := 2) (mc' := 0) [] [] dX10_work_95 rfl rfl (by decide) rfl cl_X10_117 hy_X10_blanks (by omega) (by decide) (by decide) (Nat.le_of_ble_eq_true rfl) rfl (con_mono h ?_ (fun _ _ h => h))
      rintro _ w4 ⟨rfl, h⟩
      show Z M G 0 K X w4 98 [some (.ref (G.2.1 40 0)), none] []
      refine z_goto F 72 dX10_work_98 (by decide) ?_
      exact h
set_option maxRecDepth 20000 in
theorem b_X10_work_101 {M : Mx} {G : Gx} {kk : Nat} {w : Wd}   {K : Option Value → Wd → Prop} {X : String → Wd → Prop} (F : Fx M G RX10 cX10_work 2 (some .int) kk 0) (hk : 51 ≤ kk)
    (h : (((w.1 40 0 5) = 0 → (∀ w1 : Wd, w1 = setI w 40 0 3 (-1) → (vp_in (w1.1 40 0 34) 16 ∧ Con (mL M) G 1 0 yX10_copies cX10_copies 3 none w1 [.ref (G.2.1 69 0), .ref (G.2.1 69 (2 + (w1.1 40 0 34 : Int32).toNatClampNeg))] (fun r w4 => r = none ∧ (∀ w5 : Wd, w5 = setI w4 40 0 34 ((w4.1 40 0 34) + (1 : Int32)) → (∀ w6 : Wd, w6 = setI w5 40 0 39 0 → (∀ w7 : Wd, w7 = setI w6 40 0 40 0 → (∀ w8 : Wd, w8 = setI w7 40 0 35 0 → Con (mL M) G 50 0 yX10_goes cX10_goes 5 none w8 [.ref (G.2.1 40 0), .int 0, .int (w8.1 40 0 28)] (fun r w10 => r = none ∧ K (some (.int (w10.1 40 0 40))) w10) X))))) X))) ∧ (¬ ((w.1 40 0 5) = 0) → Con (mL M) G 1 0 yX10_ends cX10_ends 1 (some .int) w [.ref (G.2.1 40 0)] (fun r w12 => ∃ v11 : Int32, r = some (.int v11) ∧ K (some (.int v11)) w12) X))) :
    Z M G 0 K X w 101 [some (.ref (G.2.1 40 0)), none] [] := by
  refine z_aload_n F dX10_work_101 rfl ?_
  refine z_getI F 5 rfl (by decide) (by decide) rfl lk_X10_111 dX10_work_102 ?_
  refine z_if_eq F 113 dX10_work_105 (by decide) ⟨fun hc => ?_, fun hc => ?_⟩
  · have h := h.1 hc
    refine z_aload_n F dX10_work_113 rfl ?_
    refine z_iconst F (-1) dX10_work_114 (by decide) ?_
    refine z_putIW F 3 rfl (by decide) (by decide) rfl lk_X10_9 dX10_work_115 (fun w1 hw1 => ?_)
    have h := h w1 hw1
    refine z_aload_n F dX10_work_118 rfl ?_
    refine z_getR F 29 69 0 rfl (by decide) (by decide) rfl rfl rfl lk_X10_67 dX10_work_119 ?_
    refine z_aload_n F dX10_work_122 rfl ?_
    refine z_getR F 31 70 0 rfl (by decide) (by decide) rfl rfl rfl lk_X10_73 dX10_work_123 ?_
    refine z_aload_n F dX10_work_126 rfl ?_
    refine z_getI F 34 rfl (by decide) (by decide) rfl lk_X10_198 dX10_work_127 ?_
    obtain ⟨hb, h⟩ := h
    refine z_aald F 69 (2 + (w1.1 40 0 34 : Int32).toNatClampNeg) rfl (by decide) (by decide) (by decide) rfl rfl hb dX10_work_130 (fun hv2 => ?_)
    refine z_callS F (k' := 1) (mc' := 0) [.ref (G.2.1 69 0), .ref (G.2.1 69 (2 + (w1.1 40 0 34 : Int32).toNatClampNeg))] [] dX10_work_131 rfl cl_X10_310 hy_X10_copies.2 (by omega) (by decide) (by decide) (Nat.le_of_ble_eq_true rfl) rfl (con_mono h ?_ (fun _ _ h => h))
    rintro _ w4 ⟨rfl, h⟩
    show Z M G 0 K X w4 134 [some (.ref (G.2.1 40 0)), none] []
    refine z_aload_n F dX10_work_134 rfl ?_
    refine z_dup F dX10_work_135 rfl ?_
    refine z_getI F 34 rfl (by decide) (by decide) rfl lk_X10_198 dX10_work_136 ?_
    refine z_iconst F 1 dX10_work_139 (by decide) ?_
    refine z_iadd F dX10_work_140 ?_
    refine z_putIW F 34 rfl (by decide) (by decide) rfl lk_X10_198 dX10_work_141 (fun w5 hw5 => ?_)
    have h := h w5 hw5
    refine z_aload_n F dX10_work_144 rfl ?_
    refine z_iconst F 0 dX10_work_145 (by decide) ?_
    refine z_putIW F 39 rfl (by decide) (by decide) rfl lk_X10_297 dX10_work_146 (fun w6 hw6 => ?_)
    have h := h w6 hw6
    refine z_aload_n F dX10_work_149 rfl ?_
    refine z_iconst F 0 dX10_work_150 (by decide) ?_
    refine z_putIW F 40 rfl (by decide) (by decide) rfl lk_X10_307 dX10_work_151 (fun w7 hw7 => ?_)
    have h := h w7 hw7
    refine z_aload_n F dX10_work_154 rfl ?_
    refine z_iconst F 0 dX10_work_155 (by decide) ?_
    refine z_putIW F 35 rfl (by decide) (by decide) rfl lk_X10_201 dX10_work_156 (fun w8 hw8 => ?_)
    have h := h w8 hw8
    refine z_aload_n F dX10_work_159 rfl ?_
    refine z_iconst F 0 dX10_work_160 (by decide) ?_
    refine z_aload_n F dX10_work_161 rfl ?_
    refine z_getI F 28 rfl (by decide) (by decide) rfl lk_X10_248 dX10_work_162 ?_
    refine z_callV F (k' := 50) (mc' := 0) [.int 0, .int (w8.1 40 0 28)] [] dX10_work_165 rfl rfl (by decide) rfl cl_X10_300 hy_X10_goes (by omega) (by decide) (by decide) (Nat.le_of_ble_eq_true rfl) rfl (con_mono h ?_ (fun _ _ h => h))
    rintro _ w10 ⟨rfl, h⟩
    show Z M G 0 K X w10 168 [some (.ref (G.2.1 40 0)), none] []
    refine z_aload_n F dX10_work_168 rfl ?_
    refine z_getI F 40 rfl (by decide) (by decide) rfl lk_X10_307 dX10_work_169 ?_
    exact z_iret F dX10_work_172 (by decide) h
  · have h := h.2 hc
    refine z_aload_n F dX10_work_108 rfl ?_
    refine z_callV F (k' := 1) (mc' := 0) [] [] dX10_work_109 rfl rfl (by decide) rfl cl_X10_181 hy_X10_ends (by omega) (by decide) (by decide) (Nat.le_of_ble_eq_true rfl) rfl (con_mono h ?_ (fun _ _ h => h))
    rintro _ w12 ⟨v11, rfl, h⟩
    show Z M G 0 K X w12 112 [some (.ref (G.2.1 40 0)), none] [.int v11]
    exact z_iret F dX10_work_112 (by decide) h
set_option maxRecDepth 20000 in
theorem e_X10_undo {l : Launch} {G : Gx} {w : Wd}  {K : Option Value → Wd → Prop} {X : String → Wd → Prop} (hl : l.stackTraces = false)
    (h : ∀ (M : Mx) (kk : Nat), mL M = l → 2 ≤ kk → Fx M G RX10 cX10_undo 1 (some .int) kk 0 → (∀ w1 : Wd, w1 = setI w 40 0 0 0 → ((¬ (w1.1 40 0 34) = 0 → (∀ w2 : Wd, w2 = setI w1 40 0 34 ((w1.1 40 0 34) - (1 : Int32)) → (vp_in (w2.1 40 0 34) 16 ∧ Con (mL M) G 1 0 yX10_copies cX10_copies 3 none w2 [.ref (G.2.1 69 (2 + (w2.1 40 0 34 : Int32).toNatClampNeg)), .ref (G.2.1 69 0)] (fun r w5 => r = none ∧ (∀ w6 : Wd, w6 = setI w5 40 0 35 0 → K (some (.int (w6.1 40 0 34))) w6)) X))) ∧ (¬ (¬ (w1.1 40 0 34) = 0) → K (some (.int (-1))) w1)))) :
    Con l G 2 0 yX10_undo cX10_undo 1 (some .int) w [.ref (G.2.1 40 0)] K X := by
  refine con_intro hl (by decide +kernel) (Nat.le_of_ble_eq_true rfl) (Nat.le_of_ble_eq_true rfl) (fun M kk hM hk F => ?_)
  have h := h M kk hM hk F
  show Z M G 0 K X w 0 [some (.ref (G.2.1 40 0))] []
  refine z_aload_n F dX10_undo_0 rfl ?_
  refine z_iconst F 0 dX10_undo_1 (by decide) ?_
  refine z_putIW F 0 rfl (by decide) (by decide) rfl lk_X10_95 dX10_undo_2 (fun w1 hw1 => ?_)
  have h := h w1 hw1
  refine z_aload_n F dX10_undo_5 rfl ?_
  refine z_getI F 34 rfl (by decide) (by decide) rfl lk_X10_198 dX10_undo_6 ?_
  refine z_if_ne F 14 dX10_undo_9 (by decide) ⟨fun hc => ?_, fun hc => ?_⟩
  · have h := h.1 hc
    refine z_aload_n F dX10_undo_14 rfl ?_
    refine z_dup F dX10_undo_15 rfl ?_
    refine z_getI F 34 rfl (by decide) (by decide) rfl lk_X10_198 dX10_undo_16 ?_
    refine z_iconst F 1 dX10_undo_19 (by decide) ?_
    refine z_isub F dX10_undo_20 ?_
    refine z_putIW F 34 rfl (by decide) (by decide) rfl lk_X10_198 dX10_undo_21 (fun w2 hw2 => ?_)
    have h := h w2 hw2
    refine z_aload_n F dX10_undo_24 rfl ?_
    refine z_getR F 31 70 0 rfl (by decide) (by decide) rfl rfl rfl lk_X10_73 dX10_undo_25 ?_
    refine z_aload_n F dX10_undo_28 rfl ?_
    refine z_getI F 34 rfl (by decide) (by decide) rfl lk_X10_198 dX10_undo_29 ?_
    obtain ⟨hb, h⟩ := h
    refine z_aald F 69 (2 + (w2.1 40 0 34 : Int32).toNatClampNeg) rfl (by decide) (by decide) (by decide) rfl rfl hb dX10_undo_32 (fun hv3 => ?_)
    refine z_aload_n F dX10_undo_33 rfl ?_
    refine z_getR F 29 69 0 rfl (by decide) (by decide) rfl rfl rfl lk_X10_67 dX10_undo_34 ?_
    refine z_callS F (k' := 1) (mc' := 0) [.ref (G.2.1 69 (2 + (w2.1 40 0 34 : Int32).toNatClampNeg)), .ref (G.2.1 69 0)] [] dX10_undo_37 rfl cl_X10_310 hy_X10_copies.2 (by omega) (by decide) (by decide) (Nat.le_of_ble_eq_true rfl) rfl (con_mono h ?_ (fun _ _ h => h))
    rintro _ w5 ⟨rfl, h⟩
    show Z M G 0 K X w5 40 [some (.ref (G.2.1 40 0))] []
    refine z_aload_n F dX10_undo_40 rfl ?_
    refine z_iconst F 0 dX10_undo_41 (by decide) ?_
    refine z_putIW F 35 rfl (by decide) (by decide) rfl lk_X10_201 dX10_undo_42 (fun w6 hw6 => ?_)
    have h := h w6 hw6
    refine z_aload_n F dX10_undo_45 rfl ?_
    refine z_getI F 34 rfl (by decide) (by decide) rfl lk_X10_198 dX10_undo_46 ?_
    exact z_iret F dX10_undo_49 (by decide) h
  · have h := h.2 hc
    refine z_iconst F (-1) dX10_undo_12 (by decide) ?_
    exact z_iret F dX10_undo_13 (by decide) h
