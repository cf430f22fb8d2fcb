set_option maxRecDepth 20000 in
theorem e_X10_tellsNothing {l : Launch} {G : Gx} {w : Wd}  {K : Option Value → Wd → Prop} {X : String → Wd → Prop} (hl : l.stackTraces = false)
    (h : ∀ (M : Mx) (kk : Nat), mL M = l → 1 ≤ kk → Fx M G RX10 cX10_tellsNothing 2 none kk 0 → Z M G 0 K X w 2 [some (.ref (G.2.1 40 0)), some (.int 0)] []) :
    Con l G 1 0 yX10_tellsNothing cX10_tellsNothing 2 none w [.ref (G.2.1 40 0)] K X := by
  refine con_intro hl (by decide +kernel) (Nat.le_of_ble_eq_true rfl) (Nat.le_of_ble_eq_true rfl) (fun M kk hM hk F => ?_)
  have h := h M kk hM hk F
  show Z M G 0 K X w 0 [some (.ref (G.2.1 40 0)), none] []
  refine z_iconst F 0 dX10_tellsNothing_0 (by decide) ?_
  refine z_istore_n F dX10_tellsNothing_1 (Nat.le_of_ble_eq_true rfl) ?_
  exact h
set_option maxRecDepth 20000 in
theorem b_X10_tellsNothing_2 {M : Mx} {G : Gx} {kk : Nat} {w : Wd}  {x1 : Int32} {K : Option Value → Wd → Prop} {X : String → Wd → Prop} (F : Fx M G RX10 cX10_tellsNothing 2 none kk 0) (hk : 1 ≤ kk)
    (h : ((3 ≤ x1 → (∀ w1 : Wd, w1 = setI w 43 0 3 5 → K none w1)) ∧ (¬ (3 ≤ x1) → (vp_in x1 4 ∧ ∀ w2 : Wd, w2 = setI w 43 0 ((x1 : Int32).toNatClampNeg) 0 → Z M G 0 K X w2 2 [some (.ref (G.2.1 40 0)), some (.int (x1 + 1))] [])))) :
    Z M G 0 K X w 2 [some (.ref (G.2.1 40 0)), some (.int x1)] [] := by
  refine z_iload_n F dX10_tellsNothing_2 rfl ?_
  refine z_iconst F 3 dX10_tellsNothing_3 (by decide) ?_
  refine z_icmp_ge F 20 dX10_tellsNothing_4 (by decide) ⟨fun hc => ?_, fun hc => ?_⟩
  · have h := h.1 hc
    refine z_aload_n F dX10_tellsNothing_20 rfl ?_
    refine z_getR F 11 43 0 rfl (by decide) (by decide) rfl rfl rfl lk_X10_20 dX10_tellsNothing_21 ?_
    refine z_iconst F 3 dX10_tellsNothing_24 (by decide) ?_
    refine z_iconst F 5 dX10_tellsNothing_25 (by decide) ?_
    refine z_iastW F 3 (by decide) rfl (by decide) (by unfold vp_in; decide) dX10_tellsNothing_26 (fun w1 hw1 => ?_)
    have h := h w1 hw1
    exact z_vret F dX10_tellsNothing_27 (by decide) h
  · have h := h.2 hc
    refine z_aload_n F dX10_tellsNothing_7 rfl ?_
    refine z_getR F 11 43 0 rfl (by decide) (by decide) rfl rfl rfl lk_X10_20 dX10_tellsNothing_8 ?_
    refine z_iload_n F dX10_tellsNothing_11 rfl ?_
    refine z_iconst F 0 dX10_tellsNothing_12 (by decide) ?_
    obtain ⟨hb, h⟩ := h
    refine z_iastW F ((x1 : Int32).toNatClampNeg) rfl rfl (by decide) hb dX10_tellsNothing_13 (fun w2 hw2 => ?_)
    have h := h w2 hw2
    refine z_iinc F (x1 + 1) dX10_tellsNothing_14 rfl rfl (Nat.le_of_ble_eq_true rfl) ?_
    refine z_goto F 2 dX10_tellsNothing_17 (by decide) ?_
    exact h
set_option maxRecDepth 20000 in
theorem e_X10_thrown {l : Launch} {G : Gx} {w : Wd}  {K : Option Value → Wd → Prop} {X : String → Wd → Prop} (hl : l.stackTraces = false)
    (h : ∀ (M : Mx) (kk : Nat), mL M = l → 1 ≤ kk → Fx M G RX10 cX10_thrown 1 (some .int) kk 0 → K (some (.int (w.1 40 0 0))) w) :
    Con l G 1 0 yX10_thrown cX10_thrown 1 (some .int) w [.ref (G.2.1 40 0)] K X := by
  refine con_intro hl (by decide +kernel) (Nat.le_of_ble_eq_true rfl) (Nat.le_of_ble_eq_true rfl) (fun M kk hM hk F => ?_)
  have h := h M kk hM hk F
  show Z M G 0 K X w 0 [some (.ref (G.2.1 40 0))] []
  refine z_aload_n F dX10_thrown_0 rfl ?_
  refine z_getI F 0 rfl (by decide) (by decide) rfl lk_X10_95 dX10_thrown_1 ?_
  exact z_iret F dX10_thrown_4 (by decide) h
set_option maxRecDepth 20000 in
theorem e_X10_bad {l : Launch} {G : Gx} {w : Wd} {p0 : Int32} {p1 : Int32} {p2 : Int32} {K : Option Value → Wd → Prop} {X : String → Wd → Prop} (hl : l.stackTraces = false)
    (h : ∀ (M : Mx) (kk : Nat), mL M = l → 1 ≤ kk → Fx M G RX10 cX10_bad 4 (some .boolean) kk 0 → ((p0 = 0 → Z M G 0 K X w 26 [some (.ref (G.2.1 40 0)), none, none, none] []) ∧ (¬ (p0 = 0) → ((¬ (w.1 40 0 0) = 0 → Z M G 0 K X w 26 [some (.ref (G.2.1 40 0)), none, none, none] []) ∧ (¬ (¬ (w.1 40 0 0) = 0) → (∀ w1 : Wd, w1 = setI w 40 0 0 p1 → (vp_in p2 2 ∧ (vp_in p2 2 ∧ ∀ w2 : Wd, w2 = setI w1 42 0 ((p2 : Int32).toNatClampNeg) ((w1.1 42 0 ((p2 : Int32).toNatClampNeg)) + (1 : Int32)) → Z M G 0 K X w2 26 [some (.ref (G.2.1 40 0)), none, none, none] [])))))))) :
    Con l G 1 0 yX10_bad cX10_bad 4 (some .boolean) w [.ref (G.2.1 40 0), .int p0, .int p1, .int p2] K X := by
  refine con_intro hl (by decide +kernel) (Nat.le_of_ble_eq_true rfl) (Nat.le_of_ble_eq_true rfl) (fun M kk hM hk F => ?_)
  have h := h M kk hM hk F
  show Z M G 0 K X w 0 [some (.ref (G.2.1 40 0)), some (.int p0), some (.int p1), some (.int p2)] []
  refine z_iload_n F dX10_bad_0 rfl ?_
  refine z_if_eq F 26 dX10_bad_1 (by decide) ⟨fun hc => ?_, fun hc => ?_⟩
  · have h := h.1 hc
    exact z_weak h (⟨rfl, trivial⟩)
  · have h := h.2 hc
    refine z_aload_n F dX10_bad_4 rfl ?_
    refine z_getI F 0 rfl (by decide) (by decide) rfl lk_X10_95 dX10_bad_5 ?_
    refine z_if_ne F 26 dX10_bad_8 (by decide) ⟨fun hc => ?_, fun hc => ?_⟩
    · have h := h.1 hc
      exact z_weak h (⟨rfl, trivial⟩)
    · have h := h.2 hc
      refine z_aload_n F dX10_bad_11 rfl ?_
      refine z_iload_n F dX10_bad_12 rfl ?_
      refine z_putIW F 0 rfl (by decide) (by decide) rfl lk_X10_95 dX10_bad_13 (fun w1 hw1 => ?_)
      have h := h w1 hw1
      refine z_aload_n F dX10_bad_16 rfl ?_
      refine z_getR F 10 42 0 rfl (by decide) (by decide) rfl rfl rfl lk_X10_17 dX10_bad_17 ?_
      refine z_iload_n F dX10_bad_20 rfl ?_
      refine z_dup2 F dX10_bad_21 rfl rfl ?_
      obtain ⟨hb, h⟩ := h
      refine z_ialdK F ((p2 : Int32).toNatClampNeg) rfl rfl (by decide) hb dX10_bad_22 ?_
      refine z_iconst F 1 dX10_bad_23 (by decide) ?_
      refine z_iadd F dX10_bad_24 ?_
      obtain ⟨hb, h⟩ := h
      refine z_iastW F ((p2 : Int32).toNatClampNeg) rfl rfl (by decide) hb dX10_bad_25 (fun w2 hw2 => ?_)
      have h := h w2 hw2
      exact z_weak h (⟨rfl, trivial⟩)
set_option maxRecDepth 20000 in
theorem b_X10_bad_26 {M : Mx} {G : Gx} {kk : Nat} {w : Wd}   {K : Option Value → Wd → Prop} {X : String → Wd → Prop} (F : Fx M G RX10 cX10_bad 4 (some .boolean) kk 0) (hk : 1 ≤ kk)
    (h : (((w.1 40 0 0) = 0 → K (some (.int 0)) w) ∧ (¬ ((w.1 40 0 0) = 0) → K (some (.int 1)) w))) :
    Z M G 0 K X w 26 [some (.ref (G.2.1 40 0)), none, none, none] [] := by
  refine z_aload_n F dX10_bad_26 rfl ?_
  refine z_getI F 0 rfl (by decide) (by decide) rfl lk_X10_95 dX10_bad_27 ?_
  refine z_if_eq F 37 dX10_bad_30 (by decide) ⟨fun hc => ?_, fun hc => ?_⟩
  · have h := h.1 hc
    refine z_iconst F 0 dX10_bad_37 (by decide) ?_
    exact z_zret F dX10_bad_38 (by decide) rfl h
  · have h := h.2 hc
    refine z_iconst F 1 dX10_bad_33 (by decide) ?_
    refine z_goto F 38 dX10_bad_34 (by decide) ?_
    exact z_zret F dX10_bad_38 (by decide) rfl h
set_option maxRecDepth 20000 in
theorem e_X10_in {l : Launch} {G : Gx} {w : Wd} {p0 : Int32} {p1 : Int32} {p2 : Int32} {K : Option Value → Wd → Prop} {X : String → Wd → Prop} (hl : l.stackTraces = false)
    (h : ∀ (M : Mx) (kk : Nat), mL M = l → 1 ≤ kk → Fx M G RX10 cX10_in 3 (some .boolean) kk 0 → ((p0 < p1 → K (some (.int 0)) w) ∧ (¬ (p0 < p1) → ((p2 < p0 → K (some (.int 0)) w) ∧ (¬ (p2 < p0) → K (some (.int 1)) w))))) :
    Con l G 1 0 yX10_in cX10_in 3 (some .boolean) w [.int p0, .int p1, .int p2] K X := by
  refine con_intro hl (by decide +kernel) (Nat.le_of_ble_eq_true rfl) (Nat.le_of_ble_eq_true rfl) (fun M kk hM hk F => ?_)
  have h := h M kk hM hk F
  show Z M G 0 K X w 0 [some (.int p0), some (.int p1), some (.int p2)] []
  refine z_iload_n F dX10_in_0 rfl ?_
  refine z_iload_n F dX10_in_1 rfl ?_
  refine z_icmp_lt F 14 dX10_in_2 (by decide) ⟨fun hc => ?_, fun hc => ?_⟩
  · have h := h.1 hc
    refine z_iconst F 0 dX10_in_14 (by decide) ?_
    exact z_zret F dX10_in_15 (by decide) rfl h
  · have h := h.2 hc
    refine z_iload_n F dX10_in_5 rfl ?_
    refine z_iload_n F dX10_in_6 rfl ?_
    refine z_icmp_gt F 14 dX10_in_7 (by decide) ⟨fun hc => ?_, fun hc => ?_⟩
    · have h := h.1 hc
      refine z_iconst F 0 dX10_in_14 (by decide) ?_
      exact z_zret F dX10_in_15 (by decide) rfl h
    · have h := h.2 hc
      refine z_iconst F 1 dX10_in_10 (by decide) ?_
      refine z_goto F 15 dX10_in_11 (by decide) ?_
      exact z_zret F dX10_in_15 (by decide) rfl h
set_option maxRecDepth 20000 in
theorem e_X10_less {l : Launch} {G : Gx} {w : Wd} {p0 : Int32} {p1 : Int32} {K : Option Value → Wd → Prop} {X : String → Wd → Prop} (hl : l.stackTraces = false)
    (h : ∀ (M : Mx) (kk : Nat), mL M = l → 1 ≤ kk → Fx M G RX10 cX10_less 2 (some .int) kk 0 → ((p1 ≤ p0 → K (some (.int p1)) w) ∧ (¬ (p1 ≤ p0) → K (some (.int p0)) w))) :
    Con l G 1 0 yX10_less cX10_less 2 (some .int) w [.int p0, .int p1] K X := by
  refine con_intro hl (by decide +kernel) (Nat.le_of_ble_eq_true rfl) (Nat.le_of_ble_eq_true rfl) (fun M kk hM hk F => ?_)
  have h := h M kk hM hk F
  show Z M G 0 K X w 0 [some (.int p0), some (.int p1)] []
  refine z_iload_n F dX10_less_0 rfl ?_
  refine z_iload_n F dX10_less_1 rfl ?_
  refine z_icmp_ge F 9 dX10_less_2 (by decide) ⟨fun hc => ?_, fun hc => ?_⟩
  · have h := h.1 hc
    refine z_iload_n F dX10_less_9 rfl ?_
    exact z_iret F dX10_less_10 (by decide) h
  · have h := h.2 hc
    refine z_iload_n F dX10_less_5 rfl ?_
    refine z_goto F 10 dX10_less_6 (by decide) ?_
    exact z_iret F dX10_less_10 (by decide) h
set_option maxRecDepth 20000 in
theorem e_X10_more {l : Launch} {G : Gx} {w : Wd} {p0 : Int32} {p1 : Int32} {K : Option Value → Wd → Prop} {X : String → Wd → Prop} (hl : l.stackTraces = false)
    (h : ∀ (M : Mx) (kk : Nat), mL M = l → 1 ≤ kk → Fx M G RX10 cX10_more 2 (some .int) kk 0 → ((p0 ≤ p1 → K (some (.int p1)) w) ∧ (¬ (p0 ≤ p1) → K (some (.int p0)) w))) :
    Con l G 1 0 yX10_more cX10_more 2 (some .int) w [.int p0, .int p1] K X := by
  refine con_intro hl (by decide +kernel) (Nat.le_of_ble_eq_true rfl) (Nat.le_of_ble_eq_true rfl) (fun M kk hM hk F => ?_)
  have h := h M kk hM hk F
  show Z M G 0 K X w 0 [some (.int p0), some (.int p1)] []
  refine z_iload_n F dX10_more_0 rfl ?_
  refine z_iload_n F dX10_more_1 rfl ?_
  refine z_icmp_le F 9 dX10_more_2 (by decide) ⟨fun hc => ?_, fun hc => ?_⟩
  · have h := h.1 hc
    refine z_iload_n F dX10_more_9 rfl ?_
    exact z_iret F dX10_more_10 (by decide) h
  · have h := h.2 hc
    refine z_iload_n F dX10_more_5 rfl ?_
    refine z_goto F 10 dX10_more_6 (by decide) ?_
    exact z_iret F dX10_more_10 (by decide) h
set_option maxRecDepth 20000 in
theorem e_X10_has {l : Launch} {G : Gx} {w : Wd} {p0 : Int32} {p1 : Int32} {K : Option Value → Wd → Prop} {X : String → Wd → Prop} (hl : l.stackTraces = false)
    (h : ∀ (M : Mx) (kk : Nat), mL M = l → 1 ≤ kk → Fx M G RX10 cX10_has 2 (some .boolean) kk 0 → ((¬ ((p0 >>> (p1 &&& 31)) &&& (1 : Int32)) = 1 → K (some (.int 0)) w) ∧ (¬ (¬ ((p0 >>> (p1 &&& 31)) &&& (1 : Int32)) = 1) → K (some (.int 1)) w))) :
    Con l G 1 0 yX10_has cX10_has 2 (some .boolean) w [.int p0, .int p1] K X := by
  refine con_intro hl (by decide +kernel) (Nat.le_of_ble_eq_true rfl) (Nat.le_of_ble_eq_true rfl) (fun M kk hM hk F => ?_)
  have h := h M kk hM hk F
  show Z M G 0 K X w 0 [some (.int p0), some (.int p1)] []
  refine z_iload_n F dX10_has_0 rfl ?_
  refine z_iload_n F dX10_has_1 rfl ?_
  refine z_ishr F dX10_has_2 ?_
  refine z_iconst F 1 dX10_has_3 (by decide) ?_
  refine z_iand F dX10_has_4 ?_
  refine z_iconst F 1 dX10_has_5 (by decide) ?_
  refine z_icmp_ne F 13 dX10_has_6 (by decide) ⟨fun hc => ?_, fun hc => ?_⟩
  · have h := h.1 hc
    refine z_iconst F 0 dX10_has_13 (by decide) ?_
    exact z_zret F dX10_has_14 (by decide) rfl h
  · have h := h.2 hc
    refine z_iconst F 1 dX10_has_9 (by decide) ?_
    refine z_goto F 14 dX10_has_10 (by decide) ?_
    exact z_zret F dX10_has_14 (by decide) rfl h
set_option maxRecDepth 20000 in
theorem e_X10_feed {l : Launch} {G : Gx} {w : Wd} {p0 : Int32} {p1 : Int32} {p2 : Int32} {p3 : Int32} {p4 : Int32} {K : Option Value → Wd → Prop} {X : String → Wd → Prop} (hl : l.stackTraces = false)
    (h : ∀ (M : Mx) (kk : Nat), mL M = l → 1 ≤ kk → Fx M G RX10 cX10_feed 8 (some .int) kk 0 → (∀ w1 : Wd, w1 = setI w 40 0 0 0 → ((((w1.1 40 0 1) + (20 : Int32)) ≤ 600 → Z M G 0 K X w1 23 [some (.ref (G.2.1 40 0)), some (.int p0), some (.int p1), some (.int p2), some (.int p3), some (.int p4), some (.int 0), none] []) ∧ (¬ (((w1.1 40 0 1) + (20 : Int32)) ≤ 600) → K (some (.int (-1))) w1)))) :
    Con l G 1 0 yX10_feed cX10_feed 8 (some .int) w [.ref (G.2.1 40 0), .int p0, .int p1, .int p2, .int p3, .int p4] K X := by
  refine con_intro hl (by decide +kernel) (Nat.le_of_ble_eq_true rfl) (Nat.le_of_ble_eq_true rfl) (fun M kk hM hk F => ?_)
  have h := h M kk hM hk F
  show Z M G 0 K X w 0 [some (.ref (G.2.1 40 0)), some (.int p0), some (.int p1), some (.int p2), some (.int p3), some (.int p4), none, none] []
  refine z_aload_n F dX10_feed_0 rfl ?_
  refine z_iconst F 0 dX10_feed_1 (by decide) ?_
  refine z_putIW F 0 rfl (by decide) (by decide) rfl lk_X10_95 dX10_feed_2 (fun w1 hw1 => ?_)
  have h := h w1 hw1
  refine z_aload_n F dX10_feed_5 rfl ?_
  refine z_getI F 1 rfl (by decide) (by decide) rfl lk_X10_98 dX10_feed_6 ?_
  refine z_bipush F 20 dX10_feed_9 (by decide) ?_
  refine z_iadd F dX10_feed_11 ?_
  refine z_sipush F 600 dX10_feed_12 (by decide) ?_
  refine z_icmp_le F 20 dX10_feed_15 (by decide) ⟨fun hc => ?_, fun hc => ?_⟩
  · have h := h.1 hc
    refine z_iconst F 0 dX10_feed_20 (by decide) ?_
    refine z_istore F dX10_feed_21 (Nat.le_of_ble_eq_true rfl) ?_
    exact h
  · have h := h.2 hc
    refine z_iconst F (-1) dX10_feed_18 (by decide) ?_
    exact z_iret F dX10_feed_19 (by decide) h
set_option maxRecDepth 20000 in
theorem b_X10_feed_23 {M : Mx} {G : Gx} {kk : Nat} {w : Wd}  {x1 : Int32} {x2 : Int32} {x3 : Int32} {x4 : Int32} {x5 : Int32} {x6 : Int32} {K : Option Value → Wd → Prop} {X : String → Wd → Prop} (F : Fx M G RX10 cX10_feed 8 (some .int) kk 0) (hk : 1 ≤ kk)
    (h : ((20 ≤ x6 → K (some (.int (w.1 40 0 1))) w) ∧ (¬ (20 ≤ x6) → ((4 ≤ x6 → ((8 ≤ x6 → ((12 ≤ x6 → ((16 ≤ x6 → Z M G 0 K X w 76 [some (.ref (G.2.1 40 0)), some (.int x1), some (.int x2), some (.int x3), some (.int x4), some (.int x5), some (.int x6), none] [.int x5]) ∧ (¬ (16 ≤ x6) → Z M G 0 K X w 76 [some (.ref (G.2.1 40 0)), some (.int x1), some (.int x2), some (.int x3), some (.int x4), some (.int x5), some (.int x6), none] [.int x4]))) ∧ (¬ (12 ≤ x6) → Z M G 0 K X w 76 [some (.ref (G.2.1 40 0)), some (.int x1), some (.int x2), some (.int x3), some (.int x4), some (.int x5), some (.int x6), none] [.int x3]))) ∧ (¬ (8 ≤ x6) → Z M G 0 K X w 76 [some (.ref (G.2.1 40 0)), some (.int x1), some (.int x2), some (.int x3), some (.int x4), some (.int x5), some (.int x6), none] [.int x2]))) ∧ (¬ (4 ≤ x6) → Z M G 0 K X w 76 [some (.ref (G.2.1 40 0)), some (.int x1), some (.int x2), some (.int x3), some (.int x4), some (.int x5), some (.int x6), none] [.int x1]))))) :
    Z M G 0 K X w 23 [some (.ref (G.2.1 40 0)), some (.int x1), some (.int x2), some (.int x3), some (.int x4), some (.int x5), some (.int x6), none] [] := by
  refine z_iload F dX10_feed_23 rfl ?_
  refine z_bipush F 20 dX10_feed_25 (by decide) ?_
  refine z_icmp_ge F 120 dX10_feed_27 (by decide) ⟨fun hc => ?_, fun hc => ?_⟩
  · have h := h.1 hc
    refine z_aload_n F dX10_feed_120 rfl ?_
    refine z_getI F 1 rfl (by decide) (by decide) rfl lk_X10_98 dX10_feed_121 ?_
    exact z_iret F dX10_feed_124 (by decide) h
  · have h := h.2 hc
    refine z_iload F dX10_feed_30 rfl ?_
    refine z_iconst F 4 dX10_feed_32 (by decide) ?_
    refine z_icmp_ge F 40 dX10_feed_33 (by decide) ⟨fun hc => ?_, fun hc => ?_⟩
    · have h := h.1 hc
      refine z_iload F dX10_feed_40 rfl ?_
      refine z_bipush F 8 dX10_feed_42 (by decide) ?_
      refine z_icmp_ge F 51 dX10_feed_44 (by decide) ⟨fun hc => ?_, fun hc => ?_⟩
      · have h := h.1 hc
        refine z_iload F dX10_feed_51 rfl ?_
        refine z_bipush F 12 dX10_feed_53 (by decide) ?_
        refine z_icmp_ge F 62 dX10_feed_55 (by decide) ⟨fun hc => ?_, fun hc => ?_⟩
        · have h := h.1 hc
          refine z_iload F dX10_feed_62 rfl ?_
          refine z_bipush F 16 dX10_feed_64 (by decide) ?_
          refine z_icmp_ge F 74 dX10_feed_66 (by decide) ⟨fun hc => ?_, fun hc => ?_⟩
          · have h := h.1 hc
            refine z_iload F dX10_feed_74 rfl ?_
            exact h
          · have h := h.2 hc
            refine z_iload F dX10_feed_69 rfl ?_
            refine z_goto F 76 dX10_feed_71 (by decide) ?_
            exact h
        · have h := h.2 hc
          refine z_iload_n F dX10_feed_58 rfl ?_
          refine z_goto F 76 dX10_feed_59 (by decide) ?_
          exact h
      · have h := h.2 hc
        refine z_iload_n F dX10_feed_47 rfl ?_
        refine z_goto F 76 dX10_feed_48 (by decide) ?_
        exact h
    · have h := h.2 hc
      refine z_iload_n F dX10_feed_36 rfl ?_
      refine z_goto F 76 dX10_feed_37 (by decide) ?_
      exact h
set_option maxRecDepth 20000 in
theorem b_X10_feed_76 {M : Mx} {G : Gx} {kk : Nat} {w : Wd}  {x1 : Int32} {x2 : Int32} {x3 : Int32} {x4 : Int32} {x5 : Int32} {x6 : Int32} {s0 : Int32} {K : Option Value → Wd → Prop} {X : String → Wd → Prop} (F : Fx M G RX10 cX10_feed 8 (some .int) kk 0) (hk : 1 ≤ kk)
    (h : (vp_in (w.1 40 0 1) 600 ∧ ∀ w1 : Wd, w1 = setI w 41 0 ((w.1 40 0 1 : Int32).toNatClampNeg) ((s0 >>> (((24 : Int32) - ((8 : Int32) * (x6 - x6 / (4 : Int32) * (4 : Int32)))) &&& 31)) &&& (255 : Int32)) → (∀ w2 : Wd, w2 = setI w1 40 0 1 ((w1.1 40 0 1) + (1 : Int32)) → Z M G 0 K X w2 23 [some (.ref (G.2.1 40 0)), some (.int x1), some (.int x2), some (.int x3), some (.int x4), some (.int x5), some (.int (x6 + 1)), none] []))) :
    Z M G 0 K X w 76 [some (.ref (G.2.1 40 0)), some (.int x1), some (.int x2), some (.int x3), some (.int x4), some (.int x5), some (.int x6), none] [.int s0] := by
  refine z_istore F dX10_feed_76 (Nat.le_of_ble_eq_true rfl) ?_
  refine z_aload_n F dX10_feed_78 rfl ?_
  refine z_getR F 9 41 0 rfl (by decide) (by decide) rfl rfl rfl lk_X10_13 dX10_feed_79 ?_
  refine z_aload_n F dX10_feed_82 rfl ?_
  refine z_getI F 1 rfl (by decide) (by decide) rfl lk_X10_98 dX10_feed_83 ?_
  refine z_iload F dX10_feed_86 rfl ?_
  refine z_bipush F 24 dX10_feed_88 (by decide) ?_
  refine z_bipush F 8 dX10_feed_90 (by decide) ?_
  refine z_iload F dX10_feed_92 rfl ?_
  refine z_iconst F 4 dX10_feed_94 (by decide) ?_
  refine z_irem F dX10_feed_95 (by decide) ?_
  refine z_imul F dX10_feed_96 ?_
  refine z_isub F dX10_feed_97 ?_
  refine z_ishr F dX10_feed_98 ?_
  refine z_sipush F 255 dX10_feed_99 (by decide) ?_
  refine z_iand F dX10_feed_102 ?_
  obtain ⟨hb, h⟩ := h
  refine z_iastW F ((w.1 40 0 1 : Int32).toNatClampNeg) rfl rfl (by decide) hb dX10_feed_103 (fun w1 hw1 => ?_)
  have h := h w1 hw1
  refine z_aload_n F dX10_feed_104 rfl ?_
  refine z_dup F dX10_feed_105 rfl ?_
  refine z_getI F 1 rfl (by decide) (by decide) rfl lk_X10_98 dX10_feed_106 ?_
  refine z_iconst F 1 dX10_feed_109 (by decide) ?_
  refine z_iadd F dX10_feed_110 ?_
  refine z_putIW F 1 rfl (by decide) (by decide) rfl lk_X10_98 dX10_feed_111 (fun w2 hw2 => ?_)
  have h := h w2 hw2
  refine z_iinc F (x6 + 1) dX10_feed_114 rfl rfl (Nat.le_of_ble_eq_true rfl) ?_
  refine z_goto F 23 dX10_feed_117 (by decide) ?_
  exact z_weak h (⟨rfl, ⟨rfl, ⟨rfl, ⟨rfl, ⟨rfl, ⟨rfl, ⟨rfl, trivial⟩⟩⟩⟩⟩⟩⟩)
set_option maxRecDepth 20000 in
theorem e_X10_byteAt {l : Launch} {G : Gx} {w : Wd} {p0 : Int32} {K : Option Value → Wd → Prop} {X : String → Wd → Prop} (hl : l.stackTraces = false)
    (h : ∀ (M : Mx) (kk : Nat), mL M = l → 1 ≤ kk → Fx M G RX10 cX10_byteAt 2 (some .int) kk 0 → ((p0 < (w.1 40 0 2) → (vp_in p0 600 ∧ K (some (.int (w.1 41 0 ((p0 : Int32).toNatClampNeg)))) w)) ∧ (¬ (p0 < (w.1 40 0 2)) → K (some (.int (-1))) w))) :
    Con l G 1 0 yX10_byteAt cX10_byteAt 2 (some .int) w [.ref (G.2.1 40 0), .int p0] K X := by
  refine con_intro hl (by decide +kernel) (Nat.le_of_ble_eq_true rfl) (Nat.le_of_ble_eq_true rfl) (fun M kk hM hk F => ?_)
  have h := h M kk hM hk F
  show Z M G 0 K X w 0 [some (.ref (G.2.1 40 0)), some (.int p0)] []
  refine z_iload_n F dX10_byteAt_0 rfl ?_
  refine z_aload_n F dX10_byteAt_1 rfl ?_
  refine z_getI F 2 rfl (by decide) (by decide) rfl lk_X10_101 dX10_byteAt_2 ?_
  refine z_icmp_lt F 12 dX10_byteAt_5 (by decide) ⟨fun hc => ?_, fun hc => ?_⟩
  · have h := h.1 hc
    refine z_aload_n F dX10_byteAt_12 rfl ?_
    refine z_getR F 9 41 0 rfl (by decide) (by decide) rfl rfl rfl lk_X10_13 dX10_byteAt_13 ?_
    refine z_iload_n F dX10_byteAt_16 rfl ?_
    obtain ⟨hb, h⟩ := h
    refine z_ialdK F ((p0 : Int32).toNatClampNeg) rfl rfl (by decide) hb dX10_byteAt_17 ?_
    exact z_iret F dX10_byteAt_18 (by decide) h
  · have h := h.2 hc
    refine z_iconst F (-1) dX10_byteAt_8 (by decide) ?_
    refine z_goto F 18 dX10_byteAt_9 (by decide) ?_
    exact z_iret F dX10_byteAt_18 (by decide) h
set_option maxRecDepth 20000 in
theorem e_X10_blanks {l : Launch} {G : Gx} {w : Wd}  {K : Option Value → Wd → Prop} {X : String → Wd → Prop} (hl : l.stackTraces = false)
    (h : ∀ (M : Mx) (kk : Nat), mL M = l → 2 ≤ kk → Fx M G RX10 cX10_blanks 1 none kk 0 → Z M G 0 K X w 0 [some (.ref (G.2.1 40 0))] []) :
    Con l G 2 0 yX10_blanks cX10_blanks 1 none w [.ref (G.2.1 40 0)] K X := by
  refine con_intro hl (by decide +kernel) (Nat.le_of_ble_eq_true rfl) (Nat.le_of_ble_eq_true rfl) (fun M kk hM hk F => ?_)
  have h := h M kk hM hk F
  show Z M G 0 K X w 0 [some (.ref (G.2.1 40 0))] []
  exact h
set_option maxRecDepth 20000 in
theorem b_X10_blanks_0 {M : Mx} {G : Gx} {kk : Nat} {w : Wd}   {K : Option Value → Wd → Prop} {X : String → Wd → Prop} (F : Fx M G RX10 cX10_blanks 1 none kk 0) (hk : 2 ≤ kk)
    (h : Con (mL M) G 1 0 yX10_byteAt cX10_byteAt 2 (some .int) w [.ref (G.2.1 40 0), .int (w.1 40 0 4)] (fun r w2 => ∃ v1 : Int32, r = some (.int v1) ∧ ((¬ v1 = 32 → K none w2) ∧ (¬ (¬ v1 = 32) → (∀ w3 : Wd, w3 = setI w2 40 0 4 ((w2.1 40 0 4) + (1 : Int32)) → Z M G 0 K X w3 0 [some (.ref (G.2.1 40 0))] [])))) X) :
    Z M G 0 K X w 0 [some (.ref (G.2.1 40 0))] [] := by
  refine z_aload_n F dX10_blanks_0 rfl ?_
  refine z_aload_n F dX10_blanks_1 rfl ?_
  refine z_getI F 4 rfl (by decide) (by decide) rfl lk_X10_104 dX10_blanks_2 ?_
  refine z_callV F (k' := 1) (mc' := 0) [.int (w.1 40 0 4)] [] dX10_blanks_5 rfl rfl (by decide) rfl cl_X10_107 hy_X10_byteAt (by omega) (by decide) (by decide) (Nat.le_of_ble_eq_true rfl) rfl (con_mono h ?_ (fun _ _ h => h))
  rintro _ w2 ⟨v1, rfl, h⟩
  show Z M G 0 K X w2 8 [some (.ref (G.2.1 40 0))] [.int v1]
  refine z_bipush F 32 dX10_blanks_8 (by decide) ?_
  refine z_icmp_ne F 26 dX10_blanks_10 (by decide) ⟨fun hc => ?_, fun hc => ?_⟩
  · have h := h.1 hc
    exact z_vret F dX10_blanks_26 (by decide) h
  · have h := h.2 hc
    refine z_aload_n F dX10_blanks_13 rfl ?_
    refine z_dup F dX10_blanks_14 rfl ?_
    refine z_getI F 4 rfl (by decide) (by decide) rfl lk_X10_104 dX10_blanks_15 ?_
    refine z_iconst F 1 dX10_blanks_18 (by decide) ?_
    refine z_iadd F dX10_blanks_19 ?_
    refine z_putIW F 4 rfl (by decide) (by decide) rfl lk_X10_104 dX10_blanks_20 (fun w3 hw3 => ?_)
    have h := h w3 hw3
    refine z_goto F 0 dX10_blanks_23 (by decide) ?_
    exact h
set_option maxRecDepth 20000 in
theorem e_X10_wrong {l : Launch} {G : Gx} {w : Wd} {p0 : Int32} {p1 : Int32} {K : Option Value → Wd → Prop} {X : String → Wd → Prop} (hl : l.stackTraces = false)
    (h : ∀ (M : Mx) (kk : Nat), mL M = l → 1 ≤ kk → Fx M G RX10 cX10_wrong 3 none kk 0 → ((¬ (w.1 40 0 5) = 0 → K none w) ∧ (¬ (¬ (w.1 40 0 5) = 0) → (∀ w1 : Wd, w1 = setI w 40 0 5 p0 → (∀ w2 : Wd, w2 = setI w1 40 0 6 p1 → K none w2))))) :
    Con l G 1 0 yX10_wrong cX10_wrong 3 none w [.ref (G.2.1 40 0), .int p0, .int p1] K X := by
  refine con_intro hl (by decide +kernel) (Nat.le_of_ble_eq_true rfl) (Nat.le_of_ble_eq_true rfl) (fun M kk hM hk F => ?_)
  have h := h M kk hM hk F
  show Z M G 0 K X w 0 [some (.ref (G.2.1 40 0)), some (.int p0), some (.int p1)] []
  refine z_aload_n F dX10_wrong_0 rfl ?_
  refine z_getI F 5 rfl (by decide) (by decide) rfl lk_X10_111 dX10_wrong_1 ?_
  refine z_if_ne F 17 dX10_wrong_4 (by decide) ⟨fun hc => ?_, fun hc => ?_⟩
  · have h := h.1 hc
    exact z_vret F dX10_wrong_17 (by decide) h
  · have h := h.2 hc
    refine z_aload_n F dX10_wrong_7 rfl ?_
    refine z_iload_n F dX10_wrong_8 rfl ?_
    refine z_putIW F 5 rfl (by decide) (by decide) rfl lk_X10_111 dX10_wrong_9 (fun w1 hw1 => ?_)
    have h := h w1 hw1
    refine z_aload_n F dX10_wrong_12 rfl ?_
    refine z_iload_n F dX10_wrong_13 rfl ?_
    refine z_putIW F 6 rfl (by decide) (by decide) rfl lk_X10_114 dX10_wrong_14 (fun w2 hw2 => ?_)
    have h := h w2 hw2
    exact z_vret F dX10_wrong_17 (by decide) h
set_option maxRecDepth 20000 in
theorem e_X10_isDigit {l : Launch} {G : Gx} {w : Wd} {p0 : Int32} {K : Option Value → Wd → Prop} {X : String → Wd → Prop} (hl : l.stackTraces = false)
    (h : ∀ (M : Mx) (kk : Nat), mL M = l → 1 ≤ kk → Fx M G RX10 cX10_isDigit 1 (some .boolean) kk 0 → ((p0 < 48 → K (some (.int 0)) w) ∧ (¬ (p0 < 48) → ((57 < p0 → K (some (.int 0)) w) ∧ (¬ (57 < p0) → K (some (.int 1)) w))))) :
    Con l G 1 0 yX10_isDigit cX10_isDigit 1 (some .boolean) w [.int p0] K X := by
  refine con_intro hl (by decide +kernel) (Nat.le_of_ble_eq_true rfl) (Nat.le_of_ble_eq_true rfl) (fun M kk hM hk F => ?_)
  have h := h M kk hM hk F
  show Z M G 0 K X w 0 [some (.int p0)] []
  refine z_iload_n F dX10_isDigit_0 rfl ?_
  refine z_bipush F 48 dX10_isDigit_1 (by decide) ?_
  refine z_icmp_lt F 16 dX10_isDigit_3 (by decide) ⟨fun hc => ?_, fun hc => ?_⟩
  · have h := h.1 hc
    refine z_iconst F 0 dX10_isDigit_16 (by decide) ?_
    exact z_zret F dX10_isDigit_17 (by decide) rfl h
  · have h := h.2 hc
    refine z_iload_n F dX10_isDigit_6 rfl ?_
    refine z_bipush F 57 dX10_isDigit_7 (by decide) ?_
    refine z_icmp_gt F 16 dX10_isDigit_9 (by decide) ⟨fun hc => ?_, fun hc => ?_⟩
    · have h := h.1 hc
      refine z_iconst F 0 dX10_isDigit_16 (by decide) ?_
      exact z_zret F dX10_isDigit_17 (by decide) rfl h
    · have h := h.2 hc
      refine z_iconst F 1 dX10_isDigit_12 (by decide) ?_
      refine z_goto F 17 dX10_isDigit_13 (by decide) ?_
      exact z_zret F dX10_isDigit_17 (by decide) rfl h
set_option maxRecDepth 20000 in
theorem e_X10_isSmall {l : Launch} {G : Gx} {w : Wd} {p0 : Int32} {K : Option Value → Wd → Prop} {X : String → Wd → Prop} (hl : l.stackTraces = false)
    (h : ∀ (M : Mx) (kk : Nat), mL M = l → 1 ≤ kk → Fx M G RX10 cX10_isSmall 1 (some .boolean) kk 0 → ((p0 < 97 → K (some (.int 0)) w) ∧ (¬ (p0 < 97) → ((122 < p0 → K (some (.int 0)) w) ∧ (¬ (122 < p0) → K (some (.int 1)) w))))) :
    Con l G 1 0 yX10_isSmall cX10_isSmall 1 (some .boolean) w [.int p0] K X := by
  refine con_intro hl (by decide +kernel) (Nat.le_of_ble_eq_true rfl) (Nat.le_of_ble_eq_true rfl) (fun M kk hM hk F => ?_)
  have h := h M kk hM hk F
  show Z M G 0 K X w 0 [some (.int p0)] []
  refine z_iload_n F dX10_isSmall_0 rfl ?_
  refine z_bipush F 97 dX10_isSmall_1 (by decide) ?_
  refine z_icmp_lt F 16 dX10_isSmall_3 (by decide) ⟨fun hc => ?_, fun hc => ?_⟩
  · have h := h.1 hc
    refine z_iconst F 0 dX10_isSmall_16 (by decide) ?_
    exact z_zret F dX10_isSmall_17 (by decide) rfl h
  · have h := h.2 hc
    refine z_iload_n F dX10_isSmall_6 rfl ?_
    refine z_bipush F 122 dX10_isSmall_7 (by decide) ?_
    refine z_icmp_gt F 16 dX10_isSmall_9 (by decide) ⟨fun hc => ?_, fun hc => ?_⟩
    · have h := h.1 hc
      refine z_iconst F 0 dX10_isSmall_16 (by decide) ?_
      exact z_zret F dX10_isSmall_17 (by decide) rfl h
    · have h := h.2 hc
      refine z_iconst F 1 dX10_isSmall_12 (by decide) ?_
      refine z_goto F 17 dX10_isSmall_13 (by decide) ?_
      exact z_zret F dX10_isSmall_17 (by decide) rfl h
set_option maxRecDepth 20000 in
theorem e_X10_number {l : Launch} {G : Gx} {w : Wd} {p0 : Int32} {p1 : Int32} {K : Option Value → Wd → Prop} {X : String → Wd → Prop} (hl : l.stackTraces = false)
    (h : ∀ (M : Mx) (kk : Nat), mL M = l → 3 ≤ kk → Fx M G RX10 cX10_number 5 (some .int) kk 0 → (((w.1 40 0 5) = 0 → Con (mL M) G 2 0 yX10_blanks cX10_blanks 1 none w [.ref (G.2.1 40 0)] (fun r w2 => r = none ∧ Con (mL M) G 1 0 yX10_byteAt cX10_byteAt 2 (some .int) w2 [.ref (G.2.1 40 0), .int (w2.1 40 0 4)] (fun r w4 => ∃ v3 : Int32, r = some (.int v3) ∧ Con (mL M) G 1 0 yX10_isDigit cX10_isDigit 1 (some .boolean) w4 [.int v3] (fun r w6 => ∃ v5 : Int32, r = some (.int v5) ∧ ((¬ v5 = 0 → Z M G 0 K X w6 44 [some (.ref (G.2.1 40 0)), some (.int p0), some (.int p1), some (.int (w2.1 40 0 4)), some (.int 0)] []) ∧ (¬ (¬ v5 = 0) → Con (mL M) G 1 0 yX10_wrong cX10_wrong 3 none w6 [.ref (G.2.1 40 0), .int 1, .int (w6.1 40 0 4)] (fun r w8 => r = none ∧ Z M G 0 K X w8 44 [some (.ref (G.2.1 40 0)), some (.int p0), some (.int p1), some (.int (w2.1 40 0 4)), some (.int 0)] []) X))) X) X) X) ∧ (¬ ((w.1 40 0 5) = 0) → K (some (.int 0)) w))) :
    Con l G 3 0 yX10_number cX10_number 5 (some .int) w [.ref (G.2.1 40 0), .int p0, .int p1] K X := by
  refine con_intro hl (by decide +kernel) (Nat.le_of_ble_eq_true rfl) (Nat.le_of_ble_eq_true rfl) (fun M kk hM hk F => ?_)
  have h := h M kk hM hk F
  show Z M G 0 K X w 0 [some (.ref (G.2.1 40 0)), some (.int p0), some (.int p1), none, none] []
  refine z_aload_n F dX10_number_0 rfl ?_
  refine z_getI F 5 rfl (by decide) (by decide) rfl lk_X10_111 dX10_number_1 ?_
  refine z_if_eq F 9 dX10_number_4 (by decide) ⟨fun hc => ?_, fun hc => ?_⟩
  · have h := h.1 hc
    refine z_aload_n F dX10_number_9 rfl ?_
    refine z_callV F (k' := 2) (mc' := 0) [] [] dX10_number_10 rfl rfl (by decide) rfl cl_X10_117 hy_X10_blanks (by omega) (by decide) (by decide) (Nat.le_of_ble_eq_true rfl) rfl (con_mono h ?_ (fun _ _ h => h))
    rintro _ w2 ⟨rfl, h⟩
    show Z M G 0 K X w2 13 [some (.ref (G.2.1 40 0)), some (.int p0), some (.int p1), none, none] []
    refine z_aload_n F dX10_number_13 rfl ?_
    refine z_getI F 4 rfl (by decide) (by decide) rfl lk_X10_104 dX10_number_14 ?_
    refine z_istore_n F dX10_number_17 (Nat.le_of_ble_eq_true rfl) ?_
    refine z_iconst F 0 dX10_number_18 (by decide) ?_
    refine z_istore F dX10_number_19 (Nat.le_of_ble_eq_true rfl) ?_
    refine z_aload_n F dX10_number_21 rfl ?_
    refine z_aload_n F dX10_number_22 rfl ?_
    refine z_getI F 4 rfl (by decide) (by decide) rfl lk_X10_104 dX10_number_23 ?_
    refine z_callV F (k' := 1) (mc' := 0) [.int (w2.1 40 0 4)] [] dX10_number_26 rfl rfl (by decide) rfl cl_X10_107 hy_X10_byteAt (by omega) (by decide) (by decide) (Nat.le_of_ble_eq_true rfl) rfl (con_mono h ?_ (fun _ _ h => h))
    rintro _ w4 ⟨v3, rfl, h⟩
    show Z M G 0 K X w4 29 [some (.ref (G.2.1 40 0)), some (.int p0), some (.int p1), some (.int (w2.1 40 0 4)), some (.int 0)] [.int v3]
    refine z_callS F (k' := 1) (mc' := 0) [.int v3] [] dX10_number_29 rfl cl_X10_120 hy_X10_isDigit.2 (by omega) (by decide) (by decide) (Nat.le_of_ble_eq_true rfl) rfl (con_mono h ?_ (fun _ _ h => h))
    rintro _ w6 ⟨v5, rfl, h⟩
    show Z M G 0 K X w6 32 [some (.ref (G.2.1 40 0)), some (.int p0), some (.int p1), some (.int (w2.1 40 0 4)), some (.int 0)] [.int v5]
    refine z_if_ne F 44 dX10_number_32 (by decide) ⟨fun hc => ?_, fun hc => ?_⟩
    · have h := h.1 hc
      exact h
    · have h := h.2 hc
      refine z_aload_n F dX10_number_35 rfl ?_
      refine z_iconst F 1 dX10_number_36 (by decide) ?_
      refine z_aload_n F dX10_number_37 rfl ?_
      refine z_getI F 4 rfl (by decide) (by decide) rfl lk_X10_104 dX10_number_38 ?_
      refine z_callV F (k' := 1) (mc' := 0) [.int 1, .int (w6.1 40 0 4)] [] dX10_number_41 rfl rfl (by decide) rfl cl_X10_124 hy_X10_wrong (by omega) (by decide) (by decide) (Nat.le_of_ble_eq_true rfl) rfl (con_mono h ?_ (fun _ _ h => h))
      rintro _ w8 ⟨rfl, h⟩
      show Z M G 0 K X w8 44 [some (.ref (G.2.1 40 0)), some (.int p0), some (.int p1), some (.int (w2.1 40 0 4)), some (.int 0)] []
      exact h
  · have h := h.2 hc
    refine z_iconst F 0 dX10_number_7 (by decide) ?_
    exact z_iret F dX10_number_8 (by decide) h
set_option maxRecDepth 20000 in
theorem b_X10_number_44 {M : Mx} {G : Gx} {kk : Nat} {w : Wd}  {x1 : Int32} {x2 : Int32} {x3 : Int32} {x4 : Int32} {K : Option Value → Wd → Prop} {X : String → Wd → Prop} (F : Fx M G RX10 cX10_number 5 (some .int) kk 0) (hk : 3 ≤ kk)
    (h : Con (mL M) G 1 0 yX10_byteAt cX10_byteAt 2 (some .int) w [.ref (G.2.1 40 0), .int (w.1 40 0 4)] (fun r w2 => ∃ v1 : Int32, r = some (.int v1) ∧ Con (mL M) G 1 0 yX10_isDigit cX10_isDigit 1 (some .boolean) w2 [.int v1] (fun r w4 => ∃ v3 : Int32, r = some (.int v3) ∧ ((v3 = 0 → Con (mL M) G 1 0 yX10_in cX10_in 3 (some .boolean) w4 [.int x4, .int x1, .int x2] (fun r w6 => ∃ v5 : Int32, r = some (.int v5) ∧ ((¬ v5 = 0 → Z M G 0 K X w6 122 [some (.ref (G.2.1 40 0)), none, none, none, some (.int x4)] []) ∧ (¬ (¬ v5 = 0) → Con (mL M) G 1 0 yX10_wrong cX10_wrong 3 none w6 [.ref (G.2.1 40 0), .int 2, .int x3] (fun r w8 => r = none ∧ Z M G 0 K X w8 122 [some (.ref (G.2.1 40 0)), none, none, none, some (.int x4)] []) X))) X) ∧ (¬ (v3 = 0) → Con (mL M) G 1 0 yX10_byteAt cX10_byteAt 2 (some .int) w4 [.ref (G.2.1 40 0), .int (w4.1 40 0 4)] (fun r w10 => ∃ v9 : Int32, r = some (.int v9) ∧ ((((((10 : Int32) * x4) + v9) - (48 : Int32)) ≤ 100000 → (∀ w11 : Wd, w11 = setI w10 40 0 4 ((w10.1 40 0 4) + (1 : Int32)) → Z M G 0 K X w11 44 [some (.ref (G.2.1 40 0)), some (.int x1), some (.int x2), some (.int x3), some (.int ((((10 : Int32) * x4) + v9) - (48 : Int32)))] [])) ∧ (¬ (((((10 : Int32) * x4) + v9) - (48 : Int32)) ≤ 100000) → (∀ w12 : Wd, w12 = setI w10 40 0 4 ((w10.1 40 0 4) + (1 : Int32)) → Z M G 0 K X w12 44 [some (.ref (G.2.1 40 0)), some (.int x1), some (.int x2), some (.int x3), some (.int 100000)] [])))) X))) X) X) :
    Z M G 0 K X w 44 [some (.ref (G.2.1 40 0)), some (.int x1), some (.int x2), some (.int x3), some (.int x4)] [] := by
  refine z_aload_n F dX10_number_44 rfl ?_
  refine z_aload_n F dX10_number_45 rfl ?_
  refine z_getI F 4 rfl (by decide) (by decide) rfl lk_X10_104 dX10_number_46 ?_
  refine z_callV F (k' := 1) (mc' := 0) [.int (w.1 40 0 4)] [] dX10_number_49 rfl rfl (by decide) rfl cl_X10_107 hy_X10_byteAt (by omega) (by decide) (by decide) (Nat.le_of_ble_eq_true rfl) rfl (con_mono h ?_ (fun _ _ h => h))
  rintro _ w2 ⟨v1, rfl, h⟩
  show Z M G 0 K X w2 52 [some (.ref (G.2.1 40 0)), some (.int x1), some (.int x2), some (.int x3), some (.int x4)] [.int v1]
  refine z_callS F (k' := 1) (mc' := 0) [.int v1] [] dX10_number_52 rfl cl_X10_120 hy_X10_isDigit.2 (by omega) (by decide) (by decide) (Nat.le_of_ble_eq_true rfl) rfl (con_mono h ?_ (fun _ _ h => h))
  rintro _ w4 ⟨v3, rfl, h⟩
  show Z M G 0 K X w4 55 [some (.ref (G.2.1 40 0)), some (.int x1), some (.int x2), some (.int x3), some (.int x4)] [.int v3]
  refine z_if_eq F 106 dX10_number_55 (by decide) ⟨fun hc => ?_, fun hc => ?_⟩
  · have h := h.1 hc
    refine z_iload F dX10_number_106 rfl ?_
    refine z_iload_n F dX10_number_108 rfl ?_
    refine z_iload_n F dX10_number_109 rfl ?_
    refine z_callS F (k' := 1) (mc' := 0) [.int x4, .int x1, .int x2] [] dX10_number_110 rfl cl_X10_129 hy_X10_in.2 (by omega) (by decide) (by decide) (Nat.le_of_ble_eq_true rfl) rfl (con_mono h ?_ (fun _ _ h => h))
    rintro _ w6 ⟨v5, rfl, h⟩
    show Z M G 0 K X w6 113 [some (.ref (G.2.1 40 0)), some (.int x1), some (.int x2), some (.int x3), some (.int x4)] [.int v5]
    refine z_if_ne F 122 dX10_number_113 (by decide) ⟨fun hc => ?_, fun hc => ?_⟩
    · have h := h.1 hc
      exact z_weak h (⟨rfl, ⟨rfl, trivial⟩⟩)
    · have h := h.2 hc
      refine z_aload_n F dX10_number_116 rfl ?_
      refine z_iconst F 2 dX10_number_117 (by decide) ?_
      refine z_iload_n F dX10_number_118 rfl ?_
      refine z_callV F (k' := 1) (mc' := 0) [.int 2, .int x3] [] dX10_number_119 rfl rfl (by decide) rfl cl_X10_124 hy_X10_wrong (by omega) (by decide) (by decide) (Nat.le_of_ble_eq_true rfl) rfl (con_mono h ?_ (fun _ _ h => h))
      rintro _ w8 ⟨rfl, h⟩
      show Z M G 0 K X w8 122 [some (.ref (G.2.1 40 0)), some (.int x1), some (.int x2), some (.int x3), some (.int x4)] []
      exact z_weak h (⟨rfl, ⟨rfl, trivial⟩⟩)
  · have h := h.2 hc
    refine z_bipush F 10 dX10_number_58 (by decide) ?_
    refine z_iload F dX10_number_60 rfl ?_
    refine z_imul F dX10_number_62 ?_
    refine z_aload_n F dX10_number_63 rfl ?_
    refine z_aload_n F dX10_number_64 rfl ?_
    refine z_getI F 4 rfl (by decide) (by decide) rfl lk_X10_104 dX10_number_65 ?_
    refine z_callV F (k' := 1) (mc' := 0) [.int (w4.1 40 0 4)] [.int ((10 : Int32) * x4)] dX10_number_68 rfl rfl (by decide) rfl cl_X10_107 hy_X10_byteAt (by omega) (by decide) (by decide) (Nat.le_of_ble_eq_true rfl) rfl (con_mono h ?_ (fun _ _ h => h))
    rintro _ w10 ⟨v9, rfl, h⟩
    show Z M G 0 K X w10 71 [some (.ref (G.2.1 40 0)), some (.int x1), some (.int x2), some (.int x3), some (.int x4)] [.int v9, .int ((10 : Int32) * x4)]
    refine z_iadd F dX10_number_71 ?_
    refine z_bipush F 48 dX10_number_72 (by decide) ?_
    refine z_isub F dX10_number_74 ?_
    refine z_istore F dX10_number_75 (Nat.le_of_ble_eq_true rfl) ?_
    refine z_iload F dX10_number_77 rfl ?_
    refine z_ldc F 100000 dX10_number_79 (GW_6 221 rfl rfl) ?_
    refine z_icmp_le F 89 dX10_number_81 (by decide) ⟨fun hc => ?_, fun hc => ?_⟩
    · have h := h.1 hc
      refine z_iload F dX10_number_89 rfl ?_
      refine z_istore F dX10_number_91 (Nat.le_of_ble_eq_true rfl) ?_
      refine z_aload_n F dX10_number_93 rfl ?_
      refine z_dup F dX10_number_94 rfl ?_
      refine z_getI F 4 rfl (by decide) (by decide) rfl lk_X10_104 dX10_number_95 ?_
      refine z_iconst F 1 dX10_number_98 (by decide) ?_
      refine z_iadd F dX10_number_99 ?_
      refine z_putIW F 4 rfl (by decide) (by decide) rfl lk_X10_104 dX10_number_100 (fun w11 hw11 => ?_)
      have h := h w11 hw11
      refine z_goto F 44 dX10_number_103 (by decide) ?_
      exact h
    · have h := h.2 hc
      refine z_ldc F 100000 dX10_number_84 (GW_6 221 rfl rfl) ?_
      refine z_goto F 91 dX10_number_86 (by decide) ?_
      refine z_istore F dX10_number_91 (Nat.le_of_ble_eq_true rfl) ?_
      refine z_aload_n F dX10_number_93 rfl ?_
      refine z_dup F dX10_number_94 rfl ?_
      refine z_getI F 4 rfl (by decide) (by decide) rfl lk_X10_104 dX10_number_95 ?_
      refine z_iconst F 1 dX10_number_98 (by decide) ?_
      refine z_iadd F dX10_number_99 ?_
      refine z_putIW F 4 rfl (by decide) (by decide) rfl lk_X10_104 dX10_number_100 (fun w12 hw12 => ?_)
      have h := h w12 hw12
      refine z_goto F 44 dX10_number_103 (by decide) ?_
      exact h
set_option maxRecDepth 20000 in
theorem b_X10_number_122 {M : Mx} {G : Gx} {kk : Nat} {w : Wd}  {x4 : Int32} {K : Option Value → Wd → Prop} {X : String → Wd → Prop} (F : Fx M G RX10 cX10_number 5 (some .int) kk 0) (hk : 3 ≤ kk)
    (h : ((¬ (w.1 40 0 5) = 0 → K (some (.int 0)) w) ∧ (¬ (¬ (w.1 40 0 5) = 0) → K (some (.int x4)) w))) :
    Z M G 0 K X w 122 [some (.ref (G.2.1 40 0)), none, none, none, some (.int x4)] [] := by
  refine z_aload_n F dX10_number_122 rfl ?_
  refine z_getI F 5 rfl (by decide) (by decide) rfl lk_X10_111 dX10_number_123 ?_
  refine z_if_ne F 134 dX10_number_126 (by decide) ⟨fun hc => ?_, fun hc => ?_⟩
  · have h := h.1 hc
    refine z_iconst F 0 dX10_number_134 (by decide) ?_
    exact z_iret F dX10_number_135 (by decide) h
  · have h := h.2 hc
    refine z_iload F dX10_number_129 rfl ?_
    refine z_goto F 135 dX10_number_131 (by decide) ?_
    exact z_iret F dX10_number_135 (by decide) h
set_option maxRecDepth 20000 in
theorem e_X10_wordHere {l : Launch} {G : Gx} {w : Wd}  {K : Option Value → Wd → Prop} {X : String → Wd → Prop} (hl : l.stackTraces = false)
    (h : ∀ (M : Mx) (kk : Nat), mL M = l → 3 ≤ kk → Fx M G RX10 cX10_wordHere 3 (some .int) kk 0 → Con (mL M) G 2 0 yX10_blanks cX10_blanks 1 none w [.ref (G.2.1 40 0)] (fun r w2 => r = none ∧ Z M G 0 K X w2 8 [some (.ref (G.2.1 40 0)), some (.int 0), some (.int 0)] []) X) :
    Con l G 3 0 yX10_wordHere cX10_wordHere 3 (some .int) w [.ref (G.2.1 40 0)] K X := by
  refine con_intro hl (by decide +kernel) (Nat.le_of_ble_eq_true rfl) (Nat.le_of_ble_eq_true rfl) (fun M kk hM hk F => ?_)
  have h := h M kk hM hk F
  show Z M G 0 K X w 0 [some (.ref (G.2.1 40 0)), none, none] []
  refine z_aload_n F dX10_wordHere_0 rfl ?_
  refine z_callV F (k' := 2) (mc' := 0) [] [] dX10_wordHere_1 rfl rfl (by decide) rfl cl_X10_117 hy_X10_blanks (by omega) (by decide) (by decide) (Nat.le_of_ble_eq_true rfl) rfl (con_mono h ?_ (fun _ _ h => h))
  rintro _ w2 ⟨rfl, h⟩
  show Z M G 0 K X w2 4 [some (.ref (G.2.1 40 0)), none, none] []
  refine z_iconst F 0 dX10_wordHere_4 (by decide) ?_
  refine z_istore_n F dX10_wordHere_5 (Nat.le_of_ble_eq_true rfl) ?_
  refine z_iconst F 0 dX10_wordHere_6 (by decide) ?_
  refine z_istore_n F dX10_wordHere_7 (Nat.le_of_ble_eq_true rfl) ?_
  exact h
set_option maxRecDepth 20000 in
theorem b_X10_wordHere_8 {M : Mx} {G : Gx} {kk : Nat} {w : Wd}  {x1 : Int32} {x2 : Int32} {K : Option Value → Wd → Prop} {X : String → Wd → Prop} (F : Fx M G RX10 cX10_wordHere 3 (some .int) kk 0) (hk : 3 ≤ kk)
    (h : Con (mL M) G 1 0 yX10_byteAt cX10_byteAt 2 (some .int) w [.ref (G.2.1 40 0), .int ((w.1 40 0 4) + x2)] (fun r w2 => ∃ v1 : Int32, r = some (.int v1) ∧ Con (mL M) G 1 0 yX10_isSmall cX10_isSmall 1 (some .boolean) w2 [.int v1] (fun r w4 => ∃ v3 : Int32, r = some (.int v3) ∧ ((v3 = 0 → ((x2 ≤ 6 → K (some (.int x1)) w4) ∧ (¬ (x2 ≤ 6) → K (some (.int (-1))) w4))) ∧ (¬ (v3 = 0) → ((6 ≤ x2 → Z M G 0 K X w4 8 [some (.ref (G.2.1 40 0)), some (.int x1), some (.int (x2 + 1))] []) ∧ (¬ (6 ≤ x2) → Con (mL M) G 1 0 yX10_byteAt cX10_byteAt 2 (some .int) w4 [.ref (G.2.1 40 0), .int ((w4.1 40 0 4) + x2)] (fun r w6 => ∃ v5 : Int32, r = some (.int v5) ∧ Z M G 0 K X w6 8 [some (.ref (G.2.1 40 0)), some (.int (((((27 : Int32) * x1) + v5) - (97 : Int32)) + (1 : Int32))), some (.int (x2 + 1))] []) X))))) X) X) :
    Z M G 0 K X w 8 [some (.ref (G.2.1 40 0)), some (.int x1), some (.int x2)] [] := by
  refine z_aload_n F dX10_wordHere_8 rfl ?_
  refine z_aload_n F dX10_wordHere_9 rfl ?_
  refine z_getI F 4 rfl (by decide) (by decide) rfl lk_X10_104 dX10_wordHere_10 ?_
  refine z_iload_n F dX10_wordHere_13 rfl ?_
  refine z_iadd F dX10_wordHere_14 ?_
  refine z_callV F (k' := 1) (mc' := 0) [.int ((w.1 40 0 4) + x2)] [] dX10_wordHere_15 rfl rfl (by decide) rfl cl_X10_107 hy_X10_byteAt (by omega) (by decide) (by decide) (Nat.le_of_ble_eq_true rfl) rfl (con_mono h ?_ (fun _ _ h => h))
  rintro _ w2 ⟨v1, rfl, h⟩
  show Z M G 0 K X w2 18 [some (.ref (G.2.1 40 0)), some (.int x1), some (.int x2)] [.int v1]
  refine z_callS F (k' := 1) (mc' := 0) [.int v1] [] dX10_wordHere_18 rfl cl_X10_133 hy_X10_isSmall.2 (by omega) (by decide) (by decide) (Nat.le_of_ble_eq_true rfl) rfl (con_mono h ?_ (fun _ _ h => h))
  rintro _ w4 ⟨v3, rfl, h⟩
  show Z M G 0 K X w4 21 [some (.ref (G.2.1 40 0)), some (.int x1), some (.int x2)] [.int v3]
  refine z_if_eq F 61 dX10_wordHere_21 (by decide) ⟨fun hc => ?_, fun hc => ?_⟩
  · have h := h.1 hc
    refine z_iload_n F dX10_wordHere_61 rfl ?_
    refine z_bipush F 6 dX10_wordHere_62 (by decide) ?_
    refine z_icmp_le F 71 dX10_wordHere_64 (by decide) ⟨fun hc => ?_, fun hc => ?_⟩
    · have h := h.1 hc
      refine z_iload_n F dX10_wordHere_71 rfl ?_
      exact z_iret F dX10_wordHere_72 (by decide) h
    · have h := h.2 hc
      refine z_iconst F (-1) dX10_wordHere_67 (by decide) ?_
      refine z_goto F 72 dX10_wordHere_68 (by decide) ?_
      exact z_iret F dX10_wordHere_72 (by decide) h
  · have h := h.2 hc
    refine z_iload_n F dX10_wordHere_24 rfl ?_
    refine z_bipush F 6 dX10_wordHere_25 (by decide) ?_
    refine z_icmp_ge F 53 dX10_wordHere_27 (by decide) ⟨fun hc => ?_, fun hc => ?_⟩
    · have h := h.1 hc
      refine z_iload_n F dX10_wordHere_53 rfl ?_
      refine z_istore_n F dX10_wordHere_54 (Nat.le_of_ble_eq_true rfl) ?_
      refine z_iinc F (x2 + 1) dX10_wordHere_55 rfl rfl (Nat.le_of_ble_eq_true rfl) ?_
      refine z_goto F 8 dX10_wordHere_58 (by decide) ?_
      exact h
    · have h := h.2 hc
      refine z_bipush F 27 dX10_wordHere_30 (by decide) ?_
      refine z_iload_n F dX10_wordHere_32 rfl ?_
      refine z_imul F dX10_wordHere_33 ?_
      refine z_aload_n F dX10_wordHere_34 rfl ?_
      refine z_aload_n F dX10_wordHere_35 rfl ?_
      refine z_getI F 4 rfl (by decide) (by decide) rfl lk_X10_104 dX10_wordHere_36 ?_
      refine z_iload_n F dX10_wordHere_39 rfl ?_
      refine z_iadd F dX10_wordHere_40 ?_
      refine z_callV F (k' := 1) (mc' := 0) [.int ((w4.1 40 0 4) + x2)] [.int ((27 : Int32) * x1)] dX10_wordHere_41 rfl rfl (by decide) rfl cl_X10_107 hy_X10_byteAt (by omega) (by decide) (by decide) (Nat.le_of_ble_eq_true rfl) rfl (con_mono h ?_ (fun _ _ h => h))
      rintro _ w6 ⟨v5, rfl, h⟩
      show Z M G 0 K X w6 44 [some (.ref (G.2.1 40 0)), some (.int x1), some (.int x2)] [.int v5, .int ((27 : Int32) * x1)]
      refine z_iadd F dX10_wordHere_44 ?_
      refine z_bipush F 97 dX10_wordHere_45 (by decide) ?_
      refine z_isub F dX10_wordHere_47 ?_
      refine z_iconst F 1 dX10_wordHere_48 (by decide) ?_
      refine z_iadd F dX10_wordHere_49 ?_
      refine z_goto F 54 dX10_wordHere_50 (by decide) ?_
      refine z_istore_n F dX10_wordHere_54 (Nat.le_of_ble_eq_true rfl) ?_
      refine z_iinc F (x2 + 1) dX10_wordHere_55 rfl rfl (Nat.le_of_ble_eq_true rfl) ?_
      refine z_goto F 8 dX10_wordHere_58 (by decide) ?_
      exact h
set_option maxRecDepth 20000 in
theorem e_X10_six {l : Launch} {G : Gx} {w : Wd} {p0 : Int32} {p1 : Int32} {p2 : Int32} {p3 : Int32} {p4 : Int32} {p5 : Int32} {K : Option Value → Wd → Prop} {X : String → Wd → Prop} (hl : l.stackTraces = false)
    (h : ∀ (M : Mx) (kk : Nat), mL M = l → 1 ≤ kk → Fx M G RX10 cX10_six 7 (some .int) kk 0 → ((¬ p3 = 0 → Z M G 0 K X w 29 [none, none, none, none, some (.int p4), some (.int p5), none] [.int (((27 : Int32) * (((27 : Int32) * (((27 : Int32) * p0) + p1)) + p2)) + p3)]) ∧ (¬ (¬ p3 = 0) → Z M G 0 K X w 29 [none, none, none, none, some (.int p4), some (.int p5), none] [.int (((27 : Int32) * (((27 : Int32) * p0) + p1)) + p2)]))) :
    Con l G 1 0 yX10_six cX10_six 7 (some .int) w [.int p0, .int p1, .int p2, .int p3, .int p4, .int p5] K X := by
  refine con_intro hl (by decide +kernel) (Nat.le_of_ble_eq_true rfl) (Nat.le_of_ble_eq_true rfl) (fun M kk hM hk F => ?_)
  have h := h M kk hM hk F
  show Z M G 0 K X w 0 [some (.int p0), some (.int p1), some (.int p2), some (.int p3), some (.int p4), some (.int p5), none] []
  refine z_bipush F 27 dX10_six_0 (by decide) ?_
  refine z_bipush F 27 dX10_six_2 (by decide) ?_
  refine z_iload_n F dX10_six_4 rfl ?_
  refine z_imul F dX10_six_5 ?_
  refine z_iload_n F dX10_six_6 rfl ?_
  refine z_iadd F dX10_six_7 ?_
  refine z_imul F dX10_six_8 ?_
  refine z_iload_n F dX10_six_9 rfl ?_
  refine z_iadd F dX10_six_10 ?_
  refine z_istore F dX10_six_11 (Nat.le_of_ble_eq_true rfl) ?_
  refine z_iload_n F dX10_six_13 rfl ?_
  refine z_if_ne F 22 dX10_six_14 (by decide) ⟨fun hc => ?_, fun hc => ?_⟩
  · have h := h.1 hc
    refine z_bipush F 27 dX10_six_22 (by decide) ?_
    refine z_iload F dX10_six_24 rfl ?_
    refine z_imul F dX10_six_26 ?_
    refine z_iload_n F dX10_six_27 rfl ?_
    refine z_iadd F dX10_six_28 ?_
    exact z_weak h (⟨rfl, ⟨rfl, trivial⟩⟩)
  · have h := h.2 hc
    refine z_iload F dX10_six_17 rfl ?_
    refine z_goto F 29 dX10_six_19 (by decide) ?_
    exact z_weak h (⟨rfl, ⟨rfl, trivial⟩⟩)
set_option maxRecDepth 20000 in
theorem b_X10_six_29 {M : Mx} {G : Gx} {kk : Nat} {w : Wd}  {x4 : Int32} {x5 : Int32} {s0 : Int32} {K : Option Value → Wd → Prop} {X : String → Wd → Prop} (F : Fx M G RX10 cX10_six 7 (some .int) kk 0) (hk : 1 ≤ kk)
    (h : ((¬ x4 = 0 → Z M G 0 K X w 49 [none, none, none, none, none, some (.int x5), none] [.int (((27 : Int32) * s0) + x4)]) ∧ (¬ (¬ x4 = 0) → Z M G 0 K X w 49 [none, none, none, none, none, some (.int x5), none] [.int s0]))) :
    Z M G 0 K X w 29 [none, none, none, none, some (.int x4), some (.int x5), none] [.int s0] := by
  refine z_istore F dX10_six_29 (Nat.le_of_ble_eq_true rfl) ?_
  refine z_iload F dX10_six_31 rfl ?_
  refine z_if_ne F 41 dX10_six_33 (by decide) ⟨fun hc => ?_, fun hc => ?_⟩
  · have h := h.1 hc
    refine z_bipush F 27 dX10_six_41 (by decide) ?_
    refine z_iload F dX10_six_43 rfl ?_
    refine z_imul F dX10_six_45 ?_
    refine z_iload F dX10_six_46 rfl ?_
    refine z_iadd F dX10_six_48 ?_
    exact z_weak h (⟨rfl, trivial⟩)
  · have h := h.2 hc
    refine z_iload F dX10_six_36 rfl ?_
    refine z_goto F 49 dX10_six_38 (by decide) ?_
    exact z_weak h (⟨rfl, trivial⟩)
set_option maxRecDepth 20000 in
theorem b_X10_six_49 {M : Mx} {G : Gx} {kk : Nat} {w : Wd}  {x5 : Int32} {s0 : Int32} {K : Option Value → Wd → Prop} {X : String → Wd → Prop} (F : Fx M G RX10 cX10_six 7 (some .int) kk 0) (hk : 1 ≤ kk)
    (h : ((¬ x5 = 0 → K (some (.int (((27 : Int32) * s0) + x5))) w) ∧ (¬ (¬ x5 = 0) → K (some (.int s0)) w))) :
    Z M G 0 K X w 49 [none, none, none, none, none, some (.int x5), none] [.int s0] := by
  refine z_istore F dX10_six_49 (Nat.le_of_ble_eq_true rfl) ?_
  refine z_iload F dX10_six_51 rfl ?_
  refine z_if_ne F 61 dX10_six_53 (by decide) ⟨fun hc => ?_, fun hc => ?_⟩
  · have h := h.1 hc
    refine z_bipush F 27 dX10_six_61 (by decide) ?_
    refine z_iload F dX10_six_63 rfl ?_
    refine z_imul F dX10_six_65 ?_
    refine z_iload F dX10_six_66 rfl ?_
    refine z_iadd F dX10_six_68 ?_
    exact z_iret F dX10_six_69 (by decide) h
  · have h := h.2 hc
    refine z_iload F dX10_six_56 rfl ?_
    refine z_goto F 69 dX10_six_58 (by decide) ?_
    exact z_iret F dX10_six_69 (by decide) h
set_option maxRecDepth 20000 in
theorem e_X10_isWord {l : Launch} {G : Gx} {w : Wd} {p0 : Int32} {p1 : Int32} {p2 : Int32} {p3 : Int32} {p4 : Int32} {p5 : Int32} {K : Option Value → Wd → Prop} {X : String → Wd → Prop} (hl : l.stackTraces = false)
    (h : ∀ (M : Mx) (kk : Nat), mL M = l → 4 ≤ kk → Fx M G RX10 cX10_isWord 7 (some .boolean) kk 0 → ((¬ (w.1 40 0 5) = 0 → K (some (.int 0)) w) ∧ (¬ (¬ (w.1 40 0 5) = 0) → Con (mL M) G 3 0 yX10_wordHere cX10_wordHere 3 (some .int) w [.ref (G.2.1 40 0)] (fun r w2 => ∃ v1 : Int32, r = some (.int v1) ∧ Con (mL M) G 1 0 yX10_six cX10_six 7 (some .int) w2 [.int p0, .int p1, .int p2, .int p3, .int p4, .int p5] (fun r w4 => ∃ v3 : Int32, r = some (.int v3) ∧ ((¬ v1 = v3 → K (some (.int 0)) w4) ∧ (¬ (¬ v1 = v3) → K (some (.int 1)) w4))) X) X))) :
    Con l G 4 0 yX10_isWord cX10_isWord 7 (some .boolean) w [.ref (G.2.1 40 0), .int p0, .int p1, .int p2, .int p3, .int p4, .int p5] K X := by
  refine con_intro hl (by decide +kernel) (Nat.le_of_ble_eq_true rfl) (Nat.le_of_ble_eq_true rfl) (fun M kk hM hk F => ?_)
  have h := h M kk hM hk F
  show Z M G 0 K X w 0 [some (.ref (G.2.1 40 0)), some (.int p0), some (.int p1), some (.int p2), some (.int p3), some (.int p4), some (.int p5)] []
  refine z_aload_n F dX10_isWord_0 rfl ?_
  refine z_getI F 5 rfl (by decide) (by decide) rfl lk_X10_111 dX10_isWord_1 ?_
  refine z_if_ne F 30 dX10_isWord_4 (by decide) ⟨fun hc => ?_, fun hc => ?_⟩
  · have h := h.1 hc
    refine z_iconst F 0 dX10_isWord_30 (by decide) ?_
    exact z_zret F dX10_isWord_31 (by decide) rfl h
  · have h := h.2 hc
    refine z_aload_n F dX10_isWord_7 rfl ?_
    refine z_callV F (k' := 3) (mc' := 0) [] [] dX10_isWord_8 rfl rfl (by decide) rfl cl_X10_136 hy_X10_wordHere (by omega) (by decide) (by decide) (Nat.le_of_ble_eq_true rfl) rfl (con_mono h ?_ (fun _ _ h => h))
    rintro _ w2 ⟨v1, rfl, h⟩
    show Z M G 0 K X w2 11 [some (.ref (G.2.1 40 0)), some (.int p0), some (.int p1), some (.int p2), some (.int p3), some (.int p4), some (.int p5)] [.int v1]
    refine z_iload_n F dX10_isWord_11 rfl ?_
    refine z_iload_n F dX10_isWord_12 rfl ?_
    refine z_iload_n F dX10_isWord_13 rfl ?_
    refine z_iload F dX10_isWord_14 rfl ?_
    refine z_iload F dX10_isWord_16 rfl ?_
    refine z_iload F dX10_isWord_18 rfl ?_
    refine z_callS F (k' := 1) (mc' := 0) [.int p0, .int p1, .int p2, .int p3, .int p4, .int p5] [.int v1] dX10_isWord_20 rfl cl_X10_140 hy_X10_six.2 (by omega) (by decide) (by decide) (Nat.le_of_ble_eq_true rfl) rfl (con_mono h ?_ (fun _ _ h => h))
    rintro _ w4 ⟨v3, rfl, h⟩
    show Z M G 0 K X w4 23 [some (.ref (G.2.1 40 0)), some (.int p0), some (.int p1), some (.int p2), some (.int p3), some (.int p4), some (.int p5)] [.int v3, .int v1]
    refine z_icmp_ne F 30 dX10_isWord_23 (by decide) ⟨fun hc => ?_, fun hc => ?_⟩
    · have h := h.1 hc
      refine z_iconst F 0 dX10_isWord_30 (by decide) ?_
      exact z_zret F dX10_isWord_31 (by decide) rfl h
    · have h := h.2 hc
      refine z_iconst F 1 dX10_isWord_26 (by decide) ?_
      refine z_goto F 31 dX10_isWord_27 (by decide) ?_
      exact z_zret F dX10_isWord_31 (by decide) rfl h
set_option maxRecDepth 20000 in
theorem e_X10_skipWord {l : Launch} {G : Gx} {w : Wd}  {K : Option Value → Wd → Prop} {X : String → Wd → Prop} (hl : l.stackTraces = false)
    (h : ∀ (M : Mx) (kk : Nat), mL M = l → 2 ≤ kk → Fx M G RX10 cX10_skipWord 1 none kk 0 → Z M G 0 K X w 0 [some (.ref (G.2.1 40 0))] []) :
    Con l G 2 0 yX10_skipWord cX10_skipWord 1 none w [.ref (G.2.1 40 0)] K X := by
  refine con_intro hl (by decide +kernel) (Nat.le_of_ble_eq_true rfl) (Nat.le_of_ble_eq_true rfl) (fun M kk hM hk F => ?_)
  have h := h M kk hM hk F
  show Z M G 0 K X w 0 [some (.ref (G.2.1 40 0))] []
  exact h
set_option maxRecDepth 20000 in
theorem b_X10_skipWord_0 {M : Mx} {G : Gx} {kk : Nat} {w : Wd}   {K : Option Value → Wd → Prop} {X : String → Wd → Prop} (F : Fx M G RX10 cX10_skipWord 1 none kk 0) (hk : 2 ≤ kk)
    (h : Con (mL M) G 1 0 yX10_byteAt cX10_byteAt 2 (some .int) w [.ref (G.2.1 40 0), .int (w.1 40 0 4)] (fun r w2 => ∃ v1 : Int32, r = some (.int v1) ∧ Con (mL M) G 1 0 yX10_isSmall cX10_isSmall 1 (some .boolean) w2 [.int v1] (fun r w4 => ∃ v3 : Int32, r = some (.int v3) ∧ ((v3 = 0 → K none w4) ∧ (¬ (v3 = 0) → (∀ w5 : Wd, w5 = setI w4 40 0 4 ((w4.1 40 0 4) + (1 : Int32)) → Z M G 0 K X w5 0 [some (.ref (G.2.1 40 0))] [])))) X) X) :
    Z M G 0 K X w 0 [some (.ref (G.2.1 40 0))] [] := by
  refine z_aload_n F dX10_skipWord_0 rfl ?_
  refine z_aload_n F dX10_skipWord_1 rfl ?_
  refine z_getI F 4 rfl (by decide) (by decide) rfl lk_X10_104 dX10_skipWord_2 ?_
  refine z_callV F (k' := 1) (mc' := 0) [.int (w.1 40 0 4)] [] dX10_skipWord_5 rfl rfl (by decide) rfl cl_X10_107 hy_X10_byteAt (by omega) (by decide) (by decide) (Nat.le_of_ble_eq_true rfl) rfl (con_mono h ?_ (fun _ _ h => h))
  rintro _ w2 ⟨v1, rfl, h⟩
  show Z M G 0 K X w2 8 [some (.ref (G.2.1 40 0))] [.int v1]
  refine z_callS F (k' := 1) (mc' := 0) [.int v1] [] dX10_skipWord_8 rfl cl_X10_133 hy_X10_isSmall.2 (by omega) (by decide) (by decide) (Nat.le_of_ble_eq_true rfl) rfl (con_mono h ?_ (fun _ _ h => h))
  rintro _ w4 ⟨v3, rfl, h⟩
  show Z M G 0 K X w4 11 [some (.ref (G.2.1 40 0))] [.int v3]
  refine z_if_eq F 27 dX10_skipWord_11 (by decide) ⟨fun hc => ?_, fun hc => ?_⟩
  · have h := h.1 hc
    exact z_vret F dX10_skipWord_27 (by decide) h
  · have h := h.2 hc
    refine z_aload_n F dX10_skipWord_14 rfl ?_
    refine z_dup F dX10_skipWord_15 rfl ?_
    refine z_getI F 4 rfl (by decide) (by decide) rfl lk_X10_104 dX10_skipWord_16 ?_
    refine z_iconst F 1 dX10_skipWord_19 (by decide) ?_
    refine z_iadd F dX10_skipWord_20 ?_
    refine z_putIW F 4 rfl (by decide) (by decide) rfl lk_X10_104 dX10_skipWord_21 (fun w5 hw5 => ?_)
    have h := h w5 hw5
    refine z_goto F 0 dX10_skipWord_24 (by decide) ?_
    exact h
set_option maxRecDepth 20000 in
theorem e_X10_isNext {l : Launch} {G : Gx} {w : Wd} {p0 : Int32} {p1 : Int32} {p2 : Int32} {p3 : Int32} {p4 : Int32} {p5 : Int32} {K : Option Value → Wd → Prop} {X : String → Wd → Prop} (hl : l.stackTraces = false)
    (h : ∀ (M : Mx) (kk : Nat), mL M = l → 5 ≤ kk → Fx M G RX10 cX10_isNext 8 (some .boolean) kk 0 → Con (mL M) G 4 0 yX10_isWord cX10_isWord 7 (some .boolean) w [.ref (G.2.1 40 0), .int p0, .int p1, .int p2, .int p3, .int p4, .int p5] (fun r w2 => ∃ v1 : Int32, r = some (.int v1) ∧ ((v1 = 0 → (narrow .boolean (.int v1) = .int v1 ∧ K (some (.int v1)) w2)) ∧ (¬ (v1 = 0) → Con (mL M) G 2 0 yX10_skipWord cX10_skipWord 1 none w2 [.ref (G.2.1 40 0)] (fun r w4 => r = none ∧ (narrow .boolean (.int v1) = .int v1 ∧ K (some (.int v1)) w4)) X))) X) :
    Con l G 5 0 yX10_isNext cX10_isNext 8 (some .boolean) w [.ref (G.2.1 40 0), .int p0, .int p1, .int p2, .int p3, .int p4, .int p5] K X := by
  refine con_intro hl (by decide +kernel) (Nat.le_of_ble_eq_true rfl) (Nat.le_of_ble_eq_true rfl) (fun M kk hM hk F => ?_)
  have h := h M kk hM hk F
  show Z M G 0 K X w 0 [some (.ref (G.2.1 40 0)), some (.int p0), some (.int p1), some (.int p2), some (.int p3), some (.int p4), some (.int p5), none] []
  refine z_aload_n F dX10_isNext_0 rfl ?_
  refine z_iload_n F dX10_isNext_1 rfl ?_
  refine z_iload_n F dX10_isNext_2 rfl ?_
  refine z_iload_n F dX10_isNext_3 rfl ?_
  refine z_iload F dX10_isNext_4 rfl ?_
  refine z_iload F dX10_isNext_6 rfl ?_
  refine z_iload F dX10_isNext_8 rfl ?_
  refine z_callV F (k' := 4) (mc' := 0) [.int p0, .int p1, .int p2, .int p3, .int p4, .int p5] [] dX10_isNext_10 rfl rfl (by decide) rfl cl_X10_144 hy_X10_isWord (by omega) (by decide) (by decide) (Nat.le_of_ble_eq_true rfl) rfl (con_mono h ?_ (fun _ _ h => h))
  rintro _ w2 ⟨v1, rfl, h⟩
  show Z M G 0 K X w2 13 [some (.ref (G.2.1 40 0)), some (.int p0), some (.int p1), some (.int p2), some (.int p3), some (.int p4), some (.int p5), none] [.int v1]
  refine z_istore F dX10_isNext_13 (Nat.le_of_ble_eq_true rfl) ?_
  refine z_iload F dX10_isNext_15 rfl ?_
  refine z_if_eq F 24 dX10_isNext_17 (by decide) ⟨fun hc => ?_, fun hc => ?_⟩
  · have h := h.1 hc
    refine z_iload F dX10_isNext_24 rfl ?_
    exact z_zret F dX10_isNext_26 (by decide) h.1 h.2
  · have h := h.2 hc
    refine z_aload_n F dX10_isNext_20 rfl ?_
    refine z_callV F (k' := 2) (mc' := 0) [] [] dX10_isNext_21 rfl rfl (by decide) rfl cl_X10_148 hy_X10_skipWord (by omega) (by decide) (by decide) (Nat.le_of_ble_eq_true rfl) rfl (con_mono h ?_ (fun _ _ h => h))
    rintro _ w4 ⟨rfl, h⟩
    show Z M G 0 K X w4 24 [some (.ref (G.2.1 40 0)), some (.int p0), some (.int p1), some (.int p2), some (.int p3), some (.int p4), some (.int p5), some (.int v1)] []
    refine z_iload F dX10_isNext_24 rfl ?_
    exact z_zret F dX10_isNext_26 (by decide) h.1 h.2
set_option maxRecDepth 20000 in
theorem e_X10_sign {l : Launch} {G : Gx} {w : Wd} {p0 : Int32} {K : Option Value → Wd → Prop} {X : String → Wd → Prop} (hl : l.stackTraces = false)
    (h : ∀ (M : Mx) (kk : Nat), mL M = l → 3 ≤ kk → Fx M G RX10 cX10_sign 2 none kk 0 → (((w.1 40 0 5) = 0 → Con (mL M) G 2 0 yX10_blanks cX10_blanks 1 none w [.ref (G.2.1 40 0)] (fun r w2 => r = none ∧ Con (mL M) G 1 0 yX10_byteAt cX10_byteAt 2 (some .int) w2 [.ref (G.2.1 40 0), .int (w2.1 40 0 4)] (fun r w4 => ∃ v3 : Int32, r = some (.int v3) ∧ ((¬ v3 = p0 → Con (mL M) G 1 0 yX10_wrong cX10_wrong 3 none w4 [.ref (G.2.1 40 0), .int 1, .int (w4.1 40 0 4)] (fun r w6 => r = none ∧ K none w6) X) ∧ (¬ (¬ v3 = p0) → (∀ w7 : Wd, w7 = setI w4 40 0 4 ((w4.1 40 0 4) + (1 : Int32)) → K none w7)))) X) X) ∧ (¬ ((w.1 40 0 5) = 0) → K none w))) :
    Con l G 3 0 yX10_sign cX10_sign 2 none w [.ref (G.2.1 40 0), .int p0] K X := by
  refine con_intro hl (by decide +kernel) (Nat.le_of_ble_eq_true rfl) (Nat.le_of_ble_eq_true rfl) (fun M kk hM hk F => ?_)
  have h := h M kk hM hk F
  show Z M G 0 K X w 0 [some (.ref (G.2.1 40 0)), some (.int p0)] []
  refine z_aload_n F dX10_sign_0 rfl ?_
  refine z_getI F 5 rfl (by decide) (by decide) rfl lk_X10_111 dX10_sign_1 ?_
  refine z_if_eq F 8 dX10_sign_4 (by decide) ⟨fun hc => ?_, fun hc => ?_⟩
  · have h := h.1 hc
    refine z_aload_n F dX10_sign_8 rfl ?_
    refine z_callV F (k' := 2) (mc' := 0) [] [] dX10_sign_9 rfl rfl (by decide) rfl cl_X10_117 hy_X10_blanks (by omega) (by decide) (by decide) (Nat.le_of_ble_eq_true rfl) rfl (con_mono h ?_ (fun _ _ h => h))
    rintro _ w2 ⟨rfl, h⟩
    show Z M G 0 K X w2 12 [some (.ref (G.2.1 40 0)), some (.int p0)] []
    refine z_aload_n F dX10_sign_12 rfl ?_
    refine z_aload_n F dX10_sign_13 rfl ?_
    refine z_getI F 4 rfl (by decide) (by decide) rfl lk_X10_104 dX10_sign_14 ?_
    refine z_callV F (k' := 1) (mc' := 0) [.int (w2.1 40 0 4)] [] dX10_sign_17 rfl rfl (by decide) rfl cl_X10_107 hy_X10_byteAt (by omega) (by decide) (by decide) (Nat.le_of_ble_eq_true rfl) rfl (con_mono h ?_ (fun _ _ h => h))
    rintro _ w4 ⟨v3, rfl, h⟩
    show Z M G 0 K X w4 20 [some (.ref (G.2.1 40 0)), some (.int p0)] [.int v3]
    refine z_iload_n F dX10_sign_20 rfl ?_
    refine z_icmp_ne F 37 dX10_sign_21 (by decide) ⟨fun hc => ?_, fun hc => ?_⟩
    · have h := h.1 hc
      refine z_aload_n F dX10_sign_37 rfl ?_
      refine z_iconst F 1 dX10_sign_38 (by decide) ?_
      refine z_aload_n F dX10_sign_39 rfl ?_
      refine z_getI F 4 rfl (by decide) (by decide) rfl lk_X10_104 dX10_sign_40 ?_
      refine z_callV F (k' := 1) (mc' := 0) [.int 1, .int (w4.1 40 0 4)] [] dX10_sign_43 rfl rfl (by decide) rfl cl_X10_124 hy_X10_wrong (by omega) (by decide) (by decide) (Nat.le_of_ble_eq_true rfl) rfl (con_mono h ?_ (fun _ _ h => h))
      rintro _ w6 ⟨rfl, h⟩
      show Z M G 0 K X w6 46 [some (.ref (G.2.1 40 0)), some (.int p0)] []
      exact z_vret F dX10_sign_46 (by decide) h
    · have h := h.2 hc
      refine z_aload_n F dX10_sign_24 rfl ?_
      refine z_dup F dX10_sign_25 rfl ?_
      refine z_getI F 4 rfl (by decide) (by decide) rfl lk_X10_104 dX10_sign_26 ?_
      refine z_iconst F 1 dX10_sign_29 (by decide) ?_
      refine z_iadd F dX10_sign_30 ?_
      refine z_putIW F 4 rfl (by decide) (by decide) rfl lk_X10_104 dX10_sign_31 (fun w7 hw7 => ?_)
      have h := h w7 hw7
      refine z_goto F 46 dX10_sign_34 (by decide) ?_
      exact z_vret F dX10_sign_46 (by decide) h
  · have h := h.2 hc
    exact z_vret F dX10_sign_7 (by decide) h
set_option maxRecDepth 20000 in
theorem e_X10_takesSign {l : Launch} {G : Gx} {w : Wd} {p0 : Int32} {K : Option Value → Wd → Prop} {X : String → Wd → Prop} (hl : l.stackTraces = false)
    (h : ∀ (M : Mx) (kk : Nat), mL M = l → 3 ≤ kk → Fx M G RX10 cX10_takesSign 3 (some .boolean) kk 0 → (((w.1 40 0 5) = 0 → Con (mL M) G 2 0 yX10_blanks cX10_blanks 1 none w [.ref (G.2.1 40 0)] (fun r w2 => r = none ∧ Con (mL M) G 1 0 yX10_byteAt cX10_byteAt 2 (some .int) w2 [.ref (G.2.1 40 0), .int (w2.1 40 0 4)] (fun r w4 => ∃ v3 : Int32, r = some (.int v3) ∧ ((¬ v3 = p0 → Z M G 0 K X w4 30 [some (.ref (G.2.1 40 0)), none, none] [.int 0]) ∧ (¬ (¬ v3 = p0) → Z M G 0 K X w4 30 [some (.ref (G.2.1 40 0)), none, none] [.int 1]))) X) X) ∧ (¬ ((w.1 40 0 5) = 0) → K (some (.int 0)) w))) :
    Con l G 3 0 yX10_takesSign cX10_takesSign 3 (some .boolean) w [.ref (G.2.1 40 0), .int p0] K X := by
  refine con_intro hl (by decide +kernel) (Nat.le_of_ble_eq_true rfl) (Nat.le_of_ble_eq_true rfl) (fun M kk hM hk F => ?_)
  have h := h M kk hM hk F
  show Z M G 0 K X w 0 [some (.ref (G.2.1 40 0)), some (.int p0), none] []
  refine z_aload_n F dX10_takesSign_0 rfl ?_
  refine z_getI F 5 rfl (by decide) (by decide) rfl lk_X10_111 dX10_takesSign_1 ?_
  refine z_if_eq F 9 dX10_takesSign_4 (by decide) ⟨fun hc => ?_, fun hc => ?_⟩
  · have h := h.1 hc
    refine z_aload_n F dX10_takesSign_9 rfl ?_
    refine z_callV F (k' := 2) (mc' := 0) [] [] dX10_takesSign_10 rfl rfl (by decide) rfl cl_X10_117 hy_X10_blanks (by omega) (by decide) (by decide) (Nat.le_of_ble_eq_true rfl) rfl (con_mono h ?_ (fun _ _ h => h))
    rintro _ w2 ⟨rfl, h⟩
    show Z M G 0 K X w2 13 [some (.ref (G.2.1 40 0)), some (.int p0), none] []
    refine z_aload_n F dX10_takesSign_13 rfl ?_
    refine z_aload_n F dX10_takesSign_14 rfl ?_
    refine z_getI F 4 rfl (by decide) (by decide) rfl lk_X10_104 dX10_takesSign_15 ?_
    refine z_callV F (k' := 1) (mc' := 0) [.int (w2.1 40 0 4)] [] dX10_takesSign_18 rfl rfl (by decide) rfl cl_X10_107 hy_X10_byteAt (by omega) (by decide) (by decide) (Nat.le_of_ble_eq_true rfl) rfl (con_mono h ?_ (fun _ _ h => h))
    rintro _ w4 ⟨v3, rfl, h⟩
    show Z M G 0 K X w4 21 [some (.ref (G.2.1 40 0)), some (.int p0), none] [.int v3]
    refine z_iload_n F dX10_takesSign_21 rfl ?_
    refine z_icmp_ne F 29 dX10_takesSign_22 (by decide) ⟨fun hc => ?_, fun hc => ?_⟩
    · have h := h.1 hc
      refine z_iconst F 0 dX10_takesSign_29 (by decide) ?_
      exact z_weak h (⟨rfl, trivial⟩)
    · have h := h.2 hc
      refine z_iconst F 1 dX10_takesSign_25 (by decide) ?_
      refine z_goto F 30 dX10_takesSign_26 (by decide) ?_
      exact z_weak h (⟨rfl, trivial⟩)
  · have h := h.2 hc
    refine z_iconst F 0 dX10_takesSign_7 (by decide) ?_
    exact z_zret F dX10_takesSign_8 (by decide) rfl h
set_option maxRecDepth 20000 in
theorem b_X10_takesSign_30 {M : Mx} {G : Gx} {kk : Nat} {w : Wd}  {s0 : Int32} {K : Option Value → Wd → Prop} {X : String → Wd → Prop} (F : Fx M G RX10 cX10_takesSign 3 (some .boolean) kk 0) (hk : 3 ≤ kk)
    (h : ((s0 = 0 → (narrow .boolean (.int s0) = .int s0 ∧ K (some (.int s0)) w)) ∧ (¬ (s0 = 0) → (∀ w1 : Wd, w1 = setI w 40 0 4 ((w.1 40 0 4) + (1 : Int32)) → (narrow .boolean (.int s0) = .int s0 ∧ K (some (.int s0)) w1))))) :
    Z M G 0 K X w 30 [some (.ref (G.2.1 40 0)), none, none] [.int s0] := by
  refine z_istore_n F dX10_takesSign_30 (Nat.le_of_ble_eq_true rfl) ?_
  refine z_iload_n F dX10_takesSign_31 rfl ?_
  refine z_if_eq F 45 dX10_takesSign_32 (by decide) ⟨fun hc => ?_, fun hc => ?_⟩
  · have h := h.1 hc
    refine z_iload_n F dX10_takesSign_45 rfl ?_
    exact z_zret F dX10_takesSign_46 (by decide) h.1 h.2
  · have h := h.2 hc
    refine z_aload_n F dX10_takesSign_35 rfl ?_
    refine z_dup F dX10_takesSign_36 rfl ?_
    refine z_getI F 4 rfl (by decide) (by decide) rfl lk_X10_104 dX10_takesSign_37 ?_
    refine z_iconst F 1 dX10_takesSign_40 (by decide) ?_
    refine z_iadd F dX10_takesSign_41 ?_
    refine z_putIW F 4 rfl (by decide) (by decide) rfl lk_X10_104 dX10_takesSign_42 (fun w1 hw1 => ?_)
    have h := h w1 hw1
    refine z_iload_n F dX10_takesSign_45 rfl ?_
    exact z_zret F dX10_takesSign_46 (by decide) h.1 h.2
set_option maxRecDepth 20000 in
theorem e_X10_starts {l : Launch} {G : Gx} {w : Wd} {p0 : Int32} {K : Option Value → Wd → Prop} {X : String → Wd → Prop} (hl : l.stackTraces = false)
    (h : ∀ (M : Mx) (kk : Nat), mL M = l → 3 ≤ kk → Fx M G RX10 cX10_starts 2 none kk 0 → (∀ w1 : Wd, w1 = setI w 40 0 1 0 → (∀ w2 : Wd, w2 = setI w1 40 0 2 p0 → (∀ w3 : Wd, w3 = setI w2 40 0 4 0 → (∀ w4 : Wd, w4 = setI w3 40 0 5 0 → (∀ w5 : Wd, w5 = setI w4 40 0 6 (-1) → (∀ w6 : Wd, w6 = setI w5 40 0 7 0 → (∀ w7 : Wd, w7 = setI w6 40 0 8 0 → Con (mL M) G 2 0 yX10_blanks cX10_blanks 1 none w7 [.ref (G.2.1 40 0)] (fun r w9 => r = none ∧ K none w9) X)))))))) :
    Con l G 3 0 yX10_starts cX10_starts 2 none w [.ref (G.2.1 40 0), .int p0] K X := by
  refine con_intro hl (by decide +kernel) (Nat.le_of_ble_eq_true rfl) (Nat.le_of_ble_eq_true rfl) (fun M kk hM hk F => ?_)
  have h := h M kk hM hk F
  show Z M G 0 K X w 0 [some (.ref (G.2.1 40 0)), some (.int p0)] []
  refine z_aload_n F dX10_starts_0 rfl ?_
  refine z_iconst F 0 dX10_starts_1 (by decide) ?_
  refine z_putIW F 1 rfl (by decide) (by decide) rfl lk_X10_98 dX10_starts_2 (fun w1 hw1 => ?_)
  have h := h w1 hw1
  refine z_aload_n F dX10_starts_5 rfl ?_
  refine z_iload_n F dX10_starts_6 rfl ?_
  refine z_putIW F 2 rfl (by decide) (by decide) rfl lk_X10_101 dX10_starts_7 (fun w2 hw2 => ?_)
  have h := h w2 hw2
  refine z_aload_n F dX10_starts_10 rfl ?_
  refine z_iconst F 0 dX10_starts_11 (by decide) ?_
  refine z_putIW F 4 rfl (by decide) (by decide) rfl lk_X10_104 dX10_starts_12 (fun w3 hw3 => ?_)
  have h := h w3 hw3
  refine z_aload_n F dX10_starts_15 rfl ?_
  refine z_iconst F 0 dX10_starts_16 (by decide) ?_
  refine z_putIW F 5 rfl (by decide) (by decide) rfl lk_X10_111 dX10_starts_17 (fun w4 hw4 => ?_)
  have h := h w4 hw4
  refine z_aload_n F dX10_starts_20 rfl ?_
  refine z_iconst F (-1) dX10_starts_21 (by decide) ?_
  refine z_putIW F 6 rfl (by decide) (by decide) rfl lk_X10_114 dX10_starts_22 (fun w5 hw5 => ?_)
  have h := h w5 hw5
  refine z_aload_n F dX10_starts_25 rfl ?_
  refine z_iconst F 0 dX10_starts_26 (by decide) ?_
  refine z_putIW F 7 rfl (by decide) (by decide) rfl lk_X10_151 dX10_starts_27 (fun w6 hw6 => ?_)
  have h := h w6 hw6
  refine z_aload_n F dX10_starts_30 rfl ?_
  refine z_iconst F 0 dX10_starts_31 (by decide) ?_
  refine z_putIW F 8 rfl (by decide) (by decide) rfl lk_X10_154 dX10_starts_32 (fun w7 hw7 => ?_)
  have h := h w7 hw7
  refine z_aload_n F dX10_starts_35 rfl ?_
  refine z_callV F (k' := 2) (mc' := 0) [] [] dX10_starts_36 rfl rfl (by decide) rfl cl_X10_117 hy_X10_blanks (by omega) (by decide) (by decide) (Nat.le_of_ble_eq_true rfl) rfl (con_mono h ?_ (fun _ _ h => h))
  rintro _ w9 ⟨rfl, h⟩
  show Z M G 0 K X w9 39 [some (.ref (G.2.1 40 0)), some (.int p0)] []
  exact z_vret F dX10_starts_39 (by decide) h
set_option maxRecDepth 20000 in
theorem e_X10_ends {l : Launch} {G : Gx} {w : Wd}  {K : Option Value → Wd → Prop} {X : String → Wd → Prop} (hl : l.stackTraces = false)
    (h : ∀ (M : Mx) (kk : Nat), mL M = l → 1 ≤ kk → Fx M G RX10 cX10_ends 1 (some .int) kk 0 → (∀ w1 : Wd, w1 = setI w 40 0 3 (w.1 40 0 6) → K (some (.int ((w1.1 40 0 5) - (10 : Int32)))) w1)) :
    Con l G 1 0 yX10_ends cX10_ends 1 (some .int) w [.ref (G.2.1 40 0)] K X := by
  refine con_intro hl (by decide +kernel) (Nat.le_of_ble_eq_true rfl) (Nat.le_of_ble_eq_true rfl) (fun M kk hM hk F => ?_)
  have h := h M kk hM hk F
  show Z M G 0 K X w 0 [some (.ref (G.2.1 40 0))] []
  refine z_aload_n F dX10_ends_0 rfl ?_
  refine z_aload_n F dX10_ends_1 rfl ?_
  refine z_getI F 6 rfl (by decide) (by decide) rfl lk_X10_114 dX10_ends_2 ?_
  refine z_putIW F 3 rfl (by decide) (by decide) rfl lk_X10_9 dX10_ends_5 (fun w1 hw1 => ?_)
  have h := h w1 hw1
  refine z_aload_n F dX10_ends_8 rfl ?_
  refine z_getI F 5 rfl (by decide) (by decide) rfl lk_X10_111 dX10_ends_9 ?_
  refine z_bipush F 10 dX10_ends_12 (by decide) ?_
  refine z_isub F dX10_ends_14 ?_
  exact z_iret F dX10_ends_15 (by decide) h
set_option maxRecDepth 20000 in
theorem e_X10_kindHere {l : Launch} {G : Gx} {w : Wd}  {K : Option Value → Wd → Prop} {X : String → Wd → Prop} (hl : l.stackTraces = false)
    (h : ∀ (M : Mx) (kk : Nat), mL M = l → 5 ≤ kk → Fx M G RX10 cX10_kindHere 1 (some .int) kk 0 → Con (mL M) G 4 0 yX10_isWord cX10_isWord 7 (some .boolean) w [.ref (G.2.1 40 0), .int 19, .int 9, .int 14, .int 7, .int 5, .int 18] (fun r w2 => ∃ v1 : Int32, r = some (.int v1) ∧ ((v1 = 0 → Con (mL M) G 4 0 yX10_isWord cX10_isWord 7 (some .boolean) w2 [.ref (G.2.1 40 0), .int 14, .int 15, .int 20, .int 5, .int 0, .int 0] (fun r w4 => ∃ v3 : Int32, r = some (.int v3) ∧ ((v3 = 0 → Con (mL M) G 4 0 yX10_isWord cX10_isWord 7 (some .boolean) w4 [.ref (G.2.1 40 0), .int 12, .int 9, .int 11, .int 5, .int 0, .int 0] (fun r w6 => ∃ v5 : Int32, r = some (.int v5) ∧ ((v5 = 0 → Con (mL M) G 4 0 yX10_isWord cX10_isWord 7 (some .boolean) w6 [.ref (G.2.1 40 0), .int 18, .int 5, .int 19, .int 20, .int 0, .int 0] (fun r w8 => ∃ v7 : Int32, r = some (.int v7) ∧ ((v7 = 0 → K (some (.int (-1))) w8) ∧ (¬ (v7 = 0) → K (some (.int 3)) w8))) X) ∧ (¬ (v5 = 0) → K (some (.int 2)) w6))) X) ∧ (¬ (v3 = 0) → K (some (.int 1)) w4))) X) ∧ (¬ (v1 = 0) → K (some (.int 0)) w2))) X) :
    Con l G 5 0 yX10_kindHere cX10_kindHere 1 (some .int) w [.ref (G.2.1 40 0)] K X := by
  refine con_intro hl (by decide +kernel) (Nat.le_of_ble_eq_true rfl) (Nat.le_of_ble_eq_true rfl) (fun M kk hM hk F => ?_)
  have h := h M kk hM hk F
  show Z M G 0 K X w 0 [some (.ref (G.2.1 40 0))] []
  refine z_aload_n F dX10_kindHere_0 rfl ?_
  refine z_bipush F 19 dX10_kindHere_1 (by decide) ?_
  refine z_bipush F 9 dX10_kindHere_3 (by decide) ?_
  refine z_bipush F 14 dX10_kindHere_5 (by decide) ?_
  refine z_bipush F 7 dX10_kindHere_7 (by decide) ?_
  refine z_iconst F 5 dX10_kindHere_9 (by decide) ?_
  refine z_bipush F 18 dX10_kindHere_10 (by decide) ?_
  refine z_callV F (k' := 4) (mc' := 0) [.int 19, .int 9, .int 14, .int 7, .int 5, .int 18] [] dX10_kindHere_12 rfl rfl (by decide) rfl cl_X10_144 hy_X10_isWord (by omega) (by decide) (by decide) (Nat.le_of_ble_eq_true rfl) rfl (con_mono h ?_ (fun _ _ h => h))
  rintro _ w2 ⟨v1, rfl, h⟩
  show Z M G 0 K X w2 15 [some (.ref (G.2.1 40 0))] [.int v1]
  refine z_if_eq F 20 dX10_kindHere_15 (by decide) ⟨fun hc => ?_, fun hc => ?_⟩
  · have h := h.1 hc
    refine z_aload_n F dX10_kindHere_20 rfl ?_
    refine z_bipush F 14 dX10_kindHere_21 (by decide) ?_
    refine z_bipush F 15 dX10_kindHere_23 (by decide) ?_
    refine z_bipush F 20 dX10_kindHere_25 (by decide) ?_
    refine z_iconst F 5 dX10_kindHere_27 (by decide) ?_
    refine z_iconst F 0 dX10_kindHere_28 (by decide) ?_
    refine z_iconst F 0 dX10_kindHere_29 (by decide) ?_
    refine z_callV F (k' := 4) (mc' := 0) [.int 14, .int 15, .int 20, .int 5, .int 0, .int 0] [] dX10_kindHere_30 rfl rfl (by decide) rfl cl_X10_144 hy_X10_isWord (by omega) (by decide) (by decide) (Nat.le_of_ble_eq_true rfl) rfl (con_mono h ?_ (fun _ _ h => h))
    rintro _ w4 ⟨v3, rfl, h⟩
    show Z M G 0 K X w4 33 [some (.ref (G.2.1 40 0))] [.int v3]
    refine z_if_eq F 38 dX10_kindHere_33 (by decide) ⟨fun hc => ?_, fun hc => ?_⟩
    · have h := h.1 hc
      refine z_aload_n F dX10_kindHere_38 rfl ?_
      refine z_bipush F 12 dX10_kindHere_39 (by decide) ?_
      refine z_bipush F 9 dX10_kindHere_41 (by decide) ?_
      refine z_bipush F 11 dX10_kindHere_43 (by decide) ?_
      refine z_iconst F 5 dX10_kindHere_45 (by decide) ?_
      refine z_iconst F 0 dX10_kindHere_46 (by decide) ?_
      refine z_iconst F 0 dX10_kindHere_47 (by decide) ?_
      refine z_callV F (k' := 4) (mc' := 0) [.int 12, .int 9, .int 11, .int 5, .int 0, .int 0] [] dX10_kindHere_48 rfl rfl (by decide) rfl cl_X10_144 hy_X10_isWord (by omega) (by decide) (by decide) (Nat.le_of_ble_eq_true rfl) rfl (con_mono h ?_ (fun _ _ h => h))
      rintro _ w6 ⟨v5, rfl, h⟩
      show Z M G 0 K X w6 51 [some (.ref (G.2.1 40 0))] [.int v5]
      refine z_if_eq F 56 dX10_kindHere_51 (by decide) ⟨fun hc => ?_, fun hc => ?_⟩
      · have h := h.1 hc
        refine z_aload_n F dX10_kindHere_56 rfl ?_
        refine z_bipush F 18 dX10_kindHere_57 (by decide) ?_
        refine z_iconst F 5 dX10_kindHere_59 (by decide) ?_
        refine z_bipush F 19 dX10_kindHere_60 (by decide) ?_
        refine z_bipush F 20 dX10_kindHere_62 (by decide) ?_
        refine z_iconst F 0 dX10_kindHere_64 (by decide) ?_
        refine z_iconst F 0 dX10_kindHere_65 (by decide) ?_
        refine z_callV F (k' := 4) (mc' := 0) [.int 18, .int 5, .int 19, .int 20, .int 0, .int 0] [] dX10_kindHere_66 rfl rfl (by decide) rfl cl_X10_144 hy_X10_isWord (by omega) (by decide) (by decide) (Nat.le_of_ble_eq_true rfl) rfl (con_mono h ?_ (fun _ _ h => h))
        rintro _ w8 ⟨v7, rfl, h⟩
        show Z M G 0 K X w8 69 [some (.ref (G.2.1 40 0))] [.int v7]
        refine z_if_eq F 76 dX10_kindHere_69 (by decide) ⟨fun hc => ?_, fun hc => ?_⟩
        · have h := h.1 hc
          refine z_iconst F (-1) dX10_kindHere_76 (by decide) ?_
          exact z_iret F dX10_kindHere_77 (by decide) h
        · have h := h.2 hc
          refine z_iconst F 3 dX10_kindHere_72 (by decide) ?_
          refine z_goto F 77 dX10_kindHere_73 (by decide) ?_
          exact z_iret F dX10_kindHere_77 (by decide) h
      · have h := h.2 hc
        refine z_iconst F 2 dX10_kindHere_54 (by decide) ?_
        exact z_iret F dX10_kindHere_55 (by decide) h
    · have h := h.2 hc
      refine z_iconst F 1 dX10_kindHere_36 (by decide) ?_
      exact z_iret F dX10_kindHere_37 (by decide) h
  · have h := h.2 hc
    refine z_iconst F 0 dX10_kindHere_18 (by decide) ?_
    exact z_iret F dX10_kindHere_19 (by decide) h
set_option maxRecDepth 20000 in
theorem e_X10_mostOf {l : Launch} {G : Gx} {w : Wd} {p0 : Int32} {K : Option Value → Wd → Prop} {X : String → Wd → Prop} (hl : l.stackTraces = false)
    (h : ∀ (M : Mx) (kk : Nat), mL M = l → 1 ≤ kk → Fx M G RX10 cX10_mostOf 1 (some .int) kk 0 → ((¬ p0 = 0 → ((¬ p0 = 1 → K (some (.int 12)) w) ∧ (¬ (¬ p0 = 1) → K (some (.int 20)) w))) ∧ (¬ (¬ p0 = 0) → K (some (.int 7)) w))) :
    Con l G 1 0 yX10_mostOf cX10_mostOf 1 (some .int) w [.int p0] K X := by
  refine con_intro hl (by decide +kernel) (Nat.le_of_ble_eq_true rfl) (Nat.le_of_ble_eq_true rfl) (fun M kk hM hk F => ?_)
  have h := h M kk hM hk F
  show Z M G 0 K X w 0 [some (.int p0)] []
  refine z_iload_n F dX10_mostOf_0 rfl ?_
  refine z_if_ne F 9 dX10_mostOf_1 (by decide) ⟨fun hc => ?_, fun hc => ?_⟩
  · have h := h.1 hc
    refine z_iload_n F dX10_mostOf_9 rfl ?_
    refine z_iconst F 1 dX10_mostOf_10 (by decide) ?_
    refine z_icmp_ne F 19 dX10_mostOf_11 (by decide) ⟨fun hc => ?_, fun hc => ?_⟩
    · have h := h.1 hc
      refine z_bipush F 12 dX10_mostOf_19 (by decide) ?_
      exact z_iret F dX10_mostOf_21 (by decide) h
    · have h := h.2 hc
      refine z_bipush F 20 dX10_mostOf_14 (by decide) ?_
      refine z_goto F 21 dX10_mostOf_16 (by decide) ?_
      exact z_iret F dX10_mostOf_21 (by decide) h
  · have h := h.2 hc
    refine z_bipush F 7 dX10_mostOf_4 (by decide) ?_
    refine z_goto F 21 dX10_mostOf_6 (by decide) ?_
    exact z_iret F dX10_mostOf_21 (by decide) h
set_option maxRecDepth 20000 in
theorem e_X10_clause {l : Launch} {G : Gx} {w : Wd}  {K : Option Value → Wd → Prop} {X : String → Wd → Prop} (hl : l.stackTraces = false)
    (h : ∀ (M : Mx) (kk : Nat), mL M = l → 6 ≤ kk → Fx M G RX10 cX10_clause 4 none kk 0 → Con (mL M) G 5 0 yX10_kindHere cX10_kindHere 1 (some .int) w [.ref (G.2.1 40 0)] (fun r w2 => ∃ v1 : Int32, r = some (.int v1) ∧ ((¬ v1 = (-1) → (((w2.1 40 0 7) = 60 → Z M G 0 K X w2 49 [some (.ref (G.2.1 40 0)), some (.int v1), none, none] []) ∧ (¬ ((w2.1 40 0 7) = 60) → ((3 ≤ v1 → Z M G 0 K X w2 58 [some (.ref (G.2.1 40 0)), some (.int v1), none, none] []) ∧ (¬ (3 ≤ v1) → (vp_in v1 4 ∧ Con (mL M) G 1 0 yX10_mostOf cX10_mostOf 1 (some .int) w2 [.int v1] (fun r w4 => ∃ v3 : Int32, r = some (.int v3) ∧ ((¬ (w2.1 43 0 ((v1 : Int32).toNatClampNeg)) = v3 → Z M G 0 K X w4 58 [some (.ref (G.2.1 40 0)), some (.int v1), none, none] []) ∧ (¬ (¬ (w2.1 43 0 ((v1 : Int32).toNatClampNeg)) = v3) → Z M G 0 K X w4 49 [some (.ref (G.2.1 40 0)), some (.int v1), none, none] []))) X)))))) ∧ (¬ (¬ v1 = (-1)) → Con (mL M) G 1 0 yX10_wrong cX10_wrong 3 none w2 [.ref (G.2.1 40 0), .int 1, .int (w2.1 40 0 4)] (fun r w6 => r = none ∧ Z M G 0 K X w6 58 [some (.ref (G.2.1 40 0)), some (.int v1), none, none] []) X))) X) :
    Con l G 6 0 yX10_clause cX10_clause 4 none w [.ref (G.2.1 40 0)] K X := by
  refine con_intro hl (by decide +kernel) (Nat.le_of_ble_eq_true rfl) (Nat.le_of_ble_eq_true rfl) (fun M kk hM hk F => ?_)
  have h := h M kk hM hk F
  show Z M G 0 K X w 0 [some (.ref (G.2.1 40 0)), none, none, none] []
  refine z_aload_n F dX10_clause_0 rfl ?_
  refine z_callV F (k' := 5) (mc' := 0) [] [] dX10_clause_1 rfl rfl (by decide) rfl cl_X10_157 hy_X10_kindHere (by omega) (by decide) (by decide) (Nat.le_of_ble_eq_true rfl) rfl (con_mono h ?_ (fun _ _ h => h))
  rintro _ w2 ⟨v1, rfl, h⟩
  show Z M G 0 K X w2 4 [some (.ref (G.2.1 40 0)), none, none, none] [.int v1]
  refine z_istore_n F dX10_clause_4 (Nat.le_of_ble_eq_true rfl) ?_
  refine z_iload_n F dX10_clause_5 rfl ?_
  refine z_iconst F (-1) dX10_clause_6 (by decide) ?_
  refine z_icmp_ne F 22 dX10_clause_7 (by decide) ⟨fun hc => ?_, fun hc => ?_⟩
  · have h := h.1 hc
    refine z_aload_n F dX10_clause_22 rfl ?_
    refine z_getI F 7 rfl (by decide) (by decide) rfl lk_X10_151 dX10_clause_23 ?_
    refine z_bipush F 60 dX10_clause_26 (by decide) ?_
    refine z_icmp_eq F 49 dX10_clause_28 (by decide) ⟨fun hc => ?_, fun hc => ?_⟩
    · have h := h.1 hc
      exact h
    · have h := h.2 hc
      refine z_iload_n F dX10_clause_31 rfl ?_
      refine z_iconst F 3 dX10_clause_32 (by decide) ?_
      refine z_icmp_ge F 58 dX10_clause_33 (by decide) ⟨fun hc => ?_, fun hc => ?_⟩
      · have h := h.1 hc
        exact h
      · have h := h.2 hc
        refine z_aload_n F dX10_clause_36 rfl ?_
        refine z_getR F 11 43 0 rfl (by decide) (by decide) rfl rfl rfl lk_X10_20 dX10_clause_37 ?_
        refine z_iload_n F dX10_clause_40 rfl ?_
        obtain ⟨hb, h⟩ := h
        refine z_ialdK F ((v1 : Int32).toNatClampNeg) rfl rfl (by decide) hb dX10_clause_41 ?_
        refine z_iload_n F dX10_clause_42 rfl ?_
        refine z_callS F (k' := 1) (mc' := 0) [.int v1] [.int (w2.1 43 0 ((v1 : Int32).toNatClampNeg))] dX10_clause_43 rfl cl_X10_160 hy_X10_mostOf.2 (by omega) (by decide) (by decide) (Nat.le_of_ble_eq_true rfl) rfl (con_mono h ?_ (fun _ _ h => h))
        rintro _ w4 ⟨v3, rfl, h⟩
        show Z M G 0 K X w4 46 [some (.ref (G.2.1 40 0)), some (.int v1), none, none] [.int v3, .int (w2.1 43 0 ((v1 : Int32).toNatClampNeg))]
        refine z_icmp_ne F 58 dX10_clause_46 (by decide) ⟨fun hc => ?_, fun hc => ?_⟩
        · have h := h.1 hc
          exact h
        · have h := h.2 hc
          exact h
  · have h := h.2 hc
    refine z_aload_n F dX10_clause_10 rfl ?_
    refine z_iconst F 1 dX10_clause_11 (by decide) ?_
    refine z_aload_n F dX10_clause_12 rfl ?_
    refine z_getI F 4 rfl (by decide) (by decide) rfl lk_X10_104 dX10_clause_13 ?_
    refine z_callV F (k' := 1) (mc' := 0) [.int 1, .int (w2.1 40 0 4)] [] dX10_clause_16 rfl rfl (by decide) rfl cl_X10_124 hy_X10_wrong (by omega) (by decide) (by decide) (Nat.le_of_ble_eq_true rfl) rfl (con_mono h ?_ (fun _ _ h => h))
    rintro _ w6 ⟨rfl, h⟩
    show Z M G 0 K X w6 19 [some (.ref (G.2.1 40 0)), some (.int v1), none, none] []
    refine z_goto F 58 dX10_clause_19 (by decide) ?_
    exact h
set_option maxRecDepth 20000 in
theorem b_X10_clause_49 {M : Mx} {G : Gx} {kk : Nat} {w : Wd}  {x1 : Int32} {K : Option Value → Wd → Prop} {X : String → Wd → Prop} (F : Fx M G RX10 cX10_clause 4 none kk 0) (hk : 6 ≤ kk)
    (h : Con (mL M) G 1 0 yX10_wrong cX10_wrong 3 none w [.ref (G.2.1 40 0), .int 3, .int (w.1 40 0 4)] (fun r w2 => r = none ∧ Z M G 0 K X w2 58 [some (.ref (G.2.1 40 0)), some (.int x1), none, none] []) X) :
    Z M G 0 K X w 49 [some (.ref (G.2.1 40 0)), some (.int x1), none, none] [] := by
  refine z_aload_n F dX10_clause_49 rfl ?_
  refine z_iconst F 3 dX10_clause_50 (by decide) ?_
  refine z_aload_n F dX10_clause_51 rfl ?_
  refine z_getI F 4 rfl (by decide) (by decide) rfl lk_X10_104 dX10_clause_52 ?_
  refine z_callV F (k' := 1) (mc' := 0) [.int 3, .int (w.1 40 0 4)] [] dX10_clause_55 rfl rfl (by decide) rfl cl_X10_124 hy_X10_wrong (by omega) (by decide) (by decide) (Nat.le_of_ble_eq_true rfl) rfl (con_mono h ?_ (fun _ _ h => h))
  rintro _ w2 ⟨rfl, h⟩
  show Z M G 0 K X w2 58 [some (.ref (G.2.1 40 0)), some (.int x1), none, none] []
  exact h
set_option maxRecDepth 20000 in
theorem b_X10_clause_58 {M : Mx} {G : Gx} {kk : Nat} {w : Wd}  {x1 : Int32} {K : Option Value → Wd → Prop} {X : String → Wd → Prop} (F : Fx M G RX10 cX10_clause 4 none kk 0) (hk : 6 ≤ kk)
    (h : (((w.1 40 0 5) = 0 → Con (mL M) G 2 0 yX10_skipWord cX10_skipWord 1 none w [.ref (G.2.1 40 0)] (fun r w2 => r = none ∧ (∀ w3 : Wd, w3 = setI w2 40 0 7 ((w2.1 40 0 7) + (1 : Int32)) → ((3 ≤ x1 → Z M G 0 K X w3 95 [some (.ref (G.2.1 40 0)), some (.int x1), none, none] [.int 0]) ∧ (¬ (3 ≤ x1) → (vp_in x1 4 ∧ Z M G 0 K X w3 95 [some (.ref (G.2.1 40 0)), some (.int x1), none, none] [.int (w3.1 43 0 ((x1 : Int32).toNatClampNeg))]))))) X) ∧ (¬ ((w.1 40 0 5) = 0) → K none w))) :
    Z M G 0 K X w 58 [some (.ref (G.2.1 40 0)), some (.int x1), none, none] [] := by
  refine z_aload_n F dX10_clause_58 rfl ?_
  refine z_getI F 5 rfl (by decide) (by decide) rfl lk_X10_111 dX10_clause_59 ?_
  refine z_if_eq F 66 dX10_clause_62 (by decide) ⟨fun hc => ?_, fun hc => ?_⟩
  · have h := h.1 hc
    refine z_aload_n F dX10_clause_66 rfl ?_
    refine z_callV F (k' := 2) (mc' := 0) [] [] dX10_clause_67 rfl rfl (by decide) rfl cl_X10_148 hy_X10_skipWord (by omega) (by decide) (by decide) (Nat.le_of_ble_eq_true rfl) rfl (con_mono h ?_ (fun _ _ h => h))
    rintro _ w2 ⟨rfl, h⟩
    show Z M G 0 K X w2 70 [some (.ref (G.2.1 40 0)), some (.int x1), none, none] []
    refine z_aload_n F dX10_clause_70 rfl ?_
    refine z_dup F dX10_clause_71 rfl ?_
    refine z_getI F 7 rfl (by decide) (by decide) rfl lk_X10_151 dX10_clause_72 ?_
    refine z_iconst F 1 dX10_clause_75 (by decide) ?_
    refine z_iadd F dX10_clause_76 ?_
    refine z_putIW F 7 rfl (by decide) (by decide) rfl lk_X10_151 dX10_clause_77 (fun w3 hw3 => ?_)
    have h := h w3 hw3
    refine z_iload_n F dX10_clause_80 rfl ?_
    refine z_iconst F 3 dX10_clause_81 (by decide) ?_
    refine z_icmp_ge F 94 dX10_clause_82 (by decide) ⟨fun hc => ?_, fun hc => ?_⟩
    · have h := h.1 hc
      refine z_iconst F 0 dX10_clause_94 (by decide) ?_
      exact h
    · have h := h.2 hc
      refine z_aload_n F dX10_clause_85 rfl ?_
      refine z_getR F 11 43 0 rfl (by decide) (by decide) rfl rfl rfl lk_X10_20 dX10_clause_86 ?_
      refine z_iload_n F dX10_clause_89 rfl ?_
      obtain ⟨hb, h⟩ := h
      refine z_ialdK F ((x1 : Int32).toNatClampNeg) rfl rfl (by decide) hb dX10_clause_90 ?_
      refine z_goto F 95 dX10_clause_91 (by decide) ?_
      exact h
  · have h := h.2 hc
    exact z_vret F dX10_clause_65 (by decide) h
set_option maxRecDepth 20000 in
theorem b_X10_clause_95 {M : Mx} {G : Gx} {kk : Nat} {w : Wd}  {x1 : Int32} {s0 : Int32} {K : Option Value → Wd → Prop} {X : String → Wd → Prop} (F : Fx M G RX10 cX10_clause 4 none kk 0) (hk : 6 ≤ kk)
    (h : ((x1 = 0 → (vp_in s0 7 ∧ Con (mL M) G 3 0 yX10_number cX10_number 5 (some .int) w [.ref (G.2.1 40 0), .int 0, .int 5] (fun r w3 => ∃ v2 : Int32, r = some (.int v2) ∧ (∀ w4 : Wd, w4 = setI w3 46 ((s0 : Int32).toNatClampNeg) 0 v2 → (vp_in s0 7 ∧ Con (mL M) G 3 0 yX10_number cX10_number 5 (some .int) w4 [.ref (G.2.1 40 0), .int 0, .int 60] (fun r w7 => ∃ v6 : Int32, r = some (.int v6) ∧ (∀ w8 : Wd, w8 = setI w7 46 ((s0 : Int32).toNatClampNeg) 1 v6 → (vp_in s0 7 ∧ Con (mL M) G 3 0 yX10_number cX10_number 5 (some .int) w8 [.ref (G.2.1 40 0), .int 1, .int 30] (fun r w11 => ∃ v10 : Int32, r = some (.int v10) ∧ (∀ w12 : Wd, w12 = setI w11 46 ((s0 : Int32).toNatClampNeg) 2 v10 → Z M G 0 K X w12 266 [some (.ref (G.2.1 40 0)), some (.int x1), none, none] [])) X))) X))) X)) ∧ (x1 = 1 → (vp_in s0 20 ∧ Con (mL M) G 3 0 yX10_number cX10_number 5 (some .int) w [.ref (G.2.1 40 0), .int 0, .int 5] (fun r w15 => ∃ v14 : Int32, r = some (.int v14) ∧ (∀ w16 : Wd, w16 = setI w15 50 ((s0 : Int32).toNatClampNeg) 0 v14 → (vp_in s0 20 ∧ Con (mL M) G 3 0 yX10_number cX10_number 5 (some .int) w16 [.ref (G.2.1 40 0), .int 1, .int 9] (fun r w19 => ∃ v18 : Int32, r = some (.int v18) ∧ (∀ w20 : Wd, w20 = setI w19 50 ((s0 : Int32).toNatClampNeg) 1 v18 → Z M G 0 K X w20 266 [some (.ref (G.2.1 40 0)), some (.int x1), none, none] [])) X))) X)) ∧ (x1 = 2 → (vp_in s0 12 ∧ Con (mL M) G 3 0 yX10_number cX10_number 5 (some .int) w [.ref (G.2.1 40 0), .int 0, .int ((w.1 43 0 1) - (1 : Int32))] (fun r w23 => ∃ v22 : Int32, r = some (.int v22) ∧ (∀ w24 : Wd, w24 = setI w23 54 ((s0 : Int32).toNatClampNeg) 0 v22 → (vp_in s0 12 ∧ Con (mL M) G 3 0 yX10_number cX10_number 5 (some .int) w24 [.ref (G.2.1 40 0), .int 0, .int 5] (fun r w27 => ∃ v26 : Int32, r = some (.int v26) ∧ (∀ w28 : Wd, w28 = setI w27 54 ((s0 : Int32).toNatClampNeg) 1 v26 → Z M G 0 K X w28 266 [some (.ref (G.2.1 40 0)), some (.int x1), none, none] [])) X))) X)) ∧ (¬ x1 = 0 ∧ ¬ x1 = 1 ∧ ¬ x1 = 2 → Con (mL M) G 3 0 yX10_number cX10_number 5 (some .int) w [.ref (G.2.1 40 0), .int 0, .int 30] (fun r w30 => ∃ v29 : Int32, r = some (.int v29) ∧ ((¬ (w30.1 40 0 5) = 0 → Z M G 0 K X w30 266 [some (.ref (G.2.1 40 0)), some (.int x1), none, none] []) ∧ (¬ (¬ (w30.1 40 0 5) = 0) → (∀ w31 : Wd, w31 = setI w30 43 0 3 v29 → Z M G 0 K X w31 266 [some (.ref (G.2.1 40 0)), some (.int x1), none, none] [])))) X))) :
    Z M G 0 K X w 95 [some (.ref (G.2.1 40 0)), some (.int x1), none, none] [.int s0] := by
  refine z_istore_n F dX10_clause_95 (Nat.le_of_ble_eq_true rfl) ?_
  refine z_iload_n F dX10_clause_96 rfl ?_
  by_cases hc0 : x1 = 0
  · have h := h.1 hc0
    refine z_tabIn F 124 dX10_clause_97 (by rw [hc0]; decide) (by rw [hc0]; decide) (by rw [hc0]; rfl) (by decide) ?_
    refine z_aload_n F dX10_clause_124 rfl ?_
    refine z_getR F 13 45 0 rfl (by decide) (by decide) rfl rfl rfl lk_X10_28 dX10_clause_125 ?_
    refine z_iload_n F dX10_clause_128 rfl ?_
    obtain ⟨hb, h⟩ := h
    refine z_aald F 46 ((s0 : Int32).toNatClampNeg) rfl (by decide) (by decide) (by decide) rfl rfl hb dX10_clause_129 (fun hv1 => ?_)
    refine z_iconst F 0 dX10_clause_130 (by decide) ?_
    refine z_aload_n F dX10_clause_131 rfl ?_
    refine z_iconst F 0 dX10_clause_132 (by decide) ?_
    refine z_iconst F 5 dX10_clause_133 (by decide) ?_
    refine z_callV F (k' := 3) (mc' := 0) [.int 0, .int 5] [.int 0, .ref (G.2.1 46 ((s0 : Int32).toNatClampNeg))] dX10_clause_134 rfl rfl (by decide) rfl cl_X10_163 hy_X10_number (by omega) (by decide) (by decide) (Nat.le_of_ble_eq_true rfl) rfl (con_mono h ?_ (fun _ _ h => h))
    rintro _ w3 ⟨v2, rfl, h⟩
    show Z M G 0 K X w3 137 [some (.ref (G.2.1 40 0)), some (.int x1), some (.int s0), none] [.int v2, .int 0, .ref (G.2.1 46 ((s0 : Int32).toNatClampNeg))]
    refine z_iastW F 0 (by decide) rfl hv1 (by unfold vp_in; decide) dX10_clause_137 (fun w4 hw4 => ?_)
    have h := h w4 hw4
    refine z_aload_n F dX10_clause_138 rfl ?_
    refine z_getR F 13 45 0 rfl (by decide) (by decide) rfl rfl rfl lk_X10_28 dX10_clause_139 ?_
    refine z_iload_n F dX10_clause_142 rfl ?_
    obtain ⟨hb, h⟩ := h
    refine z_aald F 46 ((s0 : Int32).toNatClampNeg) rfl (by decide) (by decide) (by decide) rfl rfl hb dX10_clause_143 (fun hv5 => ?_)
    refine z_iconst F 1 dX10_clause_144 (by decide) ?_
    refine z_aload_n F dX10_clause_145 rfl ?_
    refine z_iconst F 0 dX10_clause_146 (by decide) ?_
    refine z_bipush F 60 dX10_clause_147 (by decide) ?_
    refine z_callV F (k' := 3) (mc' := 0) [.int 0, .int 60] [.int 1, .ref (G.2.1 46 ((s0 : Int32).toNatClampNeg))] dX10_clause_149 rfl rfl (by decide) rfl cl_X10_163 hy_X10_number (by omega) (by decide) (by decide) (Nat.le_of_ble_eq_true rfl) rfl (con_mono h ?_ (fun _ _ h => h))
    rintro _ w7 ⟨v6, rfl, h⟩
    show Z M G 0 K X w7 152 [some (.ref (G.2.1 40 0)), some (.int x1), some (.int s0), none] [.int v6, .int 1, .ref (G.2.1 46 ((s0 : Int32).toNatClampNeg))]
    refine z_iastW F 1 (by decide) rfl hv5 (by unfold vp_in; decide) dX10_clause_152 (fun w8 hw8 => ?_)
    have h := h w8 hw8
    refine z_aload_n F dX10_clause_153 rfl ?_
    refine z_getR F 13 45 0 rfl (by decide) (by decide) rfl rfl rfl lk_X10_28 dX10_clause_154 ?_
    refine z_iload_n F dX10_clause_157 rfl ?_
    obtain ⟨hb, h⟩ := h
    refine z_aald F 46 ((s0 : Int32).toNatClampNeg) rfl (by decide) (by decide) (by decide) rfl rfl hb dX10_clause_158 (fun hv9 => ?_)
    refine z_iconst F 2 dX10_clause_159 (by decide) ?_
    refine z_aload_n F dX10_clause_160 rfl ?_
    refine z_iconst F 1 dX10_clause_161 (by decide) ?_
    refine z_bipush F 30 dX10_clause_162 (by decide) ?_
    refine z_callV F (k' := 3) (mc' := 0) [.int 1, .int 30] [.int 2, .ref (G.2.1 46 ((s0 : Int32).toNatClampNeg))] dX10_clause_164 rfl rfl (by decide) rfl cl_X10_163 hy_X10_number (by omega) (by decide) (by decide) (Nat.le_of_ble_eq_true rfl) rfl (con_mono h ?_ (fun _ _ h => h))
    rintro _ w11 ⟨v10, rfl, h⟩
    show Z M G 0 K X w11 167 [some (.ref (G.2.1 40 0)), some (.int x1), some (.int s0), none] [.int v10, .int 2, .ref (G.2.1 46 ((s0 : Int32).toNatClampNeg))]
    refine z_iastW F 2 (by decide) rfl hv9 (by unfold vp_in; decide) dX10_clause_167 (fun w12 hw12 => ?_)
    have h := h w12 hw12
    refine z_goto F 266 dX10_clause_168 (by decide) ?_
    exact z_weak h (⟨rfl, ⟨rfl, trivial⟩⟩)
  by_cases hc1 : x1 = 1
  · have h := h.2.1 hc1
    refine z_tabIn F 171 dX10_clause_97 (by rw [hc1]; decide) (by rw [hc1]; decide) (by rw [hc1]; rfl) (by decide) ?_
    refine z_aload_n F dX10_clause_171 rfl ?_
    refine z_getR F 15 49 0 rfl (by decide) (by decide) rfl rfl rfl lk_X10_34 dX10_clause_172 ?_
    refine z_iload_n F dX10_clause_175 rfl ?_
    obtain ⟨hb, h⟩ := h
    refine z_aald F 50 ((s0 : Int32).toNatClampNeg) rfl (by decide) (by decide) (by decide) rfl rfl hb dX10_clause_176 (fun hv13 => ?_)
    refine z_iconst F 0 dX10_clause_177 (by decide) ?_
    refine z_aload_n F dX10_clause_178 rfl ?_
    refine z_iconst F 0 dX10_clause_179 (by decide) ?_
    refine z_iconst F 5 dX10_clause_180 (by decide) ?_
    refine z_callV F (k' := 3) (mc' := 0) [.int 0, .int 5] [.int 0, .ref (G.2.1 50 ((s0 : Int32).toNatClampNeg))] dX10_clause_181 rfl rfl (by decide) rfl cl_X10_163 hy_X10_number (by omega) (by decide) (by decide) (Nat.le_of_ble_eq_true rfl) rfl (con_mono h ?_ (fun _ _ h => h))
    rintro _ w15 ⟨v14, rfl, h⟩
    show Z M G 0 K X w15 184 [some (.ref (G.2.1 40 0)), some (.int x1), some (.int s0), none] [.int v14, .int 0, .ref (G.2.1 50 ((s0 : Int32).toNatClampNeg))]
    refine z_iastW F 0 (by decide) rfl hv13 (by unfold vp_in; decide) dX10_clause_184 (fun w16 hw16 => ?_)
    have h := h w16 hw16
    refine z_aload_n F dX10_clause_185 rfl ?_
    refine z_getR F 15 49 0 rfl (by decide) (by decide) rfl rfl rfl lk_X10_34 dX10_clause_186 ?_
    refine z_iload_n F dX10_clause_189 rfl ?_
    obtain ⟨hb, h⟩ := h
    refine z_aald F 50 ((s0 : Int32).toNatClampNeg) rfl (by decide) (by decide) (by decide) rfl rfl hb dX10_clause_190 (fun hv17 => ?_)
    refine z_iconst F 1 dX10_clause_191 (by decide) ?_
    refine z_aload_n F dX10_clause_192 rfl ?_
    refine z_iconst F 1 dX10_clause_193 (by decide) ?_
    refine z_bipush F 9 dX10_clause_194 (by decide) ?_
    refine z_callV F (k' := 3) (mc' := 0) [.int 1, .int 9] [.int 1, .ref (G.2.1 50 ((s0 : Int32).toNatClampNeg))] dX10_clause_196 rfl rfl (by decide) rfl cl_X10_163 hy_X10_number (by omega) (by decide) (by decide) (Nat.le_of_ble_eq_true rfl) rfl (con_mono h ?_ (fun _ _ h => h))
    rintro _ w19 ⟨v18, rfl, h⟩
    show Z M G 0 K X w19 199 [some (.ref (G.2.1 40 0)), some (.int x1), some (.int s0), none] [.int v18, .int 1, .ref (G.2.1 50 ((s0 : Int32).toNatClampNeg))]
    refine z_iastW F 1 (by decide) rfl hv17 (by unfold vp_in; decide) dX10_clause_199 (fun w20 hw20 => ?_)
    have h := h w20 hw20
    refine z_goto F 266 dX10_clause_200 (by decide) ?_
    exact z_weak h (⟨rfl, ⟨rfl, trivial⟩⟩)
  by_cases hc2 : x1 = 2
  · have h := h.2.2.1 hc2
    refine z_tabIn F 203 dX10_clause_97 (by rw [hc2]; decide) (by rw [hc2]; decide) (by rw [hc2]; rfl) (by decide) ?_
    refine z_aload_n F dX10_clause_203 rfl ?_
    refine z_getR F 17 53 0 rfl (by decide) (by decide) rfl rfl rfl lk_X10_40 dX10_clause_204 ?_
    refine z_iload_n F dX10_clause_207 rfl ?_
    obtain ⟨hb, h⟩ := h
    refine z_aald F 54 ((s0 : Int32).toNatClampNeg) rfl (by decide) (by decide) (by decide) rfl rfl hb dX10_clause_208 (fun hv21 => ?_)
    refine z_iconst F 0 dX10_clause_209 (by decide) ?_
    refine z_aload_n F dX10_clause_210 rfl ?_
    refine z_iconst F 0 dX10_clause_211 (by decide) ?_
    refine z_aload_n F dX10_clause_212 rfl ?_
    refine z_getR F 11 43 0 rfl (by decide) (by decide) rfl rfl rfl lk_X10_20 dX10_clause_213 ?_
    refine z_iconst F 1 dX10_clause_216 (by decide) ?_
    refine z_ialdK F 1 (by decide) rfl (by decide) (by unfold vp_in; decide) dX10_clause_217 ?_
    refine z_iconst F 1 dX10_clause_218 (by decide) ?_
    refine z_isub F dX10_clause_219 ?_
    refine z_callV F (k' := 3) (mc' := 0) [.int 0, .int ((w.1 43 0 1) - (1 : Int32))] [.int 0, .ref (G.2.1 54 ((s0 : Int32).toNatClampNeg))] dX10_clause_220 rfl rfl (by decide) rfl cl_X10_163 hy_X10_number (by omega) (by decide) (by decide) (Nat.le_of_ble_eq_true rfl) rfl (con_mono h ?_ (fun _ _ h => h))
    rintro _ w23 ⟨v22, rfl, h⟩
    show Z M G 0 K X w23 223 [some (.ref (G.2.1 40 0)), some (.int x1), some (.int s0), none] [.int v22, .int 0, .ref (G.2.1 54 ((s0 : Int32).toNatClampNeg))]
    refine z_iastW F 0 (by decide) rfl hv21 (by unfold vp_in; decide) dX10_clause_223 (fun w24 hw24 => ?_)
    have h := h w24 hw24
    refine z_aload_n F dX10_clause_224 rfl ?_
    refine z_getR F 17 53 0 rfl (by decide) (by decide) rfl rfl rfl lk_X10_40 dX10_clause_225 ?_
    refine z_iload_n F dX10_clause_228 rfl ?_
    obtain ⟨hb, h⟩ := h
    refine z_aald F 54 ((s0 : Int32).toNatClampNeg) rfl (by decide) (by decide) (by decide) rfl rfl hb dX10_clause_229 (fun hv25 => ?_)
    refine z_iconst F 1 dX10_clause_230 (by decide) ?_
    refine z_aload_n F dX10_clause_231 rfl ?_
    refine z_iconst F 0 dX10_clause_232 (by decide) ?_
    refine z_iconst F 5 dX10_clause_233 (by decide) ?_
    refine z_callV F (k' := 3) (mc' := 0) [.int 0, .int 5] [.int 1, .ref (G.2.1 54 ((s0 : Int32).toNatClampNeg))] dX10_clause_234 rfl rfl (by decide) rfl cl_X10_163 hy_X10_number (by omega) (by decide) (by decide) (Nat.le_of_ble_eq_true rfl) rfl (con_mono h ?_ (fun _ _ h => h))
    rintro _ w27 ⟨v26, rfl, h⟩
    show Z M G 0 K X w27 237 [some (.ref (G.2.1 40 0)), some (.int x1), some (.int s0), none] [.int v26, .int 1, .ref (G.2.1 54 ((s0 : Int32).toNatClampNeg))]
    refine z_iastW F 1 (by decide) rfl hv25 (by unfold vp_in; decide) dX10_clause_237 (fun w28 hw28 => ?_)
    have h := h w28 hw28
    refine z_goto F 266 dX10_clause_238 (by decide) ?_
    exact z_weak h (⟨rfl, ⟨rfl, trivial⟩⟩)
  have e0 := lv_neT hc0 (show (0 : Int32).toInt = 0 by decide)
  have e1 := lv_neT hc1 (show (1 : Int32).toInt = 1 by decide)
  have e2 := lv_neT hc2 (show (2 : Int32).toInt = 2 by decide)
  have h := h.2.2.2 ⟨hc0, hc1, hc2⟩
  refine z_tabOut F 241 dX10_clause_97 (by omega) (by decide) ?_
  refine z_aload_n F dX10_clause_241 rfl ?_
  refine z_iconst F 0 dX10_clause_242 (by decide) ?_
  refine z_bipush F 30 dX10_clause_243 (by decide) ?_
  refine z_callV F (k' := 3) (mc' := 0) [.int 0, .int 30] [] dX10_clause_245 rfl rfl (by decide) rfl cl_X10_163 hy_X10_number (by omega) (by decide) (by decide) (Nat.le_of_ble_eq_true rfl) rfl (con_mono h ?_ (fun _ _ h => h))
  rintro _ w30 ⟨v29, rfl, h⟩
  show Z M G 0 K X w30 248 [some (.ref (G.2.1 40 0)), some (.int x1), some (.int s0), none] [.int v29]
  refine z_istore_n F dX10_clause_248 (Nat.le_of_ble_eq_true rfl) ?_
  refine z_aload_n F dX10_clause_249 rfl ?_
  refine z_getI F 5 rfl (by decide) (by decide) rfl lk_X10_111 dX10_clause_250 ?_
  refine z_if_ne F 266 dX10_clause_253 (by decide) ⟨fun hc => ?_, fun hc => ?_⟩
  · have h := h.1 hc
    exact z_weak h (⟨rfl, ⟨rfl, trivial⟩⟩)
  · have h := h.2 hc
    refine z_aload_n F dX10_clause_256 rfl ?_
    refine z_getR F 11 43 0 rfl (by decide) (by decide) rfl rfl rfl lk_X10_20 dX10_clause_257 ?_
    refine z_iconst F 3 dX10_clause_260 (by decide) ?_
    refine z_iload_n F dX10_clause_261 rfl ?_
    refine z_iastW F 3 (by decide) rfl (by decide) (by unfold vp_in; decide) dX10_clause_262 (fun w31 hw31 => ?_)
    have h := h w31 hw31
    refine z_goto F 266 dX10_clause_263 (by decide) ?_
    exact z_weak h (⟨rfl, ⟨rfl, trivial⟩⟩)
set_option maxRecDepth 20000 in
theorem b_X10_clause_266 {M : Mx} {G : Gx} {kk : Nat} {w : Wd}  {x1 : Int32} {K : Option Value → Wd → Prop} {X : String → Wd → Prop} (F : Fx M G RX10 cX10_clause 4 none kk 0) (hk : 6 ≤ kk)
    (h : Con (mL M) G 3 0 yX10_sign cX10_sign 2 none w [.ref (G.2.1 40 0), .int 59] (fun r w2 => r = none ∧ ((3 ≤ x1 → K none w2) ∧ (¬ (3 ≤ x1) → (vp_in x1 4 ∧ ((¬ (w2.1 40 0 5) = 0 → (vp_in x1 4 ∧ ∀ w3 : Wd, w3 = setI w2 43 0 ((x1 : Int32).toNatClampNeg) ((w2.1 43 0 ((x1 : Int32).toNatClampNeg)) + (0 : Int32)) → K none w3)) ∧ (¬ (¬ (w2.1 40 0 5) = 0) → (vp_in x1 4 ∧ ∀ w4 : Wd, w4 = setI w2 43 0 ((x1 : Int32).toNatClampNeg) ((w2.1 43 0 ((x1 : Int32).toNatClampNeg)) + (1 : Int32)) → K none w4))))))) X) :
    Z M G 0 K X w 266 [some (.ref (G.2.1 40 0)), some (.int x1), none, none] [] := by
  refine z_aload_n F dX10_clause_266 rfl ?_
  refine z_bipush F 59 dX10_clause_267 (by decide) ?_
  refine z_callV F (k' := 3) (mc' := 0) [.int 59] [] dX10_clause_269 rfl rfl (by decide) rfl cl_X10_167 hy_X10_sign (by omega) (by decide) (by decide) (Nat.le_of_ble_eq_true rfl) rfl (con_mono h ?_ (fun _ _ h => h))
  rintro _ w2 ⟨rfl, h⟩
  show Z M G 0 K X w2 272 [some (.ref (G.2.1 40 0)), some (.int x1), none, none] []
  refine z_iload_n F dX10_clause_272 rfl ?_
  refine z_iconst F 3 dX10_clause_273 (by decide) ?_
  refine z_icmp_ge F 298 dX10_clause_274 (by decide) ⟨fun hc => ?_, fun hc => ?_⟩
  · have h := h.1 hc
    exact z_vret F dX10_clause_298 (by decide) h
  · have h := h.2 hc
    refine z_aload_n F dX10_clause_277 rfl ?_
    refine z_getR F 11 43 0 rfl (by decide) (by decide) rfl rfl rfl lk_X10_20 dX10_clause_278 ?_
    refine z_iload_n F dX10_clause_281 rfl ?_
    refine z_dup2 F dX10_clause_282 rfl rfl ?_
    obtain ⟨hb, h⟩ := h
    refine z_ialdK F ((x1 : Int32).toNatClampNeg) rfl rfl (by decide) hb dX10_clause_283 ?_
    refine z_aload_n F dX10_clause_284 rfl ?_
    refine z_getI F 5 rfl (by decide) (by decide) rfl lk_X10_111 dX10_clause_285 ?_
    refine z_if_ne F 295 dX10_clause_288 (by decide) ⟨fun hc => ?_, fun hc => ?_⟩
    · have h := h.1 hc
      refine z_iconst F 0 dX10_clause_295 (by decide) ?_
      refine z_iadd F dX10_clause_296 ?_
      obtain ⟨hb, h⟩ := h
      refine z_iastW F ((x1 : Int32).toNatClampNeg) rfl rfl (by decide) hb dX10_clause_297 (fun w3 hw3 => ?_)
      have h := h w3 hw3
      exact z_vret F dX10_clause_298 (by decide) h
    · have h := h.2 hc
      refine z_iconst F 1 dX10_clause_291 (by decide) ?_
      refine z_goto F 296 dX10_clause_292 (by decide) ?_
      refine z_iadd F dX10_clause_296 ?_
      obtain ⟨hb, h⟩ := h
      refine z_iastW F ((x1 : Int32).toNatClampNeg) rfl rfl (by decide) hb dX10_clause_297 (fun w4 hw4 => ?_)
      have h := h w4 hw4
      exact z_vret F dX10_clause_298 (by decide) h
set_option maxRecDepth 20000 in
theorem e_X10_choir {l : Launch} {G : Gx} {w : Wd} {p0 : Int32} {K : Option Value → Wd → Prop} {X : String → Wd → Prop} (hl : l.stackTraces = false)
    (h : ∀ (M : Mx) (kk : Nat), mL M = l → 7 ≤ kk → Fx M G RX10 cX10_choir 2 (some .int) kk 0 → (∀ w1 : Wd, w1 = setI w 40 0 0 0 → Con (mL M) G 1 0 yX10_in cX10_in 3 (some .boolean) w1 [.int p0, .int 0, .int (w1.1 40 0 1)] (fun r w3 => ∃ v2 : Int32, r = some (.int v2) ∧ ((¬ v2 = 0 → Z M G 0 K X w3 23 [some (.ref (G.2.1 40 0)), some (.int p0)] [.int 0, .ref (G.2.1 40 0)]) ∧ (¬ (¬ v2 = 0) → Z M G 0 K X w3 23 [some (.ref (G.2.1 40 0)), some (.int p0)] [.int 1, .ref (G.2.1 40 0)]))) X)) :
    Con l G 7 0 yX10_choir cX10_choir 2 (some .int) w [.ref (G.2.1 40 0), .int p0] K X := by
  refine con_intro hl (by decide +kernel) (Nat.le_of_ble_eq_true rfl) (Nat.le_of_ble_eq_true rfl) (fun M kk hM hk F => ?_)
  have h := h M kk hM hk F
  show Z M G 0 K X w 0 [some (.ref (G.2.1 40 0)), some (.int p0)] []
  refine z_aload_n F dX10_choir_0 rfl ?_
  refine z_iconst F 0 dX10_choir_1 (by decide) ?_
  refine z_putIW F 0 rfl (by decide) (by decide) rfl lk_X10_95 dX10_choir_2 (fun w1 hw1 => ?_)
  have h := h w1 hw1
  refine z_aload_n F dX10_choir_5 rfl ?_
  refine z_iload_n F dX10_choir_6 rfl ?_
  refine z_iconst F 0 dX10_choir_7 (by decide) ?_
  refine z_aload_n F dX10_choir_8 rfl ?_
  refine z_getI F 1 rfl (by decide) (by decide) rfl lk_X10_98 dX10_choir_9 ?_
  refine z_callS F (k' := 1) (mc' := 0) [.int p0, .int 0, .int (w1.1 40 0 1)] [.ref (G.2.1 40 0)] dX10_choir_12 rfl cl_X10_129 hy_X10_in.2 (by omega) (by decide) (by decide) (Nat.le_of_ble_eq_true rfl) rfl (con_mono h ?_ (fun _ _ h => h))
  rintro _ w3 ⟨v2, rfl, h⟩
  show Z M G 0 K X w3 15 [some (.ref (G.2.1 40 0)), some (.int p0)] [.int v2, .ref (G.2.1 40 0)]
  refine z_if_ne F 22 dX10_choir_15 (by decide) ⟨fun hc => ?_, fun hc => ?_⟩
  · have h := h.1 hc
    refine z_iconst F 0 dX10_choir_22 (by decide) ?_
    exact h
  · have h := h.2 hc
    refine z_iconst F 1 dX10_choir_18 (by decide) ?_
    refine z_goto F 23 dX10_choir_19 (by decide) ?_
    exact h
set_option maxRecDepth 20000 in
theorem b_X10_choir_23 {M : Mx} {G : Gx} {kk : Nat} {w : Wd}  {x1 : Int32} {s0 : Int32} {K : Option Value → Wd → Prop} {X : String → Wd → Prop} (F : Fx M G RX10 cX10_choir 2 (some .int) kk 0) (hk : 7 ≤ kk)
    (h : Con (mL M) G 1 0 yX10_bad cX10_bad 4 (some .boolean) w [.ref (G.2.1 40 0), .int s0, .int 1, .int 1] (fun r w2 => ∃ v1 : Int32, r = some (.int v1) ∧ ((v1 = 0 → Con (mL M) G 3 0 yX10_starts cX10_starts 2 none w2 [.ref (G.2.1 40 0), .int x1] (fun r w4 => r = none ∧ Con (mL M) G 1 0 yX10_tellsNothing cX10_tellsNothing 2 none w4 [.ref (G.2.1 40 0)] (fun r w6 => r = none ∧ Z M G 0 K X w6 42 [some (.ref (G.2.1 40 0)), none] []) X) X) ∧ (¬ (v1 = 0) → K (some (.int 0)) w2))) X) :
    Z M G 0 K X w 23 [some (.ref (G.2.1 40 0)), some (.int x1)] [.int s0, .ref (G.2.1 40 0)] := by
  refine z_iconst F 1 dX10_choir_23 (by decide) ?_
  refine z_iconst F 1 dX10_choir_24 (by decide) ?_
  refine z_callV F (k' := 1) (mc' := 0) [.int s0, .int 1, .int 1] [] dX10_choir_25 rfl rfl (by decide) rfl cl_X10_171 hy_X10_bad (by omega) (by decide) (by decide) (Nat.le_of_ble_eq_true rfl) rfl (con_mono h ?_ (fun _ _ h => h))
  rintro _ w2 ⟨v1, rfl, h⟩
  show Z M G 0 K X w2 28 [some (.ref (G.2.1 40 0)), some (.int x1)] [.int v1]
  refine z_if_eq F 33 dX10_choir_28 (by decide) ⟨fun hc => ?_, fun hc => ?_⟩
  · have h := h.1 hc
    refine z_aload_n F dX10_choir_33 rfl ?_
    refine z_iload_n F dX10_choir_34 rfl ?_
    refine z_callV F (k' := 3) (mc' := 0) [.int x1] [] dX10_choir_35 rfl rfl (by decide) rfl cl_X10_175 hy_X10_starts (by omega) (by decide) (by decide) (Nat.le_of_ble_eq_true rfl) rfl (con_mono h ?_ (fun _ _ h => h))
    rintro _ w4 ⟨rfl, h⟩
    show Z M G 0 K X w4 38 [some (.ref (G.2.1 40 0)), some (.int x1)] []
    refine z_aload_n F dX10_choir_38 rfl ?_
    refine z_callV F (k' := 1) (mc' := 0) [] [] dX10_choir_39 rfl rfl (by decide) rfl cl_X10_89 hy_X10_tellsNothing (by omega) (by decide) (by decide) (Nat.le_of_ble_eq_true rfl) rfl (con_mono h ?_ (fun _ _ h => h))
    rintro _ w6 ⟨rfl, h⟩
    show Z M G 0 K X w6 42 [some (.ref (G.2.1 40 0)), some (.int x1)] []
    exact z_weak h (⟨rfl, trivial⟩)
  · have h := h.2 hc
    refine z_iconst F 0 dX10_choir_31 (by decide) ?_
    exact z_iret F dX10_choir_32 (by decide) h
set_option maxRecDepth 20000 in
theorem b_X10_choir_42 {M : Mx} {G : Gx} {kk : Nat} {w : Wd}   {K : Option Value → Wd → Prop} {X : String → Wd → Prop} (F : Fx M G RX10 cX10_choir 2 (some .int) kk 0) (hk : 7 ≤ kk)
    (h : ((¬ (w.1 40 0 5) = 0 → Z M G 0 K X w 71 [some (.ref (G.2.1 40 0)), none] []) ∧ (¬ (¬ (w.1 40 0 5) = 0) → (((w.1 40 0 2) ≤ (w.1 40 0 4) → Z M G 0 K X w 71 [some (.ref (G.2.1 40 0)), none] []) ∧ (¬ ((w.1 40 0 2) ≤ (w.1 40 0 4)) → Con (mL M) G 6 0 yX10_clause cX10_clause 4 none w [.ref (G.2.1 40 0)] (fun r w2 => r = none ∧ Con (mL M) G 2 0 yX10_blanks cX10_blanks 1 none w2 [.ref (G.2.1 40 0)] (fun r w4 => r = none ∧ Z M G 0 K X w4 42 [some (.ref (G.2.1 40 0)), none] []) X) X))))) :
    Z M G 0 K X w 42 [some (.ref (G.2.1 40 0)), none] [] := by
  refine z_aload_n F dX10_choir_42 rfl ?_
  refine z_getI F 5 rfl (by decide) (by decide) rfl lk_X10_111 dX10_choir_43 ?_
  refine z_if_ne F 71 dX10_choir_46 (by decide) ⟨fun hc => ?_, fun hc => ?_⟩
  · have h := h.1 hc
    exact h
  · have h := h.2 hc
    refine z_aload_n F dX10_choir_49 rfl ?_
    refine z_getI F 4 rfl (by decide) (by decide) rfl lk_X10_104 dX10_choir_50 ?_
    refine z_aload_n F dX10_choir_53 rfl ?_
    refine z_getI F 2 rfl (by decide) (by decide) rfl lk_X10_101 dX10_choir_54 ?_
    refine z_icmp_ge F 71 dX10_choir_57 (by decide) ⟨fun hc => ?_, fun hc => ?_⟩
    · have h := h.1 hc
      exact h
    · have h := h.2 hc
      refine z_aload_n F dX10_choir_60 rfl ?_
      refine z_callV F (k' := 6) (mc' := 0) [] [] dX10_choir_61 rfl rfl (by decide) rfl cl_X10_178 hy_X10_clause (by omega) (by decide) (by decide) (Nat.le_of_ble_eq_true rfl) rfl (con_mono h ?_ (fun _ _ h => h))
      rintro _ w2 ⟨rfl, h⟩
      show Z M G 0 K X w2 64 [some (.ref (G.2.1 40 0)), none] []
      refine z_aload_n F dX10_choir_64 rfl ?_
      refine z_callV F (k' := 2) (mc' := 0) [] [] dX10_choir_65 rfl rfl (by decide) rfl cl_X10_117 hy_X10_blanks (by omega) (by decide) (by decide) (Nat.le_of_ble_eq_true rfl) rfl (con_mono h ?_ (fun _ _ h => h))
      rintro _ w4 ⟨rfl, h⟩
      show Z M G 0 K X w4 68 [some (.ref (G.2.1 40 0)), none] []
      refine z_goto F 42 dX10_choir_68 (by decide) ?_
      exact h
set_option maxRecDepth 20000 in
theorem b_X10_choir_71 {M : Mx} {G : Gx} {kk : Nat} {w : Wd}   {K : Option Value → Wd → Prop} {X : String → Wd → Prop} (F : Fx M G RX10 cX10_choir 2 (some .int) kk 0) (hk : 7 ≤ kk)
    (h : (((w.1 40 0 5) = 0 → (∀ w1 : Wd, w1 = setI w 40 0 3 (-1) → Con (mL M) G 2 0 yX10_beginsAnew cX10_beginsAnew 2 none w1 [.ref (G.2.1 40 0)] (fun r w3 => r = none ∧ K (some (.int (w3.1 44 0 0))) w3) X)) ∧ (¬ ((w.1 40 0 5) = 0) → Con (mL M) G 1 0 yX10_ends cX10_ends 1 (some .int) w [.ref (G.2.1 40 0)] (fun r w5 => ∃ v4 : Int32, r = some (.int v4) ∧ K (some (.int v4)) w5) X))) :
    Z M G 0 K X w 71 [some (.ref (G.2.1 40 0)), none] [] := by
  refine z_aload_n F dX10_choir_71 rfl ?_
  refine z_getI F 5 rfl (by decide) (by decide) rfl lk_X10_111 dX10_choir_72 ?_
  refine z_if_eq F 83 dX10_choir_75 (by decide) ⟨fun hc => ?_, fun hc => ?_⟩
  · have h := h.1 hc
    refine z_aload_n F dX10_choir_83 rfl ?_
    refine z_iconst F (-1) dX10_choir_84 (by decide) ?_
    refine z_putIW F 3 rfl (by decide) (by decide) rfl lk_X10_9 dX10_choir_85 (fun w1 hw1 => ?_)
    have h := h w1 hw1
    refine z_aload_n F dX10_choir_88 rfl ?_
    refine z_callV F (k' := 2) (mc' := 0) [] [] dX10_choir_89 rfl rfl (by decide) rfl cl_X10_92 hy_X10_beginsAnew (by omega) (by decide) (by decide) (Nat.le_of_ble_eq_true rfl) rfl (con_mono h ?_ (fun _ _ h => h))
    rintro _ w3 ⟨rfl, h⟩
    show Z M G 0 K X w3 92 [some (.ref (G.2.1 40 0)), none] []
    refine z_aload_n F dX10_choir_92 rfl ?_
    refine z_getR F 12 44 0 rfl (by decide) (by decide) rfl rfl rfl lk_X10_23 dX10_choir_93 ?_
    refine z_iconst F 0 dX10_choir_96 (by decide) ?_
    refine z_ialdK F 0 (by decide) rfl (by decide) (by unfold vp_in; decide) dX10_choir_97 ?_
    exact z_iret F dX10_choir_98 (by decide) h
  · have h := h.2 hc
    refine z_aload_n F dX10_choir_78 rfl ?_
    refine z_callV F (k' := 1) (mc' := 0) [] [] dX10_choir_79 rfl rfl (by decide) rfl cl_X10_181 hy_X10_ends (by omega) (by decide) (by decide) (Nat.le_of_ble_eq_true rfl) rfl (con_mono h ?_ (fun _ _ h => h))
    rintro _ w5 ⟨v4, rfl, h⟩
    show Z M G 0 K X w5 82 [some (.ref (G.2.1 40 0)), none] [.int v4]
    exact z_iret F dX10_choir_82 (by decide) h
set_option maxRecDepth 20000 in
theorem e_X10_lays {l : Launch} {G : Gx} {w : Wd} {κ0 jr0 m0 κe0 me0 : Nat} (hq0 : ka κ0 = some (5, m0)) (hr0 : jr0 < cnt κ0) (he0 : er κ0 = κe0) (hx0 : ∀ i, eix κ0 jr0 i = i) (hqe0 : ka κe0 = some (0, me0)) {κ1 jr1 m1 κe1 me1 : Nat} (hq1 : ka κ1 = some (5, m1)) (hr1 : jr1 < cnt κ1) (he1 : er κ1 = κe1) (hx1 : ∀ i, eix κ1 jr1 i = i) (hqe1 : ka κe1 = some (0, me1)) {p2 : Int32} {K : Option Value → Wd → Prop} {X : String → Wd → Prop} (hl : l.stackTraces = false)
    (h : ∀ (M : Mx) (kk : Nat), mL M = l → 1 ≤ kk → Fx M G RX10 cX10_lays 5 none kk 0 → Z M G 0 K X w 2 [some (.ref (G.2.1 κ0 jr0)), some (.ref (G.2.1 κ1 jr1)), some (.int p2), some (.int 0), none] []) :
    Con l G 1 0 yX10_lays cX10_lays 5 none w [.ref (G.2.1 κ0 jr0), .ref (G.2.1 κ1 jr1), .int p2] K X := by
  refine con_intro hl (by decide +kernel) (Nat.le_of_ble_eq_true rfl) (Nat.le_of_ble_eq_true rfl) (fun M kk hM hk F => ?_)
  have h := h M kk hM hk F
  show Z M G 0 K X w 0 [some (.ref (G.2.1 κ0 jr0)), some (.ref (G.2.1 κ1 jr1)), some (.int p2), none, none] []
  refine z_iconst F 0 dX10_lays_0 (by decide) ?_
  refine z_istore_n F dX10_lays_1 (Nat.le_of_ble_eq_true rfl) ?_
  exact h
set_option maxRecDepth 20000 in
theorem b_X10_lays_2 {M : Mx} {G : Gx} {kk : Nat} {w : Wd} {κ0 jr0 m0 κe0 me0 : Nat} (hq0 : ka κ0 = some (5, m0)) (hr0 : jr0 < cnt κ0) (he0 : er κ0 = κe0) (hx0 : ∀ i, eix κ0 jr0 i = i) (hqe0 : ka κe0 = some (0, me0)) {κ1 jr1 m1 κe1 me1 : Nat} (hq1 : ka κ1 = some (5, m1)) (hr1 : jr1 < cnt κ1) (he1 : er κ1 = κe1) (hx1 : ∀ i, eix κ1 jr1 i = i) (hqe1 : ka κe1 = some (0, me1)) {x2 : Int32} {x3 : Int32} {K : Option Value → Wd → Prop} {X : String → Wd → Prop} (F : Fx M G RX10 cX10_lays 5 none kk 0) (hk : 1 ≤ kk)
    (h : ((x2 ≤ x3 → K none w) ∧ (¬ (x2 ≤ x3) → Z M G 0 K X w 10 [some (.ref (G.2.1 κ0 jr0)), some (.ref (G.2.1 κ1 jr1)), some (.int x2), some (.int x3), some (.int 0)] []))) :
    Z M G 0 K X w 2 [some (.ref (G.2.1 κ0 jr0)), some (.ref (G.2.1 κ1 jr1)), some (.int x2), some (.int x3), none] [] := by
  refine z_iload_n F dX10_lays_2 rfl ?_
  refine z_iload_n F dX10_lays_3 rfl ?_
  refine z_icmp_ge F 43 dX10_lays_4 (by decide) ⟨fun hc => ?_, fun hc => ?_⟩
  · have h := h.1 hc
    exact z_vret F dX10_lays_43 (by decide) h
  · have h := h.2 hc
    refine z_iconst F 0 dX10_lays_7 (by decide) ?_
    refine z_istore F dX10_lays_8 (Nat.le_of_ble_eq_true rfl) ?_
    exact h
set_option maxRecDepth 20000 in
theorem b_X10_lays_10 {M : Mx} {G : Gx} {kk : Nat} {w : Wd} {κ0 jr0 m0 κe0 me0 : Nat} (hq0 : ka κ0 = some (5, m0)) (hr0 : jr0 < cnt κ0) (he0 : er κ0 = κe0) (hx0 : ∀ i, eix κ0 jr0 i = i) (hqe0 : ka κe0 = some (0, me0)) {κ1 jr1 m1 κe1 me1 : Nat} (hq1 : ka κ1 = some (5, m1)) (hr1 : jr1 < cnt κ1) (he1 : er κ1 = κe1) (hx1 : ∀ i, eix κ1 jr1 i = i) (hqe1 : ka κe1 = some (0, me1)) {x2 : Int32} {x3 : Int32} {x4 : Int32} {K : Option Value → Wd → Prop} {X : String → Wd → Prop} (F : Fx M G RX10 cX10_lays 5 none kk 0) (hk : 1 ≤ kk)
    (h : (vp_in x3 m1 ∧ (((Int32.ofNat me1) ≤ x4 → Z M G 0 K X w 2 [some (.ref (G.2.1 κ0 jr0)), some (.ref (G.2.1 κ1 jr1)), some (.int x2), some (.int (x3 + 1)), none] []) ∧ (¬ ((Int32.ofNat me1) ≤ x4) → (vp_in x3 m1 ∧ (vp_in x3 m0 ∧ (vp_in x4 me0 ∧ (vp_in x4 me1 ∧ ∀ w4 : Wd, w4 = setI w κe1 ((x3 : Int32).toNatClampNeg) ((x4 : Int32).toNatClampNeg) (w.1 κe0 ((x3 : Int32).toNatClampNeg) ((x4 : Int32).toNatClampNeg)) → Z M G 0 K X w4 10 [some (.ref (G.2.1 κ0 jr0)), some (.ref (G.2.1 κ1 jr1)), some (.int x2), some (.int x3), some (.int (x4 + 1))] [])))))))) :
    Z M G 0 K X w 10 [some (.ref (G.2.1 κ0 jr0)), some (.ref (G.2.1 κ1 jr1)), some (.int x2), some (.int x3), some (.int x4)] [] := by
  refine z_iload F dX10_lays_10 rfl ?_
  refine z_aload_n F dX10_lays_12 rfl ?_
  refine z_iload_n F dX10_lays_13 rfl ?_
  obtain ⟨hb, h⟩ := h
  refine z_aald F κe1 ((x3 : Int32).toNatClampNeg) hq1 (by decide) (by decide) hr1 he1 (hx1 _) hb dX10_lays_14 (fun hv1 => ?_)
  refine z_alen F (Int32.ofNat me1) hqe1 (by decide) hv1 (by first | rfl | decide) dX10_lays_15 ?_
  refine z_icmp_ge F 37 dX10_lays_16 (by decide) ⟨fun hc => ?_, fun hc => ?_⟩
  · have h := h.1 hc
    refine z_iinc F (x3 + 1) dX10_lays_37 rfl rfl (Nat.le_of_ble_eq_true rfl) ?_
    refine z_goto F 2 dX10_lays_40 (by decide) ?_
    exact z_weak h (⟨rfl, ⟨rfl, ⟨rfl, ⟨rfl, trivial⟩⟩⟩⟩)
  · have h := h.2 hc
    refine z_aload_n F dX10_lays_19 rfl ?_
    refine z_iload_n F dX10_lays_20 rfl ?_
    obtain ⟨hb, h⟩ := h
    refine z_aald F κe1 ((x3 : Int32).toNatClampNeg) hq1 (by decide) (by decide) hr1 he1 (hx1 _) hb dX10_lays_21 (fun hv2 => ?_)
    refine z_iload F dX10_lays_22 rfl ?_
    refine z_aload_n F dX10_lays_24 rfl ?_
    refine z_iload_n F dX10_lays_25 rfl ?_
    obtain ⟨hb, h⟩ := h
    refine z_aald F κe0 ((x3 : Int32).toNatClampNeg) hq0 (by decide) (by decide) hr0 he0 (hx0 _) hb dX10_lays_26 (fun hv3 => ?_)
    refine z_iload F dX10_lays_27 rfl ?_
    obtain ⟨hb, h⟩ := h
    refine z_ialdK F ((x4 : Int32).toNatClampNeg) rfl hqe0 hv3 hb dX10_lays_29 ?_
    obtain ⟨hb, h⟩ := h
    refine z_iastW F ((x4 : Int32).toNatClampNeg) rfl hqe1 hv2 hb dX10_lays_30 (fun w4 hw4 => ?_)
    have h := h w4 hw4
    refine z_iinc F (x4 + 1) dX10_lays_31 rfl rfl (Nat.le_of_ble_eq_true rfl) ?_
    refine z_goto F 10 dX10_lays_34 (by decide) ?_
    exact h
set_option maxRecDepth 20000 in
theorem e_X10_copies {l : Launch} {G : Gx} {w : Wd} {jr0 : Nat} (hr0 : jr0 < cnt 69) {jr1 : Nat} (hr1 : jr1 < cnt 69) {K : Option Value → Wd → Prop} {X : String → Wd → Prop} (hl : l.stackTraces = false)
    (h : ∀ (M : Mx) (kk : Nat), mL M = l → 1 ≤ kk → Fx M G RX10 cX10_copies 3 none kk 0 → Z M G 0 K X w 2 [some (.ref (G.2.1 69 jr0)), some (.ref (G.2.1 69 jr1)), some (.int 0)] []) :
    Con l G 1 0 yX10_copies cX10_copies 3 none w [.ref (G.2.1 69 jr0), .ref (G.2.1 69 jr1)] K X := by
  refine con_intro hl (by decide +kernel) (Nat.le_of_ble_eq_true rfl) (Nat.le_of_ble_eq_true rfl) (fun M kk hM hk F => ?_)
  have h := h M kk hM hk F
  show Z M G 0 K X w 0 [some (.ref (G.2.1 69 jr0)), some (.ref (G.2.1 69 jr1)), none] []
  refine z_iconst F 0 dX10_copies_0 (by decide) ?_
  refine z_istore_n F dX10_copies_1 (Nat.le_of_ble_eq_true rfl) ?_
  exact h
set_option maxRecDepth 20000 in
theorem b_X10_copies_2 {M : Mx} {G : Gx} {kk : Nat} {w : Wd} {jr0 : Nat} (hr0 : jr0 < cnt 69) {jr1 : Nat} (hr1 : jr1 < cnt 69) {x2 : Int32} {K : Option Value → Wd → Prop} {X : String → Wd → Prop} (F : Fx M G RX10 cX10_copies 3 none kk 0) (hk : 1 ≤ kk)
    (h : ((57 ≤ x2 → K none w) ∧ (¬ (57 ≤ x2) → (vp_in x2 57 ∧ (vp_in x2 57 ∧ ∀ w1 : Wd, w1 = setI w 69 jr1 ((x2 : Int32).toNatClampNeg) (w.1 69 jr0 ((x2 : Int32).toNatClampNeg)) → Z M G 0 K X w1 2 [some (.ref (G.2.1 69 jr0)), some (.ref (G.2.1 69 jr1)), some (.int (x2 + 1))] []))))) :
    Z M G 0 K X w 2 [some (.ref (G.2.1 69 jr0)), some (.ref (G.2.1 69 jr1)), some (.int x2)] [] := by
  refine z_iload_n F dX10_copies_2 rfl ?_
  refine z_bipush F 57 dX10_copies_3 (by decide) ?_
  refine z_icmp_ge F 20 dX10_copies_5 (by decide) ⟨fun hc => ?_, fun hc => ?_⟩
  · have h := h.1 hc
    exact z_vret F dX10_copies_20 (by decide) h
  · have h := h.2 hc
    refine z_aload_n F dX10_copies_8 rfl ?_
    refine z_iload_n F dX10_copies_9 rfl ?_
    refine z_aload_n F dX10_copies_10 rfl ?_
    refine z_iload_n F dX10_copies_11 rfl ?_
    obtain ⟨hb, h⟩ := h
    refine z_ialdK F ((x2 : Int32).toNatClampNeg) rfl rfl hr0 hb dX10_copies_12 ?_
    obtain ⟨hb, h⟩ := h
    refine z_iastW F ((x2 : Int32).toNatClampNeg) rfl rfl hr1 hb dX10_copies_13 (fun w1 hw1 => ?_)
    have h := h w1 hw1
    refine z_iinc F (x2 + 1) dX10_copies_14 rfl rfl (Nat.le_of_ble_eq_true rfl) ?_
    refine z_goto F 2 dX10_copies_17 (by decide) ?_
    exact h
