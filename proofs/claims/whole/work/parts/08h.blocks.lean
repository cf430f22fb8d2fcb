set_option maxRecDepth 20000 in
theorem e_X10_duty {l : Launch} {G : Gx} {w : Wd} {p0 : Int32} {K : Option Value → Wd → Prop} {X : String → Wd → Prop} (hl : l.stackTraces = false)
    (h : ∀ (M : Mx) (kk : Nat), mL M = l → 8 ≤ kk → Fx M G RX10 cX10_duty 4 (some .int) kk 0 → (∀ w1 : Wd, w1 = setI w 40 0 0 0 → Con (mL M) G 2 0 yX10_isSinger cX10_isSinger 2 (some .boolean) w1 [.ref (G.2.1 40 0), .int p0] (fun r w3 => ∃ v2 : Int32, r = some (.int v2) ∧ ((¬ v2 = 0 → Z M G 0 K X w3 19 [some (.ref (G.2.1 40 0)), some (.int p0), none, none] [.int 0, .ref (G.2.1 40 0)]) ∧ (¬ (¬ v2 = 0) → Z M G 0 K X w3 19 [some (.ref (G.2.1 40 0)), some (.int p0), none, none] [.int 1, .ref (G.2.1 40 0)]))) X)) :
    Con l G 8 0 yX10_duty cX10_duty 4 (some .int) w [.ref (G.2.1 40 0), .int p0] K X := by
  refine con_intro hl (by decide +kernel) (Nat.le_of_ble_eq_true rfl) (Nat.le_of_ble_eq_true rfl) (fun M kk hM hk F => ?_)
  have h := h M kk hM hk F
  show Z M G 0 K X w 0 [some (.ref (G.2.1 40 0)), some (.int p0), none, none] []
  refine z_aload_n F dX10_duty_0 rfl ?_
  refine z_iconst F 0 dX10_duty_1 (by decide) ?_
  refine z_putIW F 0 rfl (by decide) (by decide) rfl lk_X10_95 dX10_duty_2 (fun w1 hw1 => ?_)
  have h := h w1 hw1
  refine z_aload_n F dX10_duty_5 rfl ?_
  refine z_aload_n F dX10_duty_6 rfl ?_
  refine z_iload_n F dX10_duty_7 rfl ?_
  refine z_callV F (k' := 2) (mc' := 0) [.int p0] [.ref (G.2.1 40 0)] dX10_duty_8 rfl rfl (by decide) rfl cl_X10_321 hy_X10_isSinger (by omega) (by decide) (by decide) (Nat.le_of_ble_eq_true rfl) rfl (con_mono h ?_ (fun _ _ h => h))
  rintro _ w3 ⟨v2, rfl, h⟩
  show Z M G 0 K X w3 11 [some (.ref (G.2.1 40 0)), some (.int p0), none, none] [.int v2, .ref (G.2.1 40 0)]
  refine z_if_ne F 18 dX10_duty_11 (by decide) ⟨fun hc => ?_, fun hc => ?_⟩
  · have h := h.1 hc
    refine z_iconst F 0 dX10_duty_18 (by decide) ?_
    exact h
  · have h := h.2 hc
    refine z_iconst F 1 dX10_duty_14 (by decide) ?_
    refine z_goto F 19 dX10_duty_15 (by decide) ?_
    exact h
set_option maxRecDepth 20000 in
theorem b_X10_duty_19 {M : Mx} {G : Gx} {kk : Nat} {w : Wd}  {x1 : Int32} {s0 : Int32} {K : Option Value → Wd → Prop} {X : String → Wd → Prop} (F : Fx M G RX10 cX10_duty 4 (some .int) kk 0) (hk : 8 ≤ kk)
    (h : Con (mL M) G 1 0 yX10_bad cX10_bad 4 (some .boolean) w [.ref (G.2.1 40 0), .int s0, .int 1, .int 0] (fun r w2 => ∃ v1 : Int32, r = some (.int v1) ∧ ((v1 = 0 → Con (mL M) G 1 0 yX10_copies cX10_copies 3 none w2 [.ref (G.2.1 69 0), .ref (G.2.1 69 1)] (fun r w4 => r = none ∧ Z M G 0 K X w4 44 [some (.ref (G.2.1 40 0)), some (.int x1), some (.int 0), some (.int 0)] []) X) ∧ (¬ (v1 = 0) → K (some (.int 0)) w2))) X) :
    Z M G 0 K X w 19 [some (.ref (G.2.1 40 0)), some (.int x1), none, none] [.int s0, .ref (G.2.1 40 0)] := by
  refine z_iconst F 1 dX10_duty_19 (by decide) ?_
  refine z_iconst F 0 dX10_duty_20 (by decide) ?_
  refine z_callV F (k' := 1) (mc' := 0) [.int s0, .int 1, .int 0] [] dX10_duty_21 rfl rfl (by decide) rfl cl_X10_171 hy_X10_bad (by omega) (by decide) (by decide) (Nat.le_of_ble_eq_true rfl) rfl (con_mono h ?_ (fun _ _ h => h))
  rintro _ w2 ⟨v1, rfl, h⟩
  show Z M G 0 K X w2 24 [some (.ref (G.2.1 40 0)), some (.int x1), none, none] [.int v1]
  refine z_if_eq F 29 dX10_duty_24 (by decide) ⟨fun hc => ?_, fun hc => ?_⟩
  · have h := h.1 hc
    refine z_iconst F 0 dX10_duty_29 (by decide) ?_
    refine z_istore_n F dX10_duty_30 (Nat.le_of_ble_eq_true rfl) ?_
    refine z_aload_n F dX10_duty_31 rfl ?_
    refine z_getR F 29 69 0 rfl (by decide) (by decide) rfl rfl rfl lk_X10_67 dX10_duty_32 ?_
    refine z_aload_n F dX10_duty_35 rfl ?_
    refine z_getR F 30 69 1 rfl (by decide) (by decide) rfl rfl rfl lk_X10_70 dX10_duty_36 ?_
    refine z_callS F (k' := 1) (mc' := 0) [.ref (G.2.1 69 0), .ref (G.2.1 69 1)] [] dX10_duty_39 rfl cl_X10_310 hy_X10_copies.2 (by omega) (by decide) (by decide) (Nat.le_of_ble_eq_true rfl) rfl (con_mono h ?_ (fun _ _ h => h))
    rintro _ w4 ⟨rfl, h⟩
    show Z M G 0 K X w4 42 [some (.ref (G.2.1 40 0)), some (.int x1), some (.int 0), none] []
    refine z_iconst F 0 dX10_duty_42 (by decide) ?_
    refine z_istore_n F dX10_duty_43 (Nat.le_of_ble_eq_true rfl) ?_
    exact h
  · have h := h.2 hc
    refine z_iconst F 0 dX10_duty_27 (by decide) ?_
    exact z_iret F dX10_duty_28 (by decide) h
set_option maxRecDepth 20000 in
theorem b_X10_duty_44 {M : Mx} {G : Gx} {kk : Nat} {w : Wd}  {x1 : Int32} {x2 : Int32} {x3 : Int32} {K : Option Value → Wd → Prop} {X : String → Wd → Prop} (F : Fx M G RX10 cX10_duty 4 (some .int) kk 0) (hk : 8 ≤ kk)
    (h : (((w.1 44 0 1) ≤ x3 → K (some (.int x2)) w) ∧ (¬ ((w.1 44 0 1) ≤ x3) → Con (mL M) G 6 0 yX10_sungBy cX10_sungBy 4 (some .int) w [.ref (G.2.1 40 0), .ref (G.2.1 69 1), .int x3] (fun r w2 => ∃ v1 : Int32, r = some (.int v1) ∧ ((¬ v1 = x1 → Z M G 0 K X w2 75 [some (.ref (G.2.1 40 0)), some (.int x1), none, some (.int x3)] [.int 0, .int x2]) ∧ (¬ (¬ v1 = x1) → Z M G 0 K X w2 75 [some (.ref (G.2.1 40 0)), some (.int x1), none, some (.int x3)] [.int ((1 : Int32) <<< (x3 &&& 31)), .int x2]))) X))) :
    Z M G 0 K X w 44 [some (.ref (G.2.1 40 0)), some (.int x1), some (.int x2), some (.int x3)] [] := by
  refine z_iload_n F dX10_duty_44 rfl ?_
  refine z_aload_n F dX10_duty_45 rfl ?_
  refine z_getR F 12 44 0 rfl (by decide) (by decide) rfl rfl rfl lk_X10_23 dX10_duty_46 ?_
  refine z_iconst F 1 dX10_duty_49 (by decide) ?_
  refine z_ialdK F 1 (by decide) rfl (by decide) (by unfold vp_in; decide) dX10_duty_50 ?_
  refine z_icmp_ge F 93 dX10_duty_51 (by decide) ⟨fun hc => ?_, fun hc => ?_⟩
  · have h := h.1 hc
    refine z_iload_n F dX10_duty_93 rfl ?_
    exact z_iret F dX10_duty_94 (by decide) h
  · have h := h.2 hc
    refine z_iload_n F dX10_duty_54 rfl ?_
    refine z_aload_n F dX10_duty_55 rfl ?_
    refine z_aload_n F dX10_duty_56 rfl ?_
    refine z_getR F 30 69 1 rfl (by decide) (by decide) rfl rfl rfl lk_X10_70 dX10_duty_57 ?_
    refine z_iload_n F dX10_duty_60 rfl ?_
    refine z_callV F (k' := 6) (mc' := 0) [.ref (G.2.1 69 1), .int x3] [.int x2] dX10_duty_61 rfl rfl (by decide) rfl cl_X10_269 hy_X10_sungBy (by omega) (by decide) (by decide) (Nat.le_of_ble_eq_true rfl) rfl (con_mono h ?_ (fun _ _ h => h))
    rintro _ w2 ⟨v1, rfl, h⟩
    show Z M G 0 K X w2 64 [some (.ref (G.2.1 40 0)), some (.int x1), some (.int x2), some (.int x3)] [.int v1, .int x2]
    refine z_iload_n F dX10_duty_64 rfl ?_
    refine z_icmp_ne F 74 dX10_duty_65 (by decide) ⟨fun hc => ?_, fun hc => ?_⟩
    · have h := h.1 hc
      refine z_iconst F 0 dX10_duty_74 (by decide) ?_
      exact z_weak h (⟨rfl, ⟨rfl, ⟨rfl, trivial⟩⟩⟩)
    · have h := h.2 hc
      refine z_iconst F 1 dX10_duty_68 (by decide) ?_
      refine z_iload_n F dX10_duty_69 rfl ?_
      refine z_ishl F dX10_duty_70 ?_
      refine z_goto F 75 dX10_duty_71 (by decide) ?_
      exact z_weak h (⟨rfl, ⟨rfl, ⟨rfl, trivial⟩⟩⟩)
set_option maxRecDepth 20000 in
theorem b_X10_duty_75 {M : Mx} {G : Gx} {kk : Nat} {w : Wd}  {x1 : Int32} {x3 : Int32} {s0 : Int32} {s1 : Int32} {K : Option Value → Wd → Prop} {X : String → Wd → Prop} (F : Fx M G RX10 cX10_duty 4 (some .int) kk 0) (hk : 8 ≤ kk)
    (h : Con (mL M) G 7 0 yX10_sings cX10_sings 4 (some .boolean) w [.ref (G.2.1 40 0), .ref (G.2.1 69 1), .int x3] (fun r w2 => ∃ v1 : Int32, r = some (.int v1) ∧ Z M G 0 K X w2 44 [some (.ref (G.2.1 40 0)), some (.int x1), some (.int (s1 ||| s0)), some (.int (x3 + 1))] []) X) :
    Z M G 0 K X w 75 [some (.ref (G.2.1 40 0)), some (.int x1), none, some (.int x3)] [.int s0, .int s1] := by
  refine z_ior F dX10_duty_75 ?_
  refine z_istore_n F dX10_duty_76 (Nat.le_of_ble_eq_true rfl) ?_
  refine z_aload_n F dX10_duty_77 rfl ?_
  refine z_aload_n F dX10_duty_78 rfl ?_
  refine z_getR F 30 69 1 rfl (by decide) (by decide) rfl rfl rfl lk_X10_70 dX10_duty_79 ?_
  refine z_iload_n F dX10_duty_82 rfl ?_
  refine z_callV F (k' := 7) (mc' := 0) [.ref (G.2.1 69 1), .int x3] [] dX10_duty_83 rfl rfl (by decide) rfl cl_X10_276 hy_X10_sings (by omega) (by decide) (by decide) (Nat.le_of_ble_eq_true rfl) rfl (con_mono h ?_ (fun _ _ h => h))
  rintro _ w2 ⟨v1, rfl, h⟩
  show Z M G 0 K X w2 86 [some (.ref (G.2.1 40 0)), some (.int x1), some (.int (s1 ||| s0)), some (.int x3)] [.int v1]
  refine z_pop F dX10_duty_86 rfl ?_
  refine z_iinc F (x3 + 1) dX10_duty_87 rfl rfl (Nat.le_of_ble_eq_true rfl) ?_
  refine z_goto F 44 dX10_duty_90 (by decide) ?_
  exact h
set_option maxRecDepth 20000 in
theorem e_X10_range {l : Launch} {G : Gx} {w : Wd} {p0 : Int32} {K : Option Value → Wd → Prop} {X : String → Wd → Prop} (hl : l.stackTraces = false)
    (h : ∀ (M : Mx) (kk : Nat), mL M = l → 9 ≤ kk → Fx M G RX10 cX10_range 5 (some .int) kk 0 → (∀ w1 : Wd, w1 = setI w 40 0 0 0 → Con (mL M) G 2 0 yX10_isSinger cX10_isSinger 2 (some .boolean) w1 [.ref (G.2.1 40 0), .int p0] (fun r w3 => ∃ v2 : Int32, r = some (.int v2) ∧ ((¬ v2 = 0 → Z M G 0 K X w3 19 [some (.ref (G.2.1 40 0)), some (.int p0), none, none, none] [.int 0, .ref (G.2.1 40 0)]) ∧ (¬ (¬ v2 = 0) → Z M G 0 K X w3 19 [some (.ref (G.2.1 40 0)), some (.int p0), none, none, none] [.int 1, .ref (G.2.1 40 0)]))) X)) :
    Con l G 9 0 yX10_range cX10_range 5 (some .int) w [.ref (G.2.1 40 0), .int p0] K X := by
  refine con_intro hl (by decide +kernel) (Nat.le_of_ble_eq_true rfl) (Nat.le_of_ble_eq_true rfl) (fun M kk hM hk F => ?_)
  have h := h M kk hM hk F
  show Z M G 0 K X w 0 [some (.ref (G.2.1 40 0)), some (.int p0), none, none, none] []
  refine z_aload_n F dX10_range_0 rfl ?_
  refine z_iconst F 0 dX10_range_1 (by decide) ?_
  refine z_putIW F 0 rfl (by decide) (by decide) rfl lk_X10_95 dX10_range_2 (fun w1 hw1 => ?_)
  have h := h w1 hw1
  refine z_aload_n F dX10_range_5 rfl ?_
  refine z_aload_n F dX10_range_6 rfl ?_
  refine z_iload_n F dX10_range_7 rfl ?_
  refine z_callV F (k' := 2) (mc' := 0) [.int p0] [.ref (G.2.1 40 0)] dX10_range_8 rfl rfl (by decide) rfl cl_X10_321 hy_X10_isSinger (by omega) (by decide) (by decide) (Nat.le_of_ble_eq_true rfl) rfl (con_mono h ?_ (fun _ _ h => h))
  rintro _ w3 ⟨v2, rfl, h⟩
  show Z M G 0 K X w3 11 [some (.ref (G.2.1 40 0)), some (.int p0), none, none, none] [.int v2, .ref (G.2.1 40 0)]
  refine z_if_ne F 18 dX10_range_11 (by decide) ⟨fun hc => ?_, fun hc => ?_⟩
  · have h := h.1 hc
    refine z_iconst F 0 dX10_range_18 (by decide) ?_
    exact h
  · have h := h.2 hc
    refine z_iconst F 1 dX10_range_14 (by decide) ?_
    refine z_goto F 19 dX10_range_15 (by decide) ?_
    exact h
set_option maxRecDepth 20000 in
theorem b_X10_range_19 {M : Mx} {G : Gx} {kk : Nat} {w : Wd}  {x1 : Int32} {s0 : Int32} {K : Option Value → Wd → Prop} {X : String → Wd → Prop} (F : Fx M G RX10 cX10_range 5 (some .int) kk 0) (hk : 9 ≤ kk)
    (h : Con (mL M) G 1 0 yX10_bad cX10_bad 4 (some .boolean) w [.ref (G.2.1 40 0), .int s0, .int 1, .int 0] (fun r w2 => ∃ v1 : Int32, r = some (.int v1) ∧ ((v1 = 0 → Con (mL M) G 1 0 yX10_copies cX10_copies 3 none w2 [.ref (G.2.1 69 0), .ref (G.2.1 69 1)] (fun r w4 => r = none ∧ Z M G 0 K X w4 44 [some (.ref (G.2.1 40 0)), some (.int x1), some (.int 0), some (.int 1), none] []) X) ∧ (¬ (v1 = 0) → K (some (.int 0)) w2))) X) :
    Z M G 0 K X w 19 [some (.ref (G.2.1 40 0)), some (.int x1), none, none, none] [.int s0, .ref (G.2.1 40 0)] := by
  refine z_iconst F 1 dX10_range_19 (by decide) ?_
  refine z_iconst F 0 dX10_range_20 (by decide) ?_
  refine z_callV F (k' := 1) (mc' := 0) [.int s0, .int 1, .int 0] [] dX10_range_21 rfl rfl (by decide) rfl cl_X10_171 hy_X10_bad (by omega) (by decide) (by decide) (Nat.le_of_ble_eq_true rfl) rfl (con_mono h ?_ (fun _ _ h => h))
  rintro _ w2 ⟨v1, rfl, h⟩
  show Z M G 0 K X w2 24 [some (.ref (G.2.1 40 0)), some (.int x1), none, none, none] [.int v1]
  refine z_if_eq F 29 dX10_range_24 (by decide) ⟨fun hc => ?_, fun hc => ?_⟩
  · have h := h.1 hc
    refine z_iconst F 0 dX10_range_29 (by decide) ?_
    refine z_istore_n F dX10_range_30 (Nat.le_of_ble_eq_true rfl) ?_
    refine z_aload_n F dX10_range_31 rfl ?_
    refine z_getR F 29 69 0 rfl (by decide) (by decide) rfl rfl rfl lk_X10_67 dX10_range_32 ?_
    refine z_aload_n F dX10_range_35 rfl ?_
    refine z_getR F 30 69 1 rfl (by decide) (by decide) rfl rfl rfl lk_X10_70 dX10_range_36 ?_
    refine z_callS F (k' := 1) (mc' := 0) [.ref (G.2.1 69 0), .ref (G.2.1 69 1)] [] dX10_range_39 rfl cl_X10_310 hy_X10_copies.2 (by omega) (by decide) (by decide) (Nat.le_of_ble_eq_true rfl) rfl (con_mono h ?_ (fun _ _ h => h))
    rintro _ w4 ⟨rfl, h⟩
    show Z M G 0 K X w4 42 [some (.ref (G.2.1 40 0)), some (.int x1), some (.int 0), none, none] []
    refine z_iconst F 1 dX10_range_42 (by decide) ?_
    refine z_istore_n F dX10_range_43 (Nat.le_of_ble_eq_true rfl) ?_
    exact h
  · have h := h.2 hc
    refine z_iconst F 0 dX10_range_27 (by decide) ?_
    exact z_iret F dX10_range_28 (by decide) h
set_option maxRecDepth 20000 in
theorem b_X10_range_44 {M : Mx} {G : Gx} {kk : Nat} {w : Wd}  {x1 : Int32} {x2 : Int32} {x3 : Int32} {K : Option Value → Wd → Prop} {X : String → Wd → Prop} (F : Fx M G RX10 cX10_range 5 (some .int) kk 0) (hk : 9 ≤ kk)
    (h : ((20 < x3 → K (some (.int x2)) w) ∧ (¬ (20 < x3) → (vp_in ((14 : Int32) + x1) 57 ∧ Con (mL M) G 8 0 yX10_hymns cX10_hymns 4 none w [.ref (G.2.1 40 0), .ref (G.2.1 69 1)] (fun r w2 => r = none ∧ (vp_in ((14 : Int32) + x1) 57 ∧ (((w2.1 69 1 (((14 : Int32) + x1 : Int32).toNatClampNeg)) ≤ (w.1 69 1 (((14 : Int32) + x1 : Int32).toNatClampNeg)) → Z M G 0 K X w2 44 [some (.ref (G.2.1 40 0)), some (.int x1), some (.int x2), some (.int (x3 + 1)), none] []) ∧ (¬ ((w2.1 69 1 (((14 : Int32) + x1 : Int32).toNatClampNeg)) ≤ (w.1 69 1 (((14 : Int32) + x1 : Int32).toNatClampNeg))) → Z M G 0 K X w2 44 [some (.ref (G.2.1 40 0)), some (.int x1), some (.int x3), some (.int (x3 + 1)), none] [])))) X)))) :
    Z M G 0 K X w 44 [some (.ref (G.2.1 40 0)), some (.int x1), some (.int x2), some (.int x3), none] [] := by
  refine z_iload_n F dX10_range_44 rfl ?_
  refine z_bipush F 20 dX10_range_45 (by decide) ?_
  refine z_icmp_gt F 95 dX10_range_47 (by decide) ⟨fun hc => ?_, fun hc => ?_⟩
  · have h := h.1 hc
    refine z_iload_n F dX10_range_95 rfl ?_
    exact z_iret F dX10_range_96 (by decide) h
  · have h := h.2 hc
    refine z_aload_n F dX10_range_50 rfl ?_
    refine z_getR F 30 69 1 rfl (by decide) (by decide) rfl rfl rfl lk_X10_70 dX10_range_51 ?_
    refine z_bipush F 14 dX10_range_54 (by decide) ?_
    refine z_iload_n F dX10_range_56 rfl ?_
    refine z_iadd F dX10_range_57 ?_
    obtain ⟨hb, h⟩ := h
    refine z_ialdK F (((14 : Int32) + x1 : Int32).toNatClampNeg) rfl rfl (by decide) hb dX10_range_58 ?_
    refine z_istore F dX10_range_59 (Nat.le_of_ble_eq_true rfl) ?_
    refine z_aload_n F dX10_range_61 rfl ?_
    refine z_aload_n F dX10_range_62 rfl ?_
    refine z_getR F 30 69 1 rfl (by decide) (by decide) rfl rfl rfl lk_X10_70 dX10_range_63 ?_
    refine z_callV F (k' := 8) (mc' := 0) [.ref (G.2.1 69 1)] [] dX10_range_66 rfl rfl (by decide) rfl cl_X10_280 hy_X10_hymns (by omega) (by decide) (by decide) (Nat.le_of_ble_eq_true rfl) rfl (con_mono h ?_ (fun _ _ h => h))
    rintro _ w2 ⟨rfl, h⟩
    show Z M G 0 K X w2 69 [some (.ref (G.2.1 40 0)), some (.int x1), some (.int x2), some (.int x3), some (.int (w.1 69 1 (((14 : Int32) + x1 : Int32).toNatClampNeg)))] []
    refine z_aload_n F dX10_range_69 rfl ?_
    refine z_getR F 30 69 1 rfl (by decide) (by decide) rfl rfl rfl lk_X10_70 dX10_range_70 ?_
    refine z_bipush F 14 dX10_range_73 (by decide) ?_
    refine z_iload_n F dX10_range_75 rfl ?_
    refine z_iadd F dX10_range_76 ?_
    obtain ⟨hb, h⟩ := h
    refine z_ialdK F (((14 : Int32) + x1 : Int32).toNatClampNeg) rfl rfl (by decide) hb dX10_range_77 ?_
    refine z_iload F dX10_range_78 rfl ?_
    refine z_icmp_le F 87 dX10_range_80 (by decide) ⟨fun hc => ?_, fun hc => ?_⟩
    · have h := h.1 hc
      refine z_iload_n F dX10_range_87 rfl ?_
      refine z_istore_n F dX10_range_88 (Nat.le_of_ble_eq_true rfl) ?_
      refine z_iinc F (x3 + 1) dX10_range_89 rfl rfl (Nat.le_of_ble_eq_true rfl) ?_
      refine z_goto F 44 dX10_range_92 (by decide) ?_
      exact z_weak h (⟨rfl, ⟨rfl, ⟨rfl, ⟨rfl, trivial⟩⟩⟩⟩)
    · have h := h.2 hc
      refine z_iload_n F dX10_range_83 rfl ?_
      refine z_goto F 88 dX10_range_84 (by decide) ?_
      refine z_istore_n F dX10_range_88 (Nat.le_of_ble_eq_true rfl) ?_
      refine z_iinc F (x3 + 1) dX10_range_89 rfl rfl (Nat.le_of_ble_eq_true rfl) ?_
      refine z_goto F 44 dX10_range_92 (by decide) ?_
      exact z_weak h (⟨rfl, ⟨rfl, ⟨rfl, ⟨rfl, trivial⟩⟩⟩⟩)
set_option maxRecDepth 20000 in
theorem e_X10_hasBy {l : Launch} {G : Gx} {w : Wd} {p0 : Int32} {p1 : Int32} {p2 : Int32} {p3 : Int32} {K : Option Value → Wd → Prop} {X : String → Wd → Prop} (hl : l.stackTraces = false)
    (h : ∀ (M : Mx) (kk : Nat), mL M = l → 1 ≤ kk → Fx M G RX10 cX10_hasBy 4 (some .int) kk 0 → ((¬ p0 = 0 → ((¬ p1 = 0 → K (some (.int (-p3))) w) ∧ (¬ (¬ p1 = 0) → K (some (.int (p2 + p3))) w))) ∧ (¬ (¬ p0 = 0) → ((¬ p1 = 0 → K (some (.int 0)) w) ∧ (¬ (¬ p1 = 0) → K (some (.int p2)) w))))) :
    Con l G 1 0 yX10_hasBy cX10_hasBy 4 (some .int) w [.int p0, .int p1, .int p2, .int p3] K X := by
  refine con_intro hl (by decide +kernel) (Nat.le_of_ble_eq_true rfl) (Nat.le_of_ble_eq_true rfl) (fun M kk hM hk F => ?_)
  have h := h M kk hM hk F
  show Z M G 0 K X w 0 [some (.int p0), some (.int p1), some (.int p2), some (.int p3)] []
  refine z_iload_n F dX10_hasBy_0 rfl ?_
  refine z_if_ne F 16 dX10_hasBy_1 (by decide) ⟨fun hc => ?_, fun hc => ?_⟩
  · have h := h.1 hc
    refine z_iload_n F dX10_hasBy_16 rfl ?_
    refine z_if_ne F 26 dX10_hasBy_17 (by decide) ⟨fun hc => ?_, fun hc => ?_⟩
    · have h := h.1 hc
      refine z_iload_n F dX10_hasBy_26 rfl ?_
      refine z_ineg F dX10_hasBy_27 ?_
      exact z_iret F dX10_hasBy_28 (by decide) h
    · have h := h.2 hc
      refine z_iload_n F dX10_hasBy_20 rfl ?_
      refine z_iload_n F dX10_hasBy_21 rfl ?_
      refine z_iadd F dX10_hasBy_22 ?_
      refine z_goto F 28 dX10_hasBy_23 (by decide) ?_
      exact z_iret F dX10_hasBy_28 (by decide) h
  · have h := h.2 hc
    refine z_iload_n F dX10_hasBy_4 rfl ?_
    refine z_if_ne F 12 dX10_hasBy_5 (by decide) ⟨fun hc => ?_, fun hc => ?_⟩
    · have h := h.1 hc
      refine z_iconst F 0 dX10_hasBy_12 (by decide) ?_
      refine z_goto F 28 dX10_hasBy_13 (by decide) ?_
      exact z_iret F dX10_hasBy_28 (by decide) h
    · have h := h.2 hc
      refine z_iload_n F dX10_hasBy_8 rfl ?_
      refine z_goto F 28 dX10_hasBy_9 (by decide) ?_
      exact z_iret F dX10_hasBy_28 (by decide) h
set_option maxRecDepth 20000 in
theorem e_X10_isBest {l : Launch} {G : Gx} {w : Wd} {p0 : Int32} {p1 : Int32} {p2 : Int32} {p3 : Int32} {K : Option Value → Wd → Prop} {X : String → Wd → Prop} (hl : l.stackTraces = false)
    (h : ∀ (M : Mx) (kk : Nat), mL M = l → 2 ≤ kk → Fx M G RX10 cX10_isBest 4 (some .boolean) kk 0 → Con (mL M) G 1 0 yX10_hasBy cX10_hasBy 4 (some .int) w [.int p0, .int p1, .int p2, .int p3] (fun r w2 => ∃ v1 : Int32, r = some (.int v1) ∧ Con (mL M) G 1 0 yX10_hasBy cX10_hasBy 4 (some .int) w2 [.int ((1 : Int32) - p0), .int p1, .int p2, .int p3] (fun r w4 => ∃ v3 : Int32, r = some (.int v3) ∧ ((v1 < v3 → K (some (.int 0)) w4) ∧ (¬ (v1 < v3) → K (some (.int 1)) w4))) X) X) :
    Con l G 2 0 yX10_isBest cX10_isBest 4 (some .boolean) w [.int p0, .int p1, .int p2, .int p3] K X := by
  refine con_intro hl (by decide +kernel) (Nat.le_of_ble_eq_true rfl) (Nat.le_of_ble_eq_true rfl) (fun M kk hM hk F => ?_)
  have h := h M kk hM hk F
  show Z M G 0 K X w 0 [some (.int p0), some (.int p1), some (.int p2), some (.int p3)] []
  refine z_iload_n F dX10_isBest_0 rfl ?_
  refine z_iload_n F dX10_isBest_1 rfl ?_
  refine z_iload_n F dX10_isBest_2 rfl ?_
  refine z_iload_n F dX10_isBest_3 rfl ?_
  refine z_callS F (k' := 1) (mc' := 0) [.int p0, .int p1, .int p2, .int p3] [] dX10_isBest_4 rfl cl_X10_364 hy_X10_hasBy.2 (by omega) (by decide) (by decide) (Nat.le_of_ble_eq_true rfl) rfl (con_mono h ?_ (fun _ _ h => h))
  rintro _ w2 ⟨v1, rfl, h⟩
  show Z M G 0 K X w2 7 [some (.int p0), some (.int p1), some (.int p2), some (.int p3)] [.int v1]
  refine z_iconst F 1 dX10_isBest_7 (by decide) ?_
  refine z_iload_n F dX10_isBest_8 rfl ?_
  refine z_isub F dX10_isBest_9 ?_
  refine z_iload_n F dX10_isBest_10 rfl ?_
  refine z_iload_n F dX10_isBest_11 rfl ?_
  refine z_iload_n F dX10_isBest_12 rfl ?_
  refine z_callS F (k' := 1) (mc' := 0) [.int ((1 : Int32) - p0), .int p1, .int p2, .int p3] [.int v1] dX10_isBest_13 rfl cl_X10_364 hy_X10_hasBy.2 (by omega) (by decide) (by decide) (Nat.le_of_ble_eq_true rfl) rfl (con_mono h ?_ (fun _ _ h => h))
  rintro _ w4 ⟨v3, rfl, h⟩
  show Z M G 0 K X w4 16 [some (.int p0), some (.int p1), some (.int p2), some (.int p3)] [.int v3, .int v1]
  refine z_icmp_lt F 23 dX10_isBest_16 (by decide) ⟨fun hc => ?_, fun hc => ?_⟩
  · have h := h.1 hc
    refine z_iconst F 0 dX10_isBest_23 (by decide) ?_
    exact z_zret F dX10_isBest_24 (by decide) rfl h
  · have h := h.2 hc
    refine z_iconst F 1 dX10_isBest_19 (by decide) ?_
    refine z_goto F 24 dX10_isBest_20 (by decide) ?_
    exact z_zret F dX10_isBest_24 (by decide) rfl h
set_option maxRecDepth 20000 in
theorem e_X10_quarrel {l : Launch} {G : Gx} {w : Wd} {p0 : Int32} {p1 : Int32} {p2 : Int32} {K : Option Value → Wd → Prop} {X : String → Wd → Prop} (hl : l.stackTraces = false)
    (h : ∀ (M : Mx) (kk : Nat), mL M = l → 3 ≤ kk → Fx M G RX10 cX10_quarrel 9 (some .int) kk 0 → (∀ w1 : Wd, w1 = setI w 40 0 0 0 → Con (mL M) G 1 0 yX10_in cX10_in 3 (some .boolean) w1 [.int p0, .int 0, .int 99] (fun r w3 => ∃ v2 : Int32, r = some (.int v2) ∧ ((v2 = 0 → Z M G 0 K X w3 35 [none, some (.int p0), some (.int p1), some (.int p2), none, none, none, none, none] [.ref (G.2.1 40 0)]) ∧ (¬ (v2 = 0) → Con (mL M) G 1 0 yX10_in cX10_in 3 (some .boolean) w3 [.int p1, .int 0, .int 99] (fun r w5 => ∃ v4 : Int32, r = some (.int v4) ∧ ((v4 = 0 → Z M G 0 K X w5 35 [none, some (.int p0), some (.int p1), some (.int p2), none, none, none, none, none] [.ref (G.2.1 40 0)]) ∧ (¬ (v4 = 0) → Con (mL M) G 1 0 yX10_in cX10_in 3 (some .boolean) w5 [.int p2, .int 0, .int 2] (fun r w7 => ∃ v6 : Int32, r = some (.int v6) ∧ ((¬ v6 = 0 → Z M G 0 K X w7 40 [none, some (.int p0), some (.int p1), some (.int p2), none, none, none, none, none] [.int 0, .ref (G.2.1 40 0)]) ∧ (¬ (¬ v6 = 0) → Z M G 0 K X w7 35 [none, some (.int p0), some (.int p1), some (.int p2), none, none, none, none, none] [.ref (G.2.1 40 0)]))) X))) X))) X)) :
    Con l G 3 0 yX10_quarrel cX10_quarrel 9 (some .int) w [.ref (G.2.1 40 0), .int p0, .int p1, .int p2] K X := by
  refine con_intro hl (by decide +kernel) (Nat.le_of_ble_eq_true rfl) (Nat.le_of_ble_eq_true rfl) (fun M kk hM hk F => ?_)
  have h := h M kk hM hk F
  show Z M G 0 K X w 0 [some (.ref (G.2.1 40 0)), some (.int p0), some (.int p1), some (.int p2), none, none, none, none, none] []
  refine z_aload_n F dX10_quarrel_0 rfl ?_
  refine z_iconst F 0 dX10_quarrel_1 (by decide) ?_
  refine z_putIW F 0 rfl (by decide) (by decide) rfl lk_X10_95 dX10_quarrel_2 (fun w1 hw1 => ?_)
  have h := h w1 hw1
  refine z_aload_n F dX10_quarrel_5 rfl ?_
  refine z_iload_n F dX10_quarrel_6 rfl ?_
  refine z_iconst F 0 dX10_quarrel_7 (by decide) ?_
  refine z_bipush F 99 dX10_quarrel_8 (by decide) ?_
  refine z_callS F (k' := 1) (mc' := 0) [.int p0, .int 0, .int 99] [.ref (G.2.1 40 0)] dX10_quarrel_10 rfl cl_X10_129 hy_X10_in.2 (by omega) (by decide) (by decide) (Nat.le_of_ble_eq_true rfl) rfl (con_mono h ?_ (fun _ _ h => h))
  rintro _ w3 ⟨v2, rfl, h⟩
  show Z M G 0 K X w3 13 [some (.ref (G.2.1 40 0)), some (.int p0), some (.int p1), some (.int p2), none, none, none, none, none] [.int v2, .ref (G.2.1 40 0)]
  refine z_if_eq F 35 dX10_quarrel_13 (by decide) ⟨fun hc => ?_, fun hc => ?_⟩
  · have h := h.1 hc
    exact z_weak h (⟨rfl, ⟨rfl, ⟨rfl, trivial⟩⟩⟩)
  · have h := h.2 hc
    refine z_iload_n F dX10_quarrel_16 rfl ?_
    refine z_iconst F 0 dX10_quarrel_17 (by decide) ?_
    refine z_bipush F 99 dX10_quarrel_18 (by decide) ?_
    refine z_callS F (k' := 1) (mc' := 0) [.int p1, .int 0, .int 99] [.ref (G.2.1 40 0)] dX10_quarrel_20 rfl cl_X10_129 hy_X10_in.2 (by omega) (by decide) (by decide) (Nat.le_of_ble_eq_true rfl) rfl (con_mono h ?_ (fun _ _ h => h))
    rintro _ w5 ⟨v4, rfl, h⟩
    show Z M G 0 K X w5 23 [some (.ref (G.2.1 40 0)), some (.int p0), some (.int p1), some (.int p2), none, none, none, none, none] [.int v4, .ref (G.2.1 40 0)]
    refine z_if_eq F 35 dX10_quarrel_23 (by decide) ⟨fun hc => ?_, fun hc => ?_⟩
    · have h := h.1 hc
      exact z_weak h (⟨rfl, ⟨rfl, ⟨rfl, trivial⟩⟩⟩)
    · have h := h.2 hc
      refine z_iload_n F dX10_quarrel_26 rfl ?_
      refine z_iconst F 0 dX10_quarrel_27 (by decide) ?_
      refine z_iconst F 2 dX10_quarrel_28 (by decide) ?_
      refine z_callS F (k' := 1) (mc' := 0) [.int p2, .int 0, .int 2] [.ref (G.2.1 40 0)] dX10_quarrel_29 rfl cl_X10_129 hy_X10_in.2 (by omega) (by decide) (by decide) (Nat.le_of_ble_eq_true rfl) rfl (con_mono h ?_ (fun _ _ h => h))
      rintro _ w7 ⟨v6, rfl, h⟩
      show Z M G 0 K X w7 32 [some (.ref (G.2.1 40 0)), some (.int p0), some (.int p1), some (.int p2), none, none, none, none, none] [.int v6, .ref (G.2.1 40 0)]
      refine z_if_ne F 39 dX10_quarrel_32 (by decide) ⟨fun hc => ?_, fun hc => ?_⟩
      · have h := h.1 hc
        refine z_iconst F 0 dX10_quarrel_39 (by decide) ?_
        exact z_weak h (⟨rfl, ⟨rfl, ⟨rfl, trivial⟩⟩⟩)
      · have h := h.2 hc
        exact z_weak h (⟨rfl, ⟨rfl, ⟨rfl, trivial⟩⟩⟩)
set_option maxRecDepth 20000 in
theorem b_X10_quarrel_35 {M : Mx} {G : Gx} {kk : Nat} {w : Wd}  {x1 : Int32} {x2 : Int32} {x3 : Int32} {K : Option Value → Wd → Prop} {X : String → Wd → Prop} (F : Fx M G RX10 cX10_quarrel 9 (some .int) kk 0) (hk : 3 ≤ kk)
    (h : Z M G 0 K X w 40 [none, some (.int x1), some (.int x2), some (.int x3), none, none, none, none, none] [.int 1, .ref (G.2.1 40 0)]) :
    Z M G 0 K X w 35 [none, some (.int x1), some (.int x2), some (.int x3), none, none, none, none, none] [.ref (G.2.1 40 0)] := by
  refine z_iconst F 1 dX10_quarrel_35 (by decide) ?_
  refine z_goto F 40 dX10_quarrel_36 (by decide) ?_
  exact h
set_option maxRecDepth 20000 in
theorem b_X10_quarrel_40 {M : Mx} {G : Gx} {kk : Nat} {w : Wd}  {x1 : Int32} {x2 : Int32} {x3 : Int32} {s0 : Int32} {K : Option Value → Wd → Prop} {X : String → Wd → Prop} (F : Fx M G RX10 cX10_quarrel 9 (some .int) kk 0) (hk : 3 ≤ kk)
    (h : Con (mL M) G 1 0 yX10_bad cX10_bad 4 (some .boolean) w [.ref (G.2.1 40 0), .int s0, .int 1, .int 1] (fun r w2 => ∃ v1 : Int32, r = some (.int v1) ∧ ((v1 = 0 → Z M G 0 K X w2 62 [none, some (.int x1), some (.int x2), some (.int x3), some (.int 0), some (.int (-1)), some (.int 0), some (.int 0), none] []) ∧ (¬ (v1 = 0) → K (some (.int 0)) w2))) X) :
    Z M G 0 K X w 40 [none, some (.int x1), some (.int x2), some (.int x3), none, none, none, none, none] [.int s0, .ref (G.2.1 40 0)] := by
  refine z_iconst F 1 dX10_quarrel_40 (by decide) ?_
  refine z_iconst F 1 dX10_quarrel_41 (by decide) ?_
  refine z_callV F (k' := 1) (mc' := 0) [.int s0, .int 1, .int 1] [] dX10_quarrel_42 rfl rfl (by decide) rfl cl_X10_171 hy_X10_bad (by omega) (by decide) (by decide) (Nat.le_of_ble_eq_true rfl) rfl (con_mono h ?_ (fun _ _ h => h))
  rintro _ w2 ⟨v1, rfl, h⟩
  show Z M G 0 K X w2 45 [none, some (.int x1), some (.int x2), some (.int x3), none, none, none, none, none] [.int v1]
  refine z_if_eq F 50 dX10_quarrel_45 (by decide) ⟨fun hc => ?_, fun hc => ?_⟩
  · have h := h.1 hc
    refine z_iconst F 0 dX10_quarrel_50 (by decide) ?_
    refine z_istore F dX10_quarrel_51 (Nat.le_of_ble_eq_true rfl) ?_
    refine z_iconst F (-1) dX10_quarrel_53 (by decide) ?_
    refine z_istore F dX10_quarrel_54 (Nat.le_of_ble_eq_true rfl) ?_
    refine z_iconst F 0 dX10_quarrel_56 (by decide) ?_
    refine z_istore F dX10_quarrel_57 (Nat.le_of_ble_eq_true rfl) ?_
    refine z_iconst F 0 dX10_quarrel_59 (by decide) ?_
    refine z_istore F dX10_quarrel_60 (Nat.le_of_ble_eq_true rfl) ?_
    exact h
  · have h := h.2 hc
    refine z_iconst F 0 dX10_quarrel_48 (by decide) ?_
    exact z_iret F dX10_quarrel_49 (by decide) h
set_option maxRecDepth 20000 in
theorem b_X10_quarrel_62 {M : Mx} {G : Gx} {kk : Nat} {w : Wd}  {x1 : Int32} {x2 : Int32} {x3 : Int32} {x4 : Int32} {x5 : Int32} {x6 : Int32} {x7 : Int32} {K : Option Value → Wd → Prop} {X : String → Wd → Prop} (F : Fx M G RX10 cX10_quarrel 9 (some .int) kk 0) (hk : 3 ≤ kk)
    (h : ((2 ≤ x7 → ((¬ x3 = 0 → ((¬ x3 = 1 → K (some (.int x6)) w) ∧ (¬ (¬ x3 = 1) → K (some (.int x5)) w))) ∧ (¬ (¬ x3 = 0) → K (some (.int x4)) w))) ∧ (¬ (2 ≤ x7) → Z M G 0 K X w 71 [none, some (.int x1), some (.int x2), some (.int x3), some (.int x4), some (.int x5), some (.int x6), some (.int x7), some (.int 0)] []))) :
    Z M G 0 K X w 62 [none, some (.int x1), some (.int x2), some (.int x3), some (.int x4), some (.int x5), some (.int x6), some (.int x7), none] [] := by
  refine z_iload F dX10_quarrel_62 rfl ?_
  refine z_iconst F 2 dX10_quarrel_64 (by decide) ?_
  refine z_icmp_ge F 170 dX10_quarrel_65 (by decide) ⟨fun hc => ?_, fun hc => ?_⟩
  · have h := h.1 hc
    refine z_iload_n F dX10_quarrel_170 rfl ?_
    refine z_if_ne F 179 dX10_quarrel_171 (by decide) ⟨fun hc => ?_, fun hc => ?_⟩
    · have h := h.1 hc
      refine z_iload_n F dX10_quarrel_179 rfl ?_
      refine z_iconst F 1 dX10_quarrel_180 (by decide) ?_
      refine z_icmp_ne F 189 dX10_quarrel_181 (by decide) ⟨fun hc => ?_, fun hc => ?_⟩
      · have h := h.1 hc
        refine z_iload F dX10_quarrel_189 rfl ?_
        exact z_iret F dX10_quarrel_191 (by decide) h
      · have h := h.2 hc
        refine z_iload F dX10_quarrel_184 rfl ?_
        refine z_goto F 191 dX10_quarrel_186 (by decide) ?_
        exact z_iret F dX10_quarrel_191 (by decide) h
    · have h := h.2 hc
      refine z_iload F dX10_quarrel_174 rfl ?_
      refine z_goto F 191 dX10_quarrel_176 (by decide) ?_
      exact z_iret F dX10_quarrel_191 (by decide) h
  · have h := h.2 hc
    refine z_iconst F 0 dX10_quarrel_68 (by decide) ?_
    refine z_istore F dX10_quarrel_69 (Nat.le_of_ble_eq_true rfl) ?_
    exact h
set_option maxRecDepth 20000 in
theorem b_X10_quarrel_71 {M : Mx} {G : Gx} {kk : Nat} {w : Wd}  {x1 : Int32} {x2 : Int32} {x3 : Int32} {x4 : Int32} {x5 : Int32} {x6 : Int32} {x7 : Int32} {x8 : Int32} {K : Option Value → Wd → Prop} {X : String → Wd → Prop} (F : Fx M G RX10 cX10_quarrel 9 (some .int) kk 0) (hk : 3 ≤ kk)
    (h : ((2 ≤ x8 → Z M G 0 K X w 62 [none, some (.int x1), some (.int x2), some (.int x3), some (.int x4), some (.int x5), some (.int x6), some (.int (x7 + 1)), none] []) ∧ (¬ (2 ≤ x8) → Con (mL M) G 2 0 yX10_isBest cX10_isBest 4 (some .boolean) w [.int x7, .int x8, .int x1, .int x2] (fun r w2 => ∃ v1 : Int32, r = some (.int v1) ∧ ((v1 = 0 → Z M G 0 K X w2 71 [none, some (.int x1), some (.int x2), some (.int x3), some (.int x4), some (.int x5), some (.int x6), some (.int x7), some (.int (x8 + 1))] []) ∧ (¬ (v1 = 0) → Con (mL M) G 2 0 yX10_isBest cX10_isBest 4 (some .boolean) w2 [.int x8, .int x7, .int x1, .int x2] (fun r w4 => ∃ v3 : Int32, r = some (.int v3) ∧ ((¬ v3 = 0 → ((¬ x4 = 0 → Z M G 0 K X w4 133 [none, some (.int x1), some (.int x2), some (.int x3), some (.int x4), some (.int x5), none, some (.int x7), some (.int x8)] [.int x6]) ∧ (¬ (¬ x4 = 0) → Con (mL M) G 1 0 yX10_hasBy cX10_hasBy 4 (some .int) w4 [.int x7, .int x8, .int x1, .int x2] (fun r w6 => ∃ v5 : Int32, r = some (.int v5) ∧ Con (mL M) G 1 0 yX10_hasBy cX10_hasBy 4 (some .int) w6 [.int x8, .int x7, .int x1, .int x2] (fun r w8 => ∃ v7 : Int32, r = some (.int v7) ∧ Z M G 0 K X w8 133 [none, some (.int x1), some (.int x2), some (.int x3), some (.int x4), some (.int x5), none, some (.int x7), some (.int x8)] [.int (v5 + v7)]) X) X))) ∧ (¬ (¬ v3 = 0) → Z M G 0 K X w4 71 [none, some (.int x1), some (.int x2), some (.int x3), some (.int x4), some (.int x5), some (.int x6), some (.int x7), some (.int (x8 + 1))] []))) X))) X))) :
    Z M G 0 K X w 71 [none, some (.int x1), some (.int x2), some (.int x3), some (.int x4), some (.int x5), some (.int x6), some (.int x7), some (.int x8)] [] := by
  refine z_iload F dX10_quarrel_71 rfl ?_
  refine z_iconst F 2 dX10_quarrel_73 (by decide) ?_
  refine z_icmp_ge F 164 dX10_quarrel_74 (by decide) ⟨fun hc => ?_, fun hc => ?_⟩
  · have h := h.1 hc
    refine z_iinc F (x7 + 1) dX10_quarrel_164 rfl rfl (Nat.le_of_ble_eq_true rfl) ?_
    refine z_goto F 62 dX10_quarrel_167 (by decide) ?_
    exact z_weak h (⟨rfl, ⟨rfl, ⟨rfl, ⟨rfl, ⟨rfl, ⟨rfl, ⟨rfl, trivial⟩⟩⟩⟩⟩⟩⟩)
  · have h := h.2 hc
    refine z_iload F dX10_quarrel_77 rfl ?_
    refine z_iload F dX10_quarrel_79 rfl ?_
    refine z_iload_n F dX10_quarrel_81 rfl ?_
    refine z_iload_n F dX10_quarrel_82 rfl ?_
    refine z_callS F (k' := 2) (mc' := 0) [.int x7, .int x8, .int x1, .int x2] [] dX10_quarrel_83 rfl cl_X10_368 hy_X10_isBest.2 (by omega) (by decide) (by decide) (Nat.le_of_ble_eq_true rfl) rfl (con_mono h ?_ (fun _ _ h => h))
    rintro _ w2 ⟨v1, rfl, h⟩
    show Z M G 0 K X w2 86 [none, some (.int x1), some (.int x2), some (.int x3), some (.int x4), some (.int x5), some (.int x6), some (.int x7), some (.int x8)] [.int v1]
    refine z_if_eq F 158 dX10_quarrel_86 (by decide) ⟨fun hc => ?_, fun hc => ?_⟩
    · have h := h.1 hc
      refine z_iinc F (x8 + 1) dX10_quarrel_158 rfl rfl (Nat.le_of_ble_eq_true rfl) ?_
      refine z_goto F 71 dX10_quarrel_161 (by decide) ?_
      exact h
    · have h := h.2 hc
      refine z_iload F dX10_quarrel_89 rfl ?_
      refine z_iload F dX10_quarrel_91 rfl ?_
      refine z_iload_n F dX10_quarrel_93 rfl ?_
      refine z_iload_n F dX10_quarrel_94 rfl ?_
      refine z_callS F (k' := 2) (mc' := 0) [.int x8, .int x7, .int x1, .int x2] [] dX10_quarrel_95 rfl cl_X10_368 hy_X10_isBest.2 (by omega) (by decide) (by decide) (Nat.le_of_ble_eq_true rfl) rfl (con_mono h ?_ (fun _ _ h => h))
      rintro _ w4 ⟨v3, rfl, h⟩
      show Z M G 0 K X w4 98 [none, some (.int x1), some (.int x2), some (.int x3), some (.int x4), some (.int x5), some (.int x6), some (.int x7), some (.int x8)] [.int v3]
      refine z_if_ne F 104 dX10_quarrel_98 (by decide) ⟨fun hc => ?_, fun hc => ?_⟩
      · have h := h.1 hc
        refine z_iload F dX10_quarrel_104 rfl ?_
        refine z_if_ne F 131 dX10_quarrel_106 (by decide) ⟨fun hc => ?_, fun hc => ?_⟩
        · have h := h.1 hc
          refine z_iload F dX10_quarrel_131 rfl ?_
          exact z_weak h (⟨rfl, ⟨rfl, ⟨rfl, ⟨rfl, ⟨rfl, ⟨rfl, ⟨rfl, trivial⟩⟩⟩⟩⟩⟩⟩)
        · have h := h.2 hc
          refine z_iload F dX10_quarrel_109 rfl ?_
          refine z_iload F dX10_quarrel_111 rfl ?_
          refine z_iload_n F dX10_quarrel_113 rfl ?_
          refine z_iload_n F dX10_quarrel_114 rfl ?_
          refine z_callS F (k' := 1) (mc' := 0) [.int x7, .int x8, .int x1, .int x2] [] dX10_quarrel_115 rfl cl_X10_364 hy_X10_hasBy.2 (by omega) (by decide) (by decide) (Nat.le_of_ble_eq_true rfl) rfl (con_mono h ?_ (fun _ _ h => h))
          rintro _ w6 ⟨v5, rfl, h⟩
          show Z M G 0 K X w6 118 [none, some (.int x1), some (.int x2), some (.int x3), some (.int x4), some (.int x5), some (.int x6), some (.int x7), some (.int x8)] [.int v5]
          refine z_iload F dX10_quarrel_118 rfl ?_
          refine z_iload F dX10_quarrel_120 rfl ?_
          refine z_iload_n F dX10_quarrel_122 rfl ?_
          refine z_iload_n F dX10_quarrel_123 rfl ?_
          refine z_callS F (k' := 1) (mc' := 0) [.int x8, .int x7, .int x1, .int x2] [.int v5] dX10_quarrel_124 rfl cl_X10_364 hy_X10_hasBy.2 (by omega) (by decide) (by decide) (Nat.le_of_ble_eq_true rfl) rfl (con_mono h ?_ (fun _ _ h => h))
          rintro _ w8 ⟨v7, rfl, h⟩
          show Z M G 0 K X w8 127 [none, some (.int x1), some (.int x2), some (.int x3), some (.int x4), some (.int x5), some (.int x6), some (.int x7), some (.int x8)] [.int v7, .int v5]
          refine z_iadd F dX10_quarrel_127 ?_
          refine z_goto F 133 dX10_quarrel_128 (by decide) ?_
          exact z_weak h (⟨rfl, ⟨rfl, ⟨rfl, ⟨rfl, ⟨rfl, ⟨rfl, ⟨rfl, trivial⟩⟩⟩⟩⟩⟩⟩)
      · have h := h.2 hc
        refine z_goto F 158 dX10_quarrel_101 (by decide) ?_
        refine z_iinc F (x8 + 1) dX10_quarrel_158 rfl rfl (Nat.le_of_ble_eq_true rfl) ?_
        refine z_goto F 71 dX10_quarrel_161 (by decide) ?_
        exact h
set_option maxRecDepth 20000 in
theorem b_X10_quarrel_133 {M : Mx} {G : Gx} {kk : Nat} {w : Wd}  {x1 : Int32} {x2 : Int32} {x3 : Int32} {x4 : Int32} {x5 : Int32} {x7 : Int32} {x8 : Int32} {s0 : Int32} {K : Option Value → Wd → Prop} {X : String → Wd → Prop} (F : Fx M G RX10 cX10_quarrel 9 (some .int) kk 0) (hk : 3 ≤ kk)
    (h : ((¬ x4 = 0 → Z M G 0 K X w 71 [none, some (.int x1), some (.int x2), some (.int x3), some (.int (x4 + 1)), some (.int x5), some (.int s0), some (.int x7), some (.int (x8 + 1))] []) ∧ (¬ (¬ x4 = 0) → Z M G 0 K X w 71 [none, some (.int x1), some (.int x2), some (.int x3), some (.int (x4 + 1)), some (.int (((10 : Int32) * x7) + x8)), some (.int s0), some (.int x7), some (.int (x8 + 1))] []))) :
    Z M G 0 K X w 133 [none, some (.int x1), some (.int x2), some (.int x3), some (.int x4), some (.int x5), none, some (.int x7), some (.int x8)] [.int s0] := by
  refine z_istore F dX10_quarrel_133 (Nat.le_of_ble_eq_true rfl) ?_
  refine z_iload F dX10_quarrel_135 rfl ?_
  refine z_if_ne F 151 dX10_quarrel_137 (by decide) ⟨fun hc => ?_, fun hc => ?_⟩
  · have h := h.1 hc
    refine z_iload F dX10_quarrel_151 rfl ?_
    refine z_istore F dX10_quarrel_153 (Nat.le_of_ble_eq_true rfl) ?_
    refine z_iinc F (x4 + 1) dX10_quarrel_155 rfl rfl (Nat.le_of_ble_eq_true rfl) ?_
    refine z_iinc F (x8 + 1) dX10_quarrel_158 rfl rfl (Nat.le_of_ble_eq_true rfl) ?_
    refine z_goto F 71 dX10_quarrel_161 (by decide) ?_
    exact h
  · have h := h.2 hc
    refine z_bipush F 10 dX10_quarrel_140 (by decide) ?_
    refine z_iload F dX10_quarrel_142 rfl ?_
    refine z_imul F dX10_quarrel_144 ?_
    refine z_iload F dX10_quarrel_145 rfl ?_
    refine z_iadd F dX10_quarrel_147 ?_
    refine z_goto F 153 dX10_quarrel_148 (by decide) ?_
    refine z_istore F dX10_quarrel_153 (Nat.le_of_ble_eq_true rfl) ?_
    refine z_iinc F (x4 + 1) dX10_quarrel_155 rfl rfl (Nat.le_of_ble_eq_true rfl) ?_
    refine z_iinc F (x8 + 1) dX10_quarrel_158 rfl rfl (Nat.le_of_ble_eq_true rfl) ?_
    refine z_goto F 71 dX10_quarrel_161 (by decide) ?_
    exact h
set_option maxRecDepth 20000 in
theorem e_X10_enough {l : Launch} {G : Gx} {w : Wd} {p0 : Int32} {p1 : Int32} {p2 : Int32} {p3 : Int32} {K : Option Value → Wd → Prop} {X : String → Wd → Prop} (hl : l.stackTraces = false)
    (h : ∀ (M : Mx) (kk : Nat), mL M = l → 2 ≤ kk → Fx M G RX10 cX10_enough 15 (some .long) kk 0 → (∀ w1 : Wd, w1 = setI w 40 0 0 0 → Con (mL M) G 1 0 yX10_in cX10_in 3 (some .boolean) w1 [.int p0, .int 0, .int 12] (fun r w3 => ∃ v2 : Int32, r = some (.int v2) ∧ ((v2 = 0 → Z M G 0 K X w3 46 [some (.ref (G.2.1 40 0)), some (.int p0), some (.int p1), some (.int p2), some (.int p3), none, none, none, none, none, none, none, none, none, none] [.ref (G.2.1 40 0)]) ∧ (¬ (v2 = 0) → Con (mL M) G 1 0 yX10_in cX10_in 3 (some .boolean) w3 [.int p1, .int 0, .int 13] (fun r w5 => ∃ v4 : Int32, r = some (.int v4) ∧ ((v4 = 0 → Z M G 0 K X w5 46 [some (.ref (G.2.1 40 0)), some (.int p0), some (.int p1), some (.int p2), some (.int p3), none, none, none, none, none, none, none, none, none, none] [.ref (G.2.1 40 0)]) ∧ (¬ (v4 = 0) → Con (mL M) G 1 0 yX10_in cX10_in 3 (some .boolean) w5 [.int p2, .int 0, .int 16] (fun r w7 => ∃ v6 : Int32, r = some (.int v6) ∧ ((v6 = 0 → Z M G 0 K X w7 46 [some (.ref (G.2.1 40 0)), some (.int p0), some (.int p1), some (.int p2), some (.int p3), none, none, none, none, none, none, none, none, none, none] [.ref (G.2.1 40 0)]) ∧ (¬ (v6 = 0) → Con (mL M) G 1 0 yX10_in cX10_in 3 (some .boolean) w7 [.int p3, .int 0, .int 1] (fun r w9 => ∃ v8 : Int32, r = some (.int v8) ∧ ((¬ v8 = 0 → Z M G 0 K X w9 51 [some (.ref (G.2.1 40 0)), some (.int p0), some (.int p1), some (.int p2), some (.int p3), none, none, none, none, none, none, none, none, none, none] [.int 0, .ref (G.2.1 40 0)]) ∧ (¬ (¬ v8 = 0) → Z M G 0 K X w9 46 [some (.ref (G.2.1 40 0)), some (.int p0), some (.int p1), some (.int p2), some (.int p3), none, none, none, none, none, none, none, none, none, none] [.ref (G.2.1 40 0)]))) X))) X))) X))) X)) :
    Con l G 2 0 yX10_enough cX10_enough 15 (some .long) w [.ref (G.2.1 40 0), .int p0, .int p1, .int p2, .int p3] K X := by
  refine con_intro hl (by decide +kernel) (Nat.le_of_ble_eq_true rfl) (Nat.le_of_ble_eq_true rfl) (fun M kk hM hk F => ?_)
  have h := h M kk hM hk F
  show Z M G 0 K X w 0 [some (.ref (G.2.1 40 0)), some (.int p0), some (.int p1), some (.int p2), some (.int p3), none, none, none, none, none, none, none, none, none, none] []
  refine z_aload_n F dX10_enough_0 rfl ?_
  refine z_iconst F 0 dX10_enough_1 (by decide) ?_
  refine z_putIW F 0 rfl (by decide) (by decide) rfl lk_X10_95 dX10_enough_2 (fun w1 hw1 => ?_)
  have h := h w1 hw1
  refine z_aload_n F dX10_enough_5 rfl ?_
  refine z_iload_n F dX10_enough_6 rfl ?_
  refine z_iconst F 0 dX10_enough_7 (by decide) ?_
  refine z_bipush F 12 dX10_enough_8 (by decide) ?_
  refine z_callS F (k' := 1) (mc' := 0) [.int p0, .int 0, .int 12] [.ref (G.2.1 40 0)] dX10_enough_10 rfl cl_X10_129 hy_X10_in.2 (by omega) (by decide) (by decide) (Nat.le_of_ble_eq_true rfl) rfl (con_mono h ?_ (fun _ _ h => h))
  rintro _ w3 ⟨v2, rfl, h⟩
  show Z M G 0 K X w3 13 [some (.ref (G.2.1 40 0)), some (.int p0), some (.int p1), some (.int p2), some (.int p3), none, none, none, none, none, none, none, none, none, none] [.int v2, .ref (G.2.1 40 0)]
  refine z_if_eq F 46 dX10_enough_13 (by decide) ⟨fun hc => ?_, fun hc => ?_⟩
  · have h := h.1 hc
    exact h
  · have h := h.2 hc
    refine z_iload_n F dX10_enough_16 rfl ?_
    refine z_iconst F 0 dX10_enough_17 (by decide) ?_
    refine z_bipush F 13 dX10_enough_18 (by decide) ?_
    refine z_callS F (k' := 1) (mc' := 0) [.int p1, .int 0, .int 13] [.ref (G.2.1 40 0)] dX10_enough_20 rfl cl_X10_129 hy_X10_in.2 (by omega) (by decide) (by decide) (Nat.le_of_ble_eq_true rfl) rfl (con_mono h ?_ (fun _ _ h => h))
    rintro _ w5 ⟨v4, rfl, h⟩
    show Z M G 0 K X w5 23 [some (.ref (G.2.1 40 0)), some (.int p0), some (.int p1), some (.int p2), some (.int p3), none, none, none, none, none, none, none, none, none, none] [.int v4, .ref (G.2.1 40 0)]
    refine z_if_eq F 46 dX10_enough_23 (by decide) ⟨fun hc => ?_, fun hc => ?_⟩
    · have h := h.1 hc
      exact h
    · have h := h.2 hc
      refine z_iload_n F dX10_enough_26 rfl ?_
      refine z_iconst F 0 dX10_enough_27 (by decide) ?_
      refine z_bipush F 16 dX10_enough_28 (by decide) ?_
      refine z_callS F (k' := 1) (mc' := 0) [.int p2, .int 0, .int 16] [.ref (G.2.1 40 0)] dX10_enough_30 rfl cl_X10_129 hy_X10_in.2 (by omega) (by decide) (by decide) (Nat.le_of_ble_eq_true rfl) rfl (con_mono h ?_ (fun _ _ h => h))
      rintro _ w7 ⟨v6, rfl, h⟩
      show Z M G 0 K X w7 33 [some (.ref (G.2.1 40 0)), some (.int p0), some (.int p1), some (.int p2), some (.int p3), none, none, none, none, none, none, none, none, none, none] [.int v6, .ref (G.2.1 40 0)]
      refine z_if_eq F 46 dX10_enough_33 (by decide) ⟨fun hc => ?_, fun hc => ?_⟩
      · have h := h.1 hc
        exact h
      · have h := h.2 hc
        refine z_iload F dX10_enough_36 rfl ?_
        refine z_iconst F 0 dX10_enough_38 (by decide) ?_
        refine z_iconst F 1 dX10_enough_39 (by decide) ?_
        refine z_callS F (k' := 1) (mc' := 0) [.int p3, .int 0, .int 1] [.ref (G.2.1 40 0)] dX10_enough_40 rfl cl_X10_129 hy_X10_in.2 (by omega) (by decide) (by decide) (Nat.le_of_ble_eq_true rfl) rfl (con_mono h ?_ (fun _ _ h => h))
        rintro _ w9 ⟨v8, rfl, h⟩
        show Z M G 0 K X w9 43 [some (.ref (G.2.1 40 0)), some (.int p0), some (.int p1), some (.int p2), some (.int p3), none, none, none, none, none, none, none, none, none, none] [.int v8, .ref (G.2.1 40 0)]
        refine z_if_ne F 50 dX10_enough_43 (by decide) ⟨fun hc => ?_, fun hc => ?_⟩
        · have h := h.1 hc
          refine z_iconst F 0 dX10_enough_50 (by decide) ?_
          exact h
        · have h := h.2 hc
          exact h
set_option maxRecDepth 20000 in
theorem b_X10_enough_46 {M : Mx} {G : Gx} {kk : Nat} {w : Wd}  {x1 : Int32} {x2 : Int32} {x3 : Int32} {x4 : Int32} {K : Option Value → Wd → Prop} {X : String → Wd → Prop} (F : Fx M G RX10 cX10_enough 15 (some .long) kk 0) (hk : 2 ≤ kk)
    (h : Z M G 0 K X w 51 [some (.ref (G.2.1 40 0)), some (.int x1), some (.int x2), some (.int x3), some (.int x4), none, none, none, none, none, none, none, none, none, none] [.int 1, .ref (G.2.1 40 0)]) :
    Z M G 0 K X w 46 [some (.ref (G.2.1 40 0)), some (.int x1), some (.int x2), some (.int x3), some (.int x4), none, none, none, none, none, none, none, none, none, none] [.ref (G.2.1 40 0)] := by
  refine z_iconst F 1 dX10_enough_46 (by decide) ?_
  refine z_goto F 51 dX10_enough_47 (by decide) ?_
  exact h
set_option maxRecDepth 20000 in
theorem b_X10_enough_51 {M : Mx} {G : Gx} {kk : Nat} {w : Wd}  {x1 : Int32} {x2 : Int32} {x3 : Int32} {x4 : Int32} {s0 : Int32} {K : Option Value → Wd → Prop} {X : String → Wd → Prop} (F : Fx M G RX10 cX10_enough 15 (some .long) kk 0) (hk : 2 ≤ kk)
    (h : Con (mL M) G 1 0 yX10_bad cX10_bad 4 (some .boolean) w [.ref (G.2.1 40 0), .int s0, .int 1, .int 1] (fun r w2 => ∃ v1 : Int32, r = some (.int v1) ∧ ((v1 = 0 → Z M G 0 K X w2 64 [some (.ref (G.2.1 40 0)), some (.int x1), some (.int x2), some (.int x3), some (.int x4), some (.int 0), none, none, none, none, none, none, none, none, none] []) ∧ (¬ (v1 = 0) → K (some (.long 0)) w2))) X) :
    Z M G 0 K X w 51 [some (.ref (G.2.1 40 0)), some (.int x1), some (.int x2), some (.int x3), some (.int x4), none, none, none, none, none, none, none, none, none, none] [.int s0, .ref (G.2.1 40 0)] := by
  refine z_iconst F 1 dX10_enough_51 (by decide) ?_
  refine z_iconst F 1 dX10_enough_52 (by decide) ?_
  refine z_callV F (k' := 1) (mc' := 0) [.int s0, .int 1, .int 1] [] dX10_enough_53 rfl rfl (by decide) rfl cl_X10_171 hy_X10_bad (by omega) (by decide) (by decide) (Nat.le_of_ble_eq_true rfl) rfl (con_mono h ?_ (fun _ _ h => h))
  rintro _ w2 ⟨v1, rfl, h⟩
  show Z M G 0 K X w2 56 [some (.ref (G.2.1 40 0)), some (.int x1), some (.int x2), some (.int x3), some (.int x4), none, none, none, none, none, none, none, none, none, none] [.int v1]
  refine z_if_eq F 61 dX10_enough_56 (by decide) ⟨fun hc => ?_, fun hc => ?_⟩
  · have h := h.1 hc
    refine z_iconst F 0 dX10_enough_61 (by decide) ?_
    refine z_istore F dX10_enough_62 (Nat.le_of_ble_eq_true rfl) ?_
    exact h
  · have h := h.2 hc
    refine z_lconst F 0 dX10_enough_59 (by decide) ?_
    exact z_lret F dX10_enough_60 (by decide) h
set_option maxRecDepth 20000 in
theorem b_X10_enough_64 {M : Mx} {G : Gx} {kk : Nat} {w : Wd}  {x1 : Int32} {x2 : Int32} {x3 : Int32} {x4 : Int32} {x5 : Int32} {K : Option Value → Wd → Prop} {X : String → Wd → Prop} (F : Fx M G RX10 cX10_enough 15 (some .long) kk 0) (hk : 2 ≤ kk)
    (h : ((14 ≤ x5 → Z M G 0 K X w 97 [some (.ref (G.2.1 40 0)), some (.int x1), some (.int x2), some (.int x3), some (.int x4), some (.int 0), none, none, none, none, none, none, none, none, none] []) ∧ (¬ (14 ≤ x5) → ((¬ x5 = 0 → (vp_in x5 14 ∧ ∀ w1 : Wd, w1 = setL w 75 0 ((x5 : Int32).toNatClampNeg) 0 → Z M G 0 K X w1 64 [some (.ref (G.2.1 40 0)), some (.int x1), some (.int x2), some (.int x3), some (.int x4), some (.int (x5 + 1)), none, none, none, none, none, none, none, none, none] [])) ∧ (¬ (¬ x5 = 0) → (vp_in x5 14 ∧ ∀ w2 : Wd, w2 = setL w 75 0 ((x5 : Int32).toNatClampNeg) 1 → Z M G 0 K X w2 64 [some (.ref (G.2.1 40 0)), some (.int x1), some (.int x2), some (.int x3), some (.int x4), some (.int (x5 + 1)), none, none, none, none, none, none, none, none, none] [])))))) :
    Z M G 0 K X w 64 [some (.ref (G.2.1 40 0)), some (.int x1), some (.int x2), some (.int x3), some (.int x4), some (.int x5), none, none, none, none, none, none, none, none, none] [] := by
  refine z_iload F dX10_enough_64 rfl ?_
  refine z_bipush F 14 dX10_enough_66 (by decide) ?_
  refine z_icmp_ge F 94 dX10_enough_68 (by decide) ⟨fun hc => ?_, fun hc => ?_⟩
  · have h := h.1 hc
    refine z_iconst F 0 dX10_enough_94 (by decide) ?_
    refine z_istore F dX10_enough_95 (Nat.le_of_ble_eq_true rfl) ?_
    exact h
  · have h := h.2 hc
    refine z_aload_n F dX10_enough_71 rfl ?_
    refine z_getR F 44 75 0 rfl (by decide) (by decide) rfl rfl rfl lk_X10_85 dX10_enough_72 ?_
    refine z_iload F dX10_enough_75 rfl ?_
    refine z_iload F dX10_enough_77 rfl ?_
    refine z_if_ne F 86 dX10_enough_79 (by decide) ⟨fun hc => ?_, fun hc => ?_⟩
    · have h := h.1 hc
      refine z_lconst F 0 dX10_enough_86 (by decide) ?_
      obtain ⟨hb, h⟩ := h
      refine z_lastW F ((x5 : Int32).toNatClampNeg) rfl rfl (by decide) hb dX10_enough_87 (fun w1 hw1 => ?_)
      have h := h w1 hw1
      refine z_iinc F (x5 + 1) dX10_enough_88 rfl rfl (Nat.le_of_ble_eq_true rfl) ?_
      refine z_goto F 64 dX10_enough_91 (by decide) ?_
      exact h
    · have h := h.2 hc
      refine z_lconst F 1 dX10_enough_82 (by decide) ?_
      refine z_goto F 87 dX10_enough_83 (by decide) ?_
      obtain ⟨hb, h⟩ := h
      refine z_lastW F ((x5 : Int32).toNatClampNeg) rfl rfl (by decide) hb dX10_enough_87 (fun w2 hw2 => ?_)
      have h := h w2 hw2
      refine z_iinc F (x5 + 1) dX10_enough_88 rfl rfl (Nat.le_of_ble_eq_true rfl) ?_
      refine z_goto F 64 dX10_enough_91 (by decide) ?_
      exact h
set_option maxRecDepth 20000 in
theorem b_X10_enough_97 {M : Mx} {G : Gx} {kk : Nat} {w : Wd}  {x1 : Int32} {x2 : Int32} {x3 : Int32} {x4 : Int32} {x5 : Int32} {K : Option Value → Wd → Prop} {X : String → Wd → Prop} (F : Fx M G RX10 cX10_enough 15 (some .long) kk 0) (hk : 2 ≤ kk)
    (h : ((x1 ≤ x5 → Z M G 0 K X w 179 [some (.ref (G.2.1 40 0)), none, none, none, some (.int x4), some (.long 0), none, some (.long ((1 : Int64) <<< (((4 : Int32) * x1 : Int32).toInt64 &&& 63))), none, some (.int x2), none, none, none, none, none] []) ∧ (¬ (x1 ≤ x5) → Z M G 0 K X w 107 [some (.ref (G.2.1 40 0)), some (.int x1), some (.int x2), some (.int x3), some (.int x4), some (.int x5), some (.int 13), none, none, none, none, none, none, none, none] []))) :
    Z M G 0 K X w 97 [some (.ref (G.2.1 40 0)), some (.int x1), some (.int x2), some (.int x3), some (.int x4), some (.int x5), none, none, none, none, none, none, none, none, none] [] := by
  refine z_iload F dX10_enough_97 rfl ?_
  refine z_iload_n F dX10_enough_99 rfl ?_
  refine z_icmp_ge F 166 dX10_enough_100 (by decide) ⟨fun hc => ?_, fun hc => ?_⟩
  · have h := h.1 hc
    refine z_lconst F 0 dX10_enough_166 (by decide) ?_
    refine z_lstore F dX10_enough_167 (Nat.le_of_ble_eq_true rfl) ?_
    refine z_lconst F 1 dX10_enough_169 (by decide) ?_
    refine z_iconst F 4 dX10_enough_170 (by decide) ?_
    refine z_iload_n F dX10_enough_171 rfl ?_
    refine z_imul F dX10_enough_172 ?_
    refine z_lshl F dX10_enough_173 ?_
    refine z_lstore F dX10_enough_174 (Nat.le_of_ble_eq_true rfl) ?_
    refine z_iload_n F dX10_enough_176 rfl ?_
    refine z_istore F dX10_enough_177 (Nat.le_of_ble_eq_true rfl) ?_
    exact z_weak h (⟨rfl, ⟨rfl, ⟨rfl, ⟨rfl, ⟨rfl, trivial⟩⟩⟩⟩⟩)
  · have h := h.2 hc
    refine z_bipush F 13 dX10_enough_103 (by decide) ?_
    refine z_istore F dX10_enough_105 (Nat.le_of_ble_eq_true rfl) ?_
    exact h
set_option maxRecDepth 20000 in
theorem b_X10_enough_107 {M : Mx} {G : Gx} {kk : Nat} {w : Wd}  {x1 : Int32} {x2 : Int32} {x3 : Int32} {x4 : Int32} {x5 : Int32} {x6 : Int32} {K : Option Value → Wd → Prop} {X : String → Wd → Prop} (F : Fx M G RX10 cX10_enough 15 (some .long) kk 0) (hk : 2 ≤ kk)
    (h : ((x6 < 0 → Z M G 0 K X w 97 [some (.ref (G.2.1 40 0)), some (.int x1), some (.int x2), some (.int x3), some (.int x4), some (.int (x5 + 1)), none, none, none, none, none, none, none, none, none] []) ∧ (¬ (x6 < 0) → (vp_in x6 14 ∧ ((x6 ≤ 0 → (vp_in x6 14 ∧ ∀ w1 : Wd, w1 = setL w 75 0 ((x6 : Int32).toNatClampNeg) (((w.2.1 75 0 ((x6 : Int32).toNatClampNeg)) * ((x3 : Int32).toInt64)) + (0 : Int64)) → Z M G 0 K X w1 107 [some (.ref (G.2.1 40 0)), some (.int x1), some (.int x2), some (.int x3), some (.int x4), some (.int x5), some (.int (x6 + (-1))), none, none, none, none, none, none, none, none] [])) ∧ (¬ (x6 ≤ 0) → (vp_in (x6 - (1 : Int32)) 14 ∧ (vp_in x6 14 ∧ ∀ w2 : Wd, w2 = setL w 75 0 ((x6 : Int32).toNatClampNeg) (((w.2.1 75 0 ((x6 : Int32).toNatClampNeg)) * ((x3 : Int32).toInt64)) + ((w.2.1 75 0 ((x6 - (1 : Int32) : Int32).toNatClampNeg)) * (((16 : Int32) - x3 : Int32).toInt64))) → Z M G 0 K X w2 107 [some (.ref (G.2.1 40 0)), some (.int x1), some (.int x2), some (.int x3), some (.int x4), some (.int x5), some (.int (x6 + (-1))), none, none, none, none, none, none, none, none] [])))))))) :
    Z M G 0 K X w 107 [some (.ref (G.2.1 40 0)), some (.int x1), some (.int x2), some (.int x3), some (.int x4), some (.int x5), some (.int x6), none, none, none, none, none, none, none, none] [] := by
  refine z_iload F dX10_enough_107 rfl ?_
  refine z_if_lt F 160 dX10_enough_109 (by decide) ⟨fun hc => ?_, fun hc => ?_⟩
  · have h := h.1 hc
    refine z_iinc F (x5 + 1) dX10_enough_160 rfl rfl (Nat.le_of_ble_eq_true rfl) ?_
    refine z_goto F 97 dX10_enough_163 (by decide) ?_
    exact z_weak h (⟨rfl, ⟨rfl, ⟨rfl, ⟨rfl, ⟨rfl, ⟨rfl, trivial⟩⟩⟩⟩⟩⟩)
  · have h := h.2 hc
    refine z_aload_n F dX10_enough_112 rfl ?_
    refine z_getR F 44 75 0 rfl (by decide) (by decide) rfl rfl rfl lk_X10_85 dX10_enough_113 ?_
    refine z_iload F dX10_enough_116 rfl ?_
    refine z_aload_n F dX10_enough_118 rfl ?_
    refine z_getR F 44 75 0 rfl (by decide) (by decide) rfl rfl rfl lk_X10_85 dX10_enough_119 ?_
    refine z_iload F dX10_enough_122 rfl ?_
    obtain ⟨hb, h⟩ := h
    refine z_laldK F ((x6 : Int32).toNatClampNeg) rfl rfl (by decide) hb dX10_enough_124 ?_
    refine z_iload_n F dX10_enough_125 rfl ?_
    refine z_i2l F dX10_enough_126 ?_
    refine z_lmul F dX10_enough_127 ?_
    refine z_iload F dX10_enough_128 rfl ?_
    refine z_if_le F 151 dX10_enough_130 (by decide) ⟨fun hc => ?_, fun hc => ?_⟩
    · have h := h.1 hc
      refine z_lconst F 0 dX10_enough_151 (by decide) ?_
      refine z_ladd F dX10_enough_152 ?_
      obtain ⟨hb, h⟩ := h
      refine z_lastW F ((x6 : Int32).toNatClampNeg) rfl rfl (by decide) hb dX10_enough_153 (fun w1 hw1 => ?_)
      have h := h w1 hw1
      refine z_iinc F (x6 + (-1)) dX10_enough_154 rfl rfl (Nat.le_of_ble_eq_true rfl) ?_
      refine z_goto F 107 dX10_enough_157 (by decide) ?_
      exact h
    · have h := h.2 hc
      refine z_aload_n F dX10_enough_133 rfl ?_
      refine z_getR F 44 75 0 rfl (by decide) (by decide) rfl rfl rfl lk_X10_85 dX10_enough_134 ?_
      refine z_iload F dX10_enough_137 rfl ?_
      refine z_iconst F 1 dX10_enough_139 (by decide) ?_
      refine z_isub F dX10_enough_140 ?_
      obtain ⟨hb, h⟩ := h
      refine z_laldK F ((x6 - (1 : Int32) : Int32).toNatClampNeg) rfl rfl (by decide) hb dX10_enough_141 ?_
      refine z_bipush F 16 dX10_enough_142 (by decide) ?_
      refine z_iload_n F dX10_enough_144 rfl ?_
      refine z_isub F dX10_enough_145 ?_
      refine z_i2l F dX10_enough_146 ?_
      refine z_lmul F dX10_enough_147 ?_
      refine z_goto F 152 dX10_enough_148 (by decide) ?_
      refine z_ladd F dX10_enough_152 ?_
      obtain ⟨hb, h⟩ := h
      refine z_lastW F ((x6 : Int32).toNatClampNeg) rfl rfl (by decide) hb dX10_enough_153 (fun w2 hw2 => ?_)
      have h := h w2 hw2
      refine z_iinc F (x6 + (-1)) dX10_enough_154 rfl rfl (Nat.le_of_ble_eq_true rfl) ?_
      refine z_goto F 107 dX10_enough_157 (by decide) ?_
      exact h
set_option maxRecDepth 20000 in
theorem b_X10_enough_179 {M : Mx} {G : Gx} {kk : Nat} {w : Wd}  {x4 : Int32} {x5 : Int64} {x7 : Int64} {x9 : Int32} {K : Option Value → Wd → Prop} {X : String → Wd → Prop} (F : Fx M G RX10 cX10_enough 15 (some .long) kk 0) (hk : 2 ≤ kk)
    (h : ((14 ≤ x9 → Z M G 0 K X w 212 [none, none, none, none, some (.int x4), some (.long x5), none, some (.long x7), none, some (.long x7), none, some (.long x5), none, none, none] []) ∧ (¬ (14 ≤ x9) → (vp_in x9 14 ∧ Z M G 0 K X w 179 [some (.ref (G.2.1 40 0)), none, none, none, some (.int x4), some (.long (x5 + (w.2.1 75 0 ((x9 : Int32).toNatClampNeg)))), none, some (.long x7), none, some (.int (x9 + 1)), none, none, none, none, none] [])))) :
    Z M G 0 K X w 179 [some (.ref (G.2.1 40 0)), none, none, none, some (.int x4), some (.long x5), none, some (.long x7), none, some (.int x9), none, none, none, none, none] [] := by
  refine z_iload F dX10_enough_179 rfl ?_
  refine z_bipush F 14 dX10_enough_181 (by decide) ?_
  refine z_icmp_ge F 204 dX10_enough_183 (by decide) ⟨fun hc => ?_, fun hc => ?_⟩
  · have h := h.1 hc
    refine z_lload F dX10_enough_204 rfl ?_
    refine z_lstore F dX10_enough_206 (Nat.le_of_ble_eq_true rfl) ?_
    refine z_lload F dX10_enough_208 rfl ?_
    refine z_lstore F dX10_enough_210 (Nat.le_of_ble_eq_true rfl) ?_
    exact z_weak h (⟨rfl, ⟨rfl, ⟨rfl, ⟨rfl, ⟨rfl, trivial⟩⟩⟩⟩⟩)
  · have h := h.2 hc
    refine z_lload F dX10_enough_186 rfl ?_
    refine z_aload_n F dX10_enough_188 rfl ?_
    refine z_getR F 44 75 0 rfl (by decide) (by decide) rfl rfl rfl lk_X10_85 dX10_enough_189 ?_
    refine z_iload F dX10_enough_192 rfl ?_
    obtain ⟨hb, h⟩ := h
    refine z_laldK F ((x9 : Int32).toNatClampNeg) rfl rfl (by decide) hb dX10_enough_194 ?_
    refine z_ladd F dX10_enough_195 ?_
    refine z_lstore F dX10_enough_196 (Nat.le_of_ble_eq_true rfl) ?_
    refine z_iinc F (x9 + 1) dX10_enough_198 rfl rfl (Nat.le_of_ble_eq_true rfl) ?_
    refine z_goto F 179 dX10_enough_201 (by decide) ?_
    exact h
set_option maxRecDepth 20000 in
theorem b_X10_enough_212 {M : Mx} {G : Gx} {kk : Nat} {w : Wd}  {x4 : Int32} {x5 : Int64} {x7 : Int64} {x9 : Int64} {x11 : Int64} {K : Option Value → Wd → Prop} {X : String → Wd → Prop} (F : Fx M G RX10 cX10_enough 15 (some .long) kk 0) (hk : 2 ≤ kk)
    (h : (((lg_cmp x11 (0 : Int64)) = 0 → ((¬ x4 = 0 → (¬ x9 = 0) ∧ K (some (.long (x7 / x9))) w) ∧ (¬ (¬ x4 = 0) → (¬ x9 = 0) ∧ K (some (.long (x5 / x9))) w))) ∧ (¬ ((lg_cmp x11 (0 : Int64)) = 0) → (¬ x11 = 0) ∧ Z M G 0 K X w 212 [none, none, none, none, some (.int x4), some (.long x5), none, some (.long x7), none, some (.long x11), none, some (.long (x9 - x9 / x11 * x11)), none, none, none] []))) :
    Z M G 0 K X w 212 [none, none, none, none, some (.int x4), some (.long x5), none, some (.long x7), none, some (.long x9), none, some (.long x11), none, none, none] [] := by
  refine z_lload F dX10_enough_212 rfl ?_
  refine z_lconst F 0 dX10_enough_214 (by decide) ?_
  refine z_lcmp F dX10_enough_215 ?_
  refine z_if_eq F 237 dX10_enough_216 (by decide) ⟨fun hc => ?_, fun hc => ?_⟩
  · have h := h.1 hc
    refine z_iload F dX10_enough_237 rfl ?_
    refine z_if_ne F 250 dX10_enough_239 (by decide) ⟨fun hc => ?_, fun hc => ?_⟩
    · have h := h.1 hc
      refine z_lload F dX10_enough_250 rfl ?_
      refine z_lload F dX10_enough_252 rfl ?_
      obtain ⟨hb, h⟩ := h
      refine z_ldiv F dX10_enough_254 hb ?_
      exact z_lret F dX10_enough_255 (by decide) h
    · have h := h.2 hc
      refine z_lload F dX10_enough_242 rfl ?_
      refine z_lload F dX10_enough_244 rfl ?_
      obtain ⟨hb, h⟩ := h
      refine z_ldiv F dX10_enough_246 hb ?_
      refine z_goto F 255 dX10_enough_247 (by decide) ?_
      exact z_lret F dX10_enough_255 (by decide) h
  · have h := h.2 hc
    refine z_lload F dX10_enough_219 rfl ?_
    refine z_lload F dX10_enough_221 rfl ?_
    obtain ⟨hb, h⟩ := h
    refine z_lrem F dX10_enough_223 hb ?_
    refine z_lstore F dX10_enough_224 (Nat.le_of_ble_eq_true rfl) ?_
    refine z_lload F dX10_enough_226 rfl ?_
    refine z_lstore F dX10_enough_228 (Nat.le_of_ble_eq_true rfl) ?_
    refine z_lload F dX10_enough_230 rfl ?_
    refine z_lstore F dX10_enough_232 (Nat.le_of_ble_eq_true rfl) ?_
    refine z_goto F 212 dX10_enough_234 (by decide) ?_
    exact z_weak h (⟨rfl, ⟨rfl, ⟨rfl, ⟨rfl, ⟨rfl, trivial⟩⟩⟩⟩⟩)
set_option maxRecDepth 20000 in
theorem e_X10_givenBy {l : Launch} {G : Gx} {w : Wd} {p0 : Int32} {p1 : Int32} {K : Option Value → Wd → Prop} {X : String → Wd → Prop} (hl : l.stackTraces = false)
    (h : ∀ (M : Mx) (kk : Nat), mL M = l → 2 ≤ kk → Fx M G RX10 cX10_givenBy 5 (some .int) kk 0 → Z M G 0 K X w 5 [some (.ref (G.2.1 40 0)), some (.int p0), some (.int p1), some (.int 0), some (.int 0)] []) :
    Con l G 2 0 yX10_givenBy cX10_givenBy 5 (some .int) w [.ref (G.2.1 40 0), .int p0, .int p1] K X := by
  refine con_intro hl (by decide +kernel) (Nat.le_of_ble_eq_true rfl) (Nat.le_of_ble_eq_true rfl) (fun M kk hM hk F => ?_)
  have h := h M kk hM hk F
  show Z M G 0 K X w 0 [some (.ref (G.2.1 40 0)), some (.int p0), some (.int p1), none, none] []
  refine z_iconst F 0 dX10_givenBy_0 (by decide) ?_
  refine z_istore_n F dX10_givenBy_1 (Nat.le_of_ble_eq_true rfl) ?_
  refine z_iconst F 0 dX10_givenBy_2 (by decide) ?_
  refine z_istore F dX10_givenBy_3 (Nat.le_of_ble_eq_true rfl) ?_
  exact h
set_option maxRecDepth 20000 in
theorem b_X10_givenBy_5 {M : Mx} {G : Gx} {kk : Nat} {w : Wd}  {x1 : Int32} {x2 : Int32} {x3 : Int32} {x4 : Int32} {K : Option Value → Wd → Prop} {X : String → Wd → Prop} (F : Fx M G RX10 cX10_givenBy 5 (some .int) kk 0) (hk : 2 ≤ kk)
    (h : (((w.1 44 0 0) ≤ x4 → K (some (.int x3)) w) ∧ (¬ ((w.1 44 0 0) ≤ x4) → Con (mL M) G 1 0 yX10_has cX10_has 2 (some .boolean) w [.int x1, .int x4] (fun r w2 => ∃ v1 : Int32, r = some (.int v1) ∧ ((v1 = 0 → Z M G 0 K X w2 5 [some (.ref (G.2.1 40 0)), some (.int x1), some (.int x2), some (.int (x3 + (0 : Int32))), some (.int (x4 + 1))] []) ∧ (¬ (v1 = 0) → (vp_in x4 7 ∧ Con (mL M) G 1 0 yX10_less cX10_less 2 (some .int) w2 [.int x2, .int (w2.1 48 ((x4 : Int32).toNatClampNeg) 1)] (fun r w5 => ∃ v4 : Int32, r = some (.int v4) ∧ Z M G 0 K X w5 5 [some (.ref (G.2.1 40 0)), some (.int x1), some (.int x2), some (.int (x3 + v4)), some (.int (x4 + 1))] []) X)))) X))) :
    Z M G 0 K X w 5 [some (.ref (G.2.1 40 0)), some (.int x1), some (.int x2), some (.int x3), some (.int x4)] [] := by
  refine z_iload F dX10_givenBy_5 rfl ?_
  refine z_aload_n F dX10_givenBy_7 rfl ?_
  refine z_getR F 12 44 0 rfl (by decide) (by decide) rfl rfl rfl lk_X10_23 dX10_givenBy_8 ?_
  refine z_iconst F 0 dX10_givenBy_11 (by decide) ?_
  refine z_ialdK F 0 (by decide) rfl (by decide) (by unfold vp_in; decide) dX10_givenBy_12 ?_
  refine z_icmp_ge F 51 dX10_givenBy_13 (by decide) ⟨fun hc => ?_, fun hc => ?_⟩
  · have h := h.1 hc
    refine z_iload_n F dX10_givenBy_51 rfl ?_
    exact z_iret F dX10_givenBy_52 (by decide) h
  · have h := h.2 hc
    refine z_iload_n F dX10_givenBy_16 rfl ?_
    refine z_iload_n F dX10_givenBy_17 rfl ?_
    refine z_iload F dX10_givenBy_18 rfl ?_
    refine z_callS F (k' := 1) (mc' := 0) [.int x1, .int x4] [.int x3] dX10_givenBy_20 rfl cl_X10_254 hy_X10_has.2 (by omega) (by decide) (by decide) (Nat.le_of_ble_eq_true rfl) rfl (con_mono h ?_ (fun _ _ h => h))
    rintro _ w2 ⟨v1, rfl, h⟩
    show Z M G 0 K X w2 23 [some (.ref (G.2.1 40 0)), some (.int x1), some (.int x2), some (.int x3), some (.int x4)] [.int v1, .int x3]
    refine z_if_eq F 42 dX10_givenBy_23 (by decide) ⟨fun hc => ?_, fun hc => ?_⟩
    · have h := h.1 hc
      refine z_iconst F 0 dX10_givenBy_42 (by decide) ?_
      refine z_iadd F dX10_givenBy_43 ?_
      refine z_istore_n F dX10_givenBy_44 (Nat.le_of_ble_eq_true rfl) ?_
      refine z_iinc F (x4 + 1) dX10_givenBy_45 rfl rfl (Nat.le_of_ble_eq_true rfl) ?_
      refine z_goto F 5 dX10_givenBy_48 (by decide) ?_
      exact h
    · have h := h.2 hc
      refine z_iload_n F dX10_givenBy_26 rfl ?_
      refine z_aload_n F dX10_givenBy_27 rfl ?_
      refine z_getR F 14 47 0 rfl (by decide) (by decide) rfl rfl rfl lk_X10_31 dX10_givenBy_28 ?_
      refine z_iload F dX10_givenBy_31 rfl ?_
      obtain ⟨hb, h⟩ := h
      refine z_aald F 48 ((x4 : Int32).toNatClampNeg) rfl (by decide) (by decide) (by decide) rfl rfl hb dX10_givenBy_33 (fun hv3 => ?_)
      refine z_iconst F 1 dX10_givenBy_34 (by decide) ?_
      refine z_ialdK F 1 (by decide) rfl hv3 (by unfold vp_in; decide) dX10_givenBy_35 ?_
      refine z_callS F (k' := 1) (mc' := 0) [.int x2, .int (w2.1 48 ((x4 : Int32).toNatClampNeg) 1)] [.int x3] dX10_givenBy_36 rfl cl_X10_235 hy_X10_less.2 (by omega) (by decide) (by decide) (Nat.le_of_ble_eq_true rfl) rfl (con_mono h ?_ (fun _ _ h => h))
      rintro _ w5 ⟨v4, rfl, h⟩
      show Z M G 0 K X w5 39 [some (.ref (G.2.1 40 0)), some (.int x1), some (.int x2), some (.int x3), some (.int x4)] [.int v4, .int x3]
      refine z_goto F 43 dX10_givenBy_39 (by decide) ?_
      refine z_iadd F dX10_givenBy_43 ?_
      refine z_istore_n F dX10_givenBy_44 (Nat.le_of_ble_eq_true rfl) ?_
      refine z_iinc F (x4 + 1) dX10_givenBy_45 rfl rfl (Nat.le_of_ble_eq_true rfl) ?_
      refine z_goto F 5 dX10_givenBy_48 (by decide) ?_
      exact h
set_option maxRecDepth 20000 in
theorem e_X10_rent {l : Launch} {G : Gx} {w : Wd} {p0 : Int32} {p1 : Int32} {p2 : Int32} {K : Option Value → Wd → Prop} {X : String → Wd → Prop} (hl : l.stackTraces = false)
    (h : ∀ (M : Mx) (kk : Nat), mL M = l → 3 ≤ kk → Fx M G RX10 cX10_rent 5 (some .int) kk 0 → (∀ w1 : Wd, w1 = setI w 40 0 0 0 → Con (mL M) G 2 0 yX10_isSinger cX10_isSinger 2 (some .boolean) w1 [.ref (G.2.1 40 0), .int p0] (fun r w3 => ∃ v2 : Int32, r = some (.int v2) ∧ ((¬ v2 = 0 → Z M G 0 K X w3 19 [some (.ref (G.2.1 40 0)), some (.int p0), some (.int p1), some (.int p2), none] [.int 0, .ref (G.2.1 40 0)]) ∧ (¬ (¬ v2 = 0) → Z M G 0 K X w3 19 [some (.ref (G.2.1 40 0)), some (.int p0), some (.int p1), some (.int p2), none] [.int 1, .ref (G.2.1 40 0)]))) X)) :
    Con l G 3 0 yX10_rent cX10_rent 5 (some .int) w [.ref (G.2.1 40 0), .int p0, .int p1, .int p2] K X := by
  refine con_intro hl (by decide +kernel) (Nat.le_of_ble_eq_true rfl) (Nat.le_of_ble_eq_true rfl) (fun M kk hM hk F => ?_)
  have h := h M kk hM hk F
  show Z M G 0 K X w 0 [some (.ref (G.2.1 40 0)), some (.int p0), some (.int p1), some (.int p2), none] []
  refine z_aload_n F dX10_rent_0 rfl ?_
  refine z_iconst F 0 dX10_rent_1 (by decide) ?_
  refine z_putIW F 0 rfl (by decide) (by decide) rfl lk_X10_95 dX10_rent_2 (fun w1 hw1 => ?_)
  have h := h w1 hw1
  refine z_aload_n F dX10_rent_5 rfl ?_
  refine z_aload_n F dX10_rent_6 rfl ?_
  refine z_iload_n F dX10_rent_7 rfl ?_
  refine z_callV F (k' := 2) (mc' := 0) [.int p0] [.ref (G.2.1 40 0)] dX10_rent_8 rfl rfl (by decide) rfl cl_X10_321 hy_X10_isSinger (by omega) (by decide) (by decide) (Nat.le_of_ble_eq_true rfl) rfl (con_mono h ?_ (fun _ _ h => h))
  rintro _ w3 ⟨v2, rfl, h⟩
  show Z M G 0 K X w3 11 [some (.ref (G.2.1 40 0)), some (.int p0), some (.int p1), some (.int p2), none] [.int v2, .ref (G.2.1 40 0)]
  refine z_if_ne F 18 dX10_rent_11 (by decide) ⟨fun hc => ?_, fun hc => ?_⟩
  · have h := h.1 hc
    refine z_iconst F 0 dX10_rent_18 (by decide) ?_
    exact h
  · have h := h.2 hc
    refine z_iconst F 1 dX10_rent_14 (by decide) ?_
    refine z_goto F 19 dX10_rent_15 (by decide) ?_
    exact h
set_option maxRecDepth 20000 in
theorem b_X10_rent_19 {M : Mx} {G : Gx} {kk : Nat} {w : Wd}  {x1 : Int32} {x2 : Int32} {x3 : Int32} {s0 : Int32} {K : Option Value → Wd → Prop} {X : String → Wd → Prop} (F : Fx M G RX10 cX10_rent 5 (some .int) kk 0) (hk : 3 ≤ kk)
    (h : Con (mL M) G 1 0 yX10_bad cX10_bad 4 (some .boolean) w [.ref (G.2.1 40 0), .int s0, .int 1, .int 0] (fun r w2 => ∃ v1 : Int32, r = some (.int v1) ∧ ((¬ v1 = 0 → K (some (.int 0)) w2) ∧ (¬ (¬ v1 = 0) → Con (mL M) G 1 0 yX10_everySinger cX10_everySinger 1 (some .int) w2 [.ref (G.2.1 40 0)] (fun r w4 => ∃ v3 : Int32, r = some (.int v3) ∧ Con (mL M) G 1 0 yX10_in cX10_in 3 (some .boolean) w4 [.int x2, .int 0, .int v3] (fun r w6 => ∃ v5 : Int32, r = some (.int v5) ∧ ((v5 = 0 → Z M G 0 K X w6 51 [some (.ref (G.2.1 40 0)), some (.int x1), some (.int x2), some (.int x3), none] [.ref (G.2.1 40 0)]) ∧ (¬ (v5 = 0) → Con (mL M) G 1 0 yX10_in cX10_in 3 (some .boolean) w6 [.int x3, .int 0, .int 999] (fun r w8 => ∃ v7 : Int32, r = some (.int v7) ∧ ((¬ v7 = 0 → Z M G 0 K X w8 56 [some (.ref (G.2.1 40 0)), some (.int x1), some (.int x2), some (.int x3), none] [.int 0, .ref (G.2.1 40 0)]) ∧ (¬ (¬ v7 = 0) → Z M G 0 K X w8 51 [some (.ref (G.2.1 40 0)), some (.int x1), some (.int x2), some (.int x3), none] [.ref (G.2.1 40 0)]))) X))) X) X))) X) :
    Z M G 0 K X w 19 [some (.ref (G.2.1 40 0)), some (.int x1), some (.int x2), some (.int x3), none] [.int s0, .ref (G.2.1 40 0)] := by
  refine z_iconst F 1 dX10_rent_19 (by decide) ?_
  refine z_iconst F 0 dX10_rent_20 (by decide) ?_
  refine z_callV F (k' := 1) (mc' := 0) [.int s0, .int 1, .int 0] [] dX10_rent_21 rfl rfl (by decide) rfl cl_X10_171 hy_X10_bad (by omega) (by decide) (by decide) (Nat.le_of_ble_eq_true rfl) rfl (con_mono h ?_ (fun _ _ h => h))
  rintro _ w2 ⟨v1, rfl, h⟩
  show Z M G 0 K X w2 24 [some (.ref (G.2.1 40 0)), some (.int x1), some (.int x2), some (.int x3), none] [.int v1]
  refine z_if_ne F 64 dX10_rent_24 (by decide) ⟨fun hc => ?_, fun hc => ?_⟩
  · have h := h.1 hc
    refine z_iconst F 0 dX10_rent_64 (by decide) ?_
    exact z_iret F dX10_rent_65 (by decide) h
  · have h := h.2 hc
    refine z_aload_n F dX10_rent_27 rfl ?_
    refine z_iload_n F dX10_rent_28 rfl ?_
    refine z_iconst F 0 dX10_rent_29 (by decide) ?_
    refine z_aload_n F dX10_rent_30 rfl ?_
    refine z_callV F (k' := 1) (mc' := 0) [] [.int 0, .int x2, .ref (G.2.1 40 0)] dX10_rent_31 rfl rfl (by decide) rfl cl_X10_330 hy_X10_everySinger (by omega) (by decide) (by decide) (Nat.le_of_ble_eq_true rfl) rfl (con_mono h ?_ (fun _ _ h => h))
    rintro _ w4 ⟨v3, rfl, h⟩
    show Z M G 0 K X w4 34 [some (.ref (G.2.1 40 0)), some (.int x1), some (.int x2), some (.int x3), none] [.int v3, .int 0, .int x2, .ref (G.2.1 40 0)]
    refine z_callS F (k' := 1) (mc' := 0) [.int x2, .int 0, .int v3] [.ref (G.2.1 40 0)] dX10_rent_34 rfl cl_X10_129 hy_X10_in.2 (by omega) (by decide) (by decide) (Nat.le_of_ble_eq_true rfl) rfl (con_mono h ?_ (fun _ _ h => h))
    rintro _ w6 ⟨v5, rfl, h⟩
    show Z M G 0 K X w6 37 [some (.ref (G.2.1 40 0)), some (.int x1), some (.int x2), some (.int x3), none] [.int v5, .ref (G.2.1 40 0)]
    refine z_if_eq F 51 dX10_rent_37 (by decide) ⟨fun hc => ?_, fun hc => ?_⟩
    · have h := h.1 hc
      exact h
    · have h := h.2 hc
      refine z_iload_n F dX10_rent_40 rfl ?_
      refine z_iconst F 0 dX10_rent_41 (by decide) ?_
      refine z_sipush F 999 dX10_rent_42 (by decide) ?_
      refine z_callS F (k' := 1) (mc' := 0) [.int x3, .int 0, .int 999] [.ref (G.2.1 40 0)] dX10_rent_45 rfl cl_X10_129 hy_X10_in.2 (by omega) (by decide) (by decide) (Nat.le_of_ble_eq_true rfl) rfl (con_mono h ?_ (fun _ _ h => h))
      rintro _ w8 ⟨v7, rfl, h⟩
      show Z M G 0 K X w8 48 [some (.ref (G.2.1 40 0)), some (.int x1), some (.int x2), some (.int x3), none] [.int v7, .ref (G.2.1 40 0)]
      refine z_if_ne F 55 dX10_rent_48 (by decide) ⟨fun hc => ?_, fun hc => ?_⟩
      · have h := h.1 hc
        refine z_iconst F 0 dX10_rent_55 (by decide) ?_
        exact h
      · have h := h.2 hc
        exact h
set_option maxRecDepth 20000 in
theorem b_X10_rent_51 {M : Mx} {G : Gx} {kk : Nat} {w : Wd}  {x1 : Int32} {x2 : Int32} {x3 : Int32} {K : Option Value → Wd → Prop} {X : String → Wd → Prop} (F : Fx M G RX10 cX10_rent 5 (some .int) kk 0) (hk : 3 ≤ kk)
    (h : Z M G 0 K X w 56 [some (.ref (G.2.1 40 0)), some (.int x1), some (.int x2), some (.int x3), none] [.int 1, .ref (G.2.1 40 0)]) :
    Z M G 0 K X w 51 [some (.ref (G.2.1 40 0)), some (.int x1), some (.int x2), some (.int x3), none] [.ref (G.2.1 40 0)] := by
  refine z_iconst F 1 dX10_rent_51 (by decide) ?_
  refine z_goto F 56 dX10_rent_52 (by decide) ?_
  exact h
set_option maxRecDepth 20000 in
theorem b_X10_rent_56 {M : Mx} {G : Gx} {kk : Nat} {w : Wd}  {x1 : Int32} {x2 : Int32} {x3 : Int32} {s0 : Int32} {K : Option Value → Wd → Prop} {X : String → Wd → Prop} (F : Fx M G RX10 cX10_rent 5 (some .int) kk 0) (hk : 3 ≤ kk)
    (h : Con (mL M) G 1 0 yX10_bad cX10_bad 4 (some .boolean) w [.ref (G.2.1 40 0), .int s0, .int 2, .int 1] (fun r w2 => ∃ v1 : Int32, r = some (.int v1) ∧ ((v1 = 0 → Z M G 0 K X w2 69 [some (.ref (G.2.1 40 0)), some (.int x1), some (.int x2), some (.int x3), some (.int 0)] []) ∧ (¬ (v1 = 0) → K (some (.int 0)) w2))) X) :
    Z M G 0 K X w 56 [some (.ref (G.2.1 40 0)), some (.int x1), some (.int x2), some (.int x3), none] [.int s0, .ref (G.2.1 40 0)] := by
  refine z_iconst F 2 dX10_rent_56 (by decide) ?_
  refine z_iconst F 1 dX10_rent_57 (by decide) ?_
  refine z_callV F (k' := 1) (mc' := 0) [.int s0, .int 2, .int 1] [] dX10_rent_58 rfl rfl (by decide) rfl cl_X10_171 hy_X10_bad (by omega) (by decide) (by decide) (Nat.le_of_ble_eq_true rfl) rfl (con_mono h ?_ (fun _ _ h => h))
  rintro _ w2 ⟨v1, rfl, h⟩
  show Z M G 0 K X w2 61 [some (.ref (G.2.1 40 0)), some (.int x1), some (.int x2), some (.int x3), none] [.int v1]
  refine z_if_eq F 66 dX10_rent_61 (by decide) ⟨fun hc => ?_, fun hc => ?_⟩
  · have h := h.1 hc
    refine z_iconst F 0 dX10_rent_66 (by decide) ?_
    refine z_istore F dX10_rent_67 (Nat.le_of_ble_eq_true rfl) ?_
    exact h
  · have h := h.2 hc
    refine z_iconst F 0 dX10_rent_64 (by decide) ?_
    exact z_iret F dX10_rent_65 (by decide) h
set_option maxRecDepth 20000 in
theorem b_X10_rent_69 {M : Mx} {G : Gx} {kk : Nat} {w : Wd}  {x1 : Int32} {x2 : Int32} {x3 : Int32} {x4 : Int32} {K : Option Value → Wd → Prop} {X : String → Wd → Prop} (F : Fx M G RX10 cX10_rent 5 (some .int) kk 0) (hk : 3 ≤ kk)
    (h : ((60 ≤ x4 → Z M G 0 K X w 95 [some (.ref (G.2.1 40 0)), some (.int x1), some (.int x2), none, some (.int x4)] []) ∧ (¬ (60 ≤ x4) → Con (mL M) G 2 0 yX10_givenBy cX10_givenBy 5 (some .int) w [.ref (G.2.1 40 0), .int x2, .int (x4 + (1 : Int32))] (fun r w2 => ∃ v1 : Int32, r = some (.int v1) ∧ ((x3 < v1 → Z M G 0 K X w2 95 [some (.ref (G.2.1 40 0)), some (.int x1), some (.int x2), none, some (.int x4)] []) ∧ (¬ (x3 < v1) → Z M G 0 K X w2 69 [some (.ref (G.2.1 40 0)), some (.int x1), some (.int x2), some (.int x3), some (.int (x4 + 1))] []))) X))) :
    Z M G 0 K X w 69 [some (.ref (G.2.1 40 0)), some (.int x1), some (.int x2), some (.int x3), some (.int x4)] [] := by
  refine z_iload F dX10_rent_69 rfl ?_
  refine z_bipush F 60 dX10_rent_71 (by decide) ?_
  refine z_icmp_ge F 95 dX10_rent_73 (by decide) ⟨fun hc => ?_, fun hc => ?_⟩
  · have h := h.1 hc
    exact z_weak h (⟨rfl, ⟨rfl, ⟨rfl, ⟨rfl, trivial⟩⟩⟩⟩)
  · have h := h.2 hc
    refine z_aload_n F dX10_rent_76 rfl ?_
    refine z_iload_n F dX10_rent_77 rfl ?_
    refine z_iload F dX10_rent_78 rfl ?_
    refine z_iconst F 1 dX10_rent_80 (by decide) ?_
    refine z_iadd F dX10_rent_81 ?_
    refine z_callV F (k' := 2) (mc' := 0) [.int x2, .int (x4 + (1 : Int32))] [] dX10_rent_82 rfl rfl (by decide) rfl cl_X10_372 hy_X10_givenBy (by omega) (by decide) (by decide) (Nat.le_of_ble_eq_true rfl) rfl (con_mono h ?_ (fun _ _ h => h))
    rintro _ w2 ⟨v1, rfl, h⟩
    show Z M G 0 K X w2 85 [some (.ref (G.2.1 40 0)), some (.int x1), some (.int x2), some (.int x3), some (.int x4)] [.int v1]
    refine z_iload_n F dX10_rent_85 rfl ?_
    refine z_icmp_gt F 95 dX10_rent_86 (by decide) ⟨fun hc => ?_, fun hc => ?_⟩
    · have h := h.1 hc
      exact z_weak h (⟨rfl, ⟨rfl, ⟨rfl, ⟨rfl, trivial⟩⟩⟩⟩)
    · have h := h.2 hc
      refine z_iinc F (x4 + 1) dX10_rent_89 rfl rfl (Nat.le_of_ble_eq_true rfl) ?_
      refine z_goto F 69 dX10_rent_92 (by decide) ?_
      exact h
set_option maxRecDepth 20000 in
theorem b_X10_rent_95 {M : Mx} {G : Gx} {kk : Nat} {w : Wd}  {x1 : Int32} {x2 : Int32} {x4 : Int32} {K : Option Value → Wd → Prop} {X : String → Wd → Prop} (F : Fx M G RX10 cX10_rent 5 (some .int) kk 0) (hk : 3 ≤ kk)
    (h : Con (mL M) G 1 0 yX10_has cX10_has 2 (some .boolean) w [.int x2, .int x1] (fun r w2 => ∃ v1 : Int32, r = some (.int v1) ∧ ((v1 = 0 → K (some (.int 0)) w2) ∧ (¬ (v1 = 0) → (vp_in x1 7 ∧ Con (mL M) G 1 0 yX10_less cX10_less 2 (some .int) w2 [.int x4, .int (w2.1 48 ((x1 : Int32).toNatClampNeg) 1)] (fun r w5 => ∃ v4 : Int32, r = some (.int v4) ∧ K (some (.int v4)) w5) X)))) X) :
    Z M G 0 K X w 95 [some (.ref (G.2.1 40 0)), some (.int x1), some (.int x2), none, some (.int x4)] [] := by
  refine z_iload_n F dX10_rent_95 rfl ?_
  refine z_iload_n F dX10_rent_96 rfl ?_
  refine z_callS F (k' := 1) (mc' := 0) [.int x2, .int x1] [] dX10_rent_97 rfl cl_X10_254 hy_X10_has.2 (by omega) (by decide) (by decide) (Nat.le_of_ble_eq_true rfl) rfl (con_mono h ?_ (fun _ _ h => h))
  rintro _ w2 ⟨v1, rfl, h⟩
  show Z M G 0 K X w2 100 [some (.ref (G.2.1 40 0)), some (.int x1), some (.int x2), none, some (.int x4)] [.int v1]
  refine z_if_eq F 119 dX10_rent_100 (by decide) ⟨fun hc => ?_, fun hc => ?_⟩
  · have h := h.1 hc
    refine z_iconst F 0 dX10_rent_119 (by decide) ?_
    exact z_iret F dX10_rent_120 (by decide) h
  · have h := h.2 hc
    refine z_iload F dX10_rent_103 rfl ?_
    refine z_aload_n F dX10_rent_105 rfl ?_
    refine z_getR F 14 47 0 rfl (by decide) (by decide) rfl rfl rfl lk_X10_31 dX10_rent_106 ?_
    refine z_iload_n F dX10_rent_109 rfl ?_
    obtain ⟨hb, h⟩ := h
    refine z_aald F 48 ((x1 : Int32).toNatClampNeg) rfl (by decide) (by decide) (by decide) rfl rfl hb dX10_rent_110 (fun hv3 => ?_)
    refine z_iconst F 1 dX10_rent_111 (by decide) ?_
    refine z_ialdK F 1 (by decide) rfl hv3 (by unfold vp_in; decide) dX10_rent_112 ?_
    refine z_callS F (k' := 1) (mc' := 0) [.int x4, .int (w2.1 48 ((x1 : Int32).toNatClampNeg) 1)] [] dX10_rent_113 rfl cl_X10_235 hy_X10_less.2 (by omega) (by decide) (by decide) (Nat.le_of_ble_eq_true rfl) rfl (con_mono h ?_ (fun _ _ h => h))
    rintro _ w5 ⟨v4, rfl, h⟩
    show Z M G 0 K X w5 116 [some (.ref (G.2.1 40 0)), some (.int x1), some (.int x2), none, some (.int x4)] [.int v4]
    refine z_goto F 120 dX10_rent_116 (by decide) ?_
    exact z_iret F dX10_rent_120 (by decide) h
set_option maxRecDepth 20000 in
theorem e_X10_dearest {l : Launch} {G : Gx} {w : Wd} {p0 : Int32} {K : Option Value → Wd → Prop} {X : String → Wd → Prop} (hl : l.stackTraces = false)
    (h : ∀ (M : Mx) (kk : Nat), mL M = l → 2 ≤ kk → Fx M G RX10 cX10_dearest 4 (some .int) kk 0 → (∀ w1 : Wd, w1 = setI w 40 0 0 0 → Con (mL M) G 1 0 yX10_in cX10_in 3 (some .boolean) w1 [.int p0, .int 0, .int 1] (fun r w3 => ∃ v2 : Int32, r = some (.int v2) ∧ ((¬ v2 = 0 → Z M G 0 K X w3 20 [some (.ref (G.2.1 40 0)), some (.int p0), none, none] [.int 0, .ref (G.2.1 40 0)]) ∧ (¬ (¬ v2 = 0) → Z M G 0 K X w3 20 [some (.ref (G.2.1 40 0)), some (.int p0), none, none] [.int 1, .ref (G.2.1 40 0)]))) X)) :
    Con l G 2 0 yX10_dearest cX10_dearest 4 (some .int) w [.ref (G.2.1 40 0), .int p0] K X := by
  refine con_intro hl (by decide +kernel) (Nat.le_of_ble_eq_true rfl) (Nat.le_of_ble_eq_true rfl) (fun M kk hM hk F => ?_)
  have h := h M kk hM hk F
  show Z M G 0 K X w 0 [some (.ref (G.2.1 40 0)), some (.int p0), none, none] []
  refine z_aload_n F dX10_dearest_0 rfl ?_
  refine z_iconst F 0 dX10_dearest_1 (by decide) ?_
  refine z_putIW F 0 rfl (by decide) (by decide) rfl lk_X10_95 dX10_dearest_2 (fun w1 hw1 => ?_)
  have h := h w1 hw1
  refine z_aload_n F dX10_dearest_5 rfl ?_
  refine z_iload_n F dX10_dearest_6 rfl ?_
  refine z_iconst F 0 dX10_dearest_7 (by decide) ?_
  refine z_iconst F 1 dX10_dearest_8 (by decide) ?_
  refine z_callS F (k' := 1) (mc' := 0) [.int p0, .int 0, .int 1] [.ref (G.2.1 40 0)] dX10_dearest_9 rfl cl_X10_129 hy_X10_in.2 (by omega) (by decide) (by decide) (Nat.le_of_ble_eq_true rfl) rfl (con_mono h ?_ (fun _ _ h => h))
  rintro _ w3 ⟨v2, rfl, h⟩
  show Z M G 0 K X w3 12 [some (.ref (G.2.1 40 0)), some (.int p0), none, none] [.int v2, .ref (G.2.1 40 0)]
  refine z_if_ne F 19 dX10_dearest_12 (by decide) ⟨fun hc => ?_, fun hc => ?_⟩
  · have h := h.1 hc
    refine z_iconst F 0 dX10_dearest_19 (by decide) ?_
    exact h
  · have h := h.2 hc
    refine z_iconst F 1 dX10_dearest_15 (by decide) ?_
    refine z_goto F 20 dX10_dearest_16 (by decide) ?_
    exact h
set_option maxRecDepth 20000 in
theorem b_X10_dearest_20 {M : Mx} {G : Gx} {kk : Nat} {w : Wd}  {x1 : Int32} {s0 : Int32} {K : Option Value → Wd → Prop} {X : String → Wd → Prop} (F : Fx M G RX10 cX10_dearest 4 (some .int) kk 0) (hk : 2 ≤ kk)
    (h : Con (mL M) G 1 0 yX10_bad cX10_bad 4 (some .boolean) w [.ref (G.2.1 40 0), .int s0, .int 1, .int 1] (fun r w2 => ∃ v1 : Int32, r = some (.int v1) ∧ ((v1 = 0 → Z M G 0 K X w2 34 [some (.ref (G.2.1 40 0)), some (.int x1), some (.int (-1)), some (.int 0)] []) ∧ (¬ (v1 = 0) → K (some (.int 0)) w2))) X) :
    Z M G 0 K X w 20 [some (.ref (G.2.1 40 0)), some (.int x1), none, none] [.int s0, .ref (G.2.1 40 0)] := by
  refine z_iconst F 1 dX10_dearest_20 (by decide) ?_
  refine z_iconst F 1 dX10_dearest_21 (by decide) ?_
  refine z_callV F (k' := 1) (mc' := 0) [.int s0, .int 1, .int 1] [] dX10_dearest_22 rfl rfl (by decide) rfl cl_X10_171 hy_X10_bad (by omega) (by decide) (by decide) (Nat.le_of_ble_eq_true rfl) rfl (con_mono h ?_ (fun _ _ h => h))
  rintro _ w2 ⟨v1, rfl, h⟩
  show Z M G 0 K X w2 25 [some (.ref (G.2.1 40 0)), some (.int x1), none, none] [.int v1]
  refine z_if_eq F 30 dX10_dearest_25 (by decide) ⟨fun hc => ?_, fun hc => ?_⟩
  · have h := h.1 hc
    refine z_iconst F (-1) dX10_dearest_30 (by decide) ?_
    refine z_istore_n F dX10_dearest_31 (Nat.le_of_ble_eq_true rfl) ?_
    refine z_iconst F 0 dX10_dearest_32 (by decide) ?_
    refine z_istore_n F dX10_dearest_33 (Nat.le_of_ble_eq_true rfl) ?_
    exact h
  · have h := h.2 hc
    refine z_iconst F 0 dX10_dearest_28 (by decide) ?_
    exact z_iret F dX10_dearest_29 (by decide) h
set_option maxRecDepth 20000 in
theorem b_X10_dearest_34 {M : Mx} {G : Gx} {kk : Nat} {w : Wd}  {x1 : Int32} {x2 : Int32} {x3 : Int32} {K : Option Value → Wd → Prop} {X : String → Wd → Prop} (F : Fx M G RX10 cX10_dearest 4 (some .int) kk 0) (hk : 2 ≤ kk)
    (h : (((w.1 44 0 0) ≤ x3 → ((x1 = 0 → K (some (.int x2)) w) ∧ (¬ (x1 = 0) → ((¬ x2 = (-1) → (vp_in x2 7 ∧ K (some (.int (w.1 48 ((x2 : Int32).toNatClampNeg) 1))) w)) ∧ (¬ (¬ x2 = (-1)) → K (some (.int x2)) w))))) ∧ (¬ ((w.1 44 0 0) ≤ x3) → ((x2 = (-1) → Z M G 0 K X w 34 [some (.ref (G.2.1 40 0)), some (.int x1), some (.int x3), some (.int (x3 + 1))] []) ∧ (¬ (x2 = (-1)) → (vp_in x3 7 ∧ (vp_in x2 7 ∧ (((w.1 48 ((x3 : Int32).toNatClampNeg) 1) ≤ (w.1 48 ((x2 : Int32).toNatClampNeg) 1) → Z M G 0 K X w 34 [some (.ref (G.2.1 40 0)), some (.int x1), some (.int x2), some (.int (x3 + 1))] []) ∧ (¬ ((w.1 48 ((x3 : Int32).toNatClampNeg) 1) ≤ (w.1 48 ((x2 : Int32).toNatClampNeg) 1)) → Z M G 0 K X w 34 [some (.ref (G.2.1 40 0)), some (.int x1), some (.int x3), some (.int (x3 + 1))] []))))))))) :
    Z M G 0 K X w 34 [some (.ref (G.2.1 40 0)), some (.int x1), some (.int x2), some (.int x3)] [] := by
  refine z_iload_n F dX10_dearest_34 rfl ?_
  refine z_aload_n F dX10_dearest_35 rfl ?_
  refine z_getR F 12 44 0 rfl (by decide) (by decide) rfl rfl rfl lk_X10_23 dX10_dearest_36 ?_
  refine z_iconst F 0 dX10_dearest_39 (by decide) ?_
  refine z_ialdK F 0 (by decide) rfl (by decide) (by unfold vp_in; decide) dX10_dearest_40 ?_
  refine z_icmp_ge F 80 dX10_dearest_41 (by decide) ⟨fun hc => ?_, fun hc => ?_⟩
  · have h := h.1 hc
    refine z_iload_n F dX10_dearest_80 rfl ?_
    refine z_if_eq F 89 dX10_dearest_81 (by decide) ⟨fun hc => ?_, fun hc => ?_⟩
    · have h := h.1 hc
      refine z_iload_n F dX10_dearest_89 rfl ?_
      refine z_goto F 101 dX10_dearest_90 (by decide) ?_
      exact z_iret F dX10_dearest_101 (by decide) h
    · have h := h.2 hc
      refine z_iload_n F dX10_dearest_84 rfl ?_
      refine z_iconst F (-1) dX10_dearest_85 (by decide) ?_
      refine z_icmp_ne F 93 dX10_dearest_86 (by decide) ⟨fun hc => ?_, fun hc => ?_⟩
      · have h := h.1 hc
        refine z_aload_n F dX10_dearest_93 rfl ?_
        refine z_getR F 14 47 0 rfl (by decide) (by decide) rfl rfl rfl lk_X10_31 dX10_dearest_94 ?_
        refine z_iload_n F dX10_dearest_97 rfl ?_
        obtain ⟨hb, h⟩ := h
        refine z_aald F 48 ((x2 : Int32).toNatClampNeg) rfl (by decide) (by decide) (by decide) rfl rfl hb dX10_dearest_98 (fun hv1 => ?_)
        refine z_iconst F 1 dX10_dearest_99 (by decide) ?_
        refine z_ialdK F 1 (by decide) rfl hv1 (by unfold vp_in; decide) dX10_dearest_100 ?_
        exact z_iret F dX10_dearest_101 (by decide) h
      · have h := h.2 hc
        refine z_iload_n F dX10_dearest_89 rfl ?_
        refine z_goto F 101 dX10_dearest_90 (by decide) ?_
        exact z_iret F dX10_dearest_101 (by decide) h
  · have h := h.2 hc
    refine z_iload_n F dX10_dearest_44 rfl ?_
    refine z_iconst F (-1) dX10_dearest_45 (by decide) ?_
    refine z_icmp_eq F 68 dX10_dearest_46 (by decide) ⟨fun hc => ?_, fun hc => ?_⟩
    · have h := h.1 hc
      refine z_iload_n F dX10_dearest_68 rfl ?_
      refine z_goto F 73 dX10_dearest_69 (by decide) ?_
      refine z_istore_n F dX10_dearest_73 (Nat.le_of_ble_eq_true rfl) ?_
      refine z_iinc F (x3 + 1) dX10_dearest_74 rfl rfl (Nat.le_of_ble_eq_true rfl) ?_
      refine z_goto F 34 dX10_dearest_77 (by decide) ?_
      exact h
    · have h := h.2 hc
      refine z_aload_n F dX10_dearest_49 rfl ?_
      refine z_getR F 14 47 0 rfl (by decide) (by decide) rfl rfl rfl lk_X10_31 dX10_dearest_50 ?_
      refine z_iload_n F dX10_dearest_53 rfl ?_
      obtain ⟨hb, h⟩ := h
      refine z_aald F 48 ((x3 : Int32).toNatClampNeg) rfl (by decide) (by decide) (by decide) rfl rfl hb dX10_dearest_54 (fun hv2 => ?_)
      refine z_iconst F 1 dX10_dearest_55 (by decide) ?_
      refine z_ialdK F 1 (by decide) rfl hv2 (by unfold vp_in; decide) dX10_dearest_56 ?_
      refine z_aload_n F dX10_dearest_57 rfl ?_
      refine z_getR F 14 47 0 rfl (by decide) (by decide) rfl rfl rfl lk_X10_31 dX10_dearest_58 ?_
      refine z_iload_n F dX10_dearest_61 rfl ?_
      obtain ⟨hb, h⟩ := h
      refine z_aald F 48 ((x2 : Int32).toNatClampNeg) rfl (by decide) (by decide) (by decide) rfl rfl hb dX10_dearest_62 (fun hv3 => ?_)
      refine z_iconst F 1 dX10_dearest_63 (by decide) ?_
      refine z_ialdK F 1 (by decide) rfl hv3 (by unfold vp_in; decide) dX10_dearest_64 ?_
      refine z_icmp_le F 72 dX10_dearest_65 (by decide) ⟨fun hc => ?_, fun hc => ?_⟩
      · have h := h.1 hc
        refine z_iload_n F dX10_dearest_72 rfl ?_
        refine z_istore_n F dX10_dearest_73 (Nat.le_of_ble_eq_true rfl) ?_
        refine z_iinc F (x3 + 1) dX10_dearest_74 rfl rfl (Nat.le_of_ble_eq_true rfl) ?_
        refine z_goto F 34 dX10_dearest_77 (by decide) ?_
        exact h
      · have h := h.2 hc
        refine z_iload_n F dX10_dearest_68 rfl ?_
        refine z_goto F 73 dX10_dearest_69 (by decide) ?_
        refine z_istore_n F dX10_dearest_73 (Nat.le_of_ble_eq_true rfl) ?_
        refine z_iinc F (x3 + 1) dX10_dearest_74 rfl rfl (Nat.le_of_ble_eq_true rfl) ?_
        refine z_goto F 34 dX10_dearest_77 (by decide) ?_
        exact h
set_option maxRecDepth 20000 in
theorem e_X10_voices {l : Launch} {G : Gx} {w : Wd} {p0 : Int32} {K : Option Value → Wd → Prop} {X : String → Wd → Prop} (hl : l.stackTraces = false)
    (h : ∀ (M : Mx) (kk : Nat), mL M = l → 3 ≤ kk → Fx M G RX10 cX10_voices 4 (some .int) kk 0 → (∀ w1 : Wd, w1 = setI w 40 0 0 0 → Con (mL M) G 2 0 yX10_isVowel cX10_isVowel 1 (some .boolean) w1 [.int p0] (fun r w3 => ∃ v2 : Int32, r = some (.int v2) ∧ ((¬ v2 = 0 → Z M G 0 K X w3 18 [some (.ref (G.2.1 40 0)), some (.int p0), none, none] [.int 0, .ref (G.2.1 40 0)]) ∧ (¬ (¬ v2 = 0) → Z M G 0 K X w3 18 [some (.ref (G.2.1 40 0)), some (.int p0), none, none] [.int 1, .ref (G.2.1 40 0)]))) X)) :
    Con l G 3 0 yX10_voices cX10_voices 4 (some .int) w [.ref (G.2.1 40 0), .int p0] K X := by
  refine con_intro hl (by decide +kernel) (Nat.le_of_ble_eq_true rfl) (Nat.le_of_ble_eq_true rfl) (fun M kk hM hk F => ?_)
  have h := h M kk hM hk F
  show Z M G 0 K X w 0 [some (.ref (G.2.1 40 0)), some (.int p0), none, none] []
  refine z_aload_n F dX10_voices_0 rfl ?_
  refine z_iconst F 0 dX10_voices_1 (by decide) ?_
  refine z_putIW F 0 rfl (by decide) (by decide) rfl lk_X10_95 dX10_voices_2 (fun w1 hw1 => ?_)
  have h := h w1 hw1
  refine z_aload_n F dX10_voices_5 rfl ?_
  refine z_iload_n F dX10_voices_6 rfl ?_
  refine z_callS F (k' := 2) (mc' := 0) [.int p0] [.ref (G.2.1 40 0)] dX10_voices_7 rfl cl_X10_327 hy_X10_isVowel.2 (by omega) (by decide) (by decide) (Nat.le_of_ble_eq_true rfl) rfl (con_mono h ?_ (fun _ _ h => h))
  rintro _ w3 ⟨v2, rfl, h⟩
  show Z M G 0 K X w3 10 [some (.ref (G.2.1 40 0)), some (.int p0), none, none] [.int v2, .ref (G.2.1 40 0)]
  refine z_if_ne F 17 dX10_voices_10 (by decide) ⟨fun hc => ?_, fun hc => ?_⟩
  · have h := h.1 hc
    refine z_iconst F 0 dX10_voices_17 (by decide) ?_
    exact h
  · have h := h.2 hc
    refine z_iconst F 1 dX10_voices_13 (by decide) ?_
    refine z_goto F 18 dX10_voices_14 (by decide) ?_
    exact h
set_option maxRecDepth 20000 in
theorem b_X10_voices_18 {M : Mx} {G : Gx} {kk : Nat} {w : Wd}  {x1 : Int32} {s0 : Int32} {K : Option Value → Wd → Prop} {X : String → Wd → Prop} (F : Fx M G RX10 cX10_voices 4 (some .int) kk 0) (hk : 3 ≤ kk)
    (h : Con (mL M) G 1 0 yX10_bad cX10_bad 4 (some .boolean) w [.ref (G.2.1 40 0), .int s0, .int 1, .int 1] (fun r w2 => ∃ v1 : Int32, r = some (.int v1) ∧ ((v1 = 0 → Z M G 0 K X w2 32 [some (.ref (G.2.1 40 0)), some (.int x1), some (.int 0), some (.int 0)] []) ∧ (¬ (v1 = 0) → K (some (.int 0)) w2))) X) :
    Z M G 0 K X w 18 [some (.ref (G.2.1 40 0)), some (.int x1), none, none] [.int s0, .ref (G.2.1 40 0)] := by
  refine z_iconst F 1 dX10_voices_18 (by decide) ?_
  refine z_iconst F 1 dX10_voices_19 (by decide) ?_
  refine z_callV F (k' := 1) (mc' := 0) [.int s0, .int 1, .int 1] [] dX10_voices_20 rfl rfl (by decide) rfl cl_X10_171 hy_X10_bad (by omega) (by decide) (by decide) (Nat.le_of_ble_eq_true rfl) rfl (con_mono h ?_ (fun _ _ h => h))
  rintro _ w2 ⟨v1, rfl, h⟩
  show Z M G 0 K X w2 23 [some (.ref (G.2.1 40 0)), some (.int x1), none, none] [.int v1]
  refine z_if_eq F 28 dX10_voices_23 (by decide) ⟨fun hc => ?_, fun hc => ?_⟩
  · have h := h.1 hc
    refine z_iconst F 0 dX10_voices_28 (by decide) ?_
    refine z_istore_n F dX10_voices_29 (Nat.le_of_ble_eq_true rfl) ?_
    refine z_iconst F 0 dX10_voices_30 (by decide) ?_
    refine z_istore_n F dX10_voices_31 (Nat.le_of_ble_eq_true rfl) ?_
    exact h
  · have h := h.2 hc
    refine z_iconst F 0 dX10_voices_26 (by decide) ?_
    exact z_iret F dX10_voices_27 (by decide) h
set_option maxRecDepth 20000 in
theorem b_X10_voices_32 {M : Mx} {G : Gx} {kk : Nat} {w : Wd}  {x1 : Int32} {x2 : Int32} {x3 : Int32} {K : Option Value → Wd → Prop} {X : String → Wd → Prop} (F : Fx M G RX10 cX10_voices 4 (some .int) kk 0) (hk : 3 ≤ kk)
    (h : (((w.1 44 0 0) ≤ x3 → K (some (.int x2)) w) ∧ (¬ ((w.1 44 0 0) ≤ x3) → (vp_in x3 7 ∧ ((¬ (w.1 48 ((x3 : Int32).toNatClampNeg) 0) = x1 → Z M G 0 K X w 32 [some (.ref (G.2.1 40 0)), some (.int x1), some (.int (x2 ||| (0 : Int32))), some (.int (x3 + 1))] []) ∧ (¬ (¬ (w.1 48 ((x3 : Int32).toNatClampNeg) 0) = x1) → Z M G 0 K X w 32 [some (.ref (G.2.1 40 0)), some (.int x1), some (.int (x2 ||| ((1 : Int32) <<< (x3 &&& 31)))), some (.int (x3 + 1))] [])))))) :
    Z M G 0 K X w 32 [some (.ref (G.2.1 40 0)), some (.int x1), some (.int x2), some (.int x3)] [] := by
  refine z_iload_n F dX10_voices_32 rfl ?_
  refine z_aload_n F dX10_voices_33 rfl ?_
  refine z_getR F 12 44 0 rfl (by decide) (by decide) rfl rfl rfl lk_X10_23 dX10_voices_34 ?_
  refine z_iconst F 0 dX10_voices_37 (by decide) ?_
  refine z_ialdK F 0 (by decide) rfl (by decide) (by unfold vp_in; decide) dX10_voices_38 ?_
  refine z_icmp_ge F 70 dX10_voices_39 (by decide) ⟨fun hc => ?_, fun hc => ?_⟩
  · have h := h.1 hc
    refine z_iload_n F dX10_voices_70 rfl ?_
    exact z_iret F dX10_voices_71 (by decide) h
  · have h := h.2 hc
    refine z_iload_n F dX10_voices_42 rfl ?_
    refine z_aload_n F dX10_voices_43 rfl ?_
    refine z_getR F 14 47 0 rfl (by decide) (by decide) rfl rfl rfl lk_X10_31 dX10_voices_44 ?_
    refine z_iload_n F dX10_voices_47 rfl ?_
    obtain ⟨hb, h⟩ := h
    refine z_aald F 48 ((x3 : Int32).toNatClampNeg) rfl (by decide) (by decide) (by decide) rfl rfl hb dX10_voices_48 (fun hv1 => ?_)
    refine z_iconst F 0 dX10_voices_49 (by decide) ?_
    refine z_ialdK F 0 (by decide) rfl hv1 (by unfold vp_in; decide) dX10_voices_50 ?_
    refine z_iload_n F dX10_voices_51 rfl ?_
    refine z_icmp_ne F 61 dX10_voices_52 (by decide) ⟨fun hc => ?_, fun hc => ?_⟩
    · have h := h.1 hc
      refine z_iconst F 0 dX10_voices_61 (by decide) ?_
      refine z_ior F dX10_voices_62 ?_
      refine z_istore_n F dX10_voices_63 (Nat.le_of_ble_eq_true rfl) ?_
      refine z_iinc F (x3 + 1) dX10_voices_64 rfl rfl (Nat.le_of_ble_eq_true rfl) ?_
      refine z_goto F 32 dX10_voices_67 (by decide) ?_
      exact h
    · have h := h.2 hc
      refine z_iconst F 1 dX10_voices_55 (by decide) ?_
      refine z_iload_n F dX10_voices_56 rfl ?_
      refine z_ishl F dX10_voices_57 ?_
      refine z_goto F 62 dX10_voices_58 (by decide) ?_
      refine z_ior F dX10_voices_62 ?_
      refine z_istore_n F dX10_voices_63 (Nat.le_of_ble_eq_true rfl) ?_
      refine z_iinc F (x3 + 1) dX10_voices_64 rfl rfl (Nat.le_of_ble_eq_true rfl) ?_
      refine z_goto F 32 dX10_voices_67 (by decide) ?_
      exact h
set_option maxRecDepth 20000 in
theorem e_X10_sounds {l : Launch} {G : Gx} {w : Wd} {p0 : Int32} {K : Option Value → Wd → Prop} {X : String → Wd → Prop} (hl : l.stackTraces = false)
    (h : ∀ (M : Mx) (kk : Nat), mL M = l → 3 ≤ kk → Fx M G RX10 cX10_sounds 4 (some .int) kk 0 → (∀ w1 : Wd, w1 = setI w 40 0 0 0 → Con (mL M) G 2 0 yX10_isVowel cX10_isVowel 1 (some .boolean) w1 [.int p0] (fun r w3 => ∃ v2 : Int32, r = some (.int v2) ∧ ((¬ v2 = 0 → Z M G 0 K X w3 18 [some (.ref (G.2.1 40 0)), some (.int p0), none, none] [.int 0, .ref (G.2.1 40 0)]) ∧ (¬ (¬ v2 = 0) → Z M G 0 K X w3 18 [some (.ref (G.2.1 40 0)), some (.int p0), none, none] [.int 1, .ref (G.2.1 40 0)]))) X)) :
    Con l G 3 0 yX10_sounds cX10_sounds 4 (some .int) w [.ref (G.2.1 40 0), .int p0] K X := by
  refine con_intro hl (by decide +kernel) (Nat.le_of_ble_eq_true rfl) (Nat.le_of_ble_eq_true rfl) (fun M kk hM hk F => ?_)
  have h := h M kk hM hk F
  show Z M G 0 K X w 0 [some (.ref (G.2.1 40 0)), some (.int p0), none, none] []
  refine z_aload_n F dX10_sounds_0 rfl ?_
  refine z_iconst F 0 dX10_sounds_1 (by decide) ?_
  refine z_putIW F 0 rfl (by decide) (by decide) rfl lk_X10_95 dX10_sounds_2 (fun w1 hw1 => ?_)
  have h := h w1 hw1
  refine z_aload_n F dX10_sounds_5 rfl ?_
  refine z_iload_n F dX10_sounds_6 rfl ?_
  refine z_callS F (k' := 2) (mc' := 0) [.int p0] [.ref (G.2.1 40 0)] dX10_sounds_7 rfl cl_X10_327 hy_X10_isVowel.2 (by omega) (by decide) (by decide) (Nat.le_of_ble_eq_true rfl) rfl (con_mono h ?_ (fun _ _ h => h))
  rintro _ w3 ⟨v2, rfl, h⟩
  show Z M G 0 K X w3 10 [some (.ref (G.2.1 40 0)), some (.int p0), none, none] [.int v2, .ref (G.2.1 40 0)]
  refine z_if_ne F 17 dX10_sounds_10 (by decide) ⟨fun hc => ?_, fun hc => ?_⟩
  · have h := h.1 hc
    refine z_iconst F 0 dX10_sounds_17 (by decide) ?_
    exact h
  · have h := h.2 hc
    refine z_iconst F 1 dX10_sounds_13 (by decide) ?_
    refine z_goto F 18 dX10_sounds_14 (by decide) ?_
    exact h
set_option maxRecDepth 20000 in
theorem b_X10_sounds_18 {M : Mx} {G : Gx} {kk : Nat} {w : Wd}  {x1 : Int32} {s0 : Int32} {K : Option Value → Wd → Prop} {X : String → Wd → Prop} (F : Fx M G RX10 cX10_sounds 4 (some .int) kk 0) (hk : 3 ≤ kk)
    (h : Con (mL M) G 1 0 yX10_bad cX10_bad 4 (some .boolean) w [.ref (G.2.1 40 0), .int s0, .int 1, .int 1] (fun r w2 => ∃ v1 : Int32, r = some (.int v1) ∧ ((v1 = 0 → Z M G 0 K X w2 32 [some (.ref (G.2.1 40 0)), some (.int x1), some (.int 0), some (.int 0)] []) ∧ (¬ (v1 = 0) → K (some (.int 0)) w2))) X) :
    Z M G 0 K X w 18 [some (.ref (G.2.1 40 0)), some (.int x1), none, none] [.int s0, .ref (G.2.1 40 0)] := by
  refine z_iconst F 1 dX10_sounds_18 (by decide) ?_
  refine z_iconst F 1 dX10_sounds_19 (by decide) ?_
  refine z_callV F (k' := 1) (mc' := 0) [.int s0, .int 1, .int 1] [] dX10_sounds_20 rfl rfl (by decide) rfl cl_X10_171 hy_X10_bad (by omega) (by decide) (by decide) (Nat.le_of_ble_eq_true rfl) rfl (con_mono h ?_ (fun _ _ h => h))
  rintro _ w2 ⟨v1, rfl, h⟩
  show Z M G 0 K X w2 23 [some (.ref (G.2.1 40 0)), some (.int x1), none, none] [.int v1]
  refine z_if_eq F 28 dX10_sounds_23 (by decide) ⟨fun hc => ?_, fun hc => ?_⟩
  · have h := h.1 hc
    refine z_iconst F 0 dX10_sounds_28 (by decide) ?_
    refine z_istore_n F dX10_sounds_29 (Nat.le_of_ble_eq_true rfl) ?_
    refine z_iconst F 0 dX10_sounds_30 (by decide) ?_
    refine z_istore_n F dX10_sounds_31 (Nat.le_of_ble_eq_true rfl) ?_
    exact h
  · have h := h.2 hc
    refine z_iconst F 0 dX10_sounds_26 (by decide) ?_
    exact z_iret F dX10_sounds_27 (by decide) h
set_option maxRecDepth 20000 in
theorem b_X10_sounds_32 {M : Mx} {G : Gx} {kk : Nat} {w : Wd}  {x1 : Int32} {x2 : Int32} {x3 : Int32} {K : Option Value → Wd → Prop} {X : String → Wd → Prop} (F : Fx M G RX10 cX10_sounds 4 (some .int) kk 0) (hk : 3 ≤ kk)
    (h : (((w.1 44 0 1) ≤ x3 → K (some (.int x2)) w) ∧ (¬ ((w.1 44 0 1) ≤ x3) → (vp_in ((35 : Int32) + x3) 57 ∧ ((¬ (w.1 69 0 (((35 : Int32) + x3 : Int32).toNatClampNeg)) = x1 → Z M G 0 K X w 32 [some (.ref (G.2.1 40 0)), some (.int x1), some (.int (x2 ||| (0 : Int32))), some (.int (x3 + 1))] []) ∧ (¬ (¬ (w.1 69 0 (((35 : Int32) + x3 : Int32).toNatClampNeg)) = x1) → Z M G 0 K X w 32 [some (.ref (G.2.1 40 0)), some (.int x1), some (.int (x2 ||| ((1 : Int32) <<< (x3 &&& 31)))), some (.int (x3 + 1))] [])))))) :
    Z M G 0 K X w 32 [some (.ref (G.2.1 40 0)), some (.int x1), some (.int x2), some (.int x3)] [] := by
  refine z_iload_n F dX10_sounds_32 rfl ?_
  refine z_aload_n F dX10_sounds_33 rfl ?_
  refine z_getR F 12 44 0 rfl (by decide) (by decide) rfl rfl rfl lk_X10_23 dX10_sounds_34 ?_
  refine z_iconst F 1 dX10_sounds_37 (by decide) ?_
  refine z_ialdK F 1 (by decide) rfl (by decide) (by unfold vp_in; decide) dX10_sounds_38 ?_
  refine z_icmp_ge F 71 dX10_sounds_39 (by decide) ⟨fun hc => ?_, fun hc => ?_⟩
  · have h := h.1 hc
    refine z_iload_n F dX10_sounds_71 rfl ?_
    exact z_iret F dX10_sounds_72 (by decide) h
  · have h := h.2 hc
    refine z_iload_n F dX10_sounds_42 rfl ?_
    refine z_aload_n F dX10_sounds_43 rfl ?_
    refine z_getR F 29 69 0 rfl (by decide) (by decide) rfl rfl rfl lk_X10_67 dX10_sounds_44 ?_
    refine z_bipush F 35 dX10_sounds_47 (by decide) ?_
    refine z_iload_n F dX10_sounds_49 rfl ?_
    refine z_iadd F dX10_sounds_50 ?_
    obtain ⟨hb, h⟩ := h
    refine z_ialdK F (((35 : Int32) + x3 : Int32).toNatClampNeg) rfl rfl (by decide) hb dX10_sounds_51 ?_
    refine z_iload_n F dX10_sounds_52 rfl ?_
    refine z_icmp_ne F 62 dX10_sounds_53 (by decide) ⟨fun hc => ?_, fun hc => ?_⟩
    · have h := h.1 hc
      refine z_iconst F 0 dX10_sounds_62 (by decide) ?_
      refine z_ior F dX10_sounds_63 ?_
      refine z_istore_n F dX10_sounds_64 (Nat.le_of_ble_eq_true rfl) ?_
      refine z_iinc F (x3 + 1) dX10_sounds_65 rfl rfl (Nat.le_of_ble_eq_true rfl) ?_
      refine z_goto F 32 dX10_sounds_68 (by decide) ?_
      exact h
    · have h := h.2 hc
      refine z_iconst F 1 dX10_sounds_56 (by decide) ?_
      refine z_iload_n F dX10_sounds_57 rfl ?_
      refine z_ishl F dX10_sounds_58 ?_
      refine z_goto F 63 dX10_sounds_59 (by decide) ?_
      refine z_ior F dX10_sounds_63 ?_
      refine z_istore_n F dX10_sounds_64 (Nat.le_of_ble_eq_true rfl) ?_
      refine z_iinc F (x3 + 1) dX10_sounds_65 rfl rfl (Nat.le_of_ble_eq_true rfl) ?_
      refine z_goto F 32 dX10_sounds_68 (by decide) ?_
      exact h
set_option maxRecDepth 20000 in
theorem e_X10_beats {l : Launch} {G : Gx} {w : Wd} {p0 : Int32} {K : Option Value → Wd → Prop} {X : String → Wd → Prop} (hl : l.stackTraces = false)
    (h : ∀ (M : Mx) (kk : Nat), mL M = l → 3 ≤ kk → Fx M G RX10 cX10_beats 4 (some .int) kk 0 → (∀ w1 : Wd, w1 = setI w 40 0 0 0 → Con (mL M) G 2 0 yX10_isVowel cX10_isVowel 1 (some .boolean) w1 [.int p0] (fun r w3 => ∃ v2 : Int32, r = some (.int v2) ∧ ((¬ v2 = 0 → Z M G 0 K X w3 18 [some (.ref (G.2.1 40 0)), some (.int p0), none, none] [.int 0, .ref (G.2.1 40 0)]) ∧ (¬ (¬ v2 = 0) → Z M G 0 K X w3 18 [some (.ref (G.2.1 40 0)), some (.int p0), none, none] [.int 1, .ref (G.2.1 40 0)]))) X)) :
    Con l G 3 0 yX10_beats cX10_beats 4 (some .int) w [.ref (G.2.1 40 0), .int p0] K X := by
  refine con_intro hl (by decide +kernel) (Nat.le_of_ble_eq_true rfl) (Nat.le_of_ble_eq_true rfl) (fun M kk hM hk F => ?_)
  have h := h M kk hM hk F
  show Z M G 0 K X w 0 [some (.ref (G.2.1 40 0)), some (.int p0), none, none] []
  refine z_aload_n F dX10_beats_0 rfl ?_
  refine z_iconst F 0 dX10_beats_1 (by decide) ?_
  refine z_putIW F 0 rfl (by decide) (by decide) rfl lk_X10_95 dX10_beats_2 (fun w1 hw1 => ?_)
  have h := h w1 hw1
  refine z_aload_n F dX10_beats_5 rfl ?_
  refine z_iload_n F dX10_beats_6 rfl ?_
  refine z_callS F (k' := 2) (mc' := 0) [.int p0] [.ref (G.2.1 40 0)] dX10_beats_7 rfl cl_X10_327 hy_X10_isVowel.2 (by omega) (by decide) (by decide) (Nat.le_of_ble_eq_true rfl) rfl (con_mono h ?_ (fun _ _ h => h))
  rintro _ w3 ⟨v2, rfl, h⟩
  show Z M G 0 K X w3 10 [some (.ref (G.2.1 40 0)), some (.int p0), none, none] [.int v2, .ref (G.2.1 40 0)]
  refine z_if_ne F 17 dX10_beats_10 (by decide) ⟨fun hc => ?_, fun hc => ?_⟩
  · have h := h.1 hc
    refine z_iconst F 0 dX10_beats_17 (by decide) ?_
    exact h
  · have h := h.2 hc
    refine z_iconst F 1 dX10_beats_13 (by decide) ?_
    refine z_goto F 18 dX10_beats_14 (by decide) ?_
    exact h
set_option maxRecDepth 20000 in
theorem b_X10_beats_18 {M : Mx} {G : Gx} {kk : Nat} {w : Wd}  {x1 : Int32} {s0 : Int32} {K : Option Value → Wd → Prop} {X : String → Wd → Prop} (F : Fx M G RX10 cX10_beats 4 (some .int) kk 0) (hk : 3 ≤ kk)
    (h : Con (mL M) G 1 0 yX10_bad cX10_bad 4 (some .boolean) w [.ref (G.2.1 40 0), .int s0, .int 1, .int 1] (fun r w2 => ∃ v1 : Int32, r = some (.int v1) ∧ ((v1 = 0 → Z M G 0 K X w2 32 [some (.ref (G.2.1 40 0)), some (.int x1), some (.int 0), some (.int 0)] []) ∧ (¬ (v1 = 0) → K (some (.int 0)) w2))) X) :
    Z M G 0 K X w 18 [some (.ref (G.2.1 40 0)), some (.int x1), none, none] [.int s0, .ref (G.2.1 40 0)] := by
  refine z_iconst F 1 dX10_beats_18 (by decide) ?_
  refine z_iconst F 1 dX10_beats_19 (by decide) ?_
  refine z_callV F (k' := 1) (mc' := 0) [.int s0, .int 1, .int 1] [] dX10_beats_20 rfl rfl (by decide) rfl cl_X10_171 hy_X10_bad (by omega) (by decide) (by decide) (Nat.le_of_ble_eq_true rfl) rfl (con_mono h ?_ (fun _ _ h => h))
  rintro _ w2 ⟨v1, rfl, h⟩
  show Z M G 0 K X w2 23 [some (.ref (G.2.1 40 0)), some (.int x1), none, none] [.int v1]
  refine z_if_eq F 28 dX10_beats_23 (by decide) ⟨fun hc => ?_, fun hc => ?_⟩
  · have h := h.1 hc
    refine z_iconst F 0 dX10_beats_28 (by decide) ?_
    refine z_istore_n F dX10_beats_29 (Nat.le_of_ble_eq_true rfl) ?_
    refine z_iconst F 0 dX10_beats_30 (by decide) ?_
    refine z_istore_n F dX10_beats_31 (Nat.le_of_ble_eq_true rfl) ?_
    exact h
  · have h := h.2 hc
    refine z_iconst F 0 dX10_beats_26 (by decide) ?_
    exact z_iret F dX10_beats_27 (by decide) h
set_option maxRecDepth 20000 in
theorem b_X10_beats_32 {M : Mx} {G : Gx} {kk : Nat} {w : Wd}  {x1 : Int32} {x2 : Int32} {x3 : Int32} {K : Option Value → Wd → Prop} {X : String → Wd → Prop} (F : Fx M G RX10 cX10_beats 4 (some .int) kk 0) (hk : 3 ≤ kk)
    (h : (((w.1 44 0 1) ≤ x3 → K (some (.int x2)) w) ∧ (¬ ((w.1 44 0 1) ≤ x3) → (vp_in ((35 : Int32) + x3) 57 ∧ ((¬ (w.1 69 0 (((35 : Int32) + x3 : Int32).toNatClampNeg)) = x1 → Z M G 0 K X w 32 [some (.ref (G.2.1 40 0)), some (.int x1), some (.int (x2 + (0 : Int32))), some (.int (x3 + 1))] []) ∧ (¬ (¬ (w.1 69 0 (((35 : Int32) + x3 : Int32).toNatClampNeg)) = x1) → (vp_in x3 20 ∧ Z M G 0 K X w 32 [some (.ref (G.2.1 40 0)), some (.int x1), some (.int (x2 + (w.1 52 ((x3 : Int32).toNatClampNeg) 1))), some (.int (x3 + 1))] []))))))) :
    Z M G 0 K X w 32 [some (.ref (G.2.1 40 0)), some (.int x1), some (.int x2), some (.int x3)] [] := by
  refine z_iload_n F dX10_beats_32 rfl ?_
  refine z_aload_n F dX10_beats_33 rfl ?_
  refine z_getR F 12 44 0 rfl (by decide) (by decide) rfl rfl rfl lk_X10_23 dX10_beats_34 ?_
  refine z_iconst F 1 dX10_beats_37 (by decide) ?_
  refine z_ialdK F 1 (by decide) rfl (by decide) (by unfold vp_in; decide) dX10_beats_38 ?_
  refine z_icmp_ge F 76 dX10_beats_39 (by decide) ⟨fun hc => ?_, fun hc => ?_⟩
  · have h := h.1 hc
    refine z_iload_n F dX10_beats_76 rfl ?_
    exact z_iret F dX10_beats_77 (by decide) h
  · have h := h.2 hc
    refine z_iload_n F dX10_beats_42 rfl ?_
    refine z_aload_n F dX10_beats_43 rfl ?_
    refine z_getR F 29 69 0 rfl (by decide) (by decide) rfl rfl rfl lk_X10_67 dX10_beats_44 ?_
    refine z_bipush F 35 dX10_beats_47 (by decide) ?_
    refine z_iload_n F dX10_beats_49 rfl ?_
    refine z_iadd F dX10_beats_50 ?_
    obtain ⟨hb, h⟩ := h
    refine z_ialdK F (((35 : Int32) + x3 : Int32).toNatClampNeg) rfl rfl (by decide) hb dX10_beats_51 ?_
    refine z_iload_n F dX10_beats_52 rfl ?_
    refine z_icmp_ne F 67 dX10_beats_53 (by decide) ⟨fun hc => ?_, fun hc => ?_⟩
    · have h := h.1 hc
      refine z_iconst F 0 dX10_beats_67 (by decide) ?_
      refine z_iadd F dX10_beats_68 ?_
      refine z_istore_n F dX10_beats_69 (Nat.le_of_ble_eq_true rfl) ?_
      refine z_iinc F (x3 + 1) dX10_beats_70 rfl rfl (Nat.le_of_ble_eq_true rfl) ?_
      refine z_goto F 32 dX10_beats_73 (by decide) ?_
      exact h
    · have h := h.2 hc
      refine z_aload_n F dX10_beats_56 rfl ?_
      refine z_getR F 16 51 0 rfl (by decide) (by decide) rfl rfl rfl lk_X10_37 dX10_beats_57 ?_
      refine z_iload_n F dX10_beats_60 rfl ?_
      obtain ⟨hb, h⟩ := h
      refine z_aald F 52 ((x3 : Int32).toNatClampNeg) rfl (by decide) (by decide) (by decide) rfl rfl hb dX10_beats_61 (fun hv1 => ?_)
      refine z_iconst F 1 dX10_beats_62 (by decide) ?_
      refine z_ialdK F 1 (by decide) rfl hv1 (by unfold vp_in; decide) dX10_beats_63 ?_
      refine z_goto F 68 dX10_beats_64 (by decide) ?_
      refine z_iadd F dX10_beats_68 ?_
      refine z_istore_n F dX10_beats_69 (Nat.le_of_ble_eq_true rfl) ?_
      refine z_iinc F (x3 + 1) dX10_beats_70 rfl rfl (Nat.le_of_ble_eq_true rfl) ?_
      refine z_goto F 32 dX10_beats_73 (by decide) ?_
      exact h
set_option maxRecDepth 20000 in
theorem e_X10_words {l : Launch} {G : Gx} {w : Wd} {p0 : Int32} {K : Option Value → Wd → Prop} {X : String → Wd → Prop} (hl : l.stackTraces = false)
    (h : ∀ (M : Mx) (kk : Nat), mL M = l → 3 ≤ kk → Fx M G RX10 cX10_words 2 (some .int) kk 0 → (∀ w1 : Wd, w1 = setI w 40 0 0 0 → Con (mL M) G 2 0 yX10_isNote cX10_isNote 2 (some .boolean) w1 [.ref (G.2.1 40 0), .int p0] (fun r w3 => ∃ v2 : Int32, r = some (.int v2) ∧ ((¬ v2 = 0 → Z M G 0 K X w3 19 [some (.ref (G.2.1 40 0)), some (.int p0)] [.int 0, .ref (G.2.1 40 0)]) ∧ (¬ (¬ v2 = 0) → Z M G 0 K X w3 19 [some (.ref (G.2.1 40 0)), some (.int p0)] [.int 1, .ref (G.2.1 40 0)]))) X)) :
    Con l G 3 0 yX10_words cX10_words 2 (some .int) w [.ref (G.2.1 40 0), .int p0] K X := by
  refine con_intro hl (by decide +kernel) (Nat.le_of_ble_eq_true rfl) (Nat.le_of_ble_eq_true rfl) (fun M kk hM hk F => ?_)
  have h := h M kk hM hk F
  show Z M G 0 K X w 0 [some (.ref (G.2.1 40 0)), some (.int p0)] []
  refine z_aload_n F dX10_words_0 rfl ?_
  refine z_iconst F 0 dX10_words_1 (by decide) ?_
  refine z_putIW F 0 rfl (by decide) (by decide) rfl lk_X10_95 dX10_words_2 (fun w1 hw1 => ?_)
  have h := h w1 hw1
  refine z_aload_n F dX10_words_5 rfl ?_
  refine z_aload_n F dX10_words_6 rfl ?_
  refine z_iload_n F dX10_words_7 rfl ?_
  refine z_callV F (k' := 2) (mc' := 0) [.int p0] [.ref (G.2.1 40 0)] dX10_words_8 rfl rfl (by decide) rfl cl_X10_324 hy_X10_isNote (by omega) (by decide) (by decide) (Nat.le_of_ble_eq_true rfl) rfl (con_mono h ?_ (fun _ _ h => h))
  rintro _ w3 ⟨v2, rfl, h⟩
  show Z M G 0 K X w3 11 [some (.ref (G.2.1 40 0)), some (.int p0)] [.int v2, .ref (G.2.1 40 0)]
  refine z_if_ne F 18 dX10_words_11 (by decide) ⟨fun hc => ?_, fun hc => ?_⟩
  · have h := h.1 hc
    refine z_iconst F 0 dX10_words_18 (by decide) ?_
    exact h
  · have h := h.2 hc
    refine z_iconst F 1 dX10_words_14 (by decide) ?_
    refine z_goto F 19 dX10_words_15 (by decide) ?_
    exact h
set_option maxRecDepth 20000 in
theorem b_X10_words_19 {M : Mx} {G : Gx} {kk : Nat} {w : Wd}  {x1 : Int32} {s0 : Int32} {K : Option Value → Wd → Prop} {X : String → Wd → Prop} (F : Fx M G RX10 cX10_words 2 (some .int) kk 0) (hk : 3 ≤ kk)
    (h : Con (mL M) G 1 0 yX10_bad cX10_bad 4 (some .boolean) w [.ref (G.2.1 40 0), .int s0, .int 1, .int 0] (fun r w2 => ∃ v1 : Int32, r = some (.int v1) ∧ ((v1 = 0 → Con (mL M) G 1 0 yX10_wordsOf cX10_wordsOf 4 (some .int) w2 [.ref (G.2.1 40 0), .int x1] (fun r w4 => ∃ v3 : Int32, r = some (.int v3) ∧ K (some (.int v3)) w4) X) ∧ (¬ (v1 = 0) → K (some (.int 0)) w2))) X) :
    Z M G 0 K X w 19 [some (.ref (G.2.1 40 0)), some (.int x1)] [.int s0, .ref (G.2.1 40 0)] := by
  refine z_iconst F 1 dX10_words_19 (by decide) ?_
  refine z_iconst F 0 dX10_words_20 (by decide) ?_
  refine z_callV F (k' := 1) (mc' := 0) [.int s0, .int 1, .int 0] [] dX10_words_21 rfl rfl (by decide) rfl cl_X10_171 hy_X10_bad (by omega) (by decide) (by decide) (Nat.le_of_ble_eq_true rfl) rfl (con_mono h ?_ (fun _ _ h => h))
  rintro _ w2 ⟨v1, rfl, h⟩
  show Z M G 0 K X w2 24 [some (.ref (G.2.1 40 0)), some (.int x1)] [.int v1]
  refine z_if_eq F 29 dX10_words_24 (by decide) ⟨fun hc => ?_, fun hc => ?_⟩
  · have h := h.1 hc
    refine z_aload_n F dX10_words_29 rfl ?_
    refine z_iload_n F dX10_words_30 rfl ?_
    refine z_callV F (k' := 1) (mc' := 0) [.int x1] [] dX10_words_31 rfl rfl (by decide) rfl cl_X10_291 hy_X10_wordsOf (by omega) (by decide) (by decide) (Nat.le_of_ble_eq_true rfl) rfl (con_mono h ?_ (fun _ _ h => h))
    rintro _ w4 ⟨v3, rfl, h⟩
    show Z M G 0 K X w4 34 [some (.ref (G.2.1 40 0)), some (.int x1)] [.int v3]
    exact z_iret F dX10_words_34 (by decide) h
  · have h := h.2 hc
    refine z_iconst F 0 dX10_words_27 (by decide) ?_
    exact z_iret F dX10_words_28 (by decide) h
set_option maxRecDepth 20000 in
theorem e_X10_mute {l : Launch} {G : Gx} {w : Wd}  {K : Option Value → Wd → Prop} {X : String → Wd → Prop} (hl : l.stackTraces = false)
    (h : ∀ (M : Mx) (kk : Nat), mL M = l → 7 ≤ kk → Fx M G RX10 cX10_mute 3 (some .int) kk 0 → (∀ w1 : Wd, w1 = setI w 40 0 0 0 → Z M G 0 K X w1 9 [some (.ref (G.2.1 40 0)), some (.int 0), some (.int 0)] [])) :
    Con l G 7 0 yX10_mute cX10_mute 3 (some .int) w [.ref (G.2.1 40 0)] K X := by
  refine con_intro hl (by decide +kernel) (Nat.le_of_ble_eq_true rfl) (Nat.le_of_ble_eq_true rfl) (fun M kk hM hk F => ?_)
  have h := h M kk hM hk F
  show Z M G 0 K X w 0 [some (.ref (G.2.1 40 0)), none, none] []
  refine z_aload_n F dX10_mute_0 rfl ?_
  refine z_iconst F 0 dX10_mute_1 (by decide) ?_
  refine z_putIW F 0 rfl (by decide) (by decide) rfl lk_X10_95 dX10_mute_2 (fun w1 hw1 => ?_)
  have h := h w1 hw1
  refine z_iconst F 0 dX10_mute_5 (by decide) ?_
  refine z_istore_n F dX10_mute_6 (Nat.le_of_ble_eq_true rfl) ?_
  refine z_iconst F 0 dX10_mute_7 (by decide) ?_
  refine z_istore_n F dX10_mute_8 (Nat.le_of_ble_eq_true rfl) ?_
  exact h
set_option maxRecDepth 20000 in
theorem b_X10_mute_9 {M : Mx} {G : Gx} {kk : Nat} {w : Wd}  {x1 : Int32} {x2 : Int32} {K : Option Value → Wd → Prop} {X : String → Wd → Prop} (F : Fx M G RX10 cX10_mute 3 (some .int) kk 0) (hk : 7 ≤ kk)
    (h : (((w.1 44 0 1) ≤ x2 → K (some (.int x1)) w) ∧ (¬ ((w.1 44 0 1) ≤ x2) → Con (mL M) G 6 0 yX10_sungBy cX10_sungBy 4 (some .int) w [.ref (G.2.1 40 0), .ref (G.2.1 69 0), .int x2] (fun r w2 => ∃ v1 : Int32, r = some (.int v1) ∧ ((¬ v1 = (-1) → Z M G 0 K X w2 9 [some (.ref (G.2.1 40 0)), some (.int (x1 ||| (0 : Int32))), some (.int (x2 + 1))] []) ∧ (¬ (¬ v1 = (-1)) → Z M G 0 K X w2 9 [some (.ref (G.2.1 40 0)), some (.int (x1 ||| ((1 : Int32) <<< (x2 &&& 31)))), some (.int (x2 + 1))] []))) X))) :
    Z M G 0 K X w 9 [some (.ref (G.2.1 40 0)), some (.int x1), some (.int x2)] [] := by
  refine z_iload_n F dX10_mute_9 rfl ?_
  refine z_aload_n F dX10_mute_10 rfl ?_
  refine z_getR F 12 44 0 rfl (by decide) (by decide) rfl rfl rfl lk_X10_23 dX10_mute_11 ?_
  refine z_iconst F 1 dX10_mute_14 (by decide) ?_
  refine z_ialdK F 1 (by decide) rfl (by decide) (by unfold vp_in; decide) dX10_mute_15 ?_
  refine z_icmp_ge F 48 dX10_mute_16 (by decide) ⟨fun hc => ?_, fun hc => ?_⟩
  · have h := h.1 hc
    refine z_iload_n F dX10_mute_48 rfl ?_
    exact z_iret F dX10_mute_49 (by decide) h
  · have h := h.2 hc
    refine z_iload_n F dX10_mute_19 rfl ?_
    refine z_aload_n F dX10_mute_20 rfl ?_
    refine z_aload_n F dX10_mute_21 rfl ?_
    refine z_getR F 29 69 0 rfl (by decide) (by decide) rfl rfl rfl lk_X10_67 dX10_mute_22 ?_
    refine z_iload_n F dX10_mute_25 rfl ?_
    refine z_callV F (k' := 6) (mc' := 0) [.ref (G.2.1 69 0), .int x2] [.int x1] dX10_mute_26 rfl rfl (by decide) rfl cl_X10_269 hy_X10_sungBy (by omega) (by decide) (by decide) (Nat.le_of_ble_eq_true rfl) rfl (con_mono h ?_ (fun _ _ h => h))
    rintro _ w2 ⟨v1, rfl, h⟩
    show Z M G 0 K X w2 29 [some (.ref (G.2.1 40 0)), some (.int x1), some (.int x2)] [.int v1, .int x1]
    refine z_iconst F (-1) dX10_mute_29 (by decide) ?_
    refine z_icmp_ne F 39 dX10_mute_30 (by decide) ⟨fun hc => ?_, fun hc => ?_⟩
    · have h := h.1 hc
      refine z_iconst F 0 dX10_mute_39 (by decide) ?_
      refine z_ior F dX10_mute_40 ?_
      refine z_istore_n F dX10_mute_41 (Nat.le_of_ble_eq_true rfl) ?_
      refine z_iinc F (x2 + 1) dX10_mute_42 rfl rfl (Nat.le_of_ble_eq_true rfl) ?_
      refine z_goto F 9 dX10_mute_45 (by decide) ?_
      exact h
    · have h := h.2 hc
      refine z_iconst F 1 dX10_mute_33 (by decide) ?_
      refine z_iload_n F dX10_mute_34 rfl ?_
      refine z_ishl F dX10_mute_35 ?_
      refine z_goto F 40 dX10_mute_36 (by decide) ?_
      refine z_ior F dX10_mute_40 ?_
      refine z_istore_n F dX10_mute_41 (Nat.le_of_ble_eq_true rfl) ?_
      refine z_iinc F (x2 + 1) dX10_mute_42 rfl rfl (Nat.le_of_ble_eq_true rfl) ?_
      refine z_goto F 9 dX10_mute_45 (by decide) ?_
      exact h
set_option maxRecDepth 20000 in
theorem e_X10_idle {l : Launch} {G : Gx} {w : Wd}  {K : Option Value → Wd → Prop} {X : String → Wd → Prop} (hl : l.stackTraces = false)
    (h : ∀ (M : Mx) (kk : Nat), mL M = l → 9 ≤ kk → Fx M G RX10 cX10_idle 3 (some .int) kk 0 → (∀ w1 : Wd, w1 = setI w 40 0 0 0 → Con (mL M) G 1 0 yX10_copies cX10_copies 3 none w1 [.ref (G.2.1 69 0), .ref (G.2.1 69 1)] (fun r w3 => r = none ∧ Con (mL M) G 8 0 yX10_hymns cX10_hymns 4 none w3 [.ref (G.2.1 40 0), .ref (G.2.1 69 1)] (fun r w5 => r = none ∧ Z M G 0 K X w5 28 [some (.ref (G.2.1 40 0)), some (.int 0), some (.int 0)] []) X) X)) :
    Con l G 9 0 yX10_idle cX10_idle 3 (some .int) w [.ref (G.2.1 40 0)] K X := by
  refine con_intro hl (by decide +kernel) (Nat.le_of_ble_eq_true rfl) (Nat.le_of_ble_eq_true rfl) (fun M kk hM hk F => ?_)
  have h := h M kk hM hk F
  show Z M G 0 K X w 0 [some (.ref (G.2.1 40 0)), none, none] []
  refine z_aload_n F dX10_idle_0 rfl ?_
  refine z_iconst F 0 dX10_idle_1 (by decide) ?_
  refine z_putIW F 0 rfl (by decide) (by decide) rfl lk_X10_95 dX10_idle_2 (fun w1 hw1 => ?_)
  have h := h w1 hw1
  refine z_iconst F 0 dX10_idle_5 (by decide) ?_
  refine z_istore_n F dX10_idle_6 (Nat.le_of_ble_eq_true rfl) ?_
  refine z_aload_n F dX10_idle_7 rfl ?_
  refine z_getR F 29 69 0 rfl (by decide) (by decide) rfl rfl rfl lk_X10_67 dX10_idle_8 ?_
  refine z_aload_n F dX10_idle_11 rfl ?_
  refine z_getR F 30 69 1 rfl (by decide) (by decide) rfl rfl rfl lk_X10_70 dX10_idle_12 ?_
  refine z_callS F (k' := 1) (mc' := 0) [.ref (G.2.1 69 0), .ref (G.2.1 69 1)] [] dX10_idle_15 rfl cl_X10_310 hy_X10_copies.2 (by omega) (by decide) (by decide) (Nat.le_of_ble_eq_true rfl) rfl (con_mono h ?_ (fun _ _ h => h))
  rintro _ w3 ⟨rfl, h⟩
  show Z M G 0 K X w3 18 [some (.ref (G.2.1 40 0)), some (.int 0), none] []
  refine z_aload_n F dX10_idle_18 rfl ?_
  refine z_aload_n F dX10_idle_19 rfl ?_
  refine z_getR F 30 69 1 rfl (by decide) (by decide) rfl rfl rfl lk_X10_70 dX10_idle_20 ?_
  refine z_callV F (k' := 8) (mc' := 0) [.ref (G.2.1 69 1)] [] dX10_idle_23 rfl rfl (by decide) rfl cl_X10_280 hy_X10_hymns (by omega) (by decide) (by decide) (Nat.le_of_ble_eq_true rfl) rfl (con_mono h ?_ (fun _ _ h => h))
  rintro _ w5 ⟨rfl, h⟩
  show Z M G 0 K X w5 26 [some (.ref (G.2.1 40 0)), some (.int 0), none] []
  refine z_iconst F 0 dX10_idle_26 (by decide) ?_
  refine z_istore_n F dX10_idle_27 (Nat.le_of_ble_eq_true rfl) ?_
  exact h
set_option maxRecDepth 20000 in
theorem b_X10_idle_28 {M : Mx} {G : Gx} {kk : Nat} {w : Wd}  {x1 : Int32} {x2 : Int32} {K : Option Value → Wd → Prop} {X : String → Wd → Prop} (F : Fx M G RX10 cX10_idle 3 (some .int) kk 0) (hk : 9 ≤ kk)
    (h : (((w.1 44 0 0) ≤ x2 → K (some (.int x1)) w) ∧ (¬ ((w.1 44 0 0) ≤ x2) → (vp_in ((14 : Int32) + x2) 57 ∧ (vp_in ((14 : Int32) + x2) 57 ∧ ((¬ (w.1 69 1 (((14 : Int32) + x2 : Int32).toNatClampNeg)) = (w.1 69 0 (((14 : Int32) + x2 : Int32).toNatClampNeg)) → Z M G 0 K X w 28 [some (.ref (G.2.1 40 0)), some (.int (x1 ||| (0 : Int32))), some (.int (x2 + 1))] []) ∧ (¬ (¬ (w.1 69 1 (((14 : Int32) + x2 : Int32).toNatClampNeg)) = (w.1 69 0 (((14 : Int32) + x2 : Int32).toNatClampNeg))) → Z M G 0 K X w 28 [some (.ref (G.2.1 40 0)), some (.int (x1 ||| ((1 : Int32) <<< (x2 &&& 31)))), some (.int (x2 + 1))] []))))))) :
    Z M G 0 K X w 28 [some (.ref (G.2.1 40 0)), some (.int x1), some (.int x2)] [] := by
  refine z_iload_n F dX10_idle_28 rfl ?_
  refine z_aload_n F dX10_idle_29 rfl ?_
  refine z_getR F 12 44 0 rfl (by decide) (by decide) rfl rfl rfl lk_X10_23 dX10_idle_30 ?_
  refine z_iconst F 0 dX10_idle_33 (by decide) ?_
  refine z_ialdK F 0 (by decide) rfl (by decide) (by unfold vp_in; decide) dX10_idle_34 ?_
  refine z_icmp_ge F 75 dX10_idle_35 (by decide) ⟨fun hc => ?_, fun hc => ?_⟩
  · have h := h.1 hc
    refine z_iload_n F dX10_idle_75 rfl ?_
    exact z_iret F dX10_idle_76 (by decide) h
  · have h := h.2 hc
    refine z_iload_n F dX10_idle_38 rfl ?_
    refine z_aload_n F dX10_idle_39 rfl ?_
    refine z_getR F 30 69 1 rfl (by decide) (by decide) rfl rfl rfl lk_X10_70 dX10_idle_40 ?_
    refine z_bipush F 14 dX10_idle_43 (by decide) ?_
    refine z_iload_n F dX10_idle_45 rfl ?_
    refine z_iadd F dX10_idle_46 ?_
    obtain ⟨hb, h⟩ := h
    refine z_ialdK F (((14 : Int32) + x2 : Int32).toNatClampNeg) rfl rfl (by decide) hb dX10_idle_47 ?_
    refine z_aload_n F dX10_idle_48 rfl ?_
    refine z_getR F 29 69 0 rfl (by decide) (by decide) rfl rfl rfl lk_X10_67 dX10_idle_49 ?_
    refine z_bipush F 14 dX10_idle_52 (by decide) ?_
    refine z_iload_n F dX10_idle_54 rfl ?_
    refine z_iadd F dX10_idle_55 ?_
    obtain ⟨hb, h⟩ := h
    refine z_ialdK F (((14 : Int32) + x2 : Int32).toNatClampNeg) rfl rfl (by decide) hb dX10_idle_56 ?_
    refine z_icmp_ne F 66 dX10_idle_57 (by decide) ⟨fun hc => ?_, fun hc => ?_⟩
    · have h := h.1 hc
      refine z_iconst F 0 dX10_idle_66 (by decide) ?_
      refine z_ior F dX10_idle_67 ?_
      refine z_istore_n F dX10_idle_68 (Nat.le_of_ble_eq_true rfl) ?_
      refine z_iinc F (x2 + 1) dX10_idle_69 rfl rfl (Nat.le_of_ble_eq_true rfl) ?_
      refine z_goto F 28 dX10_idle_72 (by decide) ?_
      exact h
    · have h := h.2 hc
      refine z_iconst F 1 dX10_idle_60 (by decide) ?_
      refine z_iload_n F dX10_idle_61 rfl ?_
      refine z_ishl F dX10_idle_62 ?_
      refine z_goto F 67 dX10_idle_63 (by decide) ?_
      refine z_ior F dX10_idle_67 ?_
      refine z_istore_n F dX10_idle_68 (Nat.le_of_ble_eq_true rfl) ?_
      refine z_iinc F (x2 + 1) dX10_idle_69 rfl rfl (Nat.le_of_ble_eq_true rfl) ?_
      refine z_goto F 28 dX10_idle_72 (by decide) ?_
      exact h
set_option maxRecDepth 20000 in
theorem e_X10_alone {l : Launch} {G : Gx} {w : Wd} {p0 : Int32} {K : Option Value → Wd → Prop} {X : String → Wd → Prop} (hl : l.stackTraces = false)
    (h : ∀ (M : Mx) (kk : Nat), mL M = l → 3 ≤ kk → Fx M G RX10 cX10_alone 5 (some .int) kk 0 → (∀ w1 : Wd, w1 = setI w 40 0 0 0 → Con (mL M) G 2 0 yX10_isVowel cX10_isVowel 1 (some .boolean) w1 [.int p0] (fun r w3 => ∃ v2 : Int32, r = some (.int v2) ∧ ((¬ v2 = 0 → Z M G 0 K X w3 18 [some (.ref (G.2.1 40 0)), some (.int p0), none, none, none] [.int 0, .ref (G.2.1 40 0)]) ∧ (¬ (¬ v2 = 0) → Z M G 0 K X w3 18 [some (.ref (G.2.1 40 0)), some (.int p0), none, none, none] [.int 1, .ref (G.2.1 40 0)]))) X)) :
    Con l G 3 0 yX10_alone cX10_alone 5 (some .int) w [.ref (G.2.1 40 0), .int p0] K X := by
  refine con_intro hl (by decide +kernel) (Nat.le_of_ble_eq_true rfl) (Nat.le_of_ble_eq_true rfl) (fun M kk hM hk F => ?_)
  have h := h M kk hM hk F
  show Z M G 0 K X w 0 [some (.ref (G.2.1 40 0)), some (.int p0), none, none, none] []
  refine z_aload_n F dX10_alone_0 rfl ?_
  refine z_iconst F 0 dX10_alone_1 (by decide) ?_
  refine z_putIW F 0 rfl (by decide) (by decide) rfl lk_X10_95 dX10_alone_2 (fun w1 hw1 => ?_)
  have h := h w1 hw1
  refine z_aload_n F dX10_alone_5 rfl ?_
  refine z_iload_n F dX10_alone_6 rfl ?_
  refine z_callS F (k' := 2) (mc' := 0) [.int p0] [.ref (G.2.1 40 0)] dX10_alone_7 rfl cl_X10_327 hy_X10_isVowel.2 (by omega) (by decide) (by decide) (Nat.le_of_ble_eq_true rfl) rfl (con_mono h ?_ (fun _ _ h => h))
  rintro _ w3 ⟨v2, rfl, h⟩
  show Z M G 0 K X w3 10 [some (.ref (G.2.1 40 0)), some (.int p0), none, none, none] [.int v2, .ref (G.2.1 40 0)]
  refine z_if_ne F 17 dX10_alone_10 (by decide) ⟨fun hc => ?_, fun hc => ?_⟩
  · have h := h.1 hc
    refine z_iconst F 0 dX10_alone_17 (by decide) ?_
    exact h
  · have h := h.2 hc
    refine z_iconst F 1 dX10_alone_13 (by decide) ?_
    refine z_goto F 18 dX10_alone_14 (by decide) ?_
    exact h
set_option maxRecDepth 20000 in
theorem b_X10_alone_18 {M : Mx} {G : Gx} {kk : Nat} {w : Wd}  {x1 : Int32} {s0 : Int32} {K : Option Value → Wd → Prop} {X : String → Wd → Prop} (F : Fx M G RX10 cX10_alone 5 (some .int) kk 0) (hk : 3 ≤ kk)
    (h : Con (mL M) G 1 0 yX10_bad cX10_bad 4 (some .boolean) w [.ref (G.2.1 40 0), .int s0, .int 1, .int 1] (fun r w2 => ∃ v1 : Int32, r = some (.int v1) ∧ ((v1 = 0 → Z M G 0 K X w2 35 [some (.ref (G.2.1 40 0)), some (.int x1), some (.int (-1)), some (.int 0), some (.int 0)] []) ∧ (¬ (v1 = 0) → K (some (.int 0)) w2))) X) :
    Z M G 0 K X w 18 [some (.ref (G.2.1 40 0)), some (.int x1), none, none, none] [.int s0, .ref (G.2.1 40 0)] := by
  refine z_iconst F 1 dX10_alone_18 (by decide) ?_
  refine z_iconst F 1 dX10_alone_19 (by decide) ?_
  refine z_callV F (k' := 1) (mc' := 0) [.int s0, .int 1, .int 1] [] dX10_alone_20 rfl rfl (by decide) rfl cl_X10_171 hy_X10_bad (by omega) (by decide) (by decide) (Nat.le_of_ble_eq_true rfl) rfl (con_mono h ?_ (fun _ _ h => h))
  rintro _ w2 ⟨v1, rfl, h⟩
  show Z M G 0 K X w2 23 [some (.ref (G.2.1 40 0)), some (.int x1), none, none, none] [.int v1]
  refine z_if_eq F 28 dX10_alone_23 (by decide) ⟨fun hc => ?_, fun hc => ?_⟩
  · have h := h.1 hc
    refine z_iconst F (-1) dX10_alone_28 (by decide) ?_
    refine z_istore_n F dX10_alone_29 (Nat.le_of_ble_eq_true rfl) ?_
    refine z_iconst F 0 dX10_alone_30 (by decide) ?_
    refine z_istore_n F dX10_alone_31 (Nat.le_of_ble_eq_true rfl) ?_
    refine z_iconst F 0 dX10_alone_32 (by decide) ?_
    refine z_istore F dX10_alone_33 (Nat.le_of_ble_eq_true rfl) ?_
    exact h
  · have h := h.2 hc
    refine z_iconst F 0 dX10_alone_26 (by decide) ?_
    exact z_iret F dX10_alone_27 (by decide) h
set_option maxRecDepth 20000 in
theorem b_X10_alone_35 {M : Mx} {G : Gx} {kk : Nat} {w : Wd}  {x1 : Int32} {x2 : Int32} {x3 : Int32} {x4 : Int32} {K : Option Value → Wd → Prop} {X : String → Wd → Prop} (F : Fx M G RX10 cX10_alone 5 (some .int) kk 0) (hk : 3 ≤ kk)
    (h : (((w.1 44 0 0) ≤ x4 → ((¬ x3 = 1 → K (some (.int (-1))) w) ∧ (¬ (¬ x3 = 1) → K (some (.int x2)) w))) ∧ (¬ ((w.1 44 0 0) ≤ x4) → (vp_in x4 7 ∧ ((¬ (w.1 48 ((x4 : Int32).toNatClampNeg) 0) = x1 → Z M G 0 K X w 65 [some (.ref (G.2.1 40 0)), some (.int x1), none, some (.int x3), some (.int x4)] [.int x2]) ∧ (¬ (¬ (w.1 48 ((x4 : Int32).toNatClampNeg) 0) = x1) → Z M G 0 K X w 65 [some (.ref (G.2.1 40 0)), some (.int x1), none, some (.int x3), some (.int x4)] [.int x4])))))) :
    Z M G 0 K X w 35 [some (.ref (G.2.1 40 0)), some (.int x1), some (.int x2), some (.int x3), some (.int x4)] [] := by
  refine z_iload F dX10_alone_35 rfl ?_
  refine z_aload_n F dX10_alone_37 rfl ?_
  refine z_getR F 12 44 0 rfl (by decide) (by decide) rfl rfl rfl lk_X10_23 dX10_alone_38 ?_
  refine z_iconst F 0 dX10_alone_41 (by decide) ?_
  refine z_ialdK F 0 (by decide) rfl (by decide) (by unfold vp_in; decide) dX10_alone_42 ?_
  refine z_icmp_ge F 93 dX10_alone_43 (by decide) ⟨fun hc => ?_, fun hc => ?_⟩
  · have h := h.1 hc
    refine z_iload_n F dX10_alone_93 rfl ?_
    refine z_iconst F 1 dX10_alone_94 (by decide) ?_
    refine z_icmp_ne F 102 dX10_alone_95 (by decide) ⟨fun hc => ?_, fun hc => ?_⟩
    · have h := h.1 hc
      refine z_iconst F (-1) dX10_alone_102 (by decide) ?_
      exact z_iret F dX10_alone_103 (by decide) h
    · have h := h.2 hc
      refine z_iload_n F dX10_alone_98 rfl ?_
      refine z_goto F 103 dX10_alone_99 (by decide) ?_
      exact z_iret F dX10_alone_103 (by decide) h
  · have h := h.2 hc
    refine z_aload_n F dX10_alone_46 rfl ?_
    refine z_getR F 14 47 0 rfl (by decide) (by decide) rfl rfl rfl lk_X10_31 dX10_alone_47 ?_
    refine z_iload F dX10_alone_50 rfl ?_
    obtain ⟨hb, h⟩ := h
    refine z_aald F 48 ((x4 : Int32).toNatClampNeg) rfl (by decide) (by decide) (by decide) rfl rfl hb dX10_alone_52 (fun hv1 => ?_)
    refine z_iconst F 0 dX10_alone_53 (by decide) ?_
    refine z_ialdK F 0 (by decide) rfl hv1 (by unfold vp_in; decide) dX10_alone_54 ?_
    refine z_iload_n F dX10_alone_55 rfl ?_
    refine z_icmp_ne F 64 dX10_alone_56 (by decide) ⟨fun hc => ?_, fun hc => ?_⟩
    · have h := h.1 hc
      refine z_iload_n F dX10_alone_64 rfl ?_
      exact z_weak h (⟨rfl, ⟨rfl, ⟨rfl, ⟨rfl, trivial⟩⟩⟩⟩)
    · have h := h.2 hc
      refine z_iload F dX10_alone_59 rfl ?_
      refine z_goto F 65 dX10_alone_61 (by decide) ?_
      exact z_weak h (⟨rfl, ⟨rfl, ⟨rfl, ⟨rfl, trivial⟩⟩⟩⟩)
set_option maxRecDepth 20000 in
theorem b_X10_alone_65 {M : Mx} {G : Gx} {kk : Nat} {w : Wd}  {x1 : Int32} {x3 : Int32} {x4 : Int32} {s0 : Int32} {K : Option Value → Wd → Prop} {X : String → Wd → Prop} (F : Fx M G RX10 cX10_alone 5 (some .int) kk 0) (hk : 3 ≤ kk)
    (h : (vp_in x4 7 ∧ ((¬ (w.1 48 ((x4 : Int32).toNatClampNeg) 0) = x1 → Z M G 0 K X w 35 [some (.ref (G.2.1 40 0)), some (.int x1), some (.int s0), some (.int (x3 + (0 : Int32))), some (.int (x4 + 1))] []) ∧ (¬ (¬ (w.1 48 ((x4 : Int32).toNatClampNeg) 0) = x1) → Z M G 0 K X w 35 [some (.ref (G.2.1 40 0)), some (.int x1), some (.int s0), some (.int (x3 + (1 : Int32))), some (.int (x4 + 1))] [])))) :
    Z M G 0 K X w 65 [some (.ref (G.2.1 40 0)), some (.int x1), none, some (.int x3), some (.int x4)] [.int s0] := by
  refine z_istore_n F dX10_alone_65 (Nat.le_of_ble_eq_true rfl) ?_
  refine z_iload_n F dX10_alone_66 rfl ?_
  refine z_aload_n F dX10_alone_67 rfl ?_
  refine z_getR F 14 47 0 rfl (by decide) (by decide) rfl rfl rfl lk_X10_31 dX10_alone_68 ?_
  refine z_iload F dX10_alone_71 rfl ?_
  obtain ⟨hb, h⟩ := h
  refine z_aald F 48 ((x4 : Int32).toNatClampNeg) rfl (by decide) (by decide) (by decide) rfl rfl hb dX10_alone_73 (fun hv1 => ?_)
  refine z_iconst F 0 dX10_alone_74 (by decide) ?_
  refine z_ialdK F 0 (by decide) rfl hv1 (by unfold vp_in; decide) dX10_alone_75 ?_
  refine z_iload_n F dX10_alone_76 rfl ?_
  refine z_icmp_ne F 84 dX10_alone_77 (by decide) ⟨fun hc => ?_, fun hc => ?_⟩
  · have h := h.1 hc
    refine z_iconst F 0 dX10_alone_84 (by decide) ?_
    refine z_iadd F dX10_alone_85 ?_
    refine z_istore_n F dX10_alone_86 (Nat.le_of_ble_eq_true rfl) ?_
    refine z_iinc F (x4 + 1) dX10_alone_87 rfl rfl (Nat.le_of_ble_eq_true rfl) ?_
    refine z_goto F 35 dX10_alone_90 (by decide) ?_
    exact h
  · have h := h.2 hc
    refine z_iconst F 1 dX10_alone_80 (by decide) ?_
    refine z_goto F 85 dX10_alone_81 (by decide) ?_
    refine z_iadd F dX10_alone_85 ?_
    refine z_istore_n F dX10_alone_86 (Nat.le_of_ble_eq_true rfl) ?_
    refine z_iinc F (x4 + 1) dX10_alone_87 rfl rfl (Nat.le_of_ble_eq_true rfl) ?_
    refine z_goto F 35 dX10_alone_90 (by decide) ?_
    exact h
set_option maxRecDepth 20000 in
theorem e_X10_longest {l : Launch} {G : Gx} {w : Wd} {p0 : Int32} {K : Option Value → Wd → Prop} {X : String → Wd → Prop} (hl : l.stackTraces = false)
    (h : ∀ (M : Mx) (kk : Nat), mL M = l → 2 ≤ kk → Fx M G RX10 cX10_longest 4 (some .int) kk 0 → (∀ w1 : Wd, w1 = setI w 40 0 0 0 → Con (mL M) G 1 0 yX10_in cX10_in 3 (some .boolean) w1 [.int p0, .int 0, .int 1] (fun r w3 => ∃ v2 : Int32, r = some (.int v2) ∧ ((¬ v2 = 0 → Z M G 0 K X w3 20 [some (.ref (G.2.1 40 0)), some (.int p0), none, none] [.int 0, .ref (G.2.1 40 0)]) ∧ (¬ (¬ v2 = 0) → Z M G 0 K X w3 20 [some (.ref (G.2.1 40 0)), some (.int p0), none, none] [.int 1, .ref (G.2.1 40 0)]))) X)) :
    Con l G 2 0 yX10_longest cX10_longest 4 (some .int) w [.ref (G.2.1 40 0), .int p0] K X := by
  refine con_intro hl (by decide +kernel) (Nat.le_of_ble_eq_true rfl) (Nat.le_of_ble_eq_true rfl) (fun M kk hM hk F => ?_)
  have h := h M kk hM hk F
  show Z M G 0 K X w 0 [some (.ref (G.2.1 40 0)), some (.int p0), none, none] []
  refine z_aload_n F dX10_longest_0 rfl ?_
  refine z_iconst F 0 dX10_longest_1 (by decide) ?_
  refine z_putIW F 0 rfl (by decide) (by decide) rfl lk_X10_95 dX10_longest_2 (fun w1 hw1 => ?_)
  have h := h w1 hw1
  refine z_aload_n F dX10_longest_5 rfl ?_
  refine z_iload_n F dX10_longest_6 rfl ?_
  refine z_iconst F 0 dX10_longest_7 (by decide) ?_
  refine z_iconst F 1 dX10_longest_8 (by decide) ?_
  refine z_callS F (k' := 1) (mc' := 0) [.int p0, .int 0, .int 1] [.ref (G.2.1 40 0)] dX10_longest_9 rfl cl_X10_129 hy_X10_in.2 (by omega) (by decide) (by decide) (Nat.le_of_ble_eq_true rfl) rfl (con_mono h ?_ (fun _ _ h => h))
  rintro _ w3 ⟨v2, rfl, h⟩
  show Z M G 0 K X w3 12 [some (.ref (G.2.1 40 0)), some (.int p0), none, none] [.int v2, .ref (G.2.1 40 0)]
  refine z_if_ne F 19 dX10_longest_12 (by decide) ⟨fun hc => ?_, fun hc => ?_⟩
  · have h := h.1 hc
    refine z_iconst F 0 dX10_longest_19 (by decide) ?_
    exact h
  · have h := h.2 hc
    refine z_iconst F 1 dX10_longest_15 (by decide) ?_
    refine z_goto F 20 dX10_longest_16 (by decide) ?_
    exact h
set_option maxRecDepth 20000 in
theorem b_X10_longest_20 {M : Mx} {G : Gx} {kk : Nat} {w : Wd}  {x1 : Int32} {s0 : Int32} {K : Option Value → Wd → Prop} {X : String → Wd → Prop} (F : Fx M G RX10 cX10_longest 4 (some .int) kk 0) (hk : 2 ≤ kk)
    (h : Con (mL M) G 1 0 yX10_bad cX10_bad 4 (some .boolean) w [.ref (G.2.1 40 0), .int s0, .int 1, .int 1] (fun r w2 => ∃ v1 : Int32, r = some (.int v1) ∧ ((v1 = 0 → Z M G 0 K X w2 34 [some (.ref (G.2.1 40 0)), some (.int x1), some (.int (-1)), some (.int 0)] []) ∧ (¬ (v1 = 0) → K (some (.int 0)) w2))) X) :
    Z M G 0 K X w 20 [some (.ref (G.2.1 40 0)), some (.int x1), none, none] [.int s0, .ref (G.2.1 40 0)] := by
  refine z_iconst F 1 dX10_longest_20 (by decide) ?_
  refine z_iconst F 1 dX10_longest_21 (by decide) ?_
  refine z_callV F (k' := 1) (mc' := 0) [.int s0, .int 1, .int 1] [] dX10_longest_22 rfl rfl (by decide) rfl cl_X10_171 hy_X10_bad (by omega) (by decide) (by decide) (Nat.le_of_ble_eq_true rfl) rfl (con_mono h ?_ (fun _ _ h => h))
  rintro _ w2 ⟨v1, rfl, h⟩
  show Z M G 0 K X w2 25 [some (.ref (G.2.1 40 0)), some (.int x1), none, none] [.int v1]
  refine z_if_eq F 30 dX10_longest_25 (by decide) ⟨fun hc => ?_, fun hc => ?_⟩
  · have h := h.1 hc
    refine z_iconst F (-1) dX10_longest_30 (by decide) ?_
    refine z_istore_n F dX10_longest_31 (Nat.le_of_ble_eq_true rfl) ?_
    refine z_iconst F 0 dX10_longest_32 (by decide) ?_
    refine z_istore_n F dX10_longest_33 (Nat.le_of_ble_eq_true rfl) ?_
    exact h
  · have h := h.2 hc
    refine z_iconst F 0 dX10_longest_28 (by decide) ?_
    exact z_iret F dX10_longest_29 (by decide) h
set_option maxRecDepth 20000 in
theorem b_X10_longest_34 {M : Mx} {G : Gx} {kk : Nat} {w : Wd}  {x1 : Int32} {x2 : Int32} {x3 : Int32} {K : Option Value → Wd → Prop} {X : String → Wd → Prop} (F : Fx M G RX10 cX10_longest 4 (some .int) kk 0) (hk : 2 ≤ kk)
    (h : (((w.1 44 0 1) ≤ x3 → ((x1 = 0 → K (some (.int x2)) w) ∧ (¬ (x1 = 0) → ((¬ x2 = (-1) → (vp_in x2 20 ∧ K (some (.int (w.1 52 ((x2 : Int32).toNatClampNeg) 1))) w)) ∧ (¬ (¬ x2 = (-1)) → K (some (.int x2)) w))))) ∧ (¬ ((w.1 44 0 1) ≤ x3) → ((x2 = (-1) → Z M G 0 K X w 34 [some (.ref (G.2.1 40 0)), some (.int x1), some (.int x3), some (.int (x3 + 1))] []) ∧ (¬ (x2 = (-1)) → (vp_in x3 20 ∧ (vp_in x2 20 ∧ (((w.1 52 ((x3 : Int32).toNatClampNeg) 1) ≤ (w.1 52 ((x2 : Int32).toNatClampNeg) 1) → Z M G 0 K X w 34 [some (.ref (G.2.1 40 0)), some (.int x1), some (.int x2), some (.int (x3 + 1))] []) ∧ (¬ ((w.1 52 ((x3 : Int32).toNatClampNeg) 1) ≤ (w.1 52 ((x2 : Int32).toNatClampNeg) 1)) → Z M G 0 K X w 34 [some (.ref (G.2.1 40 0)), some (.int x1), some (.int x3), some (.int (x3 + 1))] []))))))))) :
    Z M G 0 K X w 34 [some (.ref (G.2.1 40 0)), some (.int x1), some (.int x2), some (.int x3)] [] := by
  refine z_iload_n F dX10_longest_34 rfl ?_
  refine z_aload_n F dX10_longest_35 rfl ?_
  refine z_getR F 12 44 0 rfl (by decide) (by decide) rfl rfl rfl lk_X10_23 dX10_longest_36 ?_
  refine z_iconst F 1 dX10_longest_39 (by decide) ?_
  refine z_ialdK F 1 (by decide) rfl (by decide) (by unfold vp_in; decide) dX10_longest_40 ?_
  refine z_icmp_ge F 80 dX10_longest_41 (by decide) ⟨fun hc => ?_, fun hc => ?_⟩
  · have h := h.1 hc
    refine z_iload_n F dX10_longest_80 rfl ?_
    refine z_if_eq F 89 dX10_longest_81 (by decide) ⟨fun hc => ?_, fun hc => ?_⟩
    · have h := h.1 hc
      refine z_iload_n F dX10_longest_89 rfl ?_
      refine z_goto F 101 dX10_longest_90 (by decide) ?_
      exact z_iret F dX10_longest_101 (by decide) h
    · have h := h.2 hc
      refine z_iload_n F dX10_longest_84 rfl ?_
      refine z_iconst F (-1) dX10_longest_85 (by decide) ?_
      refine z_icmp_ne F 93 dX10_longest_86 (by decide) ⟨fun hc => ?_, fun hc => ?_⟩
      · have h := h.1 hc
        refine z_aload_n F dX10_longest_93 rfl ?_
        refine z_getR F 16 51 0 rfl (by decide) (by decide) rfl rfl rfl lk_X10_37 dX10_longest_94 ?_
        refine z_iload_n F dX10_longest_97 rfl ?_
        obtain ⟨hb, h⟩ := h
        refine z_aald F 52 ((x2 : Int32).toNatClampNeg) rfl (by decide) (by decide) (by decide) rfl rfl hb dX10_longest_98 (fun hv1 => ?_)
        refine z_iconst F 1 dX10_longest_99 (by decide) ?_
        refine z_ialdK F 1 (by decide) rfl hv1 (by unfold vp_in; decide) dX10_longest_100 ?_
        exact z_iret F dX10_longest_101 (by decide) h
      · have h := h.2 hc
        refine z_iload_n F dX10_longest_89 rfl ?_
        refine z_goto F 101 dX10_longest_90 (by decide) ?_
        exact z_iret F dX10_longest_101 (by decide) h
  · have h := h.2 hc
    refine z_iload_n F dX10_longest_44 rfl ?_
    refine z_iconst F (-1) dX10_longest_45 (by decide) ?_
    refine z_icmp_eq F 68 dX10_longest_46 (by decide) ⟨fun hc => ?_, fun hc => ?_⟩
    · have h := h.1 hc
      refine z_iload_n F dX10_longest_68 rfl ?_
      refine z_goto F 73 dX10_longest_69 (by decide) ?_
      refine z_istore_n F dX10_longest_73 (Nat.le_of_ble_eq_true rfl) ?_
      refine z_iinc F (x3 + 1) dX10_longest_74 rfl rfl (Nat.le_of_ble_eq_true rfl) ?_
      refine z_goto F 34 dX10_longest_77 (by decide) ?_
      exact h
    · have h := h.2 hc
      refine z_aload_n F dX10_longest_49 rfl ?_
      refine z_getR F 16 51 0 rfl (by decide) (by decide) rfl rfl rfl lk_X10_37 dX10_longest_50 ?_
      refine z_iload_n F dX10_longest_53 rfl ?_
      obtain ⟨hb, h⟩ := h
      refine z_aald F 52 ((x3 : Int32).toNatClampNeg) rfl (by decide) (by decide) (by decide) rfl rfl hb dX10_longest_54 (fun hv2 => ?_)
      refine z_iconst F 1 dX10_longest_55 (by decide) ?_
      refine z_ialdK F 1 (by decide) rfl hv2 (by unfold vp_in; decide) dX10_longest_56 ?_
      refine z_aload_n F dX10_longest_57 rfl ?_
      refine z_getR F 16 51 0 rfl (by decide) (by decide) rfl rfl rfl lk_X10_37 dX10_longest_58 ?_
      refine z_iload_n F dX10_longest_61 rfl ?_
      obtain ⟨hb, h⟩ := h
      refine z_aald F 52 ((x2 : Int32).toNatClampNeg) rfl (by decide) (by decide) (by decide) rfl rfl hb dX10_longest_62 (fun hv3 => ?_)
      refine z_iconst F 1 dX10_longest_63 (by decide) ?_
      refine z_ialdK F 1 (by decide) rfl hv3 (by unfold vp_in; decide) dX10_longest_64 ?_
      refine z_icmp_le F 72 dX10_longest_65 (by decide) ⟨fun hc => ?_, fun hc => ?_⟩
      · have h := h.1 hc
        refine z_iload_n F dX10_longest_72 rfl ?_
        refine z_istore_n F dX10_longest_73 (Nat.le_of_ble_eq_true rfl) ?_
        refine z_iinc F (x3 + 1) dX10_longest_74 rfl rfl (Nat.le_of_ble_eq_true rfl) ?_
        refine z_goto F 34 dX10_longest_77 (by decide) ?_
        exact h
      · have h := h.2 hc
        refine z_iload_n F dX10_longest_68 rfl ?_
        refine z_goto F 73 dX10_longest_69 (by decide) ?_
        refine z_istore_n F dX10_longest_73 (Nat.le_of_ble_eq_true rfl) ?_
        refine z_iinc F (x3 + 1) dX10_longest_74 rfl rfl (Nat.le_of_ble_eq_true rfl) ?_
        refine z_goto F 34 dX10_longest_77 (by decide) ?_
        exact h
set_option maxRecDepth 20000 in
theorem e_X10_chorus {l : Launch} {G : Gx} {w : Wd} {p0 : Int32} {K : Option Value → Wd → Prop} {X : String → Wd → Prop} (hl : l.stackTraces = false)
    (h : ∀ (M : Mx) (kk : Nat), mL M = l → 9 ≤ kk → Fx M G RX10 cX10_chorus 2 (some .int) kk 0 → (∀ w1 : Wd, w1 = setI w 40 0 0 0 → Con (mL M) G 1 0 yX10_everySinger cX10_everySinger 1 (some .int) w1 [.ref (G.2.1 40 0)] (fun r w3 => ∃ v2 : Int32, r = some (.int v2) ∧ Con (mL M) G 1 0 yX10_in cX10_in 3 (some .boolean) w3 [.int p0, .int 0, .int v2] (fun r w5 => ∃ v4 : Int32, r = some (.int v4) ∧ ((¬ v4 = 0 → Z M G 0 K X w5 23 [some (.ref (G.2.1 40 0)), some (.int p0)] [.int 0, .ref (G.2.1 40 0)]) ∧ (¬ (¬ v4 = 0) → Z M G 0 K X w5 23 [some (.ref (G.2.1 40 0)), some (.int p0)] [.int 1, .ref (G.2.1 40 0)]))) X) X)) :
    Con l G 9 0 yX10_chorus cX10_chorus 2 (some .int) w [.ref (G.2.1 40 0), .int p0] K X := by
  refine con_intro hl (by decide +kernel) (Nat.le_of_ble_eq_true rfl) (Nat.le_of_ble_eq_true rfl) (fun M kk hM hk F => ?_)
  have h := h M kk hM hk F
  show Z M G 0 K X w 0 [some (.ref (G.2.1 40 0)), some (.int p0)] []
  refine z_aload_n F dX10_chorus_0 rfl ?_
  refine z_iconst F 0 dX10_chorus_1 (by decide) ?_
  refine z_putIW F 0 rfl (by decide) (by decide) rfl lk_X10_95 dX10_chorus_2 (fun w1 hw1 => ?_)
  have h := h w1 hw1
  refine z_aload_n F dX10_chorus_5 rfl ?_
  refine z_iload_n F dX10_chorus_6 rfl ?_
  refine z_iconst F 0 dX10_chorus_7 (by decide) ?_
  refine z_aload_n F dX10_chorus_8 rfl ?_
  refine z_callV F (k' := 1) (mc' := 0) [] [.int 0, .int p0, .ref (G.2.1 40 0)] dX10_chorus_9 rfl rfl (by decide) rfl cl_X10_330 hy_X10_everySinger (by omega) (by decide) (by decide) (Nat.le_of_ble_eq_true rfl) rfl (con_mono h ?_ (fun _ _ h => h))
  rintro _ w3 ⟨v2, rfl, h⟩
  show Z M G 0 K X w3 12 [some (.ref (G.2.1 40 0)), some (.int p0)] [.int v2, .int 0, .int p0, .ref (G.2.1 40 0)]
  refine z_callS F (k' := 1) (mc' := 0) [.int p0, .int 0, .int v2] [.ref (G.2.1 40 0)] dX10_chorus_12 rfl cl_X10_129 hy_X10_in.2 (by omega) (by decide) (by decide) (Nat.le_of_ble_eq_true rfl) rfl (con_mono h ?_ (fun _ _ h => h))
  rintro _ w5 ⟨v4, rfl, h⟩
  show Z M G 0 K X w5 15 [some (.ref (G.2.1 40 0)), some (.int p0)] [.int v4, .ref (G.2.1 40 0)]
  refine z_if_ne F 22 dX10_chorus_15 (by decide) ⟨fun hc => ?_, fun hc => ?_⟩
  · have h := h.1 hc
    refine z_iconst F 0 dX10_chorus_22 (by decide) ?_
    exact h
  · have h := h.2 hc
    refine z_iconst F 1 dX10_chorus_18 (by decide) ?_
    refine z_goto F 23 dX10_chorus_19 (by decide) ?_
    exact h
set_option maxRecDepth 20000 in
theorem b_X10_chorus_23 {M : Mx} {G : Gx} {kk : Nat} {w : Wd}  {x1 : Int32} {s0 : Int32} {K : Option Value → Wd → Prop} {X : String → Wd → Prop} (F : Fx M G RX10 cX10_chorus 2 (some .int) kk 0) (hk : 9 ≤ kk)
    (h : Con (mL M) G 1 0 yX10_bad cX10_bad 4 (some .boolean) w [.ref (G.2.1 40 0), .int s0, .int 1, .int 1] (fun r w2 => ∃ v1 : Int32, r = some (.int v1) ∧ ((v1 = 0 → Con (mL M) G 1 0 yX10_copies cX10_copies 3 none w2 [.ref (G.2.1 69 0), .ref (G.2.1 69 1)] (fun r w4 => r = none ∧ Con (mL M) G 2 0 yX10_onlyThese cX10_onlyThese 3 none w4 [.ref (G.2.1 40 0), .int x1] (fun r w6 => r = none ∧ Con (mL M) G 8 0 yX10_hymns cX10_hymns 4 none w6 [.ref (G.2.1 40 0), .ref (G.2.1 69 1)] (fun r w8 => r = none ∧ Con (mL M) G 1 0 yX10_all cX10_all 5 (some .int) w8 [.ref (G.2.1 40 0), .ref (G.2.1 69 1), .int 14] (fun r w10 => ∃ v9 : Int32, r = some (.int v9) ∧ Con (mL M) G 1 0 yX10_all cX10_all 5 (some .int) w10 [.ref (G.2.1 40 0), .ref (G.2.1 69 0), .int 14] (fun r w12 => ∃ v11 : Int32, r = some (.int v11) ∧ K (some (.int (v9 - v11))) w12) X) X) X) X) X) ∧ (¬ (v1 = 0) → K (some (.int 0)) w2))) X) :
    Z M G 0 K X w 23 [some (.ref (G.2.1 40 0)), some (.int x1)] [.int s0, .ref (G.2.1 40 0)] := by
  refine z_iconst F 1 dX10_chorus_23 (by decide) ?_
  refine z_iconst F 1 dX10_chorus_24 (by decide) ?_
  refine z_callV F (k' := 1) (mc' := 0) [.int s0, .int 1, .int 1] [] dX10_chorus_25 rfl rfl (by decide) rfl cl_X10_171 hy_X10_bad (by omega) (by decide) (by decide) (Nat.le_of_ble_eq_true rfl) rfl (con_mono h ?_ (fun _ _ h => h))
  rintro _ w2 ⟨v1, rfl, h⟩
  show Z M G 0 K X w2 28 [some (.ref (G.2.1 40 0)), some (.int x1)] [.int v1]
  refine z_if_eq F 33 dX10_chorus_28 (by decide) ⟨fun hc => ?_, fun hc => ?_⟩
  · have h := h.1 hc
    refine z_aload_n F dX10_chorus_33 rfl ?_
    refine z_getR F 29 69 0 rfl (by decide) (by decide) rfl rfl rfl lk_X10_67 dX10_chorus_34 ?_
    refine z_aload_n F dX10_chorus_37 rfl ?_
    refine z_getR F 30 69 1 rfl (by decide) (by decide) rfl rfl rfl lk_X10_70 dX10_chorus_38 ?_
    refine z_callS F (k' := 1) (mc' := 0) [.ref (G.2.1 69 0), .ref (G.2.1 69 1)] [] dX10_chorus_41 rfl cl_X10_310 hy_X10_copies.2 (by omega) (by decide) (by decide) (Nat.le_of_ble_eq_true rfl) rfl (con_mono h ?_ (fun _ _ h => h))
    rintro _ w4 ⟨rfl, h⟩
    show Z M G 0 K X w4 44 [some (.ref (G.2.1 40 0)), some (.int x1)] []
    refine z_aload_n F dX10_chorus_44 rfl ?_
    refine z_iload_n F dX10_chorus_45 rfl ?_
    refine z_callV F (k' := 2) (mc' := 0) [.int x1] [] dX10_chorus_46 rfl rfl (by decide) rfl cl_X10_339 hy_X10_onlyThese (by omega) (by decide) (by decide) (Nat.le_of_ble_eq_true rfl) rfl (con_mono h ?_ (fun _ _ h => h))
    rintro _ w6 ⟨rfl, h⟩
    show Z M G 0 K X w6 49 [some (.ref (G.2.1 40 0)), some (.int x1)] []
    refine z_aload_n F dX10_chorus_49 rfl ?_
    refine z_aload_n F dX10_chorus_50 rfl ?_
    refine z_getR F 30 69 1 rfl (by decide) (by decide) rfl rfl rfl lk_X10_70 dX10_chorus_51 ?_
    refine z_callV F (k' := 8) (mc' := 0) [.ref (G.2.1 69 1)] [] dX10_chorus_54 rfl rfl (by decide) rfl cl_X10_280 hy_X10_hymns (by omega) (by decide) (by decide) (Nat.le_of_ble_eq_true rfl) rfl (con_mono h ?_ (fun _ _ h => h))
    rintro _ w8 ⟨rfl, h⟩
    show Z M G 0 K X w8 57 [some (.ref (G.2.1 40 0)), some (.int x1)] []
    refine z_aload_n F dX10_chorus_57 rfl ?_
    refine z_aload_n F dX10_chorus_58 rfl ?_
    refine z_getR F 30 69 1 rfl (by decide) (by decide) rfl rfl rfl lk_X10_70 dX10_chorus_59 ?_
    refine z_bipush F 14 dX10_chorus_62 (by decide) ?_
    refine z_callV F (k' := 1) (mc' := 0) [.ref (G.2.1 69 1), .int 14] [] dX10_chorus_64 rfl rfl (by decide) rfl cl_X10_318 hy_X10_all (by omega) (by decide) (by decide) (Nat.le_of_ble_eq_true rfl) rfl (con_mono h ?_ (fun _ _ h => h))
    rintro _ w10 ⟨v9, rfl, h⟩
    show Z M G 0 K X w10 67 [some (.ref (G.2.1 40 0)), some (.int x1)] [.int v9]
    refine z_aload_n F dX10_chorus_67 rfl ?_
    refine z_aload_n F dX10_chorus_68 rfl ?_
    refine z_getR F 29 69 0 rfl (by decide) (by decide) rfl rfl rfl lk_X10_67 dX10_chorus_69 ?_
    refine z_bipush F 14 dX10_chorus_72 (by decide) ?_
    refine z_callV F (k' := 1) (mc' := 0) [.ref (G.2.1 69 0), .int 14] [.int v9] dX10_chorus_74 rfl rfl (by decide) rfl cl_X10_318 hy_X10_all (by omega) (by decide) (by decide) (Nat.le_of_ble_eq_true rfl) rfl (con_mono h ?_ (fun _ _ h => h))
    rintro _ w12 ⟨v11, rfl, h⟩
    show Z M G 0 K X w12 77 [some (.ref (G.2.1 40 0)), some (.int x1)] [.int v11, .int v9]
    refine z_isub F dX10_chorus_77 ?_
    exact z_iret F dX10_chorus_78 (by decide) h
  · have h := h.2 hc
    refine z_iconst F 0 dX10_chorus_31 (by decide) ?_
    exact z_iret F dX10_chorus_32 (by decide) h
set_option maxRecDepth 20000 in
theorem e_X10_spare {l : Launch} {G : Gx} {w : Wd} {p0 : Int32} {K : Option Value → Wd → Prop} {X : String → Wd → Prop} (hl : l.stackTraces = false)
    (h : ∀ (M : Mx) (kk : Nat), mL M = l → 2 ≤ kk → Fx M G RX10 cX10_spare 4 (some .int) kk 0 → (∀ w1 : Wd, w1 = setI w 40 0 0 0 → Con (mL M) G 1 0 yX10_in cX10_in 3 (some .boolean) w1 [.int p0, .int 0, .int 1] (fun r w3 => ∃ v2 : Int32, r = some (.int v2) ∧ ((¬ v2 = 0 → Z M G 0 K X w3 20 [some (.ref (G.2.1 40 0)), some (.int p0), none, none] [.int 0, .ref (G.2.1 40 0)]) ∧ (¬ (¬ v2 = 0) → Z M G 0 K X w3 20 [some (.ref (G.2.1 40 0)), some (.int p0), none, none] [.int 1, .ref (G.2.1 40 0)]))) X)) :
    Con l G 2 0 yX10_spare cX10_spare 4 (some .int) w [.ref (G.2.1 40 0), .int p0] K X := by
  refine con_intro hl (by decide +kernel) (Nat.le_of_ble_eq_true rfl) (Nat.le_of_ble_eq_true rfl) (fun M kk hM hk F => ?_)
  have h := h M kk hM hk F
  show Z M G 0 K X w 0 [some (.ref (G.2.1 40 0)), some (.int p0), none, none] []
  refine z_aload_n F dX10_spare_0 rfl ?_
  refine z_iconst F 0 dX10_spare_1 (by decide) ?_
  refine z_putIW F 0 rfl (by decide) (by decide) rfl lk_X10_95 dX10_spare_2 (fun w1 hw1 => ?_)
  have h := h w1 hw1
  refine z_aload_n F dX10_spare_5 rfl ?_
  refine z_iload_n F dX10_spare_6 rfl ?_
  refine z_iconst F 0 dX10_spare_7 (by decide) ?_
  refine z_iconst F 1 dX10_spare_8 (by decide) ?_
  refine z_callS F (k' := 1) (mc' := 0) [.int p0, .int 0, .int 1] [.ref (G.2.1 40 0)] dX10_spare_9 rfl cl_X10_129 hy_X10_in.2 (by omega) (by decide) (by decide) (Nat.le_of_ble_eq_true rfl) rfl (con_mono h ?_ (fun _ _ h => h))
  rintro _ w3 ⟨v2, rfl, h⟩
  show Z M G 0 K X w3 12 [some (.ref (G.2.1 40 0)), some (.int p0), none, none] [.int v2, .ref (G.2.1 40 0)]
  refine z_if_ne F 19 dX10_spare_12 (by decide) ⟨fun hc => ?_, fun hc => ?_⟩
  · have h := h.1 hc
    refine z_iconst F 0 dX10_spare_19 (by decide) ?_
    exact h
  · have h := h.2 hc
    refine z_iconst F 1 dX10_spare_15 (by decide) ?_
    refine z_goto F 20 dX10_spare_16 (by decide) ?_
    exact h
set_option maxRecDepth 20000 in
theorem b_X10_spare_20 {M : Mx} {G : Gx} {kk : Nat} {w : Wd}  {x1 : Int32} {s0 : Int32} {K : Option Value → Wd → Prop} {X : String → Wd → Prop} (F : Fx M G RX10 cX10_spare 4 (some .int) kk 0) (hk : 2 ≤ kk)
    (h : Con (mL M) G 1 0 yX10_bad cX10_bad 4 (some .boolean) w [.ref (G.2.1 40 0), .int s0, .int 1, .int 1] (fun r w2 => ∃ v1 : Int32, r = some (.int v1) ∧ ((v1 = 0 → Z M G 0 K X w2 34 [some (.ref (G.2.1 40 0)), some (.int x1), some (.int (-1)), some (.int 0)] []) ∧ (¬ (v1 = 0) → K (some (.int 0)) w2))) X) :
    Z M G 0 K X w 20 [some (.ref (G.2.1 40 0)), some (.int x1), none, none] [.int s0, .ref (G.2.1 40 0)] := by
  refine z_iconst F 1 dX10_spare_20 (by decide) ?_
  refine z_iconst F 1 dX10_spare_21 (by decide) ?_
  refine z_callV F (k' := 1) (mc' := 0) [.int s0, .int 1, .int 1] [] dX10_spare_22 rfl rfl (by decide) rfl cl_X10_171 hy_X10_bad (by omega) (by decide) (by decide) (Nat.le_of_ble_eq_true rfl) rfl (con_mono h ?_ (fun _ _ h => h))
  rintro _ w2 ⟨v1, rfl, h⟩
  show Z M G 0 K X w2 25 [some (.ref (G.2.1 40 0)), some (.int x1), none, none] [.int v1]
  refine z_if_eq F 30 dX10_spare_25 (by decide) ⟨fun hc => ?_, fun hc => ?_⟩
  · have h := h.1 hc
    refine z_iconst F (-1) dX10_spare_30 (by decide) ?_
    refine z_istore_n F dX10_spare_31 (Nat.le_of_ble_eq_true rfl) ?_
    refine z_iconst F 0 dX10_spare_32 (by decide) ?_
    refine z_istore_n F dX10_spare_33 (Nat.le_of_ble_eq_true rfl) ?_
    exact h
  · have h := h.2 hc
    refine z_iconst F 0 dX10_spare_28 (by decide) ?_
    exact z_iret F dX10_spare_29 (by decide) h
set_option maxRecDepth 20000 in
theorem b_X10_spare_34 {M : Mx} {G : Gx} {kk : Nat} {w : Wd}  {x1 : Int32} {x2 : Int32} {x3 : Int32} {K : Option Value → Wd → Prop} {X : String → Wd → Prop} (F : Fx M G RX10 cX10_spare 4 (some .int) kk 0) (hk : 2 ≤ kk)
    (h : (((w.1 44 0 0) ≤ x3 → ((x1 = 0 → K (some (.int x2)) w) ∧ (¬ (x1 = 0) → ((¬ x2 = (-1) → (vp_in ((0 : Int32) + x2) 57 ∧ K (some (.int (w.1 69 0 (((0 : Int32) + x2 : Int32).toNatClampNeg)))) w)) ∧ (¬ (¬ x2 = (-1)) → K (some (.int x2)) w))))) ∧ (¬ ((w.1 44 0 0) ≤ x3) → ((x2 = (-1) → Z M G 0 K X w 34 [some (.ref (G.2.1 40 0)), some (.int x1), some (.int x3), some (.int (x3 + 1))] []) ∧ (¬ (x2 = (-1)) → (vp_in ((0 : Int32) + x3) 57 ∧ (vp_in ((0 : Int32) + x2) 57 ∧ (((w.1 69 0 (((0 : Int32) + x2 : Int32).toNatClampNeg)) ≤ (w.1 69 0 (((0 : Int32) + x3 : Int32).toNatClampNeg)) → Z M G 0 K X w 34 [some (.ref (G.2.1 40 0)), some (.int x1), some (.int x2), some (.int (x3 + 1))] []) ∧ (¬ ((w.1 69 0 (((0 : Int32) + x2 : Int32).toNatClampNeg)) ≤ (w.1 69 0 (((0 : Int32) + x3 : Int32).toNatClampNeg))) → Z M G 0 K X w 34 [some (.ref (G.2.1 40 0)), some (.int x1), some (.int x3), some (.int (x3 + 1))] []))))))))) :
    Z M G 0 K X w 34 [some (.ref (G.2.1 40 0)), some (.int x1), some (.int x2), some (.int x3)] [] := by
  refine z_iload_n F dX10_spare_34 rfl ?_
  refine z_aload_n F dX10_spare_35 rfl ?_
  refine z_getR F 12 44 0 rfl (by decide) (by decide) rfl rfl rfl lk_X10_23 dX10_spare_36 ?_
  refine z_iconst F 0 dX10_spare_39 (by decide) ?_
  refine z_ialdK F 0 (by decide) rfl (by decide) (by unfold vp_in; decide) dX10_spare_40 ?_
  refine z_icmp_ge F 80 dX10_spare_41 (by decide) ⟨fun hc => ?_, fun hc => ?_⟩
  · have h := h.1 hc
    refine z_iload_n F dX10_spare_80 rfl ?_
    refine z_if_eq F 89 dX10_spare_81 (by decide) ⟨fun hc => ?_, fun hc => ?_⟩
    · have h := h.1 hc
      refine z_iload_n F dX10_spare_89 rfl ?_
      refine z_goto F 101 dX10_spare_90 (by decide) ?_
      exact z_iret F dX10_spare_101 (by decide) h
    · have h := h.2 hc
      refine z_iload_n F dX10_spare_84 rfl ?_
      refine z_iconst F (-1) dX10_spare_85 (by decide) ?_
      refine z_icmp_ne F 93 dX10_spare_86 (by decide) ⟨fun hc => ?_, fun hc => ?_⟩
      · have h := h.1 hc
        refine z_aload_n F dX10_spare_93 rfl ?_
        refine z_getR F 29 69 0 rfl (by decide) (by decide) rfl rfl rfl lk_X10_67 dX10_spare_94 ?_
        refine z_iconst F 0 dX10_spare_97 (by decide) ?_
        refine z_iload_n F dX10_spare_98 rfl ?_
        refine z_iadd F dX10_spare_99 ?_
        obtain ⟨hb, h⟩ := h
        refine z_ialdK F (((0 : Int32) + x2 : Int32).toNatClampNeg) rfl rfl (by decide) hb dX10_spare_100 ?_
        exact z_iret F dX10_spare_101 (by decide) h
      · have h := h.2 hc
        refine z_iload_n F dX10_spare_89 rfl ?_
        refine z_goto F 101 dX10_spare_90 (by decide) ?_
        exact z_iret F dX10_spare_101 (by decide) h
  · have h := h.2 hc
    refine z_iload_n F dX10_spare_44 rfl ?_
    refine z_iconst F (-1) dX10_spare_45 (by decide) ?_
    refine z_icmp_eq F 68 dX10_spare_46 (by decide) ⟨fun hc => ?_, fun hc => ?_⟩
    · have h := h.1 hc
      refine z_iload_n F dX10_spare_68 rfl ?_
      refine z_goto F 73 dX10_spare_69 (by decide) ?_
      refine z_istore_n F dX10_spare_73 (Nat.le_of_ble_eq_true rfl) ?_
      refine z_iinc F (x3 + 1) dX10_spare_74 rfl rfl (Nat.le_of_ble_eq_true rfl) ?_
      refine z_goto F 34 dX10_spare_77 (by decide) ?_
      exact h
    · have h := h.2 hc
      refine z_aload_n F dX10_spare_49 rfl ?_
      refine z_getR F 29 69 0 rfl (by decide) (by decide) rfl rfl rfl lk_X10_67 dX10_spare_50 ?_
      refine z_iconst F 0 dX10_spare_53 (by decide) ?_
      refine z_iload_n F dX10_spare_54 rfl ?_
      refine z_iadd F dX10_spare_55 ?_
      obtain ⟨hb, h⟩ := h
      refine z_ialdK F (((0 : Int32) + x3 : Int32).toNatClampNeg) rfl rfl (by decide) hb dX10_spare_56 ?_
      refine z_aload_n F dX10_spare_57 rfl ?_
      refine z_getR F 29 69 0 rfl (by decide) (by decide) rfl rfl rfl lk_X10_67 dX10_spare_58 ?_
      refine z_iconst F 0 dX10_spare_61 (by decide) ?_
      refine z_iload_n F dX10_spare_62 rfl ?_
      refine z_iadd F dX10_spare_63 ?_
      obtain ⟨hb, h⟩ := h
      refine z_ialdK F (((0 : Int32) + x2 : Int32).toNatClampNeg) rfl rfl (by decide) hb dX10_spare_64 ?_
      refine z_icmp_ge F 72 dX10_spare_65 (by decide) ⟨fun hc => ?_, fun hc => ?_⟩
      · have h := h.1 hc
        refine z_iload_n F dX10_spare_72 rfl ?_
        refine z_istore_n F dX10_spare_73 (Nat.le_of_ble_eq_true rfl) ?_
        refine z_iinc F (x3 + 1) dX10_spare_74 rfl rfl (Nat.le_of_ble_eq_true rfl) ?_
        refine z_goto F 34 dX10_spare_77 (by decide) ?_
        exact h
      · have h := h.2 hc
        refine z_iload_n F dX10_spare_68 rfl ?_
        refine z_goto F 73 dX10_spare_69 (by decide) ?_
        refine z_istore_n F dX10_spare_73 (Nat.le_of_ble_eq_true rfl) ?_
        refine z_iinc F (x3 + 1) dX10_spare_74 rfl rfl (Nat.le_of_ble_eq_true rfl) ?_
        refine z_goto F 34 dX10_spare_77 (by decide) ?_
        exact h
set_option maxRecDepth 20000 in
theorem e_X10_draw {l : Launch} {G : Gx} {w : Wd} {p0 : Int32} {K : Option Value → Wd → Prop} {X : String → Wd → Prop} (hl : l.stackTraces = false)
    (h : ∀ (M : Mx) (kk : Nat), mL M = l → 1 ≤ kk → Fx M G RX10 cX10_draw 2 (some .int) kk 0 → (∀ w1 : Wd, w1 = setI w 40 0 45 (((w.1 40 0 45) * (1103515245 : Int32)) + (12345 : Int32)) → (¬ p0 = 0) ∧ K (some (.int ((((w1.1 40 0 45) >>> ((16 : Int32) &&& 31)) &&& (32767 : Int32)) - (((w1.1 40 0 45) >>> ((16 : Int32) &&& 31)) &&& (32767 : Int32)) / p0 * p0))) w1)) :
    Con l G 1 0 yX10_draw cX10_draw 2 (some .int) w [.ref (G.2.1 40 0), .int p0] K X := by
  refine con_intro hl (by decide +kernel) (Nat.le_of_ble_eq_true rfl) (Nat.le_of_ble_eq_true rfl) (fun M kk hM hk F => ?_)
  have h := h M kk hM hk F
  show Z M G 0 K X w 0 [some (.ref (G.2.1 40 0)), some (.int p0)] []
  refine z_aload_n F dX10_draw_0 rfl ?_
  refine z_aload_n F dX10_draw_1 rfl ?_
  refine z_getI F 45 rfl (by decide) (by decide) rfl lk_X10_375 dX10_draw_2 ?_
  refine z_ldcw F 1103515245 dX10_draw_5 (GW_8 79 rfl rfl) ?_
  refine z_imul F dX10_draw_8 ?_
  refine z_sipush F 12345 dX10_draw_9 (by decide) ?_
  refine z_iadd F dX10_draw_12 ?_
  refine z_putIW F 45 rfl (by decide) (by decide) rfl lk_X10_375 dX10_draw_13 (fun w1 hw1 => ?_)
  have h := h w1 hw1
  refine z_aload_n F dX10_draw_16 rfl ?_
  refine z_getI F 45 rfl (by decide) (by decide) rfl lk_X10_375 dX10_draw_17 ?_
  refine z_bipush F 16 dX10_draw_20 (by decide) ?_
  refine z_ishr F dX10_draw_22 ?_
  refine z_sipush F 32767 dX10_draw_23 (by decide) ?_
  refine z_iand F dX10_draw_26 ?_
  refine z_iload_n F dX10_draw_27 rfl ?_
  obtain ⟨hb, h⟩ := h
  refine z_irem F dX10_draw_28 hb ?_
  exact z_iret F dX10_draw_29 (by decide) h
set_option maxRecDepth 20000 in
theorem e_X10_sundayBy {l : Launch} {G : Gx} {w : Wd} {p0 : Int32} {p1 : Int32} {p2 : Int32} {K : Option Value → Wd → Prop} {X : String → Wd → Prop} (hl : l.stackTraces = false)
    (h : ∀ (M : Mx) (kk : Nat), mL M = l → 9 ≤ kk → Fx M G RX10 cX10_sundayBy 6 none kk 0 → Con (mL M) G 1 0 yX10_copies cX10_copies 3 none w [.ref (G.2.1 69 0), .ref (G.2.1 69 1)] (fun r w2 => r = none ∧ (∀ w3 : Wd, w3 = setI w2 40 0 45 p0 → Z M G 0 K X w3 19 [some (.ref (G.2.1 40 0)), none, some (.int p1), some (.int p2), some (.int 0), none] [])) X) :
    Con l G 9 0 yX10_sundayBy cX10_sundayBy 6 none w [.ref (G.2.1 40 0), .int p0, .int p1, .int p2] K X := by
  refine con_intro hl (by decide +kernel) (Nat.le_of_ble_eq_true rfl) (Nat.le_of_ble_eq_true rfl) (fun M kk hM hk F => ?_)
  have h := h M kk hM hk F
  show Z M G 0 K X w 0 [some (.ref (G.2.1 40 0)), some (.int p0), some (.int p1), some (.int p2), none, none] []
  refine z_aload_n F dX10_sundayBy_0 rfl ?_
  refine z_getR F 29 69 0 rfl (by decide) (by decide) rfl rfl rfl lk_X10_67 dX10_sundayBy_1 ?_
  refine z_aload_n F dX10_sundayBy_4 rfl ?_
  refine z_getR F 30 69 1 rfl (by decide) (by decide) rfl rfl rfl lk_X10_70 dX10_sundayBy_5 ?_
  refine z_callS F (k' := 1) (mc' := 0) [.ref (G.2.1 69 0), .ref (G.2.1 69 1)] [] dX10_sundayBy_8 rfl cl_X10_310 hy_X10_copies.2 (by omega) (by decide) (by decide) (Nat.le_of_ble_eq_true rfl) rfl (con_mono h ?_ (fun _ _ h => h))
  rintro _ w2 ⟨rfl, h⟩
  show Z M G 0 K X w2 11 [some (.ref (G.2.1 40 0)), some (.int p0), some (.int p1), some (.int p2), none, none] []
  refine z_aload_n F dX10_sundayBy_11 rfl ?_
  refine z_iload_n F dX10_sundayBy_12 rfl ?_
  refine z_putIW F 45 rfl (by decide) (by decide) rfl lk_X10_375 dX10_sundayBy_13 (fun w3 hw3 => ?_)
  have h := h w3 hw3
  refine z_iconst F 0 dX10_sundayBy_16 (by decide) ?_
  refine z_istore F dX10_sundayBy_17 (Nat.le_of_ble_eq_true rfl) ?_
  exact z_weak h (⟨rfl, ⟨rfl, ⟨rfl, ⟨rfl, trivial⟩⟩⟩⟩)
set_option maxRecDepth 20000 in
theorem b_X10_sundayBy_19 {M : Mx} {G : Gx} {kk : Nat} {w : Wd}  {x2 : Int32} {x3 : Int32} {x4 : Int32} {K : Option Value → Wd → Prop} {X : String → Wd → Prop} (F : Fx M G RX10 cX10_sundayBy 6 none kk 0) (hk : 9 ≤ kk)
    (h : ((x2 ≤ x4 → K none w) ∧ (¬ (x2 ≤ x4) → (((w.1 44 0 0) ≤ 0 → Z M G 0 K X w 48 [some (.ref (G.2.1 40 0)), none, some (.int x2), some (.int x3), some (.int x4), none] [.int 0]) ∧ (¬ ((w.1 44 0 0) ≤ 0) → Con (mL M) G 1 0 yX10_draw cX10_draw 2 (some .int) w [.ref (G.2.1 40 0), .int (w.1 44 0 0)] (fun r w2 => ∃ v1 : Int32, r = some (.int v1) ∧ Z M G 0 K X w2 48 [some (.ref (G.2.1 40 0)), none, some (.int x2), some (.int x3), some (.int x4), none] [.int v1]) X))))) :
    Z M G 0 K X w 19 [some (.ref (G.2.1 40 0)), none, some (.int x2), some (.int x3), some (.int x4), none] [] := by
  refine z_iload F dX10_sundayBy_19 rfl ?_
  refine z_iload_n F dX10_sundayBy_21 rfl ?_
  refine z_icmp_ge F 143 dX10_sundayBy_22 (by decide) ⟨fun hc => ?_, fun hc => ?_⟩
  · have h := h.1 hc
    exact z_vret F dX10_sundayBy_143 (by decide) h
  · have h := h.2 hc
    refine z_aload_n F dX10_sundayBy_25 rfl ?_
    refine z_getR F 12 44 0 rfl (by decide) (by decide) rfl rfl rfl lk_X10_23 dX10_sundayBy_26 ?_
    refine z_iconst F 0 dX10_sundayBy_29 (by decide) ?_
    refine z_ialdK F 0 (by decide) rfl (by decide) (by unfold vp_in; decide) dX10_sundayBy_30 ?_
    refine z_if_le F 47 dX10_sundayBy_31 (by decide) ⟨fun hc => ?_, fun hc => ?_⟩
    · have h := h.1 hc
      refine z_iconst F 0 dX10_sundayBy_47 (by decide) ?_
      exact h
    · have h := h.2 hc
      refine z_aload_n F dX10_sundayBy_34 rfl ?_
      refine z_aload_n F dX10_sundayBy_35 rfl ?_
      refine z_getR F 12 44 0 rfl (by decide) (by decide) rfl rfl rfl lk_X10_23 dX10_sundayBy_36 ?_
      refine z_iconst F 0 dX10_sundayBy_39 (by decide) ?_
      refine z_ialdK F 0 (by decide) rfl (by decide) (by unfold vp_in; decide) dX10_sundayBy_40 ?_
      refine z_callV F (k' := 1) (mc' := 0) [.int (w.1 44 0 0)] [] dX10_sundayBy_41 rfl rfl (by decide) rfl cl_X10_379 hy_X10_draw (by omega) (by decide) (by decide) (Nat.le_of_ble_eq_true rfl) rfl (con_mono h ?_ (fun _ _ h => h))
      rintro _ w2 ⟨v1, rfl, h⟩
      show Z M G 0 K X w2 44 [some (.ref (G.2.1 40 0)), none, some (.int x2), some (.int x3), some (.int x4), none] [.int v1]
      refine z_goto F 48 dX10_sundayBy_44 (by decide) ?_
      exact h
set_option maxRecDepth 20000 in
theorem b_X10_sundayBy_48 {M : Mx} {G : Gx} {kk : Nat} {w : Wd}  {x2 : Int32} {x3 : Int32} {x4 : Int32} {s0 : Int32} {K : Option Value → Wd → Prop} {X : String → Wd → Prop} (F : Fx M G RX10 cX10_sundayBy 6 none kk 0) (hk : 9 ≤ kk)
    (h : (((w.1 44 0 0) ≤ 0 → Z M G 0 K X w 84 [some (.ref (G.2.1 40 0)), none, some (.int x2), some (.int x3), some (.int x4), none] [.int 0, .int ((7 : Int32) + s0), .ref (G.2.1 69 1)]) ∧ (¬ ((w.1 44 0 0) ≤ 0) → (vp_in ((7 : Int32) + s0) 57 ∧ Z M G 0 K X w 84 [some (.ref (G.2.1 40 0)), none, some (.int x2), some (.int x3), some (.int x4), none] [.int ((1 : Int32) - (w.1 69 1 (((7 : Int32) + s0 : Int32).toNatClampNeg))), .int ((7 : Int32) + s0), .ref (G.2.1 69 1)])))) :
    Z M G 0 K X w 48 [some (.ref (G.2.1 40 0)), none, some (.int x2), some (.int x3), some (.int x4), none] [.int s0] := by
  refine z_istore F dX10_sundayBy_48 (Nat.le_of_ble_eq_true rfl) ?_
  refine z_aload_n F dX10_sundayBy_50 rfl ?_
  refine z_getR F 30 69 1 rfl (by decide) (by decide) rfl rfl rfl lk_X10_70 dX10_sundayBy_51 ?_
  refine z_bipush F 7 dX10_sundayBy_54 (by decide) ?_
  refine z_iload F dX10_sundayBy_56 rfl ?_
  refine z_iadd F dX10_sundayBy_58 ?_
  refine z_aload_n F dX10_sundayBy_59 rfl ?_
  refine z_getR F 12 44 0 rfl (by decide) (by decide) rfl rfl rfl lk_X10_23 dX10_sundayBy_60 ?_
  refine z_iconst F 0 dX10_sundayBy_63 (by decide) ?_
  refine z_ialdK F 0 (by decide) rfl (by decide) (by unfold vp_in; decide) dX10_sundayBy_64 ?_
  refine z_if_le F 83 dX10_sundayBy_65 (by decide) ⟨fun hc => ?_, fun hc => ?_⟩
  · have h := h.1 hc
    refine z_iconst F 0 dX10_sundayBy_83 (by decide) ?_
    exact z_weak h (⟨rfl, ⟨rfl, ⟨rfl, ⟨rfl, trivial⟩⟩⟩⟩)
  · have h := h.2 hc
    refine z_iconst F 1 dX10_sundayBy_68 (by decide) ?_
    refine z_aload_n F dX10_sundayBy_69 rfl ?_
    refine z_getR F 30 69 1 rfl (by decide) (by decide) rfl rfl rfl lk_X10_70 dX10_sundayBy_70 ?_
    refine z_bipush F 7 dX10_sundayBy_73 (by decide) ?_
    refine z_iload F dX10_sundayBy_75 rfl ?_
    refine z_iadd F dX10_sundayBy_77 ?_
    obtain ⟨hb, h⟩ := h
    refine z_ialdK F (((7 : Int32) + s0 : Int32).toNatClampNeg) rfl rfl (by decide) hb dX10_sundayBy_78 ?_
    refine z_isub F dX10_sundayBy_79 ?_
    refine z_goto F 84 dX10_sundayBy_80 (by decide) ?_
    exact z_weak h (⟨rfl, ⟨rfl, ⟨rfl, ⟨rfl, trivial⟩⟩⟩⟩)
set_option maxRecDepth 20000 in
theorem b_X10_sundayBy_84 {M : Mx} {G : Gx} {kk : Nat} {w : Wd}  {x2 : Int32} {x3 : Int32} {x4 : Int32} {s0 : Int32} {s1 : Int32} {K : Option Value → Wd → Prop} {X : String → Wd → Prop} (F : Fx M G RX10 cX10_sundayBy 6 none kk 0) (hk : 9 ≤ kk)
    (h : (vp_in s1 57 ∧ ∀ w1 : Wd, w1 = setI w 69 1 ((s1 : Int32).toNatClampNeg) s0 → Con (mL M) G 8 0 yX10_hymns cX10_hymns 4 none w1 [.ref (G.2.1 40 0), .ref (G.2.1 69 1)] (fun r w3 => r = none ∧ (((w3.1 44 0 0) ≤ 0 → Z M G 0 K X w3 129 [some (.ref (G.2.1 40 0)), none, some (.int x2), some (.int x3), some (.int x4), none] []) ∧ (¬ ((w3.1 44 0 0) ≤ 0) → Con (mL M) G 1 0 yX10_draw cX10_draw 2 (some .int) w3 [.ref (G.2.1 40 0), .int 16] (fun r w5 => ∃ v4 : Int32, r = some (.int v4) ∧ ((x3 ≤ v4 → Z M G 0 K X w5 129 [some (.ref (G.2.1 40 0)), none, some (.int x2), some (.int x3), some (.int x4), none] []) ∧ (¬ (x3 ≤ v4) → Con (mL M) G 2 0 yX10_rests cX10_rests 4 (some .boolean) w5 [.ref (G.2.1 40 0), .ref (G.2.1 69 1)] (fun r w7 => ∃ v6 : Int32, r = some (.int v6) ∧ Con (mL M) G 8 0 yX10_hymns cX10_hymns 4 none w7 [.ref (G.2.1 40 0), .ref (G.2.1 69 1)] (fun r w9 => r = none ∧ Z M G 0 K X w9 129 [some (.ref (G.2.1 40 0)), none, some (.int x2), some (.int x3), some (.int x4), none] []) X) X))) X))) X)) :
    Z M G 0 K X w 84 [some (.ref (G.2.1 40 0)), none, some (.int x2), some (.int x3), some (.int x4), none] [.int s0, .int s1, .ref (G.2.1 69 1)] := by
  obtain ⟨hb, h⟩ := h
  refine z_iastW F ((s1 : Int32).toNatClampNeg) rfl rfl (by decide) hb dX10_sundayBy_84 (fun w1 hw1 => ?_)
  have h := h w1 hw1
  refine z_aload_n F dX10_sundayBy_85 rfl ?_
  refine z_aload_n F dX10_sundayBy_86 rfl ?_
  refine z_getR F 30 69 1 rfl (by decide) (by decide) rfl rfl rfl lk_X10_70 dX10_sundayBy_87 ?_
  refine z_callV F (k' := 8) (mc' := 0) [.ref (G.2.1 69 1)] [] dX10_sundayBy_90 rfl rfl (by decide) rfl cl_X10_280 hy_X10_hymns (by omega) (by decide) (by decide) (Nat.le_of_ble_eq_true rfl) rfl (con_mono h ?_ (fun _ _ h => h))
  rintro _ w3 ⟨rfl, h⟩
  show Z M G 0 K X w3 93 [some (.ref (G.2.1 40 0)), none, some (.int x2), some (.int x3), some (.int x4), none] []
  refine z_aload_n F dX10_sundayBy_93 rfl ?_
  refine z_getR F 12 44 0 rfl (by decide) (by decide) rfl rfl rfl lk_X10_23 dX10_sundayBy_94 ?_
  refine z_iconst F 0 dX10_sundayBy_97 (by decide) ?_
  refine z_ialdK F 0 (by decide) rfl (by decide) (by unfold vp_in; decide) dX10_sundayBy_98 ?_
  refine z_if_le F 129 dX10_sundayBy_99 (by decide) ⟨fun hc => ?_, fun hc => ?_⟩
  · have h := h.1 hc
    exact h
  · have h := h.2 hc
    refine z_aload_n F dX10_sundayBy_102 rfl ?_
    refine z_bipush F 16 dX10_sundayBy_103 (by decide) ?_
    refine z_callV F (k' := 1) (mc' := 0) [.int 16] [] dX10_sundayBy_105 rfl rfl (by decide) rfl cl_X10_379 hy_X10_draw (by omega) (by decide) (by decide) (Nat.le_of_ble_eq_true rfl) rfl (con_mono h ?_ (fun _ _ h => h))
    rintro _ w5 ⟨v4, rfl, h⟩
    show Z M G 0 K X w5 108 [some (.ref (G.2.1 40 0)), none, some (.int x2), some (.int x3), some (.int x4), none] [.int v4]
    refine z_iload_n F dX10_sundayBy_108 rfl ?_
    refine z_icmp_ge F 129 dX10_sundayBy_109 (by decide) ⟨fun hc => ?_, fun hc => ?_⟩
    · have h := h.1 hc
      exact h
    · have h := h.2 hc
      refine z_aload_n F dX10_sundayBy_112 rfl ?_
      refine z_aload_n F dX10_sundayBy_113 rfl ?_
      refine z_getR F 30 69 1 rfl (by decide) (by decide) rfl rfl rfl lk_X10_70 dX10_sundayBy_114 ?_
      refine z_callV F (k' := 2) (mc' := 0) [.ref (G.2.1 69 1)] [] dX10_sundayBy_117 rfl rfl (by decide) rfl cl_X10_283 hy_X10_rests (by omega) (by decide) (by decide) (Nat.le_of_ble_eq_true rfl) rfl (con_mono h ?_ (fun _ _ h => h))
      rintro _ w7 ⟨v6, rfl, h⟩
      show Z M G 0 K X w7 120 [some (.ref (G.2.1 40 0)), none, some (.int x2), some (.int x3), some (.int x4), none] [.int v6]
      refine z_pop F dX10_sundayBy_120 rfl ?_
      refine z_aload_n F dX10_sundayBy_121 rfl ?_
      refine z_aload_n F dX10_sundayBy_122 rfl ?_
      refine z_getR F 30 69 1 rfl (by decide) (by decide) rfl rfl rfl lk_X10_70 dX10_sundayBy_123 ?_
      refine z_callV F (k' := 8) (mc' := 0) [.ref (G.2.1 69 1)] [] dX10_sundayBy_126 rfl rfl (by decide) rfl cl_X10_280 hy_X10_hymns (by omega) (by decide) (by decide) (Nat.le_of_ble_eq_true rfl) rfl (con_mono h ?_ (fun _ _ h => h))
      rintro _ w9 ⟨rfl, h⟩
      show Z M G 0 K X w9 129 [some (.ref (G.2.1 40 0)), none, some (.int x2), some (.int x3), some (.int x4), none] []
      exact h
set_option maxRecDepth 20000 in
theorem b_X10_sundayBy_129 {M : Mx} {G : Gx} {kk : Nat} {w : Wd}  {x2 : Int32} {x3 : Int32} {x4 : Int32} {K : Option Value → Wd → Prop} {X : String → Wd → Prop} (F : Fx M G RX10 cX10_sundayBy 6 none kk 0) (hk : 9 ≤ kk)
    (h : Con (mL M) G 2 0 yX10_dayEnds cX10_dayEnds 3 none w [.ref (G.2.1 40 0), .ref (G.2.1 69 1)] (fun r w2 => r = none ∧ Z M G 0 K X w2 19 [some (.ref (G.2.1 40 0)), none, some (.int x2), some (.int x3), some (.int (x4 + 1)), none] []) X) :
    Z M G 0 K X w 129 [some (.ref (G.2.1 40 0)), none, some (.int x2), some (.int x3), some (.int x4), none] [] := by
  refine z_aload_n F dX10_sundayBy_129 rfl ?_
  refine z_aload_n F dX10_sundayBy_130 rfl ?_
  refine z_getR F 30 69 1 rfl (by decide) (by decide) rfl rfl rfl lk_X10_70 dX10_sundayBy_131 ?_
  refine z_callV F (k' := 2) (mc' := 0) [.ref (G.2.1 69 1)] [] dX10_sundayBy_134 rfl rfl (by decide) rfl cl_X10_294 hy_X10_dayEnds (by omega) (by decide) (by decide) (Nat.le_of_ble_eq_true rfl) rfl (con_mono h ?_ (fun _ _ h => h))
  rintro _ w2 ⟨rfl, h⟩
  show Z M G 0 K X w2 137 [some (.ref (G.2.1 40 0)), none, some (.int x2), some (.int x3), some (.int x4), none] []
  refine z_iinc F (x4 + 1) dX10_sundayBy_137 rfl rfl (Nat.le_of_ble_eq_true rfl) ?_
  refine z_goto F 19 dX10_sundayBy_140 (by decide) ?_
  exact h
set_option maxRecDepth 20000 in
theorem e_X10_isSunday {l : Launch} {G : Gx} {w : Wd} {p0 : Int32} {p1 : Int32} {K : Option Value → Wd → Prop} {X : String → Wd → Prop} (hl : l.stackTraces = false)
    (h : ∀ (M : Mx) (kk : Nat), mL M = l → 2 ≤ kk → Fx M G RX10 cX10_isSunday 2 (some .boolean) kk 0 → Con (mL M) G 1 0 yX10_in cX10_in 3 (some .boolean) w [.int p0, .int 1, .int 48] (fun r w2 => ∃ v1 : Int32, r = some (.int v1) ∧ ((v1 = 0 → K (some (.int 0)) w2) ∧ (¬ (v1 = 0) → Con (mL M) G 1 0 yX10_in cX10_in 3 (some .boolean) w2 [.int p1, .int 0, .int 16] (fun r w4 => ∃ v3 : Int32, r = some (.int v3) ∧ ((v3 = 0 → K (some (.int 0)) w4) ∧ (¬ (v3 = 0) → K (some (.int 1)) w4))) X))) X) :
    Con l G 2 0 yX10_isSunday cX10_isSunday 2 (some .boolean) w [.int p0, .int p1] K X := by
  refine con_intro hl (by decide +kernel) (Nat.le_of_ble_eq_true rfl) (Nat.le_of_ble_eq_true rfl) (fun M kk hM hk F => ?_)
  have h := h M kk hM hk F
  show Z M G 0 K X w 0 [some (.int p0), some (.int p1)] []
  refine z_iload_n F dX10_isSunday_0 rfl ?_
  refine z_iconst F 1 dX10_isSunday_1 (by decide) ?_
  refine z_bipush F 48 dX10_isSunday_2 (by decide) ?_
  refine z_callS F (k' := 1) (mc' := 0) [.int p0, .int 1, .int 48] [] dX10_isSunday_4 rfl cl_X10_129 hy_X10_in.2 (by omega) (by decide) (by decide) (Nat.le_of_ble_eq_true rfl) rfl (con_mono h ?_ (fun _ _ h => h))
  rintro _ w2 ⟨v1, rfl, h⟩
  show Z M G 0 K X w2 7 [some (.int p0), some (.int p1)] [.int v1]
  refine z_if_eq F 24 dX10_isSunday_7 (by decide) ⟨fun hc => ?_, fun hc => ?_⟩
  · have h := h.1 hc
    refine z_iconst F 0 dX10_isSunday_24 (by decide) ?_
    exact z_zret F dX10_isSunday_25 (by decide) rfl h
  · have h := h.2 hc
    refine z_iload_n F dX10_isSunday_10 rfl ?_
    refine z_iconst F 0 dX10_isSunday_11 (by decide) ?_
    refine z_bipush F 16 dX10_isSunday_12 (by decide) ?_
    refine z_callS F (k' := 1) (mc' := 0) [.int p1, .int 0, .int 16] [] dX10_isSunday_14 rfl cl_X10_129 hy_X10_in.2 (by omega) (by decide) (by decide) (Nat.le_of_ble_eq_true rfl) rfl (con_mono h ?_ (fun _ _ h => h))
    rintro _ w4 ⟨v3, rfl, h⟩
    show Z M G 0 K X w4 17 [some (.int p0), some (.int p1)] [.int v3]
    refine z_if_eq F 24 dX10_isSunday_17 (by decide) ⟨fun hc => ?_, fun hc => ?_⟩
    · have h := h.1 hc
      refine z_iconst F 0 dX10_isSunday_24 (by decide) ?_
      exact z_zret F dX10_isSunday_25 (by decide) rfl h
    · have h := h.2 hc
      refine z_iconst F 1 dX10_isSunday_20 (by decide) ?_
      refine z_goto F 25 dX10_isSunday_21 (by decide) ?_
      exact z_zret F dX10_isSunday_25 (by decide) rfl h
set_option maxRecDepth 20000 in
theorem e_X10_sunday {l : Launch} {G : Gx} {w : Wd} {p0 : Int32} {p1 : Int32} {p2 : Int32} {p3 : Int32} {K : Option Value → Wd → Prop} {X : String → Wd → Prop} (hl : l.stackTraces = false)
    (h : ∀ (M : Mx) (kk : Nat), mL M = l → 10 ≤ kk → Fx M G RX10 cX10_sunday 5 (some .int) kk 0 → (∀ w1 : Wd, w1 = setI w 40 0 0 0 → Con (mL M) G 2 0 yX10_isSunday cX10_isSunday 2 (some .boolean) w1 [.int p1, .int p2] (fun r w3 => ∃ v2 : Int32, r = some (.int v2) ∧ ((v2 = 0 → Z M G 0 K X w3 24 [some (.ref (G.2.1 40 0)), some (.int p0), some (.int p1), some (.int p2), some (.int p3)] [.ref (G.2.1 40 0)]) ∧ (¬ (v2 = 0) → Con (mL M) G 1 0 yX10_in cX10_in 3 (some .boolean) w3 [.int p3, .int 0, .int 3] (fun r w5 => ∃ v4 : Int32, r = some (.int v4) ∧ ((¬ v4 = 0 → Z M G 0 K X w5 29 [some (.ref (G.2.1 40 0)), some (.int p0), some (.int p1), some (.int p2), some (.int p3)] [.int 0, .ref (G.2.1 40 0)]) ∧ (¬ (¬ v4 = 0) → Z M G 0 K X w5 24 [some (.ref (G.2.1 40 0)), some (.int p0), some (.int p1), some (.int p2), some (.int p3)] [.ref (G.2.1 40 0)]))) X))) X)) :
    Con l G 10 0 yX10_sunday cX10_sunday 5 (some .int) w [.ref (G.2.1 40 0), .int p0, .int p1, .int p2, .int p3] K X := by
  refine con_intro hl (by decide +kernel) (Nat.le_of_ble_eq_true rfl) (Nat.le_of_ble_eq_true rfl) (fun M kk hM hk F => ?_)
  have h := h M kk hM hk F
  show Z M G 0 K X w 0 [some (.ref (G.2.1 40 0)), some (.int p0), some (.int p1), some (.int p2), some (.int p3)] []
  refine z_aload_n F dX10_sunday_0 rfl ?_
  refine z_iconst F 0 dX10_sunday_1 (by decide) ?_
  refine z_putIW F 0 rfl (by decide) (by decide) rfl lk_X10_95 dX10_sunday_2 (fun w1 hw1 => ?_)
  have h := h w1 hw1
  refine z_aload_n F dX10_sunday_5 rfl ?_
  refine z_iload_n F dX10_sunday_6 rfl ?_
  refine z_iload_n F dX10_sunday_7 rfl ?_
  refine z_callS F (k' := 2) (mc' := 0) [.int p1, .int p2] [.ref (G.2.1 40 0)] dX10_sunday_8 rfl cl_X10_382 hy_X10_isSunday.2 (by omega) (by decide) (by decide) (Nat.le_of_ble_eq_true rfl) rfl (con_mono h ?_ (fun _ _ h => h))
  rintro _ w3 ⟨v2, rfl, h⟩
  show Z M G 0 K X w3 11 [some (.ref (G.2.1 40 0)), some (.int p0), some (.int p1), some (.int p2), some (.int p3)] [.int v2, .ref (G.2.1 40 0)]
  refine z_if_eq F 24 dX10_sunday_11 (by decide) ⟨fun hc => ?_, fun hc => ?_⟩
  · have h := h.1 hc
    exact h
  · have h := h.2 hc
    refine z_iload F dX10_sunday_14 rfl ?_
    refine z_iconst F 0 dX10_sunday_16 (by decide) ?_
    refine z_iconst F 3 dX10_sunday_17 (by decide) ?_
    refine z_callS F (k' := 1) (mc' := 0) [.int p3, .int 0, .int 3] [.ref (G.2.1 40 0)] dX10_sunday_18 rfl cl_X10_129 hy_X10_in.2 (by omega) (by decide) (by decide) (Nat.le_of_ble_eq_true rfl) rfl (con_mono h ?_ (fun _ _ h => h))
    rintro _ w5 ⟨v4, rfl, h⟩
    show Z M G 0 K X w5 21 [some (.ref (G.2.1 40 0)), some (.int p0), some (.int p1), some (.int p2), some (.int p3)] [.int v4, .ref (G.2.1 40 0)]
    refine z_if_ne F 28 dX10_sunday_21 (by decide) ⟨fun hc => ?_, fun hc => ?_⟩
    · have h := h.1 hc
      refine z_iconst F 0 dX10_sunday_28 (by decide) ?_
      exact h
    · have h := h.2 hc
      exact h
set_option maxRecDepth 20000 in
theorem b_X10_sunday_24 {M : Mx} {G : Gx} {kk : Nat} {w : Wd}  {x1 : Int32} {x2 : Int32} {x3 : Int32} {x4 : Int32} {K : Option Value → Wd → Prop} {X : String → Wd → Prop} (F : Fx M G RX10 cX10_sunday 5 (some .int) kk 0) (hk : 10 ≤ kk)
    (h : Z M G 0 K X w 29 [some (.ref (G.2.1 40 0)), some (.int x1), some (.int x2), some (.int x3), some (.int x4)] [.int 1, .ref (G.2.1 40 0)]) :
    Z M G 0 K X w 24 [some (.ref (G.2.1 40 0)), some (.int x1), some (.int x2), some (.int x3), some (.int x4)] [.ref (G.2.1 40 0)] := by
  refine z_iconst F 1 dX10_sunday_24 (by decide) ?_
  refine z_goto F 29 dX10_sunday_25 (by decide) ?_
  exact h
set_option maxRecDepth 20000 in
theorem b_X10_sunday_29 {M : Mx} {G : Gx} {kk : Nat} {w : Wd}  {x1 : Int32} {x2 : Int32} {x3 : Int32} {x4 : Int32} {s0 : Int32} {K : Option Value → Wd → Prop} {X : String → Wd → Prop} (F : Fx M G RX10 cX10_sunday 5 (some .int) kk 0) (hk : 10 ≤ kk)
    (h : Con (mL M) G 1 0 yX10_bad cX10_bad 4 (some .boolean) w [.ref (G.2.1 40 0), .int s0, .int 1, .int 1] (fun r w2 => ∃ v1 : Int32, r = some (.int v1) ∧ ((v1 = 0 → Con (mL M) G 9 0 yX10_sundayBy cX10_sundayBy 6 none w2 [.ref (G.2.1 40 0), .int x1, .int x2, .int x3] (fun r w4 => r = none ∧ ((¬ x4 = 0 → ((¬ x4 = 1 → ((¬ x4 = 2 → Con (mL M) G 1 0 yX10_all cX10_all 5 (some .int) w4 [.ref (G.2.1 40 0), .ref (G.2.1 69 1), .int 14] (fun r w6 => ∃ v5 : Int32, r = some (.int v5) ∧ Con (mL M) G 1 0 yX10_all cX10_all 5 (some .int) w6 [.ref (G.2.1 40 0), .ref (G.2.1 69 0), .int 14] (fun r w8 => ∃ v7 : Int32, r = some (.int v7) ∧ K (some (.int (v5 - v7))) w8) X) X) ∧ (¬ (¬ x4 = 2) → Con (mL M) G 1 0 yX10_all cX10_all 5 (some .int) w4 [.ref (G.2.1 40 0), .ref (G.2.1 69 1), .int 21] (fun r w10 => ∃ v9 : Int32, r = some (.int v9) ∧ K (some (.int v9)) w10) X))) ∧ (¬ (¬ x4 = 1) → Con (mL M) G 1 0 yX10_hoarse cX10_hoarse 4 (some .int) w4 [.ref (G.2.1 40 0), .ref (G.2.1 69 1)] (fun r w12 => ∃ v11 : Int32, r = some (.int v11) ∧ K (some (.int v11)) w12) X))) ∧ (¬ (¬ x4 = 0) → K (some (.int ((w4.1 69 1 55) - (w4.1 69 0 55)))) w4))) X) ∧ (¬ (v1 = 0) → K (some (.int 0)) w2))) X) :
    Z M G 0 K X w 29 [some (.ref (G.2.1 40 0)), some (.int x1), some (.int x2), some (.int x3), some (.int x4)] [.int s0, .ref (G.2.1 40 0)] := by
  refine z_iconst F 1 dX10_sunday_29 (by decide) ?_
  refine z_iconst F 1 dX10_sunday_30 (by decide) ?_
  refine z_callV F (k' := 1) (mc' := 0) [.int s0, .int 1, .int 1] [] dX10_sunday_31 rfl rfl (by decide) rfl cl_X10_171 hy_X10_bad (by omega) (by decide) (by decide) (Nat.le_of_ble_eq_true rfl) rfl (con_mono h ?_ (fun _ _ h => h))
  rintro _ w2 ⟨v1, rfl, h⟩
  show Z M G 0 K X w2 34 [some (.ref (G.2.1 40 0)), some (.int x1), some (.int x2), some (.int x3), some (.int x4)] [.int v1]
  refine z_if_eq F 39 dX10_sunday_34 (by decide) ⟨fun hc => ?_, fun hc => ?_⟩
  · have h := h.1 hc
    refine z_aload_n F dX10_sunday_39 rfl ?_
    refine z_iload_n F dX10_sunday_40 rfl ?_
    refine z_iload_n F dX10_sunday_41 rfl ?_
    refine z_iload_n F dX10_sunday_42 rfl ?_
    refine z_callV F (k' := 9) (mc' := 0) [.int x1, .int x2, .int x3] [] dX10_sunday_43 rfl rfl (by decide) rfl cl_X10_385 hy_X10_sundayBy (by omega) (by decide) (by decide) (Nat.le_of_ble_eq_true rfl) rfl (con_mono h ?_ (fun _ _ h => h))
    rintro _ w4 ⟨rfl, h⟩
    show Z M G 0 K X w4 46 [some (.ref (G.2.1 40 0)), some (.int x1), some (.int x2), some (.int x3), some (.int x4)] []
    refine z_iload F dX10_sunday_46 rfl ?_
    refine z_if_ne F 69 dX10_sunday_48 (by decide) ⟨fun hc => ?_, fun hc => ?_⟩
    · have h := h.1 hc
      refine z_iload F dX10_sunday_69 rfl ?_
      refine z_iconst F 1 dX10_sunday_71 (by decide) ?_
      refine z_icmp_ne F 86 dX10_sunday_72 (by decide) ⟨fun hc => ?_, fun hc => ?_⟩
      · have h := h.1 hc
        refine z_iload F dX10_sunday_86 rfl ?_
        refine z_iconst F 2 dX10_sunday_88 (by decide) ?_
        refine z_icmp_ne F 105 dX10_sunday_89 (by decide) ⟨fun hc => ?_, fun hc => ?_⟩
        · have h := h.1 hc
          refine z_aload_n F dX10_sunday_105 rfl ?_
          refine z_aload_n F dX10_sunday_106 rfl ?_
          refine z_getR F 30 69 1 rfl (by decide) (by decide) rfl rfl rfl lk_X10_70 dX10_sunday_107 ?_
          refine z_bipush F 14 dX10_sunday_110 (by decide) ?_
          refine z_callV F (k' := 1) (mc' := 0) [.ref (G.2.1 69 1), .int 14] [] dX10_sunday_112 rfl rfl (by decide) rfl cl_X10_318 hy_X10_all (by omega) (by decide) (by decide) (Nat.le_of_ble_eq_true rfl) rfl (con_mono h ?_ (fun _ _ h => h))
          rintro _ w6 ⟨v5, rfl, h⟩
          show Z M G 0 K X w6 115 [some (.ref (G.2.1 40 0)), some (.int x1), some (.int x2), some (.int x3), some (.int x4)] [.int v5]
          refine z_aload_n F dX10_sunday_115 rfl ?_
          refine z_aload_n F dX10_sunday_116 rfl ?_
          refine z_getR F 29 69 0 rfl (by decide) (by decide) rfl rfl rfl lk_X10_67 dX10_sunday_117 ?_
          refine z_bipush F 14 dX10_sunday_120 (by decide) ?_
          refine z_callV F (k' := 1) (mc' := 0) [.ref (G.2.1 69 0), .int 14] [.int v5] dX10_sunday_122 rfl rfl (by decide) rfl cl_X10_318 hy_X10_all (by omega) (by decide) (by decide) (Nat.le_of_ble_eq_true rfl) rfl (con_mono h ?_ (fun _ _ h => h))
          rintro _ w8 ⟨v7, rfl, h⟩
          show Z M G 0 K X w8 125 [some (.ref (G.2.1 40 0)), some (.int x1), some (.int x2), some (.int x3), some (.int x4)] [.int v7, .int v5]
          refine z_isub F dX10_sunday_125 ?_
          exact z_iret F dX10_sunday_126 (by decide) h
        · have h := h.2 hc
          refine z_aload_n F dX10_sunday_92 rfl ?_
          refine z_aload_n F dX10_sunday_93 rfl ?_
          refine z_getR F 30 69 1 rfl (by decide) (by decide) rfl rfl rfl lk_X10_70 dX10_sunday_94 ?_
          refine z_bipush F 21 dX10_sunday_97 (by decide) ?_
          refine z_callV F (k' := 1) (mc' := 0) [.ref (G.2.1 69 1), .int 21] [] dX10_sunday_99 rfl rfl (by decide) rfl cl_X10_318 hy_X10_all (by omega) (by decide) (by decide) (Nat.le_of_ble_eq_true rfl) rfl (con_mono h ?_ (fun _ _ h => h))
          rintro _ w10 ⟨v9, rfl, h⟩
          show Z M G 0 K X w10 102 [some (.ref (G.2.1 40 0)), some (.int x1), some (.int x2), some (.int x3), some (.int x4)] [.int v9]
          refine z_goto F 126 dX10_sunday_102 (by decide) ?_
          exact z_iret F dX10_sunday_126 (by decide) h
      · have h := h.2 hc
        refine z_aload_n F dX10_sunday_75 rfl ?_
        refine z_aload_n F dX10_sunday_76 rfl ?_
        refine z_getR F 30 69 1 rfl (by decide) (by decide) rfl rfl rfl lk_X10_70 dX10_sunday_77 ?_
        refine z_callV F (k' := 1) (mc' := 0) [.ref (G.2.1 69 1)] [] dX10_sunday_80 rfl rfl (by decide) rfl cl_X10_314 hy_X10_hoarse (by omega) (by decide) (by decide) (Nat.le_of_ble_eq_true rfl) rfl (con_mono h ?_ (fun _ _ h => h))
        rintro _ w12 ⟨v11, rfl, h⟩
        show Z M G 0 K X w12 83 [some (.ref (G.2.1 40 0)), some (.int x1), some (.int x2), some (.int x3), some (.int x4)] [.int v11]
        refine z_goto F 126 dX10_sunday_83 (by decide) ?_
        exact z_iret F dX10_sunday_126 (by decide) h
    · have h := h.2 hc
      refine z_aload_n F dX10_sunday_51 rfl ?_
      refine z_getR F 30 69 1 rfl (by decide) (by decide) rfl rfl rfl lk_X10_70 dX10_sunday_52 ?_
      refine z_bipush F 55 dX10_sunday_55 (by decide) ?_
      refine z_ialdK F 55 (by decide) rfl (by decide) (by unfold vp_in; decide) dX10_sunday_57 ?_
      refine z_aload_n F dX10_sunday_58 rfl ?_
      refine z_getR F 29 69 0 rfl (by decide) (by decide) rfl rfl rfl lk_X10_67 dX10_sunday_59 ?_
      refine z_bipush F 55 dX10_sunday_62 (by decide) ?_
      refine z_ialdK F 55 (by decide) rfl (by decide) (by unfold vp_in; decide) dX10_sunday_64 ?_
      refine z_isub F dX10_sunday_65 ?_
      refine z_goto F 126 dX10_sunday_66 (by decide) ?_
      exact z_iret F dX10_sunday_126 (by decide) h
  · have h := h.2 hc
    refine z_iconst F 0 dX10_sunday_37 (by decide) ?_
    exact z_iret F dX10_sunday_38 (by decide) h
set_option maxRecDepth 20000 in
theorem e_X10_span {l : Launch} {G : Gx} {w : Wd} {p0 : Int32} {p1 : Int32} {p2 : Int32} {p3 : Int32} {p4 : Int32} {p5 : Int32} {K : Option Value → Wd → Prop} {X : String → Wd → Prop} (hl : l.stackTraces = false)
    (h : ∀ (M : Mx) (kk : Nat), mL M = l → 10 ≤ kk → Fx M G RX10 cX10_span 12 (some .int) kk 0 → (∀ w1 : Wd, w1 = setI w 40 0 0 0 → Con (mL M) G 1 0 yX10_in cX10_in 3 (some .boolean) w1 [.int p1, .int 1, .int 10] (fun r w3 => ∃ v2 : Int32, r = some (.int v2) ∧ ((v2 = 0 → Z M G 0 K X w3 44 [some (.ref (G.2.1 40 0)), some (.int p0), some (.int p1), some (.int p2), some (.int p3), some (.int p4), some (.int p5), none, none, none, none, none] [.ref (G.2.1 40 0)]) ∧ (¬ (v2 = 0) → Con (mL M) G 2 0 yX10_isSunday cX10_isSunday 2 (some .boolean) w3 [.int p2, .int p3] (fun r w5 => ∃ v4 : Int32, r = some (.int v4) ∧ ((v4 = 0 → Z M G 0 K X w5 44 [some (.ref (G.2.1 40 0)), some (.int p0), some (.int p1), some (.int p2), some (.int p3), some (.int p4), some (.int p5), none, none, none, none, none] [.ref (G.2.1 40 0)]) ∧ (¬ (v4 = 0) → Con (mL M) G 1 0 yX10_in cX10_in 3 (some .boolean) w5 [.int p4, .int 0, .int 2] (fun r w7 => ∃ v6 : Int32, r = some (.int v6) ∧ ((v6 = 0 → Z M G 0 K X w7 44 [some (.ref (G.2.1 40 0)), some (.int p0), some (.int p1), some (.int p2), some (.int p3), some (.int p4), some (.int p5), none, none, none, none, none] [.ref (G.2.1 40 0)]) ∧ (¬ (v6 = 0) → Con (mL M) G 2 0 yX10_isSinger cX10_isSinger 2 (some .boolean) w7 [.ref (G.2.1 40 0), .int p5] (fun r w9 => ∃ v8 : Int32, r = some (.int v8) ∧ ((¬ v8 = 0 → Z M G 0 K X w9 49 [some (.ref (G.2.1 40 0)), some (.int p0), some (.int p1), some (.int p2), some (.int p3), some (.int p4), some (.int p5), none, none, none, none, none] [.int 0, .ref (G.2.1 40 0)]) ∧ (¬ (¬ v8 = 0) → Z M G 0 K X w9 44 [some (.ref (G.2.1 40 0)), some (.int p0), some (.int p1), some (.int p2), some (.int p3), some (.int p4), some (.int p5), none, none, none, none, none] [.ref (G.2.1 40 0)]))) X))) X))) X))) X)) :
    Con l G 10 0 yX10_span cX10_span 12 (some .int) w [.ref (G.2.1 40 0), .int p0, .int p1, .int p2, .int p3, .int p4, .int p5] K X := by
  refine con_intro hl (by decide +kernel) (Nat.le_of_ble_eq_true rfl) (Nat.le_of_ble_eq_true rfl) (fun M kk hM hk F => ?_)
  have h := h M kk hM hk F
  show Z M G 0 K X w 0 [some (.ref (G.2.1 40 0)), some (.int p0), some (.int p1), some (.int p2), some (.int p3), some (.int p4), some (.int p5), none, none, none, none, none] []
  refine z_aload_n F dX10_span_0 rfl ?_
  refine z_iconst F 0 dX10_span_1 (by decide) ?_
  refine z_putIW F 0 rfl (by decide) (by decide) rfl lk_X10_95 dX10_span_2 (fun w1 hw1 => ?_)
  have h := h w1 hw1
  refine z_aload_n F dX10_span_5 rfl ?_
  refine z_iload_n F dX10_span_6 rfl ?_
  refine z_iconst F 1 dX10_span_7 (by decide) ?_
  refine z_bipush F 10 dX10_span_8 (by decide) ?_
  refine z_callS F (k' := 1) (mc' := 0) [.int p1, .int 1, .int 10] [.ref (G.2.1 40 0)] dX10_span_10 rfl cl_X10_129 hy_X10_in.2 (by omega) (by decide) (by decide) (Nat.le_of_ble_eq_true rfl) rfl (con_mono h ?_ (fun _ _ h => h))
  rintro _ w3 ⟨v2, rfl, h⟩
  show Z M G 0 K X w3 13 [some (.ref (G.2.1 40 0)), some (.int p0), some (.int p1), some (.int p2), some (.int p3), some (.int p4), some (.int p5), none, none, none, none, none] [.int v2, .ref (G.2.1 40 0)]
  refine z_if_eq F 44 dX10_span_13 (by decide) ⟨fun hc => ?_, fun hc => ?_⟩
  · have h := h.1 hc
    exact h
  · have h := h.2 hc
    refine z_iload_n F dX10_span_16 rfl ?_
    refine z_iload F dX10_span_17 rfl ?_
    refine z_callS F (k' := 2) (mc' := 0) [.int p2, .int p3] [.ref (G.2.1 40 0)] dX10_span_19 rfl cl_X10_382 hy_X10_isSunday.2 (by omega) (by decide) (by decide) (Nat.le_of_ble_eq_true rfl) rfl (con_mono h ?_ (fun _ _ h => h))
    rintro _ w5 ⟨v4, rfl, h⟩
    show Z M G 0 K X w5 22 [some (.ref (G.2.1 40 0)), some (.int p0), some (.int p1), some (.int p2), some (.int p3), some (.int p4), some (.int p5), none, none, none, none, none] [.int v4, .ref (G.2.1 40 0)]
    refine z_if_eq F 44 dX10_span_22 (by decide) ⟨fun hc => ?_, fun hc => ?_⟩
    · have h := h.1 hc
      exact h
    · have h := h.2 hc
      refine z_iload F dX10_span_25 rfl ?_
      refine z_iconst F 0 dX10_span_27 (by decide) ?_
      refine z_iconst F 2 dX10_span_28 (by decide) ?_
      refine z_callS F (k' := 1) (mc' := 0) [.int p4, .int 0, .int 2] [.ref (G.2.1 40 0)] dX10_span_29 rfl cl_X10_129 hy_X10_in.2 (by omega) (by decide) (by decide) (Nat.le_of_ble_eq_true rfl) rfl (con_mono h ?_ (fun _ _ h => h))
      rintro _ w7 ⟨v6, rfl, h⟩
      show Z M G 0 K X w7 32 [some (.ref (G.2.1 40 0)), some (.int p0), some (.int p1), some (.int p2), some (.int p3), some (.int p4), some (.int p5), none, none, none, none, none] [.int v6, .ref (G.2.1 40 0)]
      refine z_if_eq F 44 dX10_span_32 (by decide) ⟨fun hc => ?_, fun hc => ?_⟩
      · have h := h.1 hc
        exact h
      · have h := h.2 hc
        refine z_aload_n F dX10_span_35 rfl ?_
        refine z_iload F dX10_span_36 rfl ?_
        refine z_callV F (k' := 2) (mc' := 0) [.int p5] [.ref (G.2.1 40 0)] dX10_span_38 rfl rfl (by decide) rfl cl_X10_321 hy_X10_isSinger (by omega) (by decide) (by decide) (Nat.le_of_ble_eq_true rfl) rfl (con_mono h ?_ (fun _ _ h => h))
        rintro _ w9 ⟨v8, rfl, h⟩
        show Z M G 0 K X w9 41 [some (.ref (G.2.1 40 0)), some (.int p0), some (.int p1), some (.int p2), some (.int p3), some (.int p4), some (.int p5), none, none, none, none, none] [.int v8, .ref (G.2.1 40 0)]
        refine z_if_ne F 48 dX10_span_41 (by decide) ⟨fun hc => ?_, fun hc => ?_⟩
        · have h := h.1 hc
          refine z_iconst F 0 dX10_span_48 (by decide) ?_
          exact h
        · have h := h.2 hc
          exact h
set_option maxRecDepth 20000 in
theorem b_X10_span_44 {M : Mx} {G : Gx} {kk : Nat} {w : Wd}  {x1 : Int32} {x2 : Int32} {x3 : Int32} {x4 : Int32} {x5 : Int32} {x6 : Int32} {K : Option Value → Wd → Prop} {X : String → Wd → Prop} (F : Fx M G RX10 cX10_span 12 (some .int) kk 0) (hk : 10 ≤ kk)
    (h : Z M G 0 K X w 49 [some (.ref (G.2.1 40 0)), some (.int x1), some (.int x2), some (.int x3), some (.int x4), some (.int x5), some (.int x6), none, none, none, none, none] [.int 1, .ref (G.2.1 40 0)]) :
    Z M G 0 K X w 44 [some (.ref (G.2.1 40 0)), some (.int x1), some (.int x2), some (.int x3), some (.int x4), some (.int x5), some (.int x6), none, none, none, none, none] [.ref (G.2.1 40 0)] := by
  refine z_iconst F 1 dX10_span_44 (by decide) ?_
  refine z_goto F 49 dX10_span_45 (by decide) ?_
  exact h
set_option maxRecDepth 20000 in
theorem b_X10_span_49 {M : Mx} {G : Gx} {kk : Nat} {w : Wd}  {x1 : Int32} {x2 : Int32} {x3 : Int32} {x4 : Int32} {x5 : Int32} {x6 : Int32} {s0 : Int32} {K : Option Value → Wd → Prop} {X : String → Wd → Prop} (F : Fx M G RX10 cX10_span 12 (some .int) kk 0) (hk : 10 ≤ kk)
    (h : Con (mL M) G 1 0 yX10_bad cX10_bad 4 (some .boolean) w [.ref (G.2.1 40 0), .int s0, .int 1, .int 1] (fun r w2 => ∃ v1 : Int32, r = some (.int v1) ∧ ((v1 = 0 → Z M G 0 K X w2 71 [some (.ref (G.2.1 40 0)), some (.int x1), some (.int x2), some (.int x3), some (.int x4), some (.int x5), some (.int x6), some (.int (-1)), some (.int 0), some (.int 0), some (.int 0), none] []) ∧ (¬ (v1 = 0) → K (some (.int 0)) w2))) X) :
    Z M G 0 K X w 49 [some (.ref (G.2.1 40 0)), some (.int x1), some (.int x2), some (.int x3), some (.int x4), some (.int x5), some (.int x6), none, none, none, none, none] [.int s0, .ref (G.2.1 40 0)] := by
  refine z_iconst F 1 dX10_span_49 (by decide) ?_
  refine z_iconst F 1 dX10_span_50 (by decide) ?_
  refine z_callV F (k' := 1) (mc' := 0) [.int s0, .int 1, .int 1] [] dX10_span_51 rfl rfl (by decide) rfl cl_X10_171 hy_X10_bad (by omega) (by decide) (by decide) (Nat.le_of_ble_eq_true rfl) rfl (con_mono h ?_ (fun _ _ h => h))
  rintro _ w2 ⟨v1, rfl, h⟩
  show Z M G 0 K X w2 54 [some (.ref (G.2.1 40 0)), some (.int x1), some (.int x2), some (.int x3), some (.int x4), some (.int x5), some (.int x6), none, none, none, none, none] [.int v1]
  refine z_if_eq F 59 dX10_span_54 (by decide) ⟨fun hc => ?_, fun hc => ?_⟩
  · have h := h.1 hc
    refine z_iconst F (-1) dX10_span_59 (by decide) ?_
    refine z_istore F dX10_span_60 (Nat.le_of_ble_eq_true rfl) ?_
    refine z_iconst F 0 dX10_span_62 (by decide) ?_
    refine z_istore F dX10_span_63 (Nat.le_of_ble_eq_true rfl) ?_
    refine z_iconst F 0 dX10_span_65 (by decide) ?_
    refine z_istore F dX10_span_66 (Nat.le_of_ble_eq_true rfl) ?_
    refine z_iconst F 0 dX10_span_68 (by decide) ?_
    refine z_istore F dX10_span_69 (Nat.le_of_ble_eq_true rfl) ?_
    exact h
  · have h := h.2 hc
    refine z_iconst F 0 dX10_span_57 (by decide) ?_
    exact z_iret F dX10_span_58 (by decide) h
set_option maxRecDepth 20000 in
theorem b_X10_span_71 {M : Mx} {G : Gx} {kk : Nat} {w : Wd}  {x1 : Int32} {x2 : Int32} {x3 : Int32} {x4 : Int32} {x5 : Int32} {x6 : Int32} {x7 : Int32} {x8 : Int32} {x9 : Int32} {x10 : Int32} {K : Option Value → Wd → Prop} {X : String → Wd → Prop} (F : Fx M G RX10 cX10_span 12 (some .int) kk 0) (hk : 10 ≤ kk)
    (h : ((x2 ≤ x10 → ((¬ x5 = 0 → ((¬ x5 = 1 → K (some (.int x9)) w) ∧ (¬ (¬ x5 = 1) → K (some (.int x8)) w))) ∧ (¬ (¬ x5 = 0) → K (some (.int x7)) w))) ∧ (¬ (x2 ≤ x10) → Con (mL M) G 9 0 yX10_sundayBy cX10_sundayBy 6 none w [.ref (G.2.1 40 0), .int (x1 + x10), .int x3, .int x4] (fun r w2 => r = none ∧ ((¬ x7 = (-1) → Con (mL M) G 1 0 yX10_less cX10_less 2 (some .int) w2 [.int x7, .int ((w2.1 69 1 55) - (w2.1 69 0 55))] (fun r w4 => ∃ v3 : Int32, r = some (.int v3) ∧ Z M G 0 K X w4 123 [some (.ref (G.2.1 40 0)), some (.int x1), some (.int x2), some (.int x3), some (.int x4), some (.int x5), some (.int x6), none, some (.int x8), some (.int x9), some (.int x10), some (.int ((w2.1 69 1 55) - (w2.1 69 0 55)))] [.int v3]) X) ∧ (¬ (¬ x7 = (-1)) → Z M G 0 K X w2 123 [some (.ref (G.2.1 40 0)), some (.int x1), some (.int x2), some (.int x3), some (.int x4), some (.int x5), some (.int x6), none, some (.int x8), some (.int x9), some (.int x10), some (.int ((w2.1 69 1 55) - (w2.1 69 0 55)))] [.int ((w2.1 69 1 55) - (w2.1 69 0 55))]))) X))) :
    Z M G 0 K X w 71 [some (.ref (G.2.1 40 0)), some (.int x1), some (.int x2), some (.int x3), some (.int x4), some (.int x5), some (.int x6), some (.int x7), some (.int x8), some (.int x9), some (.int x10), none] [] := by
  refine z_iload F dX10_span_71 rfl ?_
  refine z_iload_n F dX10_span_73 rfl ?_
  refine z_icmp_ge F 155 dX10_span_74 (by decide) ⟨fun hc => ?_, fun hc => ?_⟩
  · have h := h.1 hc
    refine z_iload F dX10_span_155 rfl ?_
    refine z_if_ne F 165 dX10_span_157 (by decide) ⟨fun hc => ?_, fun hc => ?_⟩
    · have h := h.1 hc
      refine z_iload F dX10_span_165 rfl ?_
      refine z_iconst F 1 dX10_span_167 (by decide) ?_
      refine z_icmp_ne F 176 dX10_span_168 (by decide) ⟨fun hc => ?_, fun hc => ?_⟩
      · have h := h.1 hc
        refine z_iload F dX10_span_176 rfl ?_
        exact z_iret F dX10_span_178 (by decide) h
      · have h := h.2 hc
        refine z_iload F dX10_span_171 rfl ?_
        refine z_goto F 178 dX10_span_173 (by decide) ?_
        exact z_iret F dX10_span_178 (by decide) h
    · have h := h.2 hc
      refine z_iload F dX10_span_160 rfl ?_
      refine z_goto F 178 dX10_span_162 (by decide) ?_
      exact z_iret F dX10_span_178 (by decide) h
  · have h := h.2 hc
    refine z_aload_n F dX10_span_77 rfl ?_
    refine z_iload_n F dX10_span_78 rfl ?_
    refine z_iload F dX10_span_79 rfl ?_
    refine z_iadd F dX10_span_81 ?_
    refine z_iload_n F dX10_span_82 rfl ?_
    refine z_iload F dX10_span_83 rfl ?_
    refine z_callV F (k' := 9) (mc' := 0) [.int (x1 + x10), .int x3, .int x4] [] dX10_span_85 rfl rfl (by decide) rfl cl_X10_385 hy_X10_sundayBy (by omega) (by decide) (by decide) (Nat.le_of_ble_eq_true rfl) rfl (con_mono h ?_ (fun _ _ h => h))
    rintro _ w2 ⟨rfl, h⟩
    show Z M G 0 K X w2 88 [some (.ref (G.2.1 40 0)), some (.int x1), some (.int x2), some (.int x3), some (.int x4), some (.int x5), some (.int x6), some (.int x7), some (.int x8), some (.int x9), some (.int x10), none] []
    refine z_aload_n F dX10_span_88 rfl ?_
    refine z_getR F 30 69 1 rfl (by decide) (by decide) rfl rfl rfl lk_X10_70 dX10_span_89 ?_
    refine z_bipush F 55 dX10_span_92 (by decide) ?_
    refine z_ialdK F 55 (by decide) rfl (by decide) (by unfold vp_in; decide) dX10_span_94 ?_
    refine z_aload_n F dX10_span_95 rfl ?_
    refine z_getR F 29 69 0 rfl (by decide) (by decide) rfl rfl rfl lk_X10_67 dX10_span_96 ?_
    refine z_bipush F 55 dX10_span_99 (by decide) ?_
    refine z_ialdK F 55 (by decide) rfl (by decide) (by unfold vp_in; decide) dX10_span_101 ?_
    refine z_isub F dX10_span_102 ?_
    refine z_istore F dX10_span_103 (Nat.le_of_ble_eq_true rfl) ?_
    refine z_iload F dX10_span_105 rfl ?_
    refine z_iconst F (-1) dX10_span_107 (by decide) ?_
    refine z_icmp_ne F 116 dX10_span_108 (by decide) ⟨fun hc => ?_, fun hc => ?_⟩
    · have h := h.1 hc
      refine z_iload F dX10_span_116 rfl ?_
      refine z_iload F dX10_span_118 rfl ?_
      refine z_callS F (k' := 1) (mc' := 0) [.int x7, .int ((w2.1 69 1 55) - (w2.1 69 0 55))] [] dX10_span_120 rfl cl_X10_235 hy_X10_less.2 (by omega) (by decide) (by decide) (Nat.le_of_ble_eq_true rfl) rfl (con_mono h ?_ (fun _ _ h => h))
      rintro _ w4 ⟨v3, rfl, h⟩
      show Z M G 0 K X w4 123 [some (.ref (G.2.1 40 0)), some (.int x1), some (.int x2), some (.int x3), some (.int x4), some (.int x5), some (.int x6), some (.int x7), some (.int x8), some (.int x9), some (.int x10), some (.int ((w2.1 69 1 55) - (w2.1 69 0 55)))] [.int v3]
      exact z_weak h (⟨rfl, ⟨rfl, ⟨rfl, ⟨rfl, ⟨rfl, ⟨rfl, ⟨rfl, ⟨rfl, ⟨rfl, ⟨rfl, ⟨rfl, trivial⟩⟩⟩⟩⟩⟩⟩⟩⟩⟩⟩)
    · have h := h.2 hc
      refine z_iload F dX10_span_111 rfl ?_
      refine z_goto F 123 dX10_span_113 (by decide) ?_
      exact z_weak h (⟨rfl, ⟨rfl, ⟨rfl, ⟨rfl, ⟨rfl, ⟨rfl, ⟨rfl, ⟨rfl, ⟨rfl, ⟨rfl, ⟨rfl, trivial⟩⟩⟩⟩⟩⟩⟩⟩⟩⟩⟩)
set_option maxRecDepth 20000 in
theorem b_X10_span_123 {M : Mx} {G : Gx} {kk : Nat} {w : Wd}  {x1 : Int32} {x2 : Int32} {x3 : Int32} {x4 : Int32} {x5 : Int32} {x6 : Int32} {x8 : Int32} {x9 : Int32} {x10 : Int32} {x11 : Int32} {s0 : Int32} {K : Option Value → Wd → Prop} {X : String → Wd → Prop} (F : Fx M G RX10 cX10_span 12 (some .int) kk 0) (hk : 10 ≤ kk)
    (h : Con (mL M) G 1 0 yX10_more cX10_more 2 (some .int) w [.int x8, .int x11] (fun r w2 => ∃ v1 : Int32, r = some (.int v1) ∧ (vp_in ((7 : Int32) + x6) 57 ∧ Z M G 0 K X w2 71 [some (.ref (G.2.1 40 0)), some (.int x1), some (.int x2), some (.int x3), some (.int x4), some (.int x5), some (.int x6), some (.int s0), some (.int v1), some (.int (x9 + (w2.1 69 1 (((7 : Int32) + x6 : Int32).toNatClampNeg)))), some (.int (x10 + 1)), none] [])) X) :
    Z M G 0 K X w 123 [some (.ref (G.2.1 40 0)), some (.int x1), some (.int x2), some (.int x3), some (.int x4), some (.int x5), some (.int x6), none, some (.int x8), some (.int x9), some (.int x10), some (.int x11)] [.int s0] := by
  refine z_istore F dX10_span_123 (Nat.le_of_ble_eq_true rfl) ?_
  refine z_iload F dX10_span_125 rfl ?_
  refine z_iload F dX10_span_127 rfl ?_
  refine z_callS F (k' := 1) (mc' := 0) [.int x8, .int x11] [] dX10_span_129 rfl cl_X10_238 hy_X10_more.2 (by omega) (by decide) (by decide) (Nat.le_of_ble_eq_true rfl) rfl (con_mono h ?_ (fun _ _ h => h))
  rintro _ w2 ⟨v1, rfl, h⟩
  show Z M G 0 K X w2 132 [some (.ref (G.2.1 40 0)), some (.int x1), some (.int x2), some (.int x3), some (.int x4), some (.int x5), some (.int x6), some (.int s0), some (.int x8), some (.int x9), some (.int x10), some (.int x11)] [.int v1]
  refine z_istore F dX10_span_132 (Nat.le_of_ble_eq_true rfl) ?_
  refine z_iload F dX10_span_134 rfl ?_
  refine z_aload_n F dX10_span_136 rfl ?_
  refine z_getR F 30 69 1 rfl (by decide) (by decide) rfl rfl rfl lk_X10_70 dX10_span_137 ?_
  refine z_bipush F 7 dX10_span_140 (by decide) ?_
  refine z_iload F dX10_span_142 rfl ?_
  refine z_iadd F dX10_span_144 ?_
  obtain ⟨hb, h⟩ := h
  refine z_ialdK F (((7 : Int32) + x6 : Int32).toNatClampNeg) rfl rfl (by decide) hb dX10_span_145 ?_
  refine z_iadd F dX10_span_146 ?_
  refine z_istore F dX10_span_147 (Nat.le_of_ble_eq_true rfl) ?_
  refine z_iinc F (x10 + 1) dX10_span_149 rfl rfl (Nat.le_of_ble_eq_true rfl) ?_
  refine z_goto F 71 dX10_span_152 (by decide) ?_
  exact z_weak h (⟨rfl, ⟨rfl, ⟨rfl, ⟨rfl, ⟨rfl, ⟨rfl, ⟨rfl, ⟨rfl, ⟨rfl, ⟨rfl, ⟨rfl, trivial⟩⟩⟩⟩⟩⟩⟩⟩⟩⟩⟩)
set_option maxRecDepth 20000 in
theorem e_X10_puts {l : Launch} {G : Gx} {w : Wd} {jr0 : Nat} (hr0 : jr0 < cnt 72) {p1 : Int32} {p2 : Int32} {K : Option Value → Wd → Prop} {X : String → Wd → Prop} (hl : l.stackTraces = false)
    (h : ∀ (M : Mx) (kk : Nat), mL M = l → 1 ≤ kk → Fx M G RX10 cX10_puts 4 (some .int) kk 0 → ((¬ p2 = 0 → (∀ w1 : Wd, w1 = setI w 40 0 37 ((w.1 40 0 37) + (1 : Int32)) → (vp_in ((w1.1 40 0 37) - (1 : Int32)) 970 ∧ K (some (.int (w1.1 72 jr0 (((w1.1 40 0 37) - (1 : Int32) : Int32).toNatClampNeg)))) w1))) ∧ (¬ (¬ p2 = 0) → (vp_in (w.1 40 0 37) 970 ∧ ∀ w2 : Wd, w2 = setI w 72 jr0 ((w.1 40 0 37 : Int32).toNatClampNeg) p1 → (∀ w3 : Wd, w3 = setI w2 40 0 37 ((w2.1 40 0 37) + (1 : Int32)) → (vp_in ((w3.1 40 0 37) - (1 : Int32)) 970 ∧ K (some (.int (w3.1 72 jr0 (((w3.1 40 0 37) - (1 : Int32) : Int32).toNatClampNeg)))) w3)))))) :
    Con l G 1 0 yX10_puts cX10_puts 4 (some .int) w [.ref (G.2.1 40 0), .ref (G.2.1 72 jr0), .int p1, .int p2] K X := by
  refine con_intro hl (by decide +kernel) (Nat.le_of_ble_eq_true rfl) (Nat.le_of_ble_eq_true rfl) (fun M kk hM hk F => ?_)
  have h := h M kk hM hk F
  show Z M G 0 K X w 0 [some (.ref (G.2.1 40 0)), some (.ref (G.2.1 72 jr0)), some (.int p1), some (.int p2)] []
  refine z_iload_n F dX10_puts_0 rfl ?_
  refine z_if_ne F 11 dX10_puts_1 (by decide) ⟨fun hc => ?_, fun hc => ?_⟩
  · have h := h.1 hc
    refine z_aload_n F dX10_puts_11 rfl ?_
    refine z_dup F dX10_puts_12 rfl ?_
    refine z_getI F 37 rfl (by decide) (by decide) rfl lk_X10_388 dX10_puts_13 ?_
    refine z_iconst F 1 dX10_puts_16 (by decide) ?_
    refine z_iadd F dX10_puts_17 ?_
    refine z_putIW F 37 rfl (by decide) (by decide) rfl lk_X10_388 dX10_puts_18 (fun w1 hw1 => ?_)
    have h := h w1 hw1
    refine z_aload_n F dX10_puts_21 rfl ?_
    refine z_aload_n F dX10_puts_22 rfl ?_
    refine z_getI F 37 rfl (by decide) (by decide) rfl lk_X10_388 dX10_puts_23 ?_
    refine z_iconst F 1 dX10_puts_26 (by decide) ?_
    refine z_isub F dX10_puts_27 ?_
    obtain ⟨hb, h⟩ := h
    refine z_ialdK F (((w1.1 40 0 37) - (1 : Int32) : Int32).toNatClampNeg) rfl rfl hr0 hb dX10_puts_28 ?_
    exact z_iret F dX10_puts_29 (by decide) h
  · have h := h.2 hc
    refine z_aload_n F dX10_puts_4 rfl ?_
    refine z_aload_n F dX10_puts_5 rfl ?_
    refine z_getI F 37 rfl (by decide) (by decide) rfl lk_X10_388 dX10_puts_6 ?_
    refine z_iload_n F dX10_puts_9 rfl ?_
    obtain ⟨hb, h⟩ := h
    refine z_iastW F ((w.1 40 0 37 : Int32).toNatClampNeg) rfl rfl hr0 hb dX10_puts_10 (fun w2 hw2 => ?_)
    have h := h w2 hw2
    refine z_aload_n F dX10_puts_11 rfl ?_
    refine z_dup F dX10_puts_12 rfl ?_
    refine z_getI F 37 rfl (by decide) (by decide) rfl lk_X10_388 dX10_puts_13 ?_
    refine z_iconst F 1 dX10_puts_16 (by decide) ?_
    refine z_iadd F dX10_puts_17 ?_
    refine z_putIW F 37 rfl (by decide) (by decide) rfl lk_X10_388 dX10_puts_18 (fun w3 hw3 => ?_)
    have h := h w3 hw3
    refine z_aload_n F dX10_puts_21 rfl ?_
    refine z_aload_n F dX10_puts_22 rfl ?_
    refine z_getI F 37 rfl (by decide) (by decide) rfl lk_X10_388 dX10_puts_23 ?_
    refine z_iconst F 1 dX10_puts_26 (by decide) ?_
    refine z_isub F dX10_puts_27 ?_
    obtain ⟨hb, h⟩ := h
    refine z_ialdK F (((w3.1 40 0 37) - (1 : Int32) : Int32).toNatClampNeg) rfl rfl hr0 hb dX10_puts_28 ?_
    exact z_iret F dX10_puts_29 (by decide) h
set_option maxRecDepth 20000 in
theorem e_X10_putsAll {l : Launch} {G : Gx} {w : Wd} {jr0 : Nat} (hr0 : jr0 < cnt 72) {p1 : Int32} {K : Option Value → Wd → Prop} {X : String → Wd → Prop} (hl : l.stackTraces = false)
    (h : ∀ (M : Mx) (kk : Nat), mL M = l → 2 ≤ kk → Fx M G RX10 cX10_putsAll 5 none kk 0 → (∀ w1 : Wd, w1 = setI w 40 0 37 0 → Con (mL M) G 1 0 yX10_puts cX10_puts 4 (some .int) w1 [.ref (G.2.1 40 0), .ref (G.2.1 72 jr0), .int (w1.1 40 0 34), .int p1] (fun r w3 => ∃ v2 : Int32, r = some (.int v2) ∧ (∀ w4 : Wd, w4 = setI w3 40 0 34 v2 → Z M G 0 K X w4 21 [some (.ref (G.2.1 40 0)), some (.ref (G.2.1 72 jr0)), some (.int p1), some (.int 0), none] [])) X)) :
    Con l G 2 0 yX10_putsAll cX10_putsAll 5 none w [.ref (G.2.1 40 0), .ref (G.2.1 72 jr0), .int p1] K X := by
  refine con_intro hl (by decide +kernel) (Nat.le_of_ble_eq_true rfl) (Nat.le_of_ble_eq_true rfl) (fun M kk hM hk F => ?_)
  have h := h M kk hM hk F
  show Z M G 0 K X w 0 [some (.ref (G.2.1 40 0)), some (.ref (G.2.1 72 jr0)), some (.int p1), none, none] []
  refine z_aload_n F dX10_putsAll_0 rfl ?_
  refine z_iconst F 0 dX10_putsAll_1 (by decide) ?_
  refine z_putIW F 37 rfl (by decide) (by decide) rfl lk_X10_388 dX10_putsAll_2 (fun w1 hw1 => ?_)
  have h := h w1 hw1
  refine z_aload_n F dX10_putsAll_5 rfl ?_
  refine z_aload_n F dX10_putsAll_6 rfl ?_
  refine z_aload_n F dX10_putsAll_7 rfl ?_
  refine z_aload_n F dX10_putsAll_8 rfl ?_
  refine z_getI F 34 rfl (by decide) (by decide) rfl lk_X10_198 dX10_putsAll_9 ?_
  refine z_iload_n F dX10_putsAll_12 rfl ?_
  refine z_callV F (k' := 1) (mc' := 0) [.ref (G.2.1 72 jr0), .int (w1.1 40 0 34), .int p1] [.ref (G.2.1 40 0)] dX10_putsAll_13 rfl rfl (by decide) rfl cl_X10_391 hy_X10_puts (by omega) (by decide) (by decide) (Nat.le_of_ble_eq_true rfl) rfl (con_mono h ?_ (fun _ _ h => h))
  rintro _ w3 ⟨v2, rfl, h⟩
  show Z M G 0 K X w3 16 [some (.ref (G.2.1 40 0)), some (.ref (G.2.1 72 jr0)), some (.int p1), none, none] [.int v2, .ref (G.2.1 40 0)]
  refine z_putIW F 34 rfl (by decide) (by decide) rfl lk_X10_198 dX10_putsAll_16 (fun w4 hw4 => ?_)
  have h := h w4 hw4
  refine z_iconst F 0 dX10_putsAll_19 (by decide) ?_
  refine z_istore_n F dX10_putsAll_20 (Nat.le_of_ble_eq_true rfl) ?_
  exact h
set_option maxRecDepth 20000 in
theorem b_X10_putsAll_21 {M : Mx} {G : Gx} {kk : Nat} {w : Wd} {jr0 : Nat} (hr0 : jr0 < cnt 72) {x2 : Int32} {x3 : Int32} {K : Option Value → Wd → Prop} {X : String → Wd → Prop} (F : Fx M G RX10 cX10_putsAll 5 none kk 0) (hk : 2 ≤ kk)
    (h : ((57 ≤ x3 → Z M G 0 K X w 53 [some (.ref (G.2.1 40 0)), some (.ref (G.2.1 72 jr0)), some (.int x2), some (.int 0), none] []) ∧ (¬ (57 ≤ x3) → (vp_in x3 57 ∧ Con (mL M) G 1 0 yX10_puts cX10_puts 4 (some .int) w [.ref (G.2.1 40 0), .ref (G.2.1 72 jr0), .int (w.1 69 0 ((x3 : Int32).toNatClampNeg)), .int x2] (fun r w2 => ∃ v1 : Int32, r = some (.int v1) ∧ (vp_in x3 57 ∧ ∀ w3 : Wd, w3 = setI w2 69 0 ((x3 : Int32).toNatClampNeg) v1 → Z M G 0 K X w3 21 [some (.ref (G.2.1 40 0)), some (.ref (G.2.1 72 jr0)), some (.int x2), some (.int (x3 + 1)), none] [])) X)))) :
    Z M G 0 K X w 21 [some (.ref (G.2.1 40 0)), some (.ref (G.2.1 72 jr0)), some (.int x2), some (.int x3), none] [] := by
  refine z_iload_n F dX10_putsAll_21 rfl ?_
  refine z_bipush F 57 dX10_putsAll_22 (by decide) ?_
  refine z_icmp_ge F 51 dX10_putsAll_24 (by decide) ⟨fun hc => ?_, fun hc => ?_⟩
  · have h := h.1 hc
    refine z_iconst F 0 dX10_putsAll_51 (by decide) ?_
    refine z_istore_n F dX10_putsAll_52 (Nat.le_of_ble_eq_true rfl) ?_
    exact h
  · have h := h.2 hc
    refine z_aload_n F dX10_putsAll_27 rfl ?_
    refine z_getR F 29 69 0 rfl (by decide) (by decide) rfl rfl rfl lk_X10_67 dX10_putsAll_28 ?_
    refine z_iload_n F dX10_putsAll_31 rfl ?_
    refine z_aload_n F dX10_putsAll_32 rfl ?_
    refine z_aload_n F dX10_putsAll_33 rfl ?_
    refine z_aload_n F dX10_putsAll_34 rfl ?_
    refine z_getR F 29 69 0 rfl (by decide) (by decide) rfl rfl rfl lk_X10_67 dX10_putsAll_35 ?_
    refine z_iload_n F dX10_putsAll_38 rfl ?_
    obtain ⟨hb, h⟩ := h
    refine z_ialdK F ((x3 : Int32).toNatClampNeg) rfl rfl (by decide) hb dX10_putsAll_39 ?_
    refine z_iload_n F dX10_putsAll_40 rfl ?_
    refine z_callV F (k' := 1) (mc' := 0) [.ref (G.2.1 72 jr0), .int (w.1 69 0 ((x3 : Int32).toNatClampNeg)), .int x2] [.int x3, .ref (G.2.1 69 0)] dX10_putsAll_41 rfl rfl (by decide) rfl cl_X10_391 hy_X10_puts (by omega) (by decide) (by decide) (Nat.le_of_ble_eq_true rfl) rfl (con_mono h ?_ (fun _ _ h => h))
    rintro _ w2 ⟨v1, rfl, h⟩
    show Z M G 0 K X w2 44 [some (.ref (G.2.1 40 0)), some (.ref (G.2.1 72 jr0)), some (.int x2), some (.int x3), none] [.int v1, .int x3, .ref (G.2.1 69 0)]
    obtain ⟨hb, h⟩ := h
    refine z_iastW F ((x3 : Int32).toNatClampNeg) rfl rfl (by decide) hb dX10_putsAll_44 (fun w3 hw3 => ?_)
    have h := h w3 hw3
    refine z_iinc F (x3 + 1) dX10_putsAll_45 rfl rfl (Nat.le_of_ble_eq_true rfl) ?_
    refine z_goto F 21 dX10_putsAll_48 (by decide) ?_
    exact h
set_option maxRecDepth 20000 in
theorem b_X10_putsAll_53 {M : Mx} {G : Gx} {kk : Nat} {w : Wd} {jr0 : Nat} (hr0 : jr0 < cnt 72) {x2 : Int32} {x3 : Int32} {K : Option Value → Wd → Prop} {X : String → Wd → Prop} (F : Fx M G RX10 cX10_putsAll 5 none kk 0) (hk : 2 ≤ kk)
    (h : ((16 ≤ x3 → K none w) ∧ (¬ (16 ≤ x3) → Z M G 0 K X w 62 [some (.ref (G.2.1 40 0)), some (.ref (G.2.1 72 jr0)), some (.int x2), some (.int x3), some (.int 0)] []))) :
    Z M G 0 K X w 53 [some (.ref (G.2.1 40 0)), some (.ref (G.2.1 72 jr0)), some (.int x2), some (.int x3), none] [] := by
  refine z_iload_n F dX10_putsAll_53 rfl ?_
  refine z_bipush F 16 dX10_putsAll_54 (by decide) ?_
  refine z_icmp_ge F 105 dX10_putsAll_56 (by decide) ⟨fun hc => ?_, fun hc => ?_⟩
  · have h := h.1 hc
    exact z_vret F dX10_putsAll_105 (by decide) h
  · have h := h.2 hc
    refine z_iconst F 0 dX10_putsAll_59 (by decide) ?_
    refine z_istore F dX10_putsAll_60 (Nat.le_of_ble_eq_true rfl) ?_
    exact h
set_option maxRecDepth 20000 in
theorem b_X10_putsAll_62 {M : Mx} {G : Gx} {kk : Nat} {w : Wd} {jr0 : Nat} (hr0 : jr0 < cnt 72) {x2 : Int32} {x3 : Int32} {x4 : Int32} {K : Option Value → Wd → Prop} {X : String → Wd → Prop} (F : Fx M G RX10 cX10_putsAll 5 none kk 0) (hk : 2 ≤ kk)
    (h : ((57 ≤ x4 → Z M G 0 K X w 53 [some (.ref (G.2.1 40 0)), some (.ref (G.2.1 72 jr0)), some (.int x2), some (.int (x3 + 1)), none] []) ∧ (¬ (57 ≤ x4) → (vp_in x3 16 ∧ (vp_in x3 16 ∧ (vp_in x4 57 ∧ Con (mL M) G 1 0 yX10_puts cX10_puts 4 (some .int) w [.ref (G.2.1 40 0), .ref (G.2.1 72 jr0), .int (w.1 69 (2 + (x3 : Int32).toNatClampNeg) ((x4 : Int32).toNatClampNeg)), .int x2] (fun r w4 => ∃ v3 : Int32, r = some (.int v3) ∧ (vp_in x4 57 ∧ ∀ w5 : Wd, w5 = setI w4 69 (2 + (x3 : Int32).toNatClampNeg) ((x4 : Int32).toNatClampNeg) v3 → Z M G 0 K X w5 62 [some (.ref (G.2.1 40 0)), some (.ref (G.2.1 72 jr0)), some (.int x2), some (.int x3), some (.int (x4 + 1))] [])) X)))))) :
    Z M G 0 K X w 62 [some (.ref (G.2.1 40 0)), some (.ref (G.2.1 72 jr0)), some (.int x2), some (.int x3), some (.int x4)] [] := by
  refine z_iload F dX10_putsAll_62 rfl ?_
  refine z_bipush F 57 dX10_putsAll_64 (by decide) ?_
  refine z_icmp_ge F 99 dX10_putsAll_66 (by decide) ⟨fun hc => ?_, fun hc => ?_⟩
  · have h := h.1 hc
    refine z_iinc F (x3 + 1) dX10_putsAll_99 rfl rfl (Nat.le_of_ble_eq_true rfl) ?_
    refine z_goto F 53 dX10_putsAll_102 (by decide) ?_
    exact z_weak h (⟨rfl, ⟨rfl, ⟨rfl, ⟨rfl, trivial⟩⟩⟩⟩)
  · have h := h.2 hc
    refine z_aload_n F dX10_putsAll_69 rfl ?_
    refine z_getR F 31 70 0 rfl (by decide) (by decide) rfl rfl rfl lk_X10_73 dX10_putsAll_70 ?_
    refine z_iload_n F dX10_putsAll_73 rfl ?_
    obtain ⟨hb, h⟩ := h
    refine z_aald F 69 (2 + (x3 : Int32).toNatClampNeg) rfl (by decide) (by decide) (by decide) rfl rfl hb dX10_putsAll_74 (fun hv1 => ?_)
    refine z_iload F dX10_putsAll_75 rfl ?_
    refine z_aload_n F dX10_putsAll_77 rfl ?_
    refine z_aload_n F dX10_putsAll_78 rfl ?_
    refine z_aload_n F dX10_putsAll_79 rfl ?_
    refine z_getR F 31 70 0 rfl (by decide) (by decide) rfl rfl rfl lk_X10_73 dX10_putsAll_80 ?_
    refine z_iload_n F dX10_putsAll_83 rfl ?_
    obtain ⟨hb, h⟩ := h
    refine z_aald F 69 (2 + (x3 : Int32).toNatClampNeg) rfl (by decide) (by decide) (by decide) rfl rfl hb dX10_putsAll_84 (fun hv2 => ?_)
    refine z_iload F dX10_putsAll_85 rfl ?_
    obtain ⟨hb, h⟩ := h
    refine z_ialdK F ((x4 : Int32).toNatClampNeg) rfl rfl hv2 hb dX10_putsAll_87 ?_
    refine z_iload_n F dX10_putsAll_88 rfl ?_
    refine z_callV F (k' := 1) (mc' := 0) [.ref (G.2.1 72 jr0), .int (w.1 69 (2 + (x3 : Int32).toNatClampNeg) ((x4 : Int32).toNatClampNeg)), .int x2] [.int x4, .ref (G.2.1 69 (2 + (x3 : Int32).toNatClampNeg))] dX10_putsAll_89 rfl rfl (by decide) rfl cl_X10_391 hy_X10_puts (by omega) (by decide) (by decide) (Nat.le_of_ble_eq_true rfl) rfl (con_mono h ?_ (fun _ _ h => h))
    rintro _ w4 ⟨v3, rfl, h⟩
    show Z M G 0 K X w4 92 [some (.ref (G.2.1 40 0)), some (.ref (G.2.1 72 jr0)), some (.int x2), some (.int x3), some (.int x4)] [.int v3, .int x4, .ref (G.2.1 69 (2 + (x3 : Int32).toNatClampNeg))]
    obtain ⟨hb, h⟩ := h
    refine z_iastW F ((x4 : Int32).toNatClampNeg) rfl rfl hv1 hb dX10_putsAll_92 (fun w5 hw5 => ?_)
    have h := h w5 hw5
    refine z_iinc F (x4 + 1) dX10_putsAll_93 rfl rfl (Nat.le_of_ble_eq_true rfl) ?_
    refine z_goto F 62 dX10_putsAll_96 (by decide) ?_
    exact h
set_option maxRecDepth 20000 in
theorem e_X10_image {l : Launch} {G : Gx} {w : Wd}  {K : Option Value → Wd → Prop} {X : String → Wd → Prop} (hl : l.stackTraces = false)
    (h : ∀ (M : Mx) (kk : Nat), mL M = l → 3 ≤ kk → Fx M G RX10 cX10_image 1 (some .int) kk 0 → (∀ w1 : Wd, w1 = setI w 40 0 0 0 → ((¬ (w1.1 40 0 36) = 3 → (vp_in (w1.1 40 0 36) 3 ∧ Con (mL M) G 2 0 yX10_putsAll cX10_putsAll 5 none w1 [.ref (G.2.1 40 0), .ref (G.2.1 72 ((w1.1 40 0 36 : Int32).toNatClampNeg)), .int 0] (fun r w4 => r = none ∧ (∀ w5 : Wd, w5 = setI w4 40 0 36 ((w4.1 40 0 36) + (1 : Int32)) → K (some (.int (w5.1 40 0 36))) w5)) X)) ∧ (¬ (¬ (w1.1 40 0 36) = 3) → K (some (.int (-1))) w1)))) :
    Con l G 3 0 yX10_image cX10_image 1 (some .int) w [.ref (G.2.1 40 0)] K X := by
  refine con_intro hl (by decide +kernel) (Nat.le_of_ble_eq_true rfl) (Nat.le_of_ble_eq_true rfl) (fun M kk hM hk F => ?_)
  have h := h M kk hM hk F
  show Z M G 0 K X w 0 [some (.ref (G.2.1 40 0))] []
  refine z_aload_n F dX10_image_0 rfl ?_
  refine z_iconst F 0 dX10_image_1 (by decide) ?_
  refine z_putIW F 0 rfl (by decide) (by decide) rfl lk_X10_95 dX10_image_2 (fun w1 hw1 => ?_)
  have h := h w1 hw1
  refine z_aload_n F dX10_image_5 rfl ?_
  refine z_getI F 36 rfl (by decide) (by decide) rfl lk_X10_204 dX10_image_6 ?_
  refine z_iconst F 3 dX10_image_9 (by decide) ?_
  refine z_icmp_ne F 15 dX10_image_10 (by decide) ⟨fun hc => ?_, fun hc => ?_⟩
  · have h := h.1 hc
    refine z_aload_n F dX10_image_15 rfl ?_
    refine z_aload_n F dX10_image_16 rfl ?_
    refine z_getR F 32 71 0 rfl (by decide) (by decide) rfl rfl rfl lk_X10_76 dX10_image_17 ?_
    refine z_aload_n F dX10_image_20 rfl ?_
    refine z_getI F 36 rfl (by decide) (by decide) rfl lk_X10_204 dX10_image_21 ?_
    obtain ⟨hb, h⟩ := h
    refine z_aald F 72 ((w1.1 40 0 36 : Int32).toNatClampNeg) rfl (by decide) (by decide) (by decide) rfl rfl hb dX10_image_24 (fun hv2 => ?_)
    refine z_iconst F 0 dX10_image_25 (by decide) ?_
    refine z_callV F (k' := 2) (mc' := 0) [.ref (G.2.1 72 ((w1.1 40 0 36 : Int32).toNatClampNeg)), .int 0] [] dX10_image_26 rfl rfl (by decide) rfl cl_X10_395 hy_X10_putsAll (by omega) (by decide) (by decide) (Nat.le_of_ble_eq_true rfl) rfl (con_mono h ?_ (fun _ _ h => h))
    rintro _ w4 ⟨rfl, h⟩
    show Z M G 0 K X w4 29 [some (.ref (G.2.1 40 0))] []
    refine z_aload_n F dX10_image_29 rfl ?_
    refine z_dup F dX10_image_30 rfl ?_
    refine z_getI F 36 rfl (by decide) (by decide) rfl lk_X10_204 dX10_image_31 ?_
    refine z_iconst F 1 dX10_image_34 (by decide) ?_
    refine z_iadd F dX10_image_35 ?_
    refine z_putIW F 36 rfl (by decide) (by decide) rfl lk_X10_204 dX10_image_36 (fun w5 hw5 => ?_)
    have h := h w5 hw5
    refine z_aload_n F dX10_image_39 rfl ?_
    refine z_getI F 36 rfl (by decide) (by decide) rfl lk_X10_204 dX10_image_40 ?_
    exact z_iret F dX10_image_43 (by decide) h
  · have h := h.2 hc
    refine z_iconst F (-1) dX10_image_13 (by decide) ?_
    exact z_iret F dX10_image_14 (by decide) h
set_option maxRecDepth 20000 in
theorem e_X10_restore {l : Launch} {G : Gx} {w : Wd}  {K : Option Value → Wd → Prop} {X : String → Wd → Prop} (hl : l.stackTraces = false)
    (h : ∀ (M : Mx) (kk : Nat), mL M = l → 3 ≤ kk → Fx M G RX10 cX10_restore 1 (some .int) kk 0 → (∀ w1 : Wd, w1 = setI w 40 0 0 0 → ((¬ (w1.1 40 0 36) = 0 → (∀ w2 : Wd, w2 = setI w1 40 0 36 ((w1.1 40 0 36) - (1 : Int32)) → (vp_in (w2.1 40 0 36) 3 ∧ Con (mL M) G 2 0 yX10_putsAll cX10_putsAll 5 none w2 [.ref (G.2.1 40 0), .ref (G.2.1 72 ((w2.1 40 0 36 : Int32).toNatClampNeg)), .int 1] (fun r w5 => r = none ∧ (∀ w6 : Wd, w6 = setI w5 40 0 35 0 → K (some (.int (w6.1 40 0 36))) w6)) X))) ∧ (¬ (¬ (w1.1 40 0 36) = 0) → K (some (.int (-1))) w1)))) :
    Con l G 3 0 yX10_restore cX10_restore 1 (some .int) w [.ref (G.2.1 40 0)] K X := by
  refine con_intro hl (by decide +kernel) (Nat.le_of_ble_eq_true rfl) (Nat.le_of_ble_eq_true rfl) (fun M kk hM hk F => ?_)
  have h := h M kk hM hk F
  show Z M G 0 K X w 0 [some (.ref (G.2.1 40 0))] []
  refine z_aload_n F dX10_restore_0 rfl ?_
  refine z_iconst F 0 dX10_restore_1 (by decide) ?_
  refine z_putIW F 0 rfl (by decide) (by decide) rfl lk_X10_95 dX10_restore_2 (fun w1 hw1 => ?_)
  have h := h w1 hw1
  refine z_aload_n F dX10_restore_5 rfl ?_
  refine z_getI F 36 rfl (by decide) (by decide) rfl lk_X10_204 dX10_restore_6 ?_
  refine z_if_ne F 14 dX10_restore_9 (by decide) ⟨fun hc => ?_, fun hc => ?_⟩
  · have h := h.1 hc
    refine z_aload_n F dX10_restore_14 rfl ?_
    refine z_dup F dX10_restore_15 rfl ?_
    refine z_getI F 36 rfl (by decide) (by decide) rfl lk_X10_204 dX10_restore_16 ?_
    refine z_iconst F 1 dX10_restore_19 (by decide) ?_
    refine z_isub F dX10_restore_20 ?_
    refine z_putIW F 36 rfl (by decide) (by decide) rfl lk_X10_204 dX10_restore_21 (fun w2 hw2 => ?_)
    have h := h w2 hw2
    refine z_aload_n F dX10_restore_24 rfl ?_
    refine z_aload_n F dX10_restore_25 rfl ?_
    refine z_getR F 32 71 0 rfl (by decide) (by decide) rfl rfl rfl lk_X10_76 dX10_restore_26 ?_
    refine z_aload_n F dX10_restore_29 rfl ?_
    refine z_getI F 36 rfl (by decide) (by decide) rfl lk_X10_204 dX10_restore_30 ?_
    obtain ⟨hb, h⟩ := h
    refine z_aald F 72 ((w2.1 40 0 36 : Int32).toNatClampNeg) rfl (by decide) (by decide) (by decide) rfl rfl hb dX10_restore_33 (fun hv3 => ?_)
    refine z_iconst F 1 dX10_restore_34 (by decide) ?_
    refine z_callV F (k' := 2) (mc' := 0) [.ref (G.2.1 72 ((w2.1 40 0 36 : Int32).toNatClampNeg)), .int 1] [] dX10_restore_35 rfl rfl (by decide) rfl cl_X10_395 hy_X10_putsAll (by omega) (by decide) (by decide) (Nat.le_of_ble_eq_true rfl) rfl (con_mono h ?_ (fun _ _ h => h))
    rintro _ w5 ⟨rfl, h⟩
    show Z M G 0 K X w5 38 [some (.ref (G.2.1 40 0))] []
    refine z_aload_n F dX10_restore_38 rfl ?_
    refine z_iconst F 0 dX10_restore_39 (by decide) ?_
    refine z_putIW F 35 rfl (by decide) (by decide) rfl lk_X10_201 dX10_restore_40 (fun w6 hw6 => ?_)
    have h := h w6 hw6
    refine z_aload_n F dX10_restore_43 rfl ?_
    refine z_getI F 36 rfl (by decide) (by decide) rfl lk_X10_204 dX10_restore_44 ?_
    exact z_iret F dX10_restore_47 (by decide) h
  · have h := h.2 hc
    refine z_iconst F (-1) dX10_restore_12 (by decide) ?_
    exact z_iret F dX10_restore_13 (by decide) h
set_option maxRecDepth 20000 in
theorem e_X10_status {l : Launch} {G : Gx} {w : Wd} {p0 : Int32} {K : Option Value → Wd → Prop} {X : String → Wd → Prop} (hl : l.stackTraces = false)
    (h : ∀ (M : Mx) (kk : Nat), mL M = l → 2 ≤ kk → Fx M G RX10 cX10_status 2 (some .int) kk 0 → (∀ w1 : Wd, w1 = setI w 40 0 0 0 → Con (mL M) G 1 0 yX10_in cX10_in 3 (some .boolean) w1 [.int p0, .int 0, .int 1] (fun r w3 => ∃ v2 : Int32, r = some (.int v2) ∧ ((v2 = 0 → K (some (.int (-1))) w3) ∧ (¬ (v2 = 0) → (vp_in p0 2 ∧ K (some (.int (w3.1 42 0 ((p0 : Int32).toNatClampNeg)))) w3)))) X)) :
    Con l G 2 0 yX10_status cX10_status 2 (some .int) w [.ref (G.2.1 40 0), .int p0] K X := by
  refine con_intro hl (by decide +kernel) (Nat.le_of_ble_eq_true rfl) (Nat.le_of_ble_eq_true rfl) (fun M kk hM hk F => ?_)
  have h := h M kk hM hk F
  show Z M G 0 K X w 0 [some (.ref (G.2.1 40 0)), some (.int p0)] []
  refine z_aload_n F dX10_status_0 rfl ?_
  refine z_iconst F 0 dX10_status_1 (by decide) ?_
  refine z_putIW F 0 rfl (by decide) (by decide) rfl lk_X10_95 dX10_status_2 (fun w1 hw1 => ?_)
  have h := h w1 hw1
  refine z_iload_n F dX10_status_5 rfl ?_
  refine z_iconst F 0 dX10_status_6 (by decide) ?_
  refine z_iconst F 1 dX10_status_7 (by decide) ?_
  refine z_callS F (k' := 1) (mc' := 0) [.int p0, .int 0, .int 1] [] dX10_status_8 rfl cl_X10_129 hy_X10_in.2 (by omega) (by decide) (by decide) (Nat.le_of_ble_eq_true rfl) rfl (con_mono h ?_ (fun _ _ h => h))
  rintro _ w3 ⟨v2, rfl, h⟩
  show Z M G 0 K X w3 11 [some (.ref (G.2.1 40 0)), some (.int p0)] [.int v2]
  refine z_if_eq F 23 dX10_status_11 (by decide) ⟨fun hc => ?_, fun hc => ?_⟩
  · have h := h.1 hc
    refine z_iconst F (-1) dX10_status_23 (by decide) ?_
    exact z_iret F dX10_status_24 (by decide) h
  · have h := h.2 hc
    refine z_aload_n F dX10_status_14 rfl ?_
    refine z_getR F 10 42 0 rfl (by decide) (by decide) rfl rfl rfl lk_X10_17 dX10_status_15 ?_
    refine z_iload_n F dX10_status_18 rfl ?_
    obtain ⟨hb, h⟩ := h
    refine z_ialdK F ((p0 : Int32).toNatClampNeg) rfl rfl (by decide) hb dX10_status_19 ?_
    refine z_goto F 24 dX10_status_20 (by decide) ?_
    exact z_iret F dX10_status_24 (by decide) h
set_option maxRecDepth 20000 in
theorem e_X10_count {l : Launch} {G : Gx} {w : Wd} {p0 : Int32} {K : Option Value → Wd → Prop} {X : String → Wd → Prop} (hl : l.stackTraces = false)
    (h : ∀ (M : Mx) (kk : Nat), mL M = l → 1 ≤ kk → Fx M G RX10 cX10_count 2 (some .int) kk 0 → (∀ w1 : Wd, w1 = setI w 40 0 0 0 → ((¬ p0 = 0 → ((¬ p0 = 1 → ((¬ p0 = 2 → K (some (.int (-1))) w1) ∧ (¬ (¬ p0 = 2) → K (some (.int (w1.1 40 0 34))) w1))) ∧ (¬ (¬ p0 = 1) → K (some (.int (w1.1 40 0 1))) w1))) ∧ (¬ (¬ p0 = 0) → K (some (.int (w1.1 40 0 36))) w1)))) :
    Con l G 1 0 yX10_count cX10_count 2 (some .int) w [.ref (G.2.1 40 0), .int p0] K X := by
  refine con_intro hl (by decide +kernel) (Nat.le_of_ble_eq_true rfl) (Nat.le_of_ble_eq_true rfl) (fun M kk hM hk F => ?_)
  have h := h M kk hM hk F
  show Z M G 0 K X w 0 [some (.ref (G.2.1 40 0)), some (.int p0)] []
  refine z_aload_n F dX10_count_0 rfl ?_
  refine z_iconst F 0 dX10_count_1 (by decide) ?_
  refine z_putIW F 0 rfl (by decide) (by decide) rfl lk_X10_95 dX10_count_2 (fun w1 hw1 => ?_)
  have h := h w1 hw1
  refine z_iload_n F dX10_count_5 rfl ?_
  refine z_if_ne F 16 dX10_count_6 (by decide) ⟨fun hc => ?_, fun hc => ?_⟩
  · have h := h.1 hc
    refine z_iload_n F dX10_count_16 rfl ?_
    refine z_iconst F 1 dX10_count_17 (by decide) ?_
    refine z_icmp_ne F 28 dX10_count_18 (by decide) ⟨fun hc => ?_, fun hc => ?_⟩
    · have h := h.1 hc
      refine z_iload_n F dX10_count_28 rfl ?_
      refine z_iconst F 2 dX10_count_29 (by decide) ?_
      refine z_icmp_ne F 40 dX10_count_30 (by decide) ⟨fun hc => ?_, fun hc => ?_⟩
      · have h := h.1 hc
        refine z_iconst F (-1) dX10_count_40 (by decide) ?_
        exact z_iret F dX10_count_41 (by decide) h
      · have h := h.2 hc
        refine z_aload_n F dX10_count_33 rfl ?_
        refine z_getI F 34 rfl (by decide) (by decide) rfl lk_X10_198 dX10_count_34 ?_
        refine z_goto F 41 dX10_count_37 (by decide) ?_
        exact z_iret F dX10_count_41 (by decide) h
    · have h := h.2 hc
      refine z_aload_n F dX10_count_21 rfl ?_
      refine z_getI F 1 rfl (by decide) (by decide) rfl lk_X10_98 dX10_count_22 ?_
      refine z_goto F 41 dX10_count_25 (by decide) ?_
      exact z_iret F dX10_count_41 (by decide) h
  · have h := h.2 hc
    refine z_aload_n F dX10_count_9 rfl ?_
    refine z_getI F 36 rfl (by decide) (by decide) rfl lk_X10_204 dX10_count_10 ?_
    refine z_goto F 41 dX10_count_13 (by decide) ?_
    exact z_iret F dX10_count_41 (by decide) h
