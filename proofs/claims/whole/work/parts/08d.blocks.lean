set_option maxRecDepth 20000 in
theorem e_X9_spare {l : Launch} {G : Gx} {w : Wd} {p0 : Int32} {K : Option Value → Wd → Prop} {X : String → Wd → Prop} (hl : l.stackTraces = false)
    (h : ∀ (M : Mx) (kk : Nat), mL M = l → 7 ≤ kk → Fx M G RX9 cX9_spare 5 (some .int) kk 1 → Con (mL M) G 1 0 yX9_within cX9_within 3 (some .boolean) w [.int p0, .int 0, .int 1] (fun r w2 => ∃ v1 : Int32, r = some (.int v1) ∧ Con (mL M) G 6 1 yX9_demand cX9_demand 2 none w2 [.ref (G.2.1 0 0), .int v1] (fun r w4 => r = none ∧ Z M G 1 K X w4 26 [some (.ref (G.2.1 0 0)), some (.int p0), some (.ref (G.2.1 17 0)), some (.int (-1)), some (.int 0)] []) X) X) :
    Con l G 7 1 yX9_spare cX9_spare 5 (some .int) w [.ref (G.2.1 0 0), .int p0] K X := by
  refine con_intro hl (by decide +kernel) (Nat.le_of_ble_eq_true rfl) (Nat.le_of_ble_eq_true rfl) (fun M kk hM hk F => ?_)
  have h := h M kk hM hk F
  show Z M G 0 K X w 0 [some (.ref (G.2.1 0 0)), some (.int p0), none, none, none] []
  refine z_aload_n F dX9_spare_0 rfl ?_
  refine z_iload_n F dX9_spare_1 rfl ?_
  refine z_iconst F 0 dX9_spare_2 (by decide) ?_
  refine z_iconst F 1 dX9_spare_3 (by decide) ?_
  refine z_callS F (k' := 1) (mc' := 0) [.int p0, .int 0, .int 1] [.ref (G.2.1 0 0)] dX9_spare_4 rfl cl_X9_168 hy_X9_within.2 (by omega) (by decide) (by decide) (Nat.le_of_ble_eq_true rfl) rfl (con_mono h ?_ (fun _ _ h => h))
  rintro _ w2 ⟨v1, rfl, h⟩
  show Z M G 0 K X w2 7 [some (.ref (G.2.1 0 0)), some (.int p0), none, none, none] [.int v1, .ref (G.2.1 0 0)]
  refine z_callV F (k' := 6) (mc' := 1) [.int v1] [] dX9_spare_7 rfl rfl (by decide) rfl cl_X9_172 hy_X9_demand (by omega) (by decide) (by decide) (Nat.le_of_ble_eq_true rfl) rfl (con_mono h ?_ (fun _ _ h => h))
  rintro _ w4 ⟨rfl, h⟩
  show Z M G 1 K X w4 10 [some (.ref (G.2.1 0 0)), some (.int p0), none, none, none] []
  refine z_aload_n F dX9_spare_10 rfl ?_
  refine z_getR F 3 4 0 rfl (by decide) (by decide) rfl rfl rfl lk_X9_33 dX9_spare_11 ?_
  refine z_getR F 1 5 0 rfl (by decide) (by decide) rfl rfl rfl lk_X9_128 dX9_spare_14 ?_
  refine z_getR F 3 17 0 rfl (by decide) (by decide) rfl rfl rfl lk_X9_198 dX9_spare_17 ?_
  refine z_astore_n F dX9_spare_20 (Nat.le_of_ble_eq_true rfl) ?_
  refine z_iconst F (-1) dX9_spare_21 (by decide) ?_
  refine z_istore_n F dX9_spare_22 (Nat.le_of_ble_eq_true rfl) ?_
  refine z_iconst F 0 dX9_spare_23 (by decide) ?_
  refine z_istore F dX9_spare_24 (Nat.le_of_ble_eq_true rfl) ?_
  exact h
set_option maxRecDepth 20000 in
theorem b_X9_spare_26 {M : Mx} {G : Gx} {kk : Nat} {w : Wd}  {x1 : Int32} {x3 : Int32} {x4 : Int32} {K : Option Value → Wd → Prop} {X : String → Wd → Prop} (F : Fx M G RX9 cX9_spare 5 (some .int) kk 1) (hk : 7 ≤ kk)
    (h : (((w.1 7 (w.2.2 2 0 0) 0) ≤ x4 → ((x1 = 0 → K (some (.int x3)) w) ∧ (¬ (x1 = 0) → ((¬ x3 = (-1) → (vp_in x3 7 ∧ K (some (.int (w.1 17 0 ((x3 : Int32).toNatClampNeg)))) w)) ∧ (¬ (¬ x3 = (-1)) → K (some (.int x3)) w))))) ∧ (¬ ((w.1 7 (w.2.2 2 0 0) 0) ≤ x4) → ((x3 = (-1) → Z M G 1 K X w 26 [some (.ref (G.2.1 0 0)), some (.int x1), some (.ref (G.2.1 17 0)), some (.int x4), some (.int (x4 + 1))] []) ∧ (¬ (x3 = (-1)) → (vp_in x4 7 ∧ (vp_in x3 7 ∧ (((w.1 17 0 ((x3 : Int32).toNatClampNeg)) ≤ (w.1 17 0 ((x4 : Int32).toNatClampNeg)) → Z M G 1 K X w 26 [some (.ref (G.2.1 0 0)), some (.int x1), some (.ref (G.2.1 17 0)), some (.int x3), some (.int (x4 + 1))] []) ∧ (¬ ((w.1 17 0 ((x3 : Int32).toNatClampNeg)) ≤ (w.1 17 0 ((x4 : Int32).toNatClampNeg))) → Z M G 1 K X w 26 [some (.ref (G.2.1 0 0)), some (.int x1), some (.ref (G.2.1 17 0)), some (.int x4), some (.int (x4 + 1))] []))))))))) :
    Z M G 1 K X w 26 [some (.ref (G.2.1 0 0)), some (.int x1), some (.ref (G.2.1 17 0)), some (.int x3), some (.int x4)] [] := by
  refine z_iload F dX9_spare_26 rfl ?_
  refine z_aload_n F dX9_spare_28 rfl ?_
  refine z_getR F 1 2 0 rfl (by decide) (by decide) rfl rfl rfl lk_X9_19 dX9_spare_29 ?_
  refine z_getD F 0 7 rfl (by decide) (by decide) rfl rfl lk_X9_106 dX9_spare_32 (fun hv1 => ?_)
  refine z_getI F 0 rfl hv1 (by decide) rfl lk_X9_112 dX9_spare_35 ?_
  refine z_icmp_ge F 65 dX9_spare_38 (by decide) ⟨fun hc => ?_, fun hc => ?_⟩
  · have h := h.1 hc
    refine z_iload_n F dX9_spare_65 rfl ?_
    refine z_if_eq F 74 dX9_spare_66 (by decide) ⟨fun hc => ?_, fun hc => ?_⟩
    · have h := h.1 hc
      refine z_iload_n F dX9_spare_74 rfl ?_
      refine z_goto F 81 dX9_spare_75 (by decide) ?_
      exact z_iret F dX9_spare_81 (by decide) h
    · have h := h.2 hc
      refine z_iload_n F dX9_spare_69 rfl ?_
      refine z_iconst F (-1) dX9_spare_70 (by decide) ?_
      refine z_icmp_ne F 78 dX9_spare_71 (by decide) ⟨fun hc => ?_, fun hc => ?_⟩
      · have h := h.1 hc
        refine z_aload_n F dX9_spare_78 rfl ?_
        refine z_iload_n F dX9_spare_79 rfl ?_
        obtain ⟨hb, h⟩ := h
        refine z_ialdK F ((x3 : Int32).toNatClampNeg) rfl rfl (by decide) hb dX9_spare_80 ?_
        exact z_iret F dX9_spare_81 (by decide) h
      · have h := h.2 hc
        refine z_iload_n F dX9_spare_74 rfl ?_
        refine z_goto F 81 dX9_spare_75 (by decide) ?_
        exact z_iret F dX9_spare_81 (by decide) h
  · have h := h.2 hc
    refine z_iload_n F dX9_spare_41 rfl ?_
    refine z_iconst F (-1) dX9_spare_42 (by decide) ?_
    refine z_icmp_eq F 56 dX9_spare_43 (by decide) ⟨fun hc => ?_, fun hc => ?_⟩
    · have h := h.1 hc
      refine z_iload F dX9_spare_56 rfl ?_
      refine z_istore_n F dX9_spare_58 (Nat.le_of_ble_eq_true rfl) ?_
      refine z_iinc F (x4 + 1) dX9_spare_59 rfl rfl (Nat.le_of_ble_eq_true rfl) ?_
      refine z_goto F 26 dX9_spare_62 (by decide) ?_
      exact h
    · have h := h.2 hc
      refine z_aload_n F dX9_spare_46 rfl ?_
      refine z_iload F dX9_spare_47 rfl ?_
      obtain ⟨hb, h⟩ := h
      refine z_ialdK F ((x4 : Int32).toNatClampNeg) rfl rfl (by decide) hb dX9_spare_49 ?_
      refine z_aload_n F dX9_spare_50 rfl ?_
      refine z_iload_n F dX9_spare_51 rfl ?_
      obtain ⟨hb, h⟩ := h
      refine z_ialdK F ((x3 : Int32).toNatClampNeg) rfl rfl (by decide) hb dX9_spare_52 ?_
      refine z_icmp_ge F 59 dX9_spare_53 (by decide) ⟨fun hc => ?_, fun hc => ?_⟩
      · have h := h.1 hc
        refine z_iinc F (x4 + 1) dX9_spare_59 rfl rfl (Nat.le_of_ble_eq_true rfl) ?_
        refine z_goto F 26 dX9_spare_62 (by decide) ?_
        exact h
      · have h := h.2 hc
        refine z_iload F dX9_spare_56 rfl ?_
        refine z_istore_n F dX9_spare_58 (Nat.le_of_ble_eq_true rfl) ?_
        refine z_iinc F (x4 + 1) dX9_spare_59 rfl rfl (Nat.le_of_ble_eq_true rfl) ?_
        refine z_goto F 26 dX9_spare_62 (by decide) ?_
        exact h
set_option maxRecDepth 20000 in
theorem e_X9_sunday {l : Launch} {G : Gx} {w : Wd} {p0 : Int32} {p1 : Int32} {p2 : Int32} {p3 : Int32} {K : Option Value → Wd → Prop} {X : String → Wd → Prop} (hl : l.stackTraces = false)
    (h : ∀ (M : Mx) (kk : Nat), mL M = l → 7 ≤ kk → Fx M G RX9 cX9_sunday 5 (some .int) kk 1 → Con (mL M) G 1 0 yX9_within cX9_within 3 (some .boolean) w [.int p1, .int 1, .int 48] (fun r w2 => ∃ v1 : Int32, r = some (.int v1) ∧ ((v1 = 0 → Z M G 0 K X w2 35 [some (.ref (G.2.1 0 0)), some (.int p0), some (.int p1), some (.int p2), some (.int p3)] [.ref (G.2.1 0 0)]) ∧ (¬ (v1 = 0) → Con (mL M) G 1 0 yX9_within cX9_within 3 (some .boolean) w2 [.int p2, .int 0, .int 16] (fun r w4 => ∃ v3 : Int32, r = some (.int v3) ∧ ((v3 = 0 → Z M G 0 K X w4 35 [some (.ref (G.2.1 0 0)), some (.int p0), some (.int p1), some (.int p2), some (.int p3)] [.ref (G.2.1 0 0)]) ∧ (¬ (v3 = 0) → Con (mL M) G 1 0 yX9_within cX9_within 3 (some .boolean) w4 [.int p3, .int 0, .int 3] (fun r w6 => ∃ v5 : Int32, r = some (.int v5) ∧ ((v5 = 0 → Z M G 0 K X w6 35 [some (.ref (G.2.1 0 0)), some (.int p0), some (.int p1), some (.int p2), some (.int p3)] [.ref (G.2.1 0 0)]) ∧ (¬ (v5 = 0) → Z M G 0 K X w6 36 [some (.ref (G.2.1 0 0)), some (.int p0), some (.int p1), some (.int p2), some (.int p3)] [.int 1, .ref (G.2.1 0 0)]))) X))) X))) X) :
    Con l G 7 1 yX9_sunday cX9_sunday 5 (some .int) w [.ref (G.2.1 0 0), .int p0, .int p1, .int p2, .int p3] K X := by
  refine con_intro hl (by decide +kernel) (Nat.le_of_ble_eq_true rfl) (Nat.le_of_ble_eq_true rfl) (fun M kk hM hk F => ?_)
  have h := h M kk hM hk F
  show Z M G 0 K X w 0 [some (.ref (G.2.1 0 0)), some (.int p0), some (.int p1), some (.int p2), some (.int p3)] []
  refine z_aload_n F dX9_sunday_0 rfl ?_
  refine z_iload_n F dX9_sunday_1 rfl ?_
  refine z_iconst F 1 dX9_sunday_2 (by decide) ?_
  refine z_bipush F 48 dX9_sunday_3 (by decide) ?_
  refine z_callS F (k' := 1) (mc' := 0) [.int p1, .int 1, .int 48] [.ref (G.2.1 0 0)] dX9_sunday_5 rfl cl_X9_168 hy_X9_within.2 (by omega) (by decide) (by decide) (Nat.le_of_ble_eq_true rfl) rfl (con_mono h ?_ (fun _ _ h => h))
  rintro _ w2 ⟨v1, rfl, h⟩
  show Z M G 0 K X w2 8 [some (.ref (G.2.1 0 0)), some (.int p0), some (.int p1), some (.int p2), some (.int p3)] [.int v1, .ref (G.2.1 0 0)]
  refine z_if_eq F 35 dX9_sunday_8 (by decide) ⟨fun hc => ?_, fun hc => ?_⟩
  · have h := h.1 hc
    exact h
  · have h := h.2 hc
    refine z_iload_n F dX9_sunday_11 rfl ?_
    refine z_iconst F 0 dX9_sunday_12 (by decide) ?_
    refine z_bipush F 16 dX9_sunday_13 (by decide) ?_
    refine z_callS F (k' := 1) (mc' := 0) [.int p2, .int 0, .int 16] [.ref (G.2.1 0 0)] dX9_sunday_15 rfl cl_X9_168 hy_X9_within.2 (by omega) (by decide) (by decide) (Nat.le_of_ble_eq_true rfl) rfl (con_mono h ?_ (fun _ _ h => h))
    rintro _ w4 ⟨v3, rfl, h⟩
    show Z M G 0 K X w4 18 [some (.ref (G.2.1 0 0)), some (.int p0), some (.int p1), some (.int p2), some (.int p3)] [.int v3, .ref (G.2.1 0 0)]
    refine z_if_eq F 35 dX9_sunday_18 (by decide) ⟨fun hc => ?_, fun hc => ?_⟩
    · have h := h.1 hc
      exact h
    · have h := h.2 hc
      refine z_iload F dX9_sunday_21 rfl ?_
      refine z_iconst F 0 dX9_sunday_23 (by decide) ?_
      refine z_iconst F 3 dX9_sunday_24 (by decide) ?_
      refine z_callS F (k' := 1) (mc' := 0) [.int p3, .int 0, .int 3] [.ref (G.2.1 0 0)] dX9_sunday_25 rfl cl_X9_168 hy_X9_within.2 (by omega) (by decide) (by decide) (Nat.le_of_ble_eq_true rfl) rfl (con_mono h ?_ (fun _ _ h => h))
      rintro _ w6 ⟨v5, rfl, h⟩
      show Z M G 0 K X w6 28 [some (.ref (G.2.1 0 0)), some (.int p0), some (.int p1), some (.int p2), some (.int p3)] [.int v5, .ref (G.2.1 0 0)]
      refine z_if_eq F 35 dX9_sunday_28 (by decide) ⟨fun hc => ?_, fun hc => ?_⟩
      · have h := h.1 hc
        exact h
      · have h := h.2 hc
        refine z_iconst F 1 dX9_sunday_31 (by decide) ?_
        refine z_goto F 36 dX9_sunday_32 (by decide) ?_
        exact h
set_option maxRecDepth 20000 in
theorem b_X9_sunday_35 {M : Mx} {G : Gx} {kk : Nat} {w : Wd}  {x1 : Int32} {x2 : Int32} {x3 : Int32} {x4 : Int32} {K : Option Value → Wd → Prop} {X : String → Wd → Prop} (F : Fx M G RX9 cX9_sunday 5 (some .int) kk 1) (hk : 7 ≤ kk)
    (h : Z M G 0 K X w 36 [some (.ref (G.2.1 0 0)), some (.int x1), some (.int x2), some (.int x3), some (.int x4)] [.int 0, .ref (G.2.1 0 0)]) :
    Z M G 0 K X w 35 [some (.ref (G.2.1 0 0)), some (.int x1), some (.int x2), some (.int x3), some (.int x4)] [.ref (G.2.1 0 0)] := by
  refine z_iconst F 0 dX9_sunday_35 (by decide) ?_
  exact h
set_option maxRecDepth 20000 in
theorem b_X9_sunday_36 {M : Mx} {G : Gx} {kk : Nat} {w : Wd}  {x1 : Int32} {x2 : Int32} {x3 : Int32} {x4 : Int32} {s0 : Int32} {K : Option Value → Wd → Prop} {X : String → Wd → Prop} (F : Fx M G RX9 cX9_sunday 5 (some .int) kk 1) (hk : 7 ≤ kk)
    (h : Con (mL M) G 6 1 yX9_demand cX9_demand 2 none w [.ref (G.2.1 0 0), .int s0] (fun r w2 => r = none ∧ Con (mL M) G 6 0 yX9_liveSunday cX9_liveSunday 6 none w2 [.ref (G.2.1 0 0), .int x1, .int x2, .int x3] (fun r w4 => r = none ∧ ((x4 = 0 → K (some (.int ((w4.1 5 68 2) - (w4.1 5 0 2)))) w4) ∧ (x4 = 1 → K (some (.int (w4.1 5 68 1))) w4) ∧ (x4 = 2 → Con (mL M) G 1 0 yX9_total cX9_total 3 (some .int) w4 [.ref (G.2.1 19 68)] (fun r w6 => ∃ v5 : Int32, r = some (.int v5) ∧ K (some (.int v5)) w6) X) ∧ (¬ x4 = 0 ∧ ¬ x4 = 1 ∧ ¬ x4 = 2 → Con (mL M) G 1 0 yX9_total cX9_total 3 (some .int) w4 [.ref (G.2.1 18 68)] (fun r w8 => ∃ v7 : Int32, r = some (.int v7) ∧ Con (mL M) G 1 0 yX9_total cX9_total 3 (some .int) w8 [.ref (G.2.1 18 0)] (fun r w10 => ∃ v9 : Int32, r = some (.int v9) ∧ K (some (.int (v7 - v9))) w10) X) X))) X) X) :
    Z M G 0 K X w 36 [some (.ref (G.2.1 0 0)), some (.int x1), some (.int x2), some (.int x3), some (.int x4)] [.int s0, .ref (G.2.1 0 0)] := by
  refine z_callV F (k' := 6) (mc' := 1) [.int s0] [] dX9_sunday_36 rfl rfl (by decide) rfl cl_X9_172 hy_X9_demand (by omega) (by decide) (by decide) (Nat.le_of_ble_eq_true rfl) rfl (con_mono h ?_ (fun _ _ h => h))
  rintro _ w2 ⟨rfl, h⟩
  show Z M G 1 K X w2 39 [some (.ref (G.2.1 0 0)), some (.int x1), some (.int x2), some (.int x3), some (.int x4)] []
  refine z_aload_n F dX9_sunday_39 rfl ?_
  refine z_iload_n F dX9_sunday_40 rfl ?_
  refine z_iload_n F dX9_sunday_41 rfl ?_
  refine z_iload_n F dX9_sunday_42 rfl ?_
  refine z_callV F (k' := 6) (mc' := 0) [.int x1, .int x2, .int x3] [] dX9_sunday_43 rfl rfl (by decide) rfl cl_X9_342 hy_X9_liveSunday (by omega) (by decide) (by decide) (Nat.le_of_ble_eq_true rfl) rfl (con_mono h ?_ (fun _ _ h => h))
  rintro _ w4 ⟨rfl, h⟩
  show Z M G 1 K X w4 46 [some (.ref (G.2.1 0 0)), some (.int x1), some (.int x2), some (.int x3), some (.int x4)] []
  refine z_iload F dX9_sunday_46 rfl ?_
  by_cases hc0 : x4 = 0
  · have h := h.1 hc0
    refine z_tabIn F 76 dX9_sunday_48 (by rw [hc0]; decide) (by rw [hc0]; decide) (by rw [hc0]; rfl) (by decide) ?_
    refine z_aload_n F dX9_sunday_76 rfl ?_
    refine z_getR F 5 5 68 rfl (by decide) (by decide) rfl rfl rfl lk_X9_44 dX9_sunday_77 ?_
    refine z_getI F 2 rfl (by decide) (by decide) rfl lk_X9_185 dX9_sunday_80 ?_
    refine z_aload_n F dX9_sunday_83 rfl ?_
    refine z_getR F 3 4 0 rfl (by decide) (by decide) rfl rfl rfl lk_X9_33 dX9_sunday_84 ?_
    refine z_getR F 1 5 0 rfl (by decide) (by decide) rfl rfl rfl lk_X9_128 dX9_sunday_87 ?_
    refine z_getI F 2 rfl (by decide) (by decide) rfl lk_X9_185 dX9_sunday_90 ?_
    refine z_isub F dX9_sunday_93 ?_
    exact z_iret F dX9_sunday_94 (by decide) h
  by_cases hc1 : x4 = 1
  · have h := h.2.1 hc1
    refine z_tabIn F 95 dX9_sunday_48 (by rw [hc1]; decide) (by rw [hc1]; decide) (by rw [hc1]; rfl) (by decide) ?_
    refine z_aload_n F dX9_sunday_95 rfl ?_
    refine z_getR F 5 5 68 rfl (by decide) (by decide) rfl rfl rfl lk_X9_44 dX9_sunday_96 ?_
    refine z_getI F 1 rfl (by decide) (by decide) rfl lk_X9_182 dX9_sunday_99 ?_
    exact z_iret F dX9_sunday_102 (by decide) h
  by_cases hc2 : x4 = 2
  · have h := h.2.2.1 hc2
    refine z_tabIn F 103 dX9_sunday_48 (by rw [hc2]; decide) (by rw [hc2]; decide) (by rw [hc2]; rfl) (by decide) ?_
    refine z_aload_n F dX9_sunday_103 rfl ?_
    refine z_getR F 5 5 68 rfl (by decide) (by decide) rfl rfl rfl lk_X9_44 dX9_sunday_104 ?_
    refine z_getR F 5 19 68 rfl (by decide) (by decide) rfl rfl rfl lk_X9_195 dX9_sunday_107 ?_
    refine z_callS F (k' := 1) (mc' := 0) [.ref (G.2.1 19 68)] [] dX9_sunday_110 rfl cl_X9_191 hy_X9_total.2 (by omega) (by decide) (by decide) (Nat.le_of_ble_eq_true rfl) rfl (con_mono h ?_ (fun _ _ h => h))
    rintro _ w6 ⟨v5, rfl, h⟩
    show Z M G 1 K X w6 113 [some (.ref (G.2.1 0 0)), some (.int x1), some (.int x2), some (.int x3), some (.int x4)] [.int v5]
    exact z_iret F dX9_sunday_113 (by decide) h
  have e0 := lv_neT hc0 (show (0 : Int32).toInt = 0 by decide)
  have e1 := lv_neT hc1 (show (1 : Int32).toInt = 1 by decide)
  have e2 := lv_neT hc2 (show (2 : Int32).toInt = 2 by decide)
  have h := h.2.2.2 ⟨hc0, hc1, hc2⟩
  refine z_tabOut F 114 dX9_sunday_48 (by omega) (by decide) ?_
  refine z_aload_n F dX9_sunday_114 rfl ?_
  refine z_getR F 5 5 68 rfl (by decide) (by decide) rfl rfl rfl lk_X9_44 dX9_sunday_115 ?_
  refine z_getR F 4 18 68 rfl (by decide) (by decide) rfl rfl rfl lk_X9_188 dX9_sunday_118 ?_
  refine z_callS F (k' := 1) (mc' := 0) [.ref (G.2.1 18 68)] [] dX9_sunday_121 rfl cl_X9_191 hy_X9_total.2 (by omega) (by decide) (by decide) (Nat.le_of_ble_eq_true rfl) rfl (con_mono h ?_ (fun _ _ h => h))
  rintro _ w8 ⟨v7, rfl, h⟩
  show Z M G 1 K X w8 124 [some (.ref (G.2.1 0 0)), some (.int x1), some (.int x2), some (.int x3), some (.int x4)] [.int v7]
  refine z_aload_n F dX9_sunday_124 rfl ?_
  refine z_getR F 3 4 0 rfl (by decide) (by decide) rfl rfl rfl lk_X9_33 dX9_sunday_125 ?_
  refine z_getR F 1 5 0 rfl (by decide) (by decide) rfl rfl rfl lk_X9_128 dX9_sunday_128 ?_
  refine z_getR F 4 18 0 rfl (by decide) (by decide) rfl rfl rfl lk_X9_188 dX9_sunday_131 ?_
  refine z_callS F (k' := 1) (mc' := 0) [.ref (G.2.1 18 0)] [.int v7] dX9_sunday_134 rfl cl_X9_191 hy_X9_total.2 (by omega) (by decide) (by decide) (Nat.le_of_ble_eq_true rfl) rfl (con_mono h ?_ (fun _ _ h => h))
  rintro _ w10 ⟨v9, rfl, h⟩
  show Z M G 1 K X w10 137 [some (.ref (G.2.1 0 0)), some (.int x1), some (.int x2), some (.int x3), some (.int x4)] [.int v9, .int v7]
  refine z_isub F dX9_sunday_137 ?_
  exact z_iret F dX9_sunday_138 (by decide) h
set_option maxRecDepth 20000 in
theorem e_X9_span {l : Launch} {G : Gx} {w : Wd} {p0 : Int32} {p1 : Int32} {p2 : Int32} {p3 : Int32} {p4 : Int32} {p5 : Int32} {K : Option Value → Wd → Prop} {X : String → Wd → Prop} (hl : l.stackTraces = false)
    (h : ∀ (M : Mx) (kk : Nat), mL M = l → 7 ≤ kk → Fx M G RX9 cX9_span 12 (some .int) kk 2 → Con (mL M) G 1 0 yX9_within cX9_within 3 (some .boolean) w [.int p1, .int 1, .int 10] (fun r w2 => ∃ v1 : Int32, r = some (.int v1) ∧ ((v1 = 0 → Z M G 0 K X w2 36 [some (.ref (G.2.1 0 0)), some (.int p0), some (.int p1), some (.int p2), some (.int p3), some (.int p4), some (.int p5), none, none, none, none, none] [.ref (G.2.1 0 0)]) ∧ (¬ (v1 = 0) → Con (mL M) G 1 0 yX9_within cX9_within 3 (some .boolean) w2 [.int p2, .int 1, .int 48] (fun r w4 => ∃ v3 : Int32, r = some (.int v3) ∧ ((v3 = 0 → Z M G 0 K X w4 36 [some (.ref (G.2.1 0 0)), some (.int p0), some (.int p1), some (.int p2), some (.int p3), some (.int p4), some (.int p5), none, none, none, none, none] [.ref (G.2.1 0 0)]) ∧ (¬ (v3 = 0) → Con (mL M) G 1 0 yX9_within cX9_within 3 (some .boolean) w4 [.int p3, .int 0, .int 16] (fun r w6 => ∃ v5 : Int32, r = some (.int v5) ∧ ((v5 = 0 → Z M G 0 K X w6 36 [some (.ref (G.2.1 0 0)), some (.int p0), some (.int p1), some (.int p2), some (.int p3), some (.int p4), some (.int p5), none, none, none, none, none] [.ref (G.2.1 0 0)]) ∧ (¬ (v5 = 0) → Z M G 0 K X w6 37 [some (.ref (G.2.1 0 0)), some (.int p0), some (.int p1), some (.int p2), some (.int p3), some (.int p4), some (.int p5), none, none, none, none, none] [.int 1, .ref (G.2.1 0 0)]))) X))) X))) X) :
    Con l G 7 2 yX9_span cX9_span 12 (some .int) w [.ref (G.2.1 0 0), .int p0, .int p1, .int p2, .int p3, .int p4, .int p5] K X := by
  refine con_intro hl (by decide +kernel) (Nat.le_of_ble_eq_true rfl) (Nat.le_of_ble_eq_true rfl) (fun M kk hM hk F => ?_)
  have h := h M kk hM hk F
  show Z M G 0 K X w 0 [some (.ref (G.2.1 0 0)), some (.int p0), some (.int p1), some (.int p2), some (.int p3), some (.int p4), some (.int p5), none, none, none, none, none] []
  refine z_aload_n F dX9_span_0 rfl ?_
  refine z_iload_n F dX9_span_1 rfl ?_
  refine z_iconst F 1 dX9_span_2 (by decide) ?_
  refine z_bipush F 10 dX9_span_3 (by decide) ?_
  refine z_callS F (k' := 1) (mc' := 0) [.int p1, .int 1, .int 10] [.ref (G.2.1 0 0)] dX9_span_5 rfl cl_X9_168 hy_X9_within.2 (by omega) (by decide) (by decide) (Nat.le_of_ble_eq_true rfl) rfl (con_mono h ?_ (fun _ _ h => h))
  rintro _ w2 ⟨v1, rfl, h⟩
  show Z M G 0 K X w2 8 [some (.ref (G.2.1 0 0)), some (.int p0), some (.int p1), some (.int p2), some (.int p3), some (.int p4), some (.int p5), none, none, none, none, none] [.int v1, .ref (G.2.1 0 0)]
  refine z_if_eq F 36 dX9_span_8 (by decide) ⟨fun hc => ?_, fun hc => ?_⟩
  · have h := h.1 hc
    exact h
  · have h := h.2 hc
    refine z_iload_n F dX9_span_11 rfl ?_
    refine z_iconst F 1 dX9_span_12 (by decide) ?_
    refine z_bipush F 48 dX9_span_13 (by decide) ?_
    refine z_callS F (k' := 1) (mc' := 0) [.int p2, .int 1, .int 48] [.ref (G.2.1 0 0)] dX9_span_15 rfl cl_X9_168 hy_X9_within.2 (by omega) (by decide) (by decide) (Nat.le_of_ble_eq_true rfl) rfl (con_mono h ?_ (fun _ _ h => h))
    rintro _ w4 ⟨v3, rfl, h⟩
    show Z M G 0 K X w4 18 [some (.ref (G.2.1 0 0)), some (.int p0), some (.int p1), some (.int p2), some (.int p3), some (.int p4), some (.int p5), none, none, none, none, none] [.int v3, .ref (G.2.1 0 0)]
    refine z_if_eq F 36 dX9_span_18 (by decide) ⟨fun hc => ?_, fun hc => ?_⟩
    · have h := h.1 hc
      exact h
    · have h := h.2 hc
      refine z_iload F dX9_span_21 rfl ?_
      refine z_iconst F 0 dX9_span_23 (by decide) ?_
      refine z_bipush F 16 dX9_span_24 (by decide) ?_
      refine z_callS F (k' := 1) (mc' := 0) [.int p3, .int 0, .int 16] [.ref (G.2.1 0 0)] dX9_span_26 rfl cl_X9_168 hy_X9_within.2 (by omega) (by decide) (by decide) (Nat.le_of_ble_eq_true rfl) rfl (con_mono h ?_ (fun _ _ h => h))
      rintro _ w6 ⟨v5, rfl, h⟩
      show Z M G 0 K X w6 29 [some (.ref (G.2.1 0 0)), some (.int p0), some (.int p1), some (.int p2), some (.int p3), some (.int p4), some (.int p5), none, none, none, none, none] [.int v5, .ref (G.2.1 0 0)]
      refine z_if_eq F 36 dX9_span_29 (by decide) ⟨fun hc => ?_, fun hc => ?_⟩
      · have h := h.1 hc
        exact h
      · have h := h.2 hc
        refine z_iconst F 1 dX9_span_32 (by decide) ?_
        refine z_goto F 37 dX9_span_33 (by decide) ?_
        exact h
set_option maxRecDepth 20000 in
theorem b_X9_span_36 {M : Mx} {G : Gx} {kk : Nat} {w : Wd}  {x1 : Int32} {x2 : Int32} {x3 : Int32} {x4 : Int32} {x5 : Int32} {x6 : Int32} {K : Option Value → Wd → Prop} {X : String → Wd → Prop} (F : Fx M G RX9 cX9_span 12 (some .int) kk 2) (hk : 7 ≤ kk)
    (h : Z M G 0 K X w 37 [some (.ref (G.2.1 0 0)), some (.int x1), some (.int x2), some (.int x3), some (.int x4), some (.int x5), some (.int x6), none, none, none, none, none] [.int 0, .ref (G.2.1 0 0)]) :
    Z M G 0 K X w 36 [some (.ref (G.2.1 0 0)), some (.int x1), some (.int x2), some (.int x3), some (.int x4), some (.int x5), some (.int x6), none, none, none, none, none] [.ref (G.2.1 0 0)] := by
  refine z_iconst F 0 dX9_span_36 (by decide) ?_
  exact h
set_option maxRecDepth 20000 in
theorem b_X9_span_37 {M : Mx} {G : Gx} {kk : Nat} {w : Wd}  {x1 : Int32} {x2 : Int32} {x3 : Int32} {x4 : Int32} {x5 : Int32} {x6 : Int32} {s0 : Int32} {K : Option Value → Wd → Prop} {X : String → Wd → Prop} (F : Fx M G RX9 cX9_span 12 (some .int) kk 2) (hk : 7 ≤ kk)
    (h : Con (mL M) G 6 1 yX9_demand cX9_demand 2 none w [.ref (G.2.1 0 0), .int s0] (fun r w2 => r = none ∧ Con (mL M) G 1 0 yX9_within cX9_within 3 (some .boolean) w2 [.int x5, .int 0, .int 2] (fun r w4 => ∃ v3 : Int32, r = some (.int v3) ∧ ((v3 = 0 → Z M G 1 K X w4 64 [some (.ref (G.2.1 0 0)), some (.int x1), some (.int x2), some (.int x3), some (.int x4), some (.int x5), some (.int x6), none, none, none, none, none] [.ref (G.2.1 0 0)]) ∧ (¬ (v3 = 0) → Con (mL M) G 1 0 yX9_isSinger cX9_isSinger 2 (some .boolean) w4 [.ref (G.2.1 0 0), .int x6] (fun r w6 => ∃ v5 : Int32, r = some (.int v5) ∧ ((v5 = 0 → Z M G 1 K X w6 64 [some (.ref (G.2.1 0 0)), some (.int x1), some (.int x2), some (.int x3), some (.int x4), some (.int x5), some (.int x6), none, none, none, none, none] [.ref (G.2.1 0 0)]) ∧ (¬ (v5 = 0) → Z M G 1 K X w6 65 [some (.ref (G.2.1 0 0)), some (.int x1), some (.int x2), some (.int x3), some (.int x4), some (.int x5), some (.int x6), none, none, none, none, none] [.int 1, .ref (G.2.1 0 0)]))) X))) X) X) :
    Z M G 0 K X w 37 [some (.ref (G.2.1 0 0)), some (.int x1), some (.int x2), some (.int x3), some (.int x4), some (.int x5), some (.int x6), none, none, none, none, none] [.int s0, .ref (G.2.1 0 0)] := by
  refine z_callV F (k' := 6) (mc' := 1) [.int s0] [] dX9_span_37 rfl rfl (by decide) rfl cl_X9_172 hy_X9_demand (by omega) (by decide) (by decide) (Nat.le_of_ble_eq_true rfl) rfl (con_mono h ?_ (fun _ _ h => h))
  rintro _ w2 ⟨rfl, h⟩
  show Z M G 1 K X w2 40 [some (.ref (G.2.1 0 0)), some (.int x1), some (.int x2), some (.int x3), some (.int x4), some (.int x5), some (.int x6), none, none, none, none, none] []
  refine z_aload_n F dX9_span_40 rfl ?_
  refine z_iload F dX9_span_41 rfl ?_
  refine z_iconst F 0 dX9_span_43 (by decide) ?_
  refine z_iconst F 2 dX9_span_44 (by decide) ?_
  refine z_callS F (k' := 1) (mc' := 0) [.int x5, .int 0, .int 2] [.ref (G.2.1 0 0)] dX9_span_45 rfl cl_X9_168 hy_X9_within.2 (by omega) (by decide) (by decide) (Nat.le_of_ble_eq_true rfl) rfl (con_mono h ?_ (fun _ _ h => h))
  rintro _ w4 ⟨v3, rfl, h⟩
  show Z M G 1 K X w4 48 [some (.ref (G.2.1 0 0)), some (.int x1), some (.int x2), some (.int x3), some (.int x4), some (.int x5), some (.int x6), none, none, none, none, none] [.int v3, .ref (G.2.1 0 0)]
  refine z_if_eq F 64 dX9_span_48 (by decide) ⟨fun hc => ?_, fun hc => ?_⟩
  · have h := h.1 hc
    exact h
  · have h := h.2 hc
    refine z_aload_n F dX9_span_51 rfl ?_
    refine z_iload F dX9_span_52 rfl ?_
    refine z_callV F (k' := 1) (mc' := 0) [.int x6] [.ref (G.2.1 0 0)] dX9_span_54 rfl rfl (by decide) rfl cl_X9_205 hy_X9_isSinger (by omega) (by decide) (by decide) (Nat.le_of_ble_eq_true rfl) rfl (con_mono h ?_ (fun _ _ h => h))
    rintro _ w6 ⟨v5, rfl, h⟩
    show Z M G 1 K X w6 57 [some (.ref (G.2.1 0 0)), some (.int x1), some (.int x2), some (.int x3), some (.int x4), some (.int x5), some (.int x6), none, none, none, none, none] [.int v5, .ref (G.2.1 0 0)]
    refine z_if_eq F 64 dX9_span_57 (by decide) ⟨fun hc => ?_, fun hc => ?_⟩
    · have h := h.1 hc
      exact h
    · have h := h.2 hc
      refine z_iconst F 1 dX9_span_60 (by decide) ?_
      refine z_goto F 65 dX9_span_61 (by decide) ?_
      exact h
set_option maxRecDepth 20000 in
theorem b_X9_span_64 {M : Mx} {G : Gx} {kk : Nat} {w : Wd}  {x1 : Int32} {x2 : Int32} {x3 : Int32} {x4 : Int32} {x5 : Int32} {x6 : Int32} {K : Option Value → Wd → Prop} {X : String → Wd → Prop} (F : Fx M G RX9 cX9_span 12 (some .int) kk 2) (hk : 7 ≤ kk)
    (h : Z M G 1 K X w 65 [some (.ref (G.2.1 0 0)), some (.int x1), some (.int x2), some (.int x3), some (.int x4), some (.int x5), some (.int x6), none, none, none, none, none] [.int 0, .ref (G.2.1 0 0)]) :
    Z M G 1 K X w 64 [some (.ref (G.2.1 0 0)), some (.int x1), some (.int x2), some (.int x3), some (.int x4), some (.int x5), some (.int x6), none, none, none, none, none] [.ref (G.2.1 0 0)] := by
  refine z_iconst F 0 dX9_span_64 (by decide) ?_
  exact h
set_option maxRecDepth 20000 in
theorem b_X9_span_65 {M : Mx} {G : Gx} {kk : Nat} {w : Wd}  {x1 : Int32} {x2 : Int32} {x3 : Int32} {x4 : Int32} {x5 : Int32} {x6 : Int32} {s0 : Int32} {K : Option Value → Wd → Prop} {X : String → Wd → Prop} (F : Fx M G RX9 cX9_span 12 (some .int) kk 2) (hk : 7 ≤ kk)
    (h : Con (mL M) G 6 1 yX9_demand cX9_demand 2 none w [.ref (G.2.1 0 0), .int s0] (fun r w2 => r = none ∧ Z M G 2 K X w2 80 [some (.ref (G.2.1 0 0)), some (.int x1), some (.int x2), some (.int x3), some (.int x4), some (.int x5), some (.int x6), some (.int 0), some (.int 0), some (.int 0), some (.int 0), none] []) X) :
    Z M G 1 K X w 65 [some (.ref (G.2.1 0 0)), some (.int x1), some (.int x2), some (.int x3), some (.int x4), some (.int x5), some (.int x6), none, none, none, none, none] [.int s0, .ref (G.2.1 0 0)] := by
  refine z_callV F (k' := 6) (mc' := 1) [.int s0] [] dX9_span_65 rfl rfl (by decide) rfl cl_X9_172 hy_X9_demand (by omega) (by decide) (by decide) (Nat.le_of_ble_eq_true rfl) rfl (con_mono h ?_ (fun _ _ h => h))
  rintro _ w2 ⟨rfl, h⟩
  show Z M G 2 K X w2 68 [some (.ref (G.2.1 0 0)), some (.int x1), some (.int x2), some (.int x3), some (.int x4), some (.int x5), some (.int x6), none, none, none, none, none] []
  refine z_iconst F 0 dX9_span_68 (by decide) ?_
  refine z_istore F dX9_span_69 (Nat.le_of_ble_eq_true rfl) ?_
  refine z_iconst F 0 dX9_span_71 (by decide) ?_
  refine z_istore F dX9_span_72 (Nat.le_of_ble_eq_true rfl) ?_
  refine z_iconst F 0 dX9_span_74 (by decide) ?_
  refine z_istore F dX9_span_75 (Nat.le_of_ble_eq_true rfl) ?_
  refine z_iconst F 0 dX9_span_77 (by decide) ?_
  refine z_istore F dX9_span_78 (Nat.le_of_ble_eq_true rfl) ?_
  exact h
set_option maxRecDepth 20000 in
theorem b_X9_span_80 {M : Mx} {G : Gx} {kk : Nat} {w : Wd}  {x1 : Int32} {x2 : Int32} {x3 : Int32} {x4 : Int32} {x5 : Int32} {x6 : Int32} {x7 : Int32} {x8 : Int32} {x9 : Int32} {x10 : Int32} {K : Option Value → Wd → Prop} {X : String → Wd → Prop} (F : Fx M G RX9 cX9_span 12 (some .int) kk 2) (hk : 7 ≤ kk)
    (h : ((x2 ≤ x10 → ((¬ x5 = 0 → ((¬ x5 = 1 → K (some (.int x9)) w) ∧ (¬ (¬ x5 = 1) → K (some (.int x8)) w))) ∧ (¬ (¬ x5 = 0) → K (some (.int x7)) w))) ∧ (¬ (x2 ≤ x10) → Con (mL M) G 6 0 yX9_liveSunday cX9_liveSunday 6 none w [.ref (G.2.1 0 0), .int (x1 + x10), .int x3, .int x4] (fun r w2 => r = none ∧ ((¬ x10 = 0 → Z M G 2 K X w2 134 [some (.ref (G.2.1 0 0)), some (.int x1), some (.int x2), some (.int x3), some (.int x4), some (.int x5), some (.int x6), none, some (.int x8), some (.int x9), some (.int x10), some (.int ((w2.1 5 68 2) - (w2.1 5 0 2)))] [.int (if ((w2.1 5 68 2) - (w2.1 5 0 2)) < x7 then ((w2.1 5 68 2) - (w2.1 5 0 2)) else x7)]) ∧ (¬ (¬ x10 = 0) → Z M G 2 K X w2 134 [some (.ref (G.2.1 0 0)), some (.int x1), some (.int x2), some (.int x3), some (.int x4), some (.int x5), some (.int x6), none, some (.int x8), some (.int x9), some (.int x10), some (.int ((w2.1 5 68 2) - (w2.1 5 0 2)))] [.int ((w2.1 5 68 2) - (w2.1 5 0 2))]))) X))) :
    Z M G 2 K X w 80 [some (.ref (G.2.1 0 0)), some (.int x1), some (.int x2), some (.int x3), some (.int x4), some (.int x5), some (.int x6), some (.int x7), some (.int x8), some (.int x9), some (.int x10), none] [] := by
  refine z_iload F dX9_span_80 rfl ?_
  refine z_iload_n F dX9_span_82 rfl ?_
  refine z_icmp_ge F 168 dX9_span_83 (by decide) ⟨fun hc => ?_, fun hc => ?_⟩
  · have h := h.1 hc
    refine z_iload F dX9_span_168 rfl ?_
    refine z_if_ne F 178 dX9_span_170 (by decide) ⟨fun hc => ?_, fun hc => ?_⟩
    · have h := h.1 hc
      refine z_iload F dX9_span_178 rfl ?_
      refine z_iconst F 1 dX9_span_180 (by decide) ?_
      refine z_icmp_ne F 189 dX9_span_181 (by decide) ⟨fun hc => ?_, fun hc => ?_⟩
      · have h := h.1 hc
        refine z_iload F dX9_span_189 rfl ?_
        exact z_iret F dX9_span_191 (by decide) h
      · have h := h.2 hc
        refine z_iload F dX9_span_184 rfl ?_
        refine z_goto F 191 dX9_span_186 (by decide) ?_
        exact z_iret F dX9_span_191 (by decide) h
    · have h := h.2 hc
      refine z_iload F dX9_span_173 rfl ?_
      refine z_goto F 191 dX9_span_175 (by decide) ?_
      exact z_iret F dX9_span_191 (by decide) h
  · have h := h.2 hc
    refine z_aload_n F dX9_span_86 rfl ?_
    refine z_iload_n F dX9_span_87 rfl ?_
    refine z_iload F dX9_span_88 rfl ?_
    refine z_iadd F dX9_span_90 ?_
    refine z_iload_n F dX9_span_91 rfl ?_
    refine z_iload F dX9_span_92 rfl ?_
    refine z_callV F (k' := 6) (mc' := 0) [.int (x1 + x10), .int x3, .int x4] [] dX9_span_94 rfl rfl (by decide) rfl cl_X9_342 hy_X9_liveSunday (by omega) (by decide) (by decide) (Nat.le_of_ble_eq_true rfl) rfl (con_mono h ?_ (fun _ _ h => h))
    rintro _ w2 ⟨rfl, h⟩
    show Z M G 2 K X w2 97 [some (.ref (G.2.1 0 0)), some (.int x1), some (.int x2), some (.int x3), some (.int x4), some (.int x5), some (.int x6), some (.int x7), some (.int x8), some (.int x9), some (.int x10), none] []
    refine z_aload_n F dX9_span_97 rfl ?_
    refine z_getR F 5 5 68 rfl (by decide) (by decide) rfl rfl rfl lk_X9_44 dX9_span_98 ?_
    refine z_getI F 2 rfl (by decide) (by decide) rfl lk_X9_185 dX9_span_101 ?_
    refine z_aload_n F dX9_span_104 rfl ?_
    refine z_getR F 3 4 0 rfl (by decide) (by decide) rfl rfl rfl lk_X9_33 dX9_span_105 ?_
    refine z_getR F 1 5 0 rfl (by decide) (by decide) rfl rfl rfl lk_X9_128 dX9_span_108 ?_
    refine z_getI F 2 rfl (by decide) (by decide) rfl lk_X9_185 dX9_span_111 ?_
    refine z_isub F dX9_span_114 ?_
    refine z_istore F dX9_span_115 (Nat.le_of_ble_eq_true rfl) ?_
    refine z_iload F dX9_span_117 rfl ?_
    refine z_if_ne F 127 dX9_span_119 (by decide) ⟨fun hc => ?_, fun hc => ?_⟩
    · have h := h.1 hc
      refine z_iload F dX9_span_127 rfl ?_
      refine z_iload F dX9_span_129 rfl ?_
      refine z_mmin F (GW_5 135 rfl rfl) (GW_4 135 rfl rfl) (GW_1 21 rfl rfl) (GW_4 136 rfl rfl) (by omega) (by decide) rfl (Nat.le_of_ble_eq_true rfl) dX9_span_131 ?_
      exact z_weak h (⟨rfl, ⟨rfl, ⟨rfl, ⟨rfl, ⟨rfl, ⟨rfl, ⟨rfl, ⟨rfl, ⟨rfl, ⟨rfl, ⟨rfl, trivial⟩⟩⟩⟩⟩⟩⟩⟩⟩⟩⟩)
    · have h := h.2 hc
      refine z_iload F dX9_span_122 rfl ?_
      refine z_goto F 134 dX9_span_124 (by decide) ?_
      exact z_weak h (⟨rfl, ⟨rfl, ⟨rfl, ⟨rfl, ⟨rfl, ⟨rfl, ⟨rfl, ⟨rfl, ⟨rfl, ⟨rfl, ⟨rfl, trivial⟩⟩⟩⟩⟩⟩⟩⟩⟩⟩⟩)
set_option maxRecDepth 20000 in
theorem b_X9_span_134 {M : Mx} {G : Gx} {kk : Nat} {w : Wd}  {x1 : Int32} {x2 : Int32} {x3 : Int32} {x4 : Int32} {x5 : Int32} {x6 : Int32} {x8 : Int32} {x9 : Int32} {x10 : Int32} {x11 : Int32} {s0 : Int32} {K : Option Value → Wd → Prop} {X : String → Wd → Prop} (F : Fx M G RX9 cX9_span 12 (some .int) kk 2) (hk : 7 ≤ kk)
    (h : Z M G 2 K X w 80 [some (.ref (G.2.1 0 0)), some (.int x1), some (.int x2), some (.int x3), some (.int x4), some (.int x5), some (.int x6), some (.int s0), some (.int (if x8 < x11 then x11 else x8)), some (.int (x9 + (((w.1 5 68 1) >>> (x6 &&& 31)) &&& (1 : Int32)))), some (.int (x10 + 1)), none] []) :
    Z M G 2 K X w 134 [some (.ref (G.2.1 0 0)), some (.int x1), some (.int x2), some (.int x3), some (.int x4), some (.int x5), some (.int x6), none, some (.int x8), some (.int x9), some (.int x10), some (.int x11)] [.int s0] := by
  refine z_istore F dX9_span_134 (Nat.le_of_ble_eq_true rfl) ?_
  refine z_iload F dX9_span_136 rfl ?_
  refine z_iload F dX9_span_138 rfl ?_
  refine z_mmax F (GW_5 78 rfl rfl) (GW_2 230 rfl rfl) (GW_1 21 rfl rfl) (GW_2 231 rfl rfl) (by omega) (by decide) rfl (Nat.le_of_ble_eq_true rfl) dX9_span_140 ?_
  refine z_istore F dX9_span_143 (Nat.le_of_ble_eq_true rfl) ?_
  refine z_iload F dX9_span_145 rfl ?_
  refine z_aload_n F dX9_span_147 rfl ?_
  refine z_getR F 5 5 68 rfl (by decide) (by decide) rfl rfl rfl lk_X9_44 dX9_span_148 ?_
  refine z_getI F 1 rfl (by decide) (by decide) rfl lk_X9_182 dX9_span_151 ?_
  refine z_iload F dX9_span_154 rfl ?_
  refine z_ishr F dX9_span_156 ?_
  refine z_iconst F 1 dX9_span_157 (by decide) ?_
  refine z_iand F dX9_span_158 ?_
  refine z_iadd F dX9_span_159 ?_
  refine z_istore F dX9_span_160 (Nat.le_of_ble_eq_true rfl) ?_
  refine z_iinc F (x10 + 1) dX9_span_162 rfl rfl (Nat.le_of_ble_eq_true rfl) ?_
  refine z_goto F 80 dX9_span_165 (by decide) ?_
  exact z_weak h (⟨rfl, ⟨rfl, ⟨rfl, ⟨rfl, ⟨rfl, ⟨rfl, ⟨rfl, ⟨rfl, ⟨rfl, ⟨rfl, ⟨rfl, trivial⟩⟩⟩⟩⟩⟩⟩⟩⟩⟩⟩)
set_option maxRecDepth 20000 in
theorem e_X9_image {l : Launch} {G : Gx} {w : Wd}  {K : Option Value → Wd → Prop} {X : String → Wd → Prop} (hl : l.stackTraces = false)
    (h : ∀ (M : Mx) (kk : Nat), mL M = l → 5 ≤ kk → Fx M G RX9 cX9_image 1 (some .int) kk 0 → (((w.1 0 0 12) < 3 → (vp_in (w.1 0 0 12) 3 ∧ Con (mL M) G 4 0 yX3_become cX3_become 3 none w [.ref (G.2.1 4 (1 + (w.1 0 0 12 : Int32).toNatClampNeg)), .ref (G.2.1 4 0)] (fun r w3 => r = none ∧ (∀ w4 : Wd, w4 = setI w3 0 0 12 ((w3.1 0 0 12) + (1 : Int32)) → K (some (.int (w4.1 0 0 12))) w4)) X)) ∧ (¬ ((w.1 0 0 12) < 3) → K (some (.int (-1))) w))) :
    Con l G 5 0 yX9_image cX9_image 1 (some .int) w [.ref (G.2.1 0 0)] K X := by
  refine con_intro hl (by decide +kernel) (Nat.le_of_ble_eq_true rfl) (Nat.le_of_ble_eq_true rfl) (fun M kk hM hk F => ?_)
  have h := h M kk hM hk F
  show Z M G 0 K X w 0 [some (.ref (G.2.1 0 0))] []
  refine z_aload_n F dX9_image_0 rfl ?_
  refine z_getI F 12 rfl (by decide) (by decide) rfl lk_X9_346 dX9_image_1 ?_
  refine z_iconst F 3 dX9_image_4 (by decide) ?_
  refine z_icmp_lt F 10 dX9_image_5 (by decide) ⟨fun hc => ?_, fun hc => ?_⟩
  · have h := h.1 hc
    refine z_aload_n F dX9_image_10 rfl ?_
    refine z_getR F 4 16 0 rfl (by decide) (by decide) rfl rfl rfl lk_X9_37 dX9_image_11 ?_
    refine z_aload_n F dX9_image_14 rfl ?_
    refine z_getI F 12 rfl (by decide) (by decide) rfl lk_X9_346 dX9_image_15 ?_
    obtain ⟨hb, h⟩ := h
    refine z_aald F 4 (1 + (w.1 0 0 12 : Int32).toNatClampNeg) rfl (by decide) (by decide) (by decide) rfl rfl hb dX9_image_18 (fun hv1 => ?_)
    refine z_aload_n F dX9_image_19 rfl ?_
    refine z_getR F 3 4 0 rfl (by decide) (by decide) rfl rfl rfl lk_X9_33 dX9_image_20 ?_
    refine z_callV F (k' := 4) (mc' := 0) [.ref (G.2.1 4 0)] [] dX9_image_23 rfl rfl hv1 rfl cl_X9_349 hy_X3_become (by omega) (by decide) (by decide) (Nat.le_of_ble_eq_true rfl) rfl (con_mono h ?_ (fun _ _ h => h))
    rintro _ w3 ⟨rfl, h⟩
    show Z M G 0 K X w3 26 [some (.ref (G.2.1 0 0))] []
    refine z_aload_n F dX9_image_26 rfl ?_
    refine z_dup F dX9_image_27 rfl ?_
    refine z_getI F 12 rfl (by decide) (by decide) rfl lk_X9_346 dX9_image_28 ?_
    refine z_iconst F 1 dX9_image_31 (by decide) ?_
    refine z_iadd F dX9_image_32 ?_
    refine z_putIW F 12 rfl (by decide) (by decide) rfl lk_X9_346 dX9_image_33 (fun w4 hw4 => ?_)
    have h := h w4 hw4
    refine z_aload_n F dX9_image_36 rfl ?_
    refine z_getI F 12 rfl (by decide) (by decide) rfl lk_X9_346 dX9_image_37 ?_
    exact z_iret F dX9_image_40 (by decide) h
  · have h := h.2 hc
    refine z_iconst F (-1) dX9_image_8 (by decide) ?_
    exact z_iret F dX9_image_9 (by decide) h
set_option maxRecDepth 20000 in
theorem e_X9_restore {l : Launch} {G : Gx} {w : Wd}  {K : Option Value → Wd → Prop} {X : String → Wd → Prop} (hl : l.stackTraces = false)
    (h : ∀ (M : Mx) (kk : Nat), mL M = l → 5 ≤ kk → Fx M G RX9 cX9_restore 1 (some .int) kk 0 → ((0 < (w.1 0 0 12) → (∀ w1 : Wd, w1 = setI w 0 0 12 ((w.1 0 0 12) - (1 : Int32)) → (vp_in (w1.1 0 0 12) 3 ∧ Con (mL M) G 4 0 yX3_become cX3_become 3 none w1 [.ref (G.2.1 4 0), .ref (G.2.1 4 (1 + (w1.1 0 0 12 : Int32).toNatClampNeg))] (fun r w4 => r = none ∧ (∀ w5 : Wd, w5 = setI w4 0 0 13 0 → K (some (.int (w5.1 0 0 12))) w5)) X))) ∧ (¬ (0 < (w.1 0 0 12)) → K (some (.int (-1))) w))) :
    Con l G 5 0 yX9_restore cX9_restore 1 (some .int) w [.ref (G.2.1 0 0)] K X := by
  refine con_intro hl (by decide +kernel) (Nat.le_of_ble_eq_true rfl) (Nat.le_of_ble_eq_true rfl) (fun M kk hM hk F => ?_)
  have h := h M kk hM hk F
  show Z M G 0 K X w 0 [some (.ref (G.2.1 0 0))] []
  refine z_aload_n F dX9_restore_0 rfl ?_
  refine z_getI F 12 rfl (by decide) (by decide) rfl lk_X9_346 dX9_restore_1 ?_
  refine z_if_gt F 9 dX9_restore_4 (by decide) ⟨fun hc => ?_, fun hc => ?_⟩
  · have h := h.1 hc
    refine z_aload_n F dX9_restore_9 rfl ?_
    refine z_dup F dX9_restore_10 rfl ?_
    refine z_getI F 12 rfl (by decide) (by decide) rfl lk_X9_346 dX9_restore_11 ?_
    refine z_iconst F 1 dX9_restore_14 (by decide) ?_
    refine z_isub F dX9_restore_15 ?_
    refine z_putIW F 12 rfl (by decide) (by decide) rfl lk_X9_346 dX9_restore_16 (fun w1 hw1 => ?_)
    have h := h w1 hw1
    refine z_aload_n F dX9_restore_19 rfl ?_
    refine z_getR F 3 4 0 rfl (by decide) (by decide) rfl rfl rfl lk_X9_33 dX9_restore_20 ?_
    refine z_aload_n F dX9_restore_23 rfl ?_
    refine z_getR F 4 16 0 rfl (by decide) (by decide) rfl rfl rfl lk_X9_37 dX9_restore_24 ?_
    refine z_aload_n F dX9_restore_27 rfl ?_
    refine z_getI F 12 rfl (by decide) (by decide) rfl lk_X9_346 dX9_restore_28 ?_
    obtain ⟨hb, h⟩ := h
    refine z_aald F 4 (1 + (w1.1 0 0 12 : Int32).toNatClampNeg) rfl (by decide) (by decide) (by decide) rfl rfl hb dX9_restore_31 (fun hv2 => ?_)
    refine z_callV F (k' := 4) (mc' := 0) [.ref (G.2.1 4 (1 + (w1.1 0 0 12 : Int32).toNatClampNeg))] [] dX9_restore_32 rfl rfl (by decide) rfl cl_X9_349 hy_X3_become (by omega) (by decide) (by decide) (Nat.le_of_ble_eq_true rfl) rfl (con_mono h ?_ (fun _ _ h => h))
    rintro _ w4 ⟨rfl, h⟩
    show Z M G 0 K X w4 35 [some (.ref (G.2.1 0 0))] []
    refine z_aload_n F dX9_restore_35 rfl ?_
    refine z_iconst F 0 dX9_restore_36 (by decide) ?_
    refine z_putIW F 13 rfl (by decide) (by decide) rfl lk_X9_141 dX9_restore_37 (fun w5 hw5 => ?_)
    have h := h w5 hw5
    refine z_aload_n F dX9_restore_40 rfl ?_
    refine z_getI F 12 rfl (by decide) (by decide) rfl lk_X9_346 dX9_restore_41 ?_
    exact z_iret F dX9_restore_44 (by decide) h
  · have h := h.2 hc
    refine z_iconst F (-1) dX9_restore_7 (by decide) ?_
    exact z_iret F dX9_restore_8 (by decide) h
set_option maxRecDepth 20000 in
theorem e_X9_status {l : Launch} {G : Gx} {w : Wd} {p0 : Int32} {K : Option Value → Wd → Prop} {X : String → Wd → Prop} (hl : l.stackTraces = false)
    (h : ∀ (M : Mx) (kk : Nat), mL M = l → 1 ≤ kk → Fx M G RX9 cX9_status 2 (some .int) kk 0 → ((¬ p0 = 0 → ((¬ p0 = 1 → K (some (.int (-1))) w) ∧ (¬ (¬ p0 = 1) → K (some (.int (w.1 0 0 16))) w))) ∧ (¬ (¬ p0 = 0) → K (some (.int (w.1 0 0 15))) w))) :
    Con l G 1 0 yX9_status cX9_status 2 (some .int) w [.ref (G.2.1 0 0), .int p0] K X := by
  refine con_intro hl (by decide +kernel) (Nat.le_of_ble_eq_true rfl) (Nat.le_of_ble_eq_true rfl) (fun M kk hM hk F => ?_)
  have h := h M kk hM hk F
  show Z M G 0 K X w 0 [some (.ref (G.2.1 0 0)), some (.int p0)] []
  refine z_iload_n F dX9_status_0 rfl ?_
  refine z_if_ne F 11 dX9_status_1 (by decide) ⟨fun hc => ?_, fun hc => ?_⟩
  · have h := h.1 hc
    refine z_iload_n F dX9_status_11 rfl ?_
    refine z_iconst F 1 dX9_status_12 (by decide) ?_
    refine z_icmp_ne F 23 dX9_status_13 (by decide) ⟨fun hc => ?_, fun hc => ?_⟩
    · have h := h.1 hc
      refine z_iconst F (-1) dX9_status_23 (by decide) ?_
      exact z_iret F dX9_status_24 (by decide) h
    · have h := h.2 hc
      refine z_aload_n F dX9_status_16 rfl ?_
      refine z_getI F 16 rfl (by decide) (by decide) rfl lk_X9_355 dX9_status_17 ?_
      refine z_goto F 24 dX9_status_20 (by decide) ?_
      exact z_iret F dX9_status_24 (by decide) h
  · have h := h.2 hc
    refine z_aload_n F dX9_status_4 rfl ?_
    refine z_getI F 15 rfl (by decide) (by decide) rfl lk_X9_352 dX9_status_5 ?_
    refine z_goto F 24 dX9_status_8 (by decide) ?_
    exact z_iret F dX9_status_24 (by decide) h
set_option maxRecDepth 20000 in
theorem e_X9_count {l : Launch} {G : Gx} {w : Wd} {p0 : Int32} {K : Option Value → Wd → Prop} {X : String → Wd → Prop} (hl : l.stackTraces = false)
    (h : ∀ (M : Mx) (kk : Nat), mL M = l → 1 ≤ kk → Fx M G RX9 cX9_count 2 (some .int) kk 0 → ((p0 = 0 → K (some (.int (w.1 0 0 12))) w) ∧ (p0 = 1 → K (some (.int (w.1 1 0 0))) w) ∧ (p0 = 2 → K (some (.int (w.1 4 0 0))) w) ∧ (¬ p0 = 0 ∧ ¬ p0 = 1 ∧ ¬ p0 = 2 → K (some (.int (-1))) w))) :
    Con l G 1 0 yX9_count cX9_count 2 (some .int) w [.ref (G.2.1 0 0), .int p0] K X := by
  refine con_intro hl (by decide +kernel) (Nat.le_of_ble_eq_true rfl) (Nat.le_of_ble_eq_true rfl) (fun M kk hM hk F => ?_)
  have h := h M kk hM hk F
  show Z M G 0 K X w 0 [some (.ref (G.2.1 0 0)), some (.int p0)] []
  refine z_iload_n F dX9_count_0 rfl ?_
  by_cases hc0 : p0 = 0
  · have h := h.1 hc0
    refine z_tabIn F 28 dX9_count_1 (by rw [hc0]; decide) (by rw [hc0]; decide) (by rw [hc0]; rfl) (by decide) ?_
    refine z_aload_n F dX9_count_28 rfl ?_
    refine z_getI F 12 rfl (by decide) (by decide) rfl lk_X9_346 dX9_count_29 ?_
    exact z_iret F dX9_count_32 (by decide) h
  by_cases hc1 : p0 = 1
  · have h := h.2.1 hc1
    refine z_tabIn F 33 dX9_count_1 (by rw [hc1]; decide) (by rw [hc1]; decide) (by rw [hc1]; rfl) (by decide) ?_
    refine z_aload_n F dX9_count_33 rfl ?_
    refine z_getR F 0 1 0 rfl (by decide) (by decide) rfl rfl rfl lk_X9_10 dX9_count_34 ?_
    refine z_getI F 0 rfl (by decide) (by decide) rfl lk_X9_83 dX9_count_37 ?_
    exact z_iret F dX9_count_40 (by decide) h
  by_cases hc2 : p0 = 2
  · have h := h.2.2.1 hc2
    refine z_tabIn F 41 dX9_count_1 (by rw [hc2]; decide) (by rw [hc2]; decide) (by rw [hc2]; rfl) (by decide) ?_
    refine z_aload_n F dX9_count_41 rfl ?_
    refine z_getR F 3 4 0 rfl (by decide) (by decide) rfl rfl rfl lk_X9_33 dX9_count_42 ?_
    refine z_getI F 0 rfl (by decide) (by decide) rfl lk_X9_119 dX9_count_45 ?_
    exact z_iret F dX9_count_48 (by decide) h
  have e0 := lv_neT hc0 (show (0 : Int32).toInt = 0 by decide)
  have e1 := lv_neT hc1 (show (1 : Int32).toInt = 1 by decide)
  have e2 := lv_neT hc2 (show (2 : Int32).toInt = 2 by decide)
  have h := h.2.2.2 ⟨hc0, hc1, hc2⟩
  refine z_tabOut F 49 dX9_count_1 (by omega) (by decide) ?_
  refine z_iconst F (-1) dX9_count_49 (by decide) ?_
  exact z_iret F dX9_count_50 (by decide) h
set_option maxRecDepth 20000 in
theorem e_X9_demand {l : Launch} {G : Gx} {w : Wd} {p0 : Int32} {K : Option Value → Wd → Prop} {X : String → Wd → Prop} (hl : l.stackTraces = false)
    (h : ∀ (M : Mx) (kk : Nat), mL M = l → 6 ≤ kk → Fx M G RX9 cX9_demand 2 none kk 1 → ((¬ p0 = 0 → K none w) ∧ (¬ (¬ p0 = 0) → (∀ w1 : Wd, w1 = setI w 0 0 16 ((w.1 0 0 16) + (1 : Int32)) → X nIae w1)))) :
    Con l G 6 1 yX9_demand cX9_demand 2 none w [.ref (G.2.1 0 0), .int p0] K X := by
  refine con_intro hl (by decide +kernel) (Nat.le_of_ble_eq_true rfl) (Nat.le_of_ble_eq_true rfl) (fun M kk hM hk F => ?_)
  have h := h M kk hM hk F
  show Z M G 0 K X w 0 [some (.ref (G.2.1 0 0)), some (.int p0)] []
  refine z_iload_n F dX9_demand_0 rfl ?_
  refine z_if_ne F 25 dX9_demand_1 (by decide) ⟨fun hc => ?_, fun hc => ?_⟩
  · have h := h.1 hc
    exact z_vret F dX9_demand_25 (by decide) h
  · have h := h.2 hc
    refine z_aload_n F dX9_demand_4 rfl ?_
    refine z_dup F dX9_demand_5 rfl ?_
    refine z_getI F 16 rfl (by decide) (by decide) rfl lk_X9_355 dX9_demand_6 ?_
    refine z_iconst F 1 dX9_demand_9 (by decide) ?_
    refine z_iadd F dX9_demand_10 ?_
    refine z_putIW F 16 rfl (by decide) (by decide) rfl lk_X9_355 dX9_demand_11 (fun w1 hw1 => ?_)
    have h := h w1 hw1
    exact z_throwW F (E := nIae) (t := 18) (Or.inl rfl) (GW_3 60 rfl rfl) (GW_1 15 rfl rfl) (by decide) (exGood_of (by decide +kernel)) (by omega) (by decide) rfl (Nat.le_of_ble_eq_true rfl) dX9_demand_14 dX9_demand_17 dX9_demand_18 dX9_demand_21 dX9_demand_24 h
set_option maxRecDepth 20000 in
theorem e_X9_find {l : Launch} {G : Gx} {w : Wd} {p0 : Int32} {K : Option Value → Wd → Prop} {X : String → Wd → Prop} (hl : l.stackTraces = false)
    (h : ∀ (M : Mx) (kk : Nat), mL M = l → 6 ≤ kk → Fx M G RX9 cX9_find 2 none kk 1 → ((¬ p0 = 0 → K none w) ∧ (¬ (¬ p0 = 0) → (∀ w1 : Wd, w1 = setI w 0 0 15 ((w.1 0 0 15) + (1 : Int32)) → X nNse w1)))) :
    Con l G 6 1 yX9_find cX9_find 2 none w [.ref (G.2.1 0 0), .int p0] K X := by
  refine con_intro hl (by decide +kernel) (Nat.le_of_ble_eq_true rfl) (Nat.le_of_ble_eq_true rfl) (fun M kk hM hk F => ?_)
  have h := h M kk hM hk F
  show Z M G 0 K X w 0 [some (.ref (G.2.1 0 0)), some (.int p0)] []
  refine z_iload_n F dX9_find_0 rfl ?_
  refine z_if_ne F 25 dX9_find_1 (by decide) ⟨fun hc => ?_, fun hc => ?_⟩
  · have h := h.1 hc
    exact z_vret F dX9_find_25 (by decide) h
  · have h := h.2 hc
    refine z_aload_n F dX9_find_4 rfl ?_
    refine z_dup F dX9_find_5 rfl ?_
    refine z_getI F 15 rfl (by decide) (by decide) rfl lk_X9_352 dX9_find_6 ?_
    refine z_iconst F 1 dX9_find_9 (by decide) ?_
    refine z_iadd F dX9_find_10 ?_
    refine z_putIW F 15 rfl (by decide) (by decide) rfl lk_X9_352 dX9_find_11 (fun w1 hw1 => ?_)
    have h := h w1 hw1
    exact z_throwN F (t := 19) (ix := 13) (bt := prog_28_method_4_code) (by decide +kernel) (by decide +kernel) (by decide +kernel) (by decide +kernel) (GW_4 196 rfl rfl) (GW_1 23 rfl rfl) (by decide) (nxGood_of (by decide +kernel)) (by omega) (by decide) rfl (Nat.le_of_ble_eq_true rfl) dX9_find_14 dX9_find_17 dX9_find_18 dX9_find_21 dX9_find_24 h
set_option maxRecDepth 20000 in
theorem e_X9_openText {l : Launch} {G : Gx} {w : Wd} {p0 : Int32} {p1 : Int32} {K : Option Value → Wd → Prop} {X : String → Wd → Prop} (hl : l.stackTraces = false)
    (h : ∀ (M : Mx) (kk : Nat), mL M = l → 7 ≤ kk → Fx M G RX9 cX9_openText 3 none kk 1 → Con (mL M) G 1 0 yX9_within cX9_within 3 (some .boolean) w [.int p0, .int 0, .int p1] (fun r w2 => ∃ v1 : Int32, r = some (.int v1) ∧ ((v1 = 0 → Z M G 0 K X w2 25 [some (.ref (G.2.1 0 0)), some (.int p0), none] [.ref (G.2.1 0 0)]) ∧ (¬ (v1 = 0) → (((w2.1 1 0 0) < p0 → Z M G 0 K X w2 25 [some (.ref (G.2.1 0 0)), some (.int p0), none] [.ref (G.2.1 0 0)]) ∧ (¬ ((w2.1 1 0 0) < p0) → Z M G 0 K X w2 26 [some (.ref (G.2.1 0 0)), some (.int p0), none] [.int 1, .ref (G.2.1 0 0)]))))) X) :
    Con l G 7 1 yX9_openText cX9_openText 3 none w [.ref (G.2.1 0 0), .int p0, .int p1] K X := by
  refine con_intro hl (by decide +kernel) (Nat.le_of_ble_eq_true rfl) (Nat.le_of_ble_eq_true rfl) (fun M kk hM hk F => ?_)
  have h := h M kk hM hk F
  show Z M G 0 K X w 0 [some (.ref (G.2.1 0 0)), some (.int p0), some (.int p1)] []
  refine z_aload_n F dX9_openText_0 rfl ?_
  refine z_iload_n F dX9_openText_1 rfl ?_
  refine z_iconst F 0 dX9_openText_2 (by decide) ?_
  refine z_iload_n F dX9_openText_3 rfl ?_
  refine z_callS F (k' := 1) (mc' := 0) [.int p0, .int 0, .int p1] [.ref (G.2.1 0 0)] dX9_openText_4 rfl cl_X9_168 hy_X9_within.2 (by omega) (by decide) (by decide) (Nat.le_of_ble_eq_true rfl) rfl (con_mono h ?_ (fun _ _ h => h))
  rintro _ w2 ⟨v1, rfl, h⟩
  show Z M G 0 K X w2 7 [some (.ref (G.2.1 0 0)), some (.int p0), some (.int p1)] [.int v1, .ref (G.2.1 0 0)]
  refine z_if_eq F 25 dX9_openText_7 (by decide) ⟨fun hc => ?_, fun hc => ?_⟩
  · have h := h.1 hc
    exact z_weak h (⟨rfl, ⟨rfl, trivial⟩⟩)
  · have h := h.2 hc
    refine z_iload_n F dX9_openText_10 rfl ?_
    refine z_aload_n F dX9_openText_11 rfl ?_
    refine z_getR F 0 1 0 rfl (by decide) (by decide) rfl rfl rfl lk_X9_10 dX9_openText_12 ?_
    refine z_getI F 0 rfl (by decide) (by decide) rfl lk_X9_83 dX9_openText_15 ?_
    refine z_icmp_gt F 25 dX9_openText_18 (by decide) ⟨fun hc => ?_, fun hc => ?_⟩
    · have h := h.1 hc
      exact z_weak h (⟨rfl, ⟨rfl, trivial⟩⟩)
    · have h := h.2 hc
      refine z_iconst F 1 dX9_openText_21 (by decide) ?_
      refine z_goto F 26 dX9_openText_22 (by decide) ?_
      exact z_weak h (⟨rfl, ⟨rfl, trivial⟩⟩)
set_option maxRecDepth 20000 in
theorem b_X9_openText_25 {M : Mx} {G : Gx} {kk : Nat} {w : Wd}  {x1 : Int32} {K : Option Value → Wd → Prop} {X : String → Wd → Prop} (F : Fx M G RX9 cX9_openText 3 none kk 1) (hk : 7 ≤ kk)
    (h : Z M G 0 K X w 26 [some (.ref (G.2.1 0 0)), some (.int x1), none] [.int 0, .ref (G.2.1 0 0)]) :
    Z M G 0 K X w 25 [some (.ref (G.2.1 0 0)), some (.int x1), none] [.ref (G.2.1 0 0)] := by
  refine z_iconst F 0 dX9_openText_25 (by decide) ?_
  exact h
set_option maxRecDepth 20000 in
theorem b_X9_openText_26 {M : Mx} {G : Gx} {kk : Nat} {w : Wd}  {x1 : Int32} {s0 : Int32} {K : Option Value → Wd → Prop} {X : String → Wd → Prop} (F : Fx M G RX9 cX9_openText 3 none kk 1) (hk : 7 ≤ kk)
    (h : Con (mL M) G 6 1 yX9_demand cX9_demand 2 none w [.ref (G.2.1 0 0), .int s0] (fun r w2 => r = none ∧ Con (mL M) G 1 0 yX8_open cX8_open 2 none w2 [.ref (G.2.1 1 0), .int x1] (fun r w4 => r = none ∧ K none w4) X) X) :
    Z M G 0 K X w 26 [some (.ref (G.2.1 0 0)), some (.int x1), none] [.int s0, .ref (G.2.1 0 0)] := by
  refine z_callV F (k' := 6) (mc' := 1) [.int s0] [] dX9_openText_26 rfl rfl (by decide) rfl cl_X9_172 hy_X9_demand (by omega) (by decide) (by decide) (Nat.le_of_ble_eq_true rfl) rfl (con_mono h ?_ (fun _ _ h => h))
  rintro _ w2 ⟨rfl, h⟩
  show Z M G 1 K X w2 29 [some (.ref (G.2.1 0 0)), some (.int x1), none] []
  refine z_aload_n F dX9_openText_29 rfl ?_
  refine z_getR F 0 1 0 rfl (by decide) (by decide) rfl rfl rfl lk_X9_10 dX9_openText_30 ?_
  refine z_iload_n F dX9_openText_33 rfl ?_
  refine z_callV F (k' := 1) (mc' := 0) [.int x1] [] dX9_openText_34 rfl rfl (by decide) rfl cl_X9_370 hy_X8_open (by omega) (by decide) (by decide) (Nat.le_of_ble_eq_true rfl) rfl (con_mono h ?_ (fun _ _ h => h))
  rintro _ w4 ⟨rfl, h⟩
  show Z M G 1 K X w4 37 [some (.ref (G.2.1 0 0)), some (.int x1), none] []
  exact z_vret F dX9_openText_37 (by decide) h
set_option maxRecDepth 20000 in
theorem e_X9_beginAnew {l : Launch} {G : Gx} {w : Wd}  {K : Option Value → Wd → Prop} {X : String → Wd → Prop} (hl : l.stackTraces = false)
    (h : ∀ (M : Mx) (kk : Nat), mL M = l → 5 ≤ kk → Fx M G RX9 cX9_beginAnew 1 none kk 0 → Con (mL M) G 2 0 yX2_plain cX2_plain 1 none w [.ref (G.2.1 8 (w.2.2 2 0 1))] (fun r w3 => r = none ∧ Con (mL M) G 1 0 yX1_clear cX1_clear 1 none w3 [.ref (G.2.1 9 (w3.2.2 0 0 10))] (fun r w6 => r = none ∧ Con (mL M) G 4 0 yX3_begin cX3_begin 2 none w6 [.ref (G.2.1 4 0), .ref (G.2.1 7 (w6.2.2 2 0 0))] (fun r w9 => r = none ∧ (∀ w10 : Wd, w10 = setI w9 0 0 12 0 → (∀ w11 : Wd, w11 = setI w10 0 0 13 0 → K none w11))) X) X) X) :
    Con l G 5 0 yX9_beginAnew cX9_beginAnew 1 none w [.ref (G.2.1 0 0)] K X := by
  refine con_intro hl (by decide +kernel) (Nat.le_of_ble_eq_true rfl) (Nat.le_of_ble_eq_true rfl) (fun M kk hM hk F => ?_)
  have h := h M kk hM hk F
  show Z M G 0 K X w 0 [some (.ref (G.2.1 0 0))] []
  refine z_aload_n F dX9_beginAnew_0 rfl ?_
  refine z_getR F 1 2 0 rfl (by decide) (by decide) rfl rfl rfl lk_X9_19 dX9_beginAnew_1 ?_
  refine z_getD F 1 8 rfl (by decide) (by decide) rfl rfl lk_X9_116 dX9_beginAnew_4 (fun hv1 => ?_)
  refine z_callV F (k' := 2) (mc' := 0) [] [] dX9_beginAnew_7 rfl rfl hv1 rfl cl_X9_373 hy_X2_plain (by omega) (by decide) (by decide) (Nat.le_of_ble_eq_true rfl) rfl (con_mono h ?_ (fun _ _ h => h))
  rintro _ w3 ⟨rfl, h⟩
  show Z M G 0 K X w3 10 [some (.ref (G.2.1 0 0))] []
  refine z_aload_n F dX9_beginAnew_10 rfl ?_
  refine z_getD F 10 9 rfl (by decide) (by decide) rfl rfl lk_X9_76 dX9_beginAnew_11 (fun hv4 => ?_)
  refine z_callV F (k' := 1) (mc' := 0) [] [] dX9_beginAnew_14 rfl rfl hv4 rfl cl_X9_376 hy_X1_clear (by omega) (by decide) (by decide) (Nat.le_of_ble_eq_true rfl) rfl (con_mono h ?_ (fun _ _ h => h))
  rintro _ w6 ⟨rfl, h⟩
  show Z M G 0 K X w6 17 [some (.ref (G.2.1 0 0))] []
  refine z_aload_n F dX9_beginAnew_17 rfl ?_
  refine z_getR F 3 4 0 rfl (by decide) (by decide) rfl rfl rfl lk_X9_33 dX9_beginAnew_18 ?_
  refine z_aload_n F dX9_beginAnew_21 rfl ?_
  refine z_getR F 1 2 0 rfl (by decide) (by decide) rfl rfl rfl lk_X9_19 dX9_beginAnew_22 ?_
  refine z_getD F 0 7 rfl (by decide) (by decide) rfl rfl lk_X9_106 dX9_beginAnew_25 (fun hv7 => ?_)
  refine z_callV F (k' := 4) (mc' := 0) [.ref (G.2.1 7 (w6.2.2 2 0 0))] [] dX9_beginAnew_28 rfl rfl (by decide) rfl cl_X9_379 hy_X3_begin (by omega) (by decide) (by decide) (Nat.le_of_ble_eq_true rfl) rfl (con_mono h ?_ (fun _ _ h => h))
  rintro _ w9 ⟨rfl, h⟩
  show Z M G 0 K X w9 31 [some (.ref (G.2.1 0 0))] []
  refine z_aload_n F dX9_beginAnew_31 rfl ?_
  refine z_iconst F 0 dX9_beginAnew_32 (by decide) ?_
  refine z_putIW F 12 rfl (by decide) (by decide) rfl lk_X9_346 dX9_beginAnew_33 (fun w10 hw10 => ?_)
  have h := h w10 hw10
  refine z_aload_n F dX9_beginAnew_36 rfl ?_
  refine z_iconst F 0 dX9_beginAnew_37 (by decide) ?_
  refine z_putIW F 13 rfl (by decide) (by decide) rfl lk_X9_141 dX9_beginAnew_38 (fun w11 hw11 => ?_)
  have h := h w11 hw11
  exact z_vret F dX9_beginAnew_41 (by decide) h
set_option maxRecDepth 20000 in
theorem e_X9_within {l : Launch} {G : Gx} {w : Wd} {p0 : Int32} {p1 : Int32} {p2 : Int32} {K : Option Value → Wd → Prop} {X : String → Wd → Prop} (hl : l.stackTraces = false)
    (h : ∀ (M : Mx) (kk : Nat), mL M = l → 1 ≤ kk → Fx M G RX9 cX9_within 3 (some .boolean) kk 0 → ((p0 < p1 → K (some (.int 0)) w) ∧ (¬ (p0 < p1) → ((p2 < p0 → K (some (.int 0)) w) ∧ (¬ (p2 < p0) → K (some (.int 1)) w))))) :
    Con l G 1 0 yX9_within cX9_within 3 (some .boolean) w [.int p0, .int p1, .int p2] K X := by
  refine con_intro hl (by decide +kernel) (Nat.le_of_ble_eq_true rfl) (Nat.le_of_ble_eq_true rfl) (fun M kk hM hk F => ?_)
  have h := h M kk hM hk F
  show Z M G 0 K X w 0 [some (.int p0), some (.int p1), some (.int p2)] []
  refine z_iload_n F dX9_within_0 rfl ?_
  refine z_iload_n F dX9_within_1 rfl ?_
  refine z_icmp_lt F 14 dX9_within_2 (by decide) ⟨fun hc => ?_, fun hc => ?_⟩
  · have h := h.1 hc
    refine z_iconst F 0 dX9_within_14 (by decide) ?_
    exact z_zret F dX9_within_15 (by decide) rfl h
  · have h := h.2 hc
    refine z_iload_n F dX9_within_5 rfl ?_
    refine z_iload_n F dX9_within_6 rfl ?_
    refine z_icmp_gt F 14 dX9_within_7 (by decide) ⟨fun hc => ?_, fun hc => ?_⟩
    · have h := h.1 hc
      refine z_iconst F 0 dX9_within_14 (by decide) ?_
      exact z_zret F dX9_within_15 (by decide) rfl h
    · have h := h.2 hc
      refine z_iconst F 1 dX9_within_10 (by decide) ?_
      refine z_goto F 15 dX9_within_11 (by decide) ?_
      exact z_zret F dX9_within_15 (by decide) rfl h
set_option maxRecDepth 20000 in
theorem e_X9_isVowel {l : Launch} {G : Gx} {w : Wd} {p0 : Int32} {K : Option Value → Wd → Prop} {X : String → Wd → Prop} (hl : l.stackTraces = false)
    (h : ∀ (M : Mx) (kk : Nat), mL M = l → 2 ≤ kk → Fx M G RX9 cX9_isVowel 1 (some .boolean) kk 0 → Con (mL M) G 1 0 yX9_within cX9_within 3 (some .boolean) w [.int p0, .int 0, .int 5] (fun r w2 => ∃ v1 : Int32, r = some (.int v1) ∧ (narrow .boolean (.int v1) = .int v1 ∧ K (some (.int v1)) w2)) X) :
    Con l G 2 0 yX9_isVowel cX9_isVowel 1 (some .boolean) w [.int p0] K X := by
  refine con_intro hl (by decide +kernel) (Nat.le_of_ble_eq_true rfl) (Nat.le_of_ble_eq_true rfl) (fun M kk hM hk F => ?_)
  have h := h M kk hM hk F
  show Z M G 0 K X w 0 [some (.int p0)] []
  refine z_iload_n F dX9_isVowel_0 rfl ?_
  refine z_iconst F 0 dX9_isVowel_1 (by decide) ?_
  refine z_iconst F 5 dX9_isVowel_2 (by decide) ?_
  refine z_callS F (k' := 1) (mc' := 0) [.int p0, .int 0, .int 5] [] dX9_isVowel_3 rfl cl_X9_168 hy_X9_within.2 (by omega) (by decide) (by decide) (Nat.le_of_ble_eq_true rfl) rfl (con_mono h ?_ (fun _ _ h => h))
  rintro _ w2 ⟨v1, rfl, h⟩
  show Z M G 0 K X w2 6 [some (.int p0)] [.int v1]
  exact z_zret F dX9_isVowel_6 (by decide) h.1 h.2
set_option maxRecDepth 20000 in
theorem e_X9_isSinger {l : Launch} {G : Gx} {w : Wd} {p0 : Int32} {K : Option Value → Wd → Prop} {X : String → Wd → Prop} (hl : l.stackTraces = false)
    (h : ∀ (M : Mx) (kk : Nat), mL M = l → 1 ≤ kk → Fx M G RX9 cX9_isSinger 2 (some .boolean) kk 0 → ((p0 < 0 → K (some (.int 0)) w) ∧ (¬ (p0 < 0) → (((w.1 7 (w.2.2 2 0 0) 0) ≤ p0 → K (some (.int 0)) w) ∧ (¬ ((w.1 7 (w.2.2 2 0 0) 0) ≤ p0) → K (some (.int 1)) w))))) :
    Con l G 1 0 yX9_isSinger cX9_isSinger 2 (some .boolean) w [.ref (G.2.1 0 0), .int p0] K X := by
  refine con_intro hl (by decide +kernel) (Nat.le_of_ble_eq_true rfl) (Nat.le_of_ble_eq_true rfl) (fun M kk hM hk F => ?_)
  have h := h M kk hM hk F
  show Z M G 0 K X w 0 [some (.ref (G.2.1 0 0)), some (.int p0)] []
  refine z_iload_n F dX9_isSinger_0 rfl ?_
  refine z_if_lt F 22 dX9_isSinger_1 (by decide) ⟨fun hc => ?_, fun hc => ?_⟩
  · have h := h.1 hc
    refine z_iconst F 0 dX9_isSinger_22 (by decide) ?_
    exact z_zret F dX9_isSinger_23 (by decide) rfl h
  · have h := h.2 hc
    refine z_iload_n F dX9_isSinger_4 rfl ?_
    refine z_aload_n F dX9_isSinger_5 rfl ?_
    refine z_getR F 1 2 0 rfl (by decide) (by decide) rfl rfl rfl lk_X9_19 dX9_isSinger_6 ?_
    refine z_getD F 0 7 rfl (by decide) (by decide) rfl rfl lk_X9_106 dX9_isSinger_9 (fun hv1 => ?_)
    refine z_getI F 0 rfl hv1 (by decide) rfl lk_X9_112 dX9_isSinger_12 ?_
    refine z_icmp_ge F 22 dX9_isSinger_15 (by decide) ⟨fun hc => ?_, fun hc => ?_⟩
    · have h := h.1 hc
      refine z_iconst F 0 dX9_isSinger_22 (by decide) ?_
      exact z_zret F dX9_isSinger_23 (by decide) rfl h
    · have h := h.2 hc
      refine z_iconst F 1 dX9_isSinger_18 (by decide) ?_
      refine z_goto F 23 dX9_isSinger_19 (by decide) ?_
      exact z_zret F dX9_isSinger_23 (by decide) rfl h
set_option maxRecDepth 20000 in
theorem e_X9_isNote {l : Launch} {G : Gx} {w : Wd} {p0 : Int32} {K : Option Value → Wd → Prop} {X : String → Wd → Prop} (hl : l.stackTraces = false)
    (h : ∀ (M : Mx) (kk : Nat), mL M = l → 1 ≤ kk → Fx M G RX9 cX9_isNote 2 (some .boolean) kk 0 → ((p0 < 0 → K (some (.int 0)) w) ∧ (¬ (p0 < 0) → (((w.1 7 (w.2.2 2 0 0) 1) ≤ p0 → K (some (.int 0)) w) ∧ (¬ ((w.1 7 (w.2.2 2 0 0) 1) ≤ p0) → K (some (.int 1)) w))))) :
    Con l G 1 0 yX9_isNote cX9_isNote 2 (some .boolean) w [.ref (G.2.1 0 0), .int p0] K X := by
  refine con_intro hl (by decide +kernel) (Nat.le_of_ble_eq_true rfl) (Nat.le_of_ble_eq_true rfl) (fun M kk hM hk F => ?_)
  have h := h M kk hM hk F
  show Z M G 0 K X w 0 [some (.ref (G.2.1 0 0)), some (.int p0)] []
  refine z_iload_n F dX9_isNote_0 rfl ?_
  refine z_if_lt F 22 dX9_isNote_1 (by decide) ⟨fun hc => ?_, fun hc => ?_⟩
  · have h := h.1 hc
    refine z_iconst F 0 dX9_isNote_22 (by decide) ?_
    exact z_zret F dX9_isNote_23 (by decide) rfl h
  · have h := h.2 hc
    refine z_iload_n F dX9_isNote_4 rfl ?_
    refine z_aload_n F dX9_isNote_5 rfl ?_
    refine z_getR F 1 2 0 rfl (by decide) (by decide) rfl rfl rfl lk_X9_19 dX9_isNote_6 ?_
    refine z_getD F 0 7 rfl (by decide) (by decide) rfl rfl lk_X9_106 dX9_isNote_9 (fun hv1 => ?_)
    refine z_getI F 1 rfl hv1 (by decide) rfl lk_X9_147 dX9_isNote_12 ?_
    refine z_icmp_ge F 22 dX9_isNote_15 (by decide) ⟨fun hc => ?_, fun hc => ?_⟩
    · have h := h.1 hc
      refine z_iconst F 0 dX9_isNote_22 (by decide) ?_
      exact z_zret F dX9_isNote_23 (by decide) rfl h
    · have h := h.2 hc
      refine z_iconst F 1 dX9_isNote_18 (by decide) ?_
      refine z_goto F 23 dX9_isNote_19 (by decide) ?_
      exact z_zret F dX9_isNote_23 (by decide) rfl h
set_option maxRecDepth 20000 in
theorem e_X9_allSingers {l : Launch} {G : Gx} {w : Wd}  {K : Option Value → Wd → Prop} {X : String → Wd → Prop} (hl : l.stackTraces = false)
    (h : ∀ (M : Mx) (kk : Nat), mL M = l → 1 ≤ kk → Fx M G RX9 cX9_allSingers 1 (some .int) kk 0 → K (some (.int (((1 : Int32) <<< ((w.1 7 (w.2.2 2 0 0) 0) &&& 31)) - (1 : Int32)))) w) :
    Con l G 1 0 yX9_allSingers cX9_allSingers 1 (some .int) w [.ref (G.2.1 0 0)] K X := by
  refine con_intro hl (by decide +kernel) (Nat.le_of_ble_eq_true rfl) (Nat.le_of_ble_eq_true rfl) (fun M kk hM hk F => ?_)
  have h := h M kk hM hk F
  show Z M G 0 K X w 0 [some (.ref (G.2.1 0 0))] []
  refine z_iconst F 1 dX9_allSingers_0 (by decide) ?_
  refine z_aload_n F dX9_allSingers_1 rfl ?_
  refine z_getR F 1 2 0 rfl (by decide) (by decide) rfl rfl rfl lk_X9_19 dX9_allSingers_2 ?_
  refine z_getD F 0 7 rfl (by decide) (by decide) rfl rfl lk_X9_106 dX9_allSingers_5 (fun hv1 => ?_)
  refine z_getI F 0 rfl hv1 (by decide) rfl lk_X9_112 dX9_allSingers_8 ?_
  refine z_ishl F dX9_allSingers_11 ?_
  refine z_iconst F 1 dX9_allSingers_12 (by decide) ?_
  refine z_isub F dX9_allSingers_13 ?_
  exact z_iret F dX9_allSingers_14 (by decide) h
set_option maxRecDepth 20000 in
theorem e_X9_areSingers {l : Launch} {G : Gx} {w : Wd} {p0 : Int32} {K : Option Value → Wd → Prop} {X : String → Wd → Prop} (hl : l.stackTraces = false)
    (h : ∀ (M : Mx) (kk : Nat), mL M = l → 2 ≤ kk → Fx M G RX9 cX9_areSingers 2 (some .boolean) kk 0 → Con (mL M) G 1 0 yX9_allSingers cX9_allSingers 1 (some .int) w [.ref (G.2.1 0 0)] (fun r w2 => ∃ v1 : Int32, r = some (.int v1) ∧ ((¬ (p0 &&& (v1 ^^^ ((-1) : Int32))) = 0 → K (some (.int 0)) w2) ∧ (¬ (¬ (p0 &&& (v1 ^^^ ((-1) : Int32))) = 0) → K (some (.int 1)) w2))) X) :
    Con l G 2 0 yX9_areSingers cX9_areSingers 2 (some .boolean) w [.ref (G.2.1 0 0), .int p0] K X := by
  refine con_intro hl (by decide +kernel) (Nat.le_of_ble_eq_true rfl) (Nat.le_of_ble_eq_true rfl) (fun M kk hM hk F => ?_)
  have h := h M kk hM hk F
  show Z M G 0 K X w 0 [some (.ref (G.2.1 0 0)), some (.int p0)] []
  refine z_iload_n F dX9_areSingers_0 rfl ?_
  refine z_aload_n F dX9_areSingers_1 rfl ?_
  refine z_callV F (k' := 1) (mc' := 0) [] [.int p0] dX9_areSingers_2 rfl rfl (by decide) rfl cl_X9_339 hy_X9_allSingers (by omega) (by decide) (by decide) (Nat.le_of_ble_eq_true rfl) rfl (con_mono h ?_ (fun _ _ h => h))
  rintro _ w2 ⟨v1, rfl, h⟩
  show Z M G 0 K X w2 5 [some (.ref (G.2.1 0 0)), some (.int p0)] [.int v1, .int p0]
  refine z_iconst F (-1) dX9_areSingers_5 (by decide) ?_
  refine z_ixor F dX9_areSingers_6 ?_
  refine z_iand F dX9_areSingers_7 ?_
  refine z_if_ne F 15 dX9_areSingers_8 (by decide) ⟨fun hc => ?_, fun hc => ?_⟩
  · have h := h.1 hc
    refine z_iconst F 0 dX9_areSingers_15 (by decide) ?_
    exact z_zret F dX9_areSingers_16 (by decide) rfl h
  · have h := h.2 hc
    refine z_iconst F 1 dX9_areSingers_11 (by decide) ?_
    refine z_goto F 16 dX9_areSingers_12 (by decide) ?_
    exact z_zret F dX9_areSingers_16 (by decide) rfl h
set_option maxRecDepth 20000 in
theorem e_X9_total {l : Launch} {G : Gx} {w : Wd} {κ0 jr0 m0 : Nat} (hq0 : ka κ0 = some (0, m0)) (hr0 : jr0 < cnt κ0) {K : Option Value → Wd → Prop} {X : String → Wd → Prop} (hl : l.stackTraces = false)
    (h : ∀ (M : Mx) (kk : Nat), mL M = l → 1 ≤ kk → Fx M G RX9 cX9_total 3 (some .int) kk 0 → Z M G 0 K X w 4 [some (.ref (G.2.1 κ0 jr0)), some (.int 0), some (.int 0)] []) :
    Con l G 1 0 yX9_total cX9_total 3 (some .int) w [.ref (G.2.1 κ0 jr0)] K X := by
  refine con_intro hl (by decide +kernel) (Nat.le_of_ble_eq_true rfl) (Nat.le_of_ble_eq_true rfl) (fun M kk hM hk F => ?_)
  have h := h M kk hM hk F
  show Z M G 0 K X w 0 [some (.ref (G.2.1 κ0 jr0)), none, none] []
  refine z_iconst F 0 dX9_total_0 (by decide) ?_
  refine z_istore_n F dX9_total_1 (Nat.le_of_ble_eq_true rfl) ?_
  refine z_iconst F 0 dX9_total_2 (by decide) ?_
  refine z_istore_n F dX9_total_3 (Nat.le_of_ble_eq_true rfl) ?_
  exact h
set_option maxRecDepth 20000 in
theorem b_X9_total_4 {M : Mx} {G : Gx} {kk : Nat} {w : Wd} {κ0 jr0 m0 : Nat} (hq0 : ka κ0 = some (0, m0)) (hr0 : jr0 < cnt κ0) {x1 : Int32} {x2 : Int32} {K : Option Value → Wd → Prop} {X : String → Wd → Prop} (F : Fx M G RX9 cX9_total 3 (some .int) kk 0) (hk : 1 ≤ kk)
    (h : (((Int32.ofNat m0) ≤ x2 → K (some (.int x1)) w) ∧ (¬ ((Int32.ofNat m0) ≤ x2) → (vp_in x2 m0 ∧ Z M G 0 K X w 4 [some (.ref (G.2.1 κ0 jr0)), some (.int (x1 + (w.1 κ0 jr0 ((x2 : Int32).toNatClampNeg)))), some (.int (x2 + 1))] [])))) :
    Z M G 0 K X w 4 [some (.ref (G.2.1 κ0 jr0)), some (.int x1), some (.int x2)] [] := by
  refine z_iload_n F dX9_total_4 rfl ?_
  refine z_aload_n F dX9_total_5 rfl ?_
  refine z_alen F (Int32.ofNat m0) hq0 (by decide) hr0 (by first | rfl | decide) dX9_total_6 ?_
  refine z_icmp_ge F 22 dX9_total_7 (by decide) ⟨fun hc => ?_, fun hc => ?_⟩
  · have h := h.1 hc
    refine z_iload_n F dX9_total_22 rfl ?_
    exact z_iret F dX9_total_23 (by decide) h
  · have h := h.2 hc
    refine z_iload_n F dX9_total_10 rfl ?_
    refine z_aload_n F dX9_total_11 rfl ?_
    refine z_iload_n F dX9_total_12 rfl ?_
    obtain ⟨hb, h⟩ := h
    refine z_ialdK F ((x2 : Int32).toNatClampNeg) rfl hq0 hr0 hb dX9_total_13 ?_
    refine z_iadd F dX9_total_14 ?_
    refine z_istore_n F dX9_total_15 (Nat.le_of_ble_eq_true rfl) ?_
    refine z_iinc F (x2 + 1) dX9_total_16 rfl rfl (Nat.le_of_ble_eq_true rfl) ?_
    refine z_goto F 4 dX9_total_19 (by decide) ?_
    exact h
set_option maxRecDepth 20000 in
theorem e_X9_places {l : Launch} {G : Gx} {w : Wd} {κ0 jr0 m0 : Nat} (hq0 : ka κ0 = some (0, m0)) (hr0 : jr0 < cnt κ0) {p1 : Int32} {p2 : Int32} {K : Option Value → Wd → Prop} {X : String → Wd → Prop} (hl : l.stackTraces = false)
    (h : ∀ (M : Mx) (kk : Nat), mL M = l → 1 ≤ kk → Fx M G RX9 cX9_places 5 (some .int) kk 0 → Z M G 0 K X w 5 [some (.ref (G.2.1 κ0 jr0)), some (.int p1), some (.int p2), some (.int 0), some (.int 0)] []) :
    Con l G 1 0 yX9_places cX9_places 5 (some .int) w [.ref (G.2.1 κ0 jr0), .int p1, .int p2] K X := by
  refine con_intro hl (by decide +kernel) (Nat.le_of_ble_eq_true rfl) (Nat.le_of_ble_eq_true rfl) (fun M kk hM hk F => ?_)
  have h := h M kk hM hk F
  show Z M G 0 K X w 0 [some (.ref (G.2.1 κ0 jr0)), some (.int p1), some (.int p2), none, none] []
  refine z_iconst F 0 dX9_places_0 (by decide) ?_
  refine z_istore_n F dX9_places_1 (Nat.le_of_ble_eq_true rfl) ?_
  refine z_iconst F 0 dX9_places_2 (by decide) ?_
  refine z_istore F dX9_places_3 (Nat.le_of_ble_eq_true rfl) ?_
  exact h
set_option maxRecDepth 20000 in
theorem b_X9_places_5 {M : Mx} {G : Gx} {kk : Nat} {w : Wd} {κ0 jr0 m0 : Nat} (hq0 : ka κ0 = some (0, m0)) (hr0 : jr0 < cnt κ0) {x1 : Int32} {x2 : Int32} {x3 : Int32} {x4 : Int32} {K : Option Value → Wd → Prop} {X : String → Wd → Prop} (F : Fx M G RX9 cX9_places 5 (some .int) kk 0) (hk : 1 ≤ kk)
    (h : ((x1 ≤ x4 → K (some (.int x3)) w) ∧ (¬ (x1 ≤ x4) → (((Int32.ofNat m0) ≤ x4 → K (some (.int x3)) w) ∧ (¬ ((Int32.ofNat m0) ≤ x4) → (vp_in x4 m0 ∧ ((¬ (w.1 κ0 jr0 ((x4 : Int32).toNatClampNeg)) = x2 → Z M G 0 K X w 5 [some (.ref (G.2.1 κ0 jr0)), some (.int x1), some (.int x2), some (.int x3), some (.int (x4 + 1))] []) ∧ (¬ (¬ (w.1 κ0 jr0 ((x4 : Int32).toNatClampNeg)) = x2) → Z M G 0 K X w 5 [some (.ref (G.2.1 κ0 jr0)), some (.int x1), some (.int x2), some (.int (x3 ||| ((1 : Int32) <<< (x4 &&& 31)))), some (.int (x4 + 1))] [])))))))) :
    Z M G 0 K X w 5 [some (.ref (G.2.1 κ0 jr0)), some (.int x1), some (.int x2), some (.int x3), some (.int x4)] [] := by
  refine z_iload F dX9_places_5 rfl ?_
  refine z_iload_n F dX9_places_7 rfl ?_
  refine z_icmp_ge F 39 dX9_places_8 (by decide) ⟨fun hc => ?_, fun hc => ?_⟩
  · have h := h.1 hc
    refine z_iload_n F dX9_places_39 rfl ?_
    exact z_iret F dX9_places_40 (by decide) h
  · have h := h.2 hc
    refine z_iload F dX9_places_11 rfl ?_
    refine z_aload_n F dX9_places_13 rfl ?_
    refine z_alen F (Int32.ofNat m0) hq0 (by decide) hr0 (by first | rfl | decide) dX9_places_14 ?_
    refine z_icmp_ge F 39 dX9_places_15 (by decide) ⟨fun hc => ?_, fun hc => ?_⟩
    · have h := h.1 hc
      refine z_iload_n F dX9_places_39 rfl ?_
      exact z_iret F dX9_places_40 (by decide) h
    · have h := h.2 hc
      refine z_aload_n F dX9_places_18 rfl ?_
      refine z_iload F dX9_places_19 rfl ?_
      obtain ⟨hb, h⟩ := h
      refine z_ialdK F ((x4 : Int32).toNatClampNeg) rfl hq0 hr0 hb dX9_places_21 ?_
      refine z_iload_n F dX9_places_22 rfl ?_
      refine z_icmp_ne F 33 dX9_places_23 (by decide) ⟨fun hc => ?_, fun hc => ?_⟩
      · have h := h.1 hc
        refine z_iinc F (x4 + 1) dX9_places_33 rfl rfl (Nat.le_of_ble_eq_true rfl) ?_
        refine z_goto F 5 dX9_places_36 (by decide) ?_
        exact h
      · have h := h.2 hc
        refine z_iload_n F dX9_places_26 rfl ?_
        refine z_iconst F 1 dX9_places_27 (by decide) ?_
        refine z_iload F dX9_places_28 rfl ?_
        refine z_ishl F dX9_places_30 ?_
        refine z_ior F dX9_places_31 ?_
        refine z_istore_n F dX9_places_32 (Nat.le_of_ble_eq_true rfl) ?_
        refine z_iinc F (x4 + 1) dX9_places_33 rfl rfl (Nat.le_of_ble_eq_true rfl) ?_
        refine z_goto F 5 dX9_places_36 (by decide) ?_
        exact h
set_option maxRecDepth 20000 in
theorem e_X9_firstMost {l : Launch} {G : Gx} {w : Wd} {κ0 jr0 m0 : Nat} (hq0 : ka κ0 = some (0, m0)) (hr0 : jr0 < cnt κ0) {p1 : Int32} {K : Option Value → Wd → Prop} {X : String → Wd → Prop} (hl : l.stackTraces = false)
    (h : ∀ (M : Mx) (kk : Nat), mL M = l → 1 ≤ kk → Fx M G RX9 cX9_firstMost 4 (some .int) kk 0 → Z M G 0 K X w 4 [some (.ref (G.2.1 κ0 jr0)), some (.int p1), some (.int (-1)), some (.int 0)] []) :
    Con l G 1 0 yX9_firstMost cX9_firstMost 4 (some .int) w [.ref (G.2.1 κ0 jr0), .int p1] K X := by
  refine con_intro hl (by decide +kernel) (Nat.le_of_ble_eq_true rfl) (Nat.le_of_ble_eq_true rfl) (fun M kk hM hk F => ?_)
  have h := h M kk hM hk F
  show Z M G 0 K X w 0 [some (.ref (G.2.1 κ0 jr0)), some (.int p1), none, none] []
  refine z_iconst F (-1) dX9_firstMost_0 (by decide) ?_
  refine z_istore_n F dX9_firstMost_1 (Nat.le_of_ble_eq_true rfl) ?_
  refine z_iconst F 0 dX9_firstMost_2 (by decide) ?_
  refine z_istore_n F dX9_firstMost_3 (Nat.le_of_ble_eq_true rfl) ?_
  exact h
set_option maxRecDepth 20000 in
theorem b_X9_firstMost_4 {M : Mx} {G : Gx} {kk : Nat} {w : Wd} {κ0 jr0 m0 : Nat} (hq0 : ka κ0 = some (0, m0)) (hr0 : jr0 < cnt κ0) {x1 : Int32} {x2 : Int32} {x3 : Int32} {K : Option Value → Wd → Prop} {X : String → Wd → Prop} (F : Fx M G RX9 cX9_firstMost 4 (some .int) kk 0) (hk : 1 ≤ kk)
    (h : ((x1 ≤ x3 → K (some (.int x2)) w) ∧ (¬ (x1 ≤ x3) → (((Int32.ofNat m0) ≤ x3 → K (some (.int x2)) w) ∧ (¬ ((Int32.ofNat m0) ≤ x3) → ((x2 = (-1) → Z M G 0 K X w 4 [some (.ref (G.2.1 κ0 jr0)), some (.int x1), some (.int x3), some (.int (x3 + 1))] []) ∧ (¬ (x2 = (-1)) → (vp_in x3 m0 ∧ (vp_in x2 m0 ∧ (((w.1 κ0 jr0 ((x3 : Int32).toNatClampNeg)) ≤ (w.1 κ0 jr0 ((x2 : Int32).toNatClampNeg)) → Z M G 0 K X w 4 [some (.ref (G.2.1 κ0 jr0)), some (.int x1), some (.int x2), some (.int (x3 + 1))] []) ∧ (¬ ((w.1 κ0 jr0 ((x3 : Int32).toNatClampNeg)) ≤ (w.1 κ0 jr0 ((x2 : Int32).toNatClampNeg))) → Z M G 0 K X w 4 [some (.ref (G.2.1 κ0 jr0)), some (.int x1), some (.int x3), some (.int (x3 + 1))] []))))))))))) :
    Z M G 0 K X w 4 [some (.ref (G.2.1 κ0 jr0)), some (.int x1), some (.int x2), some (.int x3)] [] := by
  refine z_iload_n F dX9_firstMost_4 rfl ?_
  refine z_iload_n F dX9_firstMost_5 rfl ?_
  refine z_icmp_ge F 37 dX9_firstMost_6 (by decide) ⟨fun hc => ?_, fun hc => ?_⟩
  · have h := h.1 hc
    refine z_iload_n F dX9_firstMost_37 rfl ?_
    exact z_iret F dX9_firstMost_38 (by decide) h
  · have h := h.2 hc
    refine z_iload_n F dX9_firstMost_9 rfl ?_
    refine z_aload_n F dX9_firstMost_10 rfl ?_
    refine z_alen F (Int32.ofNat m0) hq0 (by decide) hr0 (by first | rfl | decide) dX9_firstMost_11 ?_
    refine z_icmp_ge F 37 dX9_firstMost_12 (by decide) ⟨fun hc => ?_, fun hc => ?_⟩
    · have h := h.1 hc
      refine z_iload_n F dX9_firstMost_37 rfl ?_
      exact z_iret F dX9_firstMost_38 (by decide) h
    · have h := h.2 hc
      refine z_iload_n F dX9_firstMost_15 rfl ?_
      refine z_iconst F (-1) dX9_firstMost_16 (by decide) ?_
      refine z_icmp_eq F 29 dX9_firstMost_17 (by decide) ⟨fun hc => ?_, fun hc => ?_⟩
      · have h := h.1 hc
        refine z_iload_n F dX9_firstMost_29 rfl ?_
        refine z_istore_n F dX9_firstMost_30 (Nat.le_of_ble_eq_true rfl) ?_
        refine z_iinc F (x3 + 1) dX9_firstMost_31 rfl rfl (Nat.le_of_ble_eq_true rfl) ?_
        refine z_goto F 4 dX9_firstMost_34 (by decide) ?_
        exact h
      · have h := h.2 hc
        refine z_aload_n F dX9_firstMost_20 rfl ?_
        refine z_iload_n F dX9_firstMost_21 rfl ?_
        obtain ⟨hb, h⟩ := h
        refine z_ialdK F ((x3 : Int32).toNatClampNeg) rfl hq0 hr0 hb dX9_firstMost_22 ?_
        refine z_aload_n F dX9_firstMost_23 rfl ?_
        refine z_iload_n F dX9_firstMost_24 rfl ?_
        obtain ⟨hb, h⟩ := h
        refine z_ialdK F ((x2 : Int32).toNatClampNeg) rfl hq0 hr0 hb dX9_firstMost_25 ?_
        refine z_icmp_le F 31 dX9_firstMost_26 (by decide) ⟨fun hc => ?_, fun hc => ?_⟩
        · have h := h.1 hc
          refine z_iinc F (x3 + 1) dX9_firstMost_31 rfl rfl (Nat.le_of_ble_eq_true rfl) ?_
          refine z_goto F 4 dX9_firstMost_34 (by decide) ?_
          exact h
        · have h := h.2 hc
          refine z_iload_n F dX9_firstMost_29 rfl ?_
          refine z_istore_n F dX9_firstMost_30 (Nat.le_of_ble_eq_true rfl) ?_
          refine z_iinc F (x3 + 1) dX9_firstMost_31 rfl rfl (Nat.le_of_ble_eq_true rfl) ?_
          refine z_goto F 4 dX9_firstMost_34 (by decide) ?_
          exact h
set_option maxRecDepth 20000 in
theorem e_X9_wordedAnew {l : Launch} {G : Gx} {w : Wd}  {K : Option Value → Wd → Prop} {X : String → Wd → Prop} (hl : l.stackTraces = false)
    (h : ∀ (M : Mx) (kk : Nat), mL M = l → 1 ≤ kk → Fx M G RX9 cX9_wordedAnew 3 (some .int) kk 0 → Z M G 0 K X w 4 [some (.ref (G.2.1 0 0)), some (.int 0), some (.int 0)] []) :
    Con l G 1 0 yX9_wordedAnew cX9_wordedAnew 3 (some .int) w [.ref (G.2.1 0 0)] K X := by
  refine con_intro hl (by decide +kernel) (Nat.le_of_ble_eq_true rfl) (Nat.le_of_ble_eq_true rfl) (fun M kk hM hk F => ?_)
  have h := h M kk hM hk F
  show Z M G 0 K X w 0 [some (.ref (G.2.1 0 0)), none, none] []
  refine z_iconst F 0 dX9_wordedAnew_0 (by decide) ?_
  refine z_istore_n F dX9_wordedAnew_1 (Nat.le_of_ble_eq_true rfl) ?_
  refine z_iconst F 0 dX9_wordedAnew_2 (by decide) ?_
  refine z_istore_n F dX9_wordedAnew_3 (Nat.le_of_ble_eq_true rfl) ?_
  exact h
set_option maxRecDepth 20000 in
theorem b_X9_wordedAnew_4 {M : Mx} {G : Gx} {kk : Nat} {w : Wd}  {x1 : Int32} {x2 : Int32} {K : Option Value → Wd → Prop} {X : String → Wd → Prop} (F : Fx M G RX9 cX9_wordedAnew 3 (some .int) kk 0) (hk : 1 ≤ kk)
    (h : (((w.1 7 (w.2.2 2 0 0) 1) ≤ x2 → K (some (.int x1)) w) ∧ (¬ ((w.1 7 (w.2.2 2 0 0) 1) ≤ x2) → (vp_in x2 20 ∧ (vp_in x2 20 ∧ (((w.1 21 0 ((x2 : Int32).toNatClampNeg)) = (w.1 28 (w.2.2 2 0 0) ((x2 : Int32).toNatClampNeg)) → Z M G 0 K X w 4 [some (.ref (G.2.1 0 0)), some (.int x1), some (.int (x2 + 1))] []) ∧ (¬ ((w.1 21 0 ((x2 : Int32).toNatClampNeg)) = (w.1 28 (w.2.2 2 0 0) ((x2 : Int32).toNatClampNeg))) → Z M G 0 K X w 4 [some (.ref (G.2.1 0 0)), some (.int (x1 ||| ((1 : Int32) <<< (x2 &&& 31)))), some (.int (x2 + 1))] []))))))) :
    Z M G 0 K X w 4 [some (.ref (G.2.1 0 0)), some (.int x1), some (.int x2)] [] := by
  refine z_iload_n F dX9_wordedAnew_4 rfl ?_
  refine z_aload_n F dX9_wordedAnew_5 rfl ?_
  refine z_getR F 1 2 0 rfl (by decide) (by decide) rfl rfl rfl lk_X9_19 dX9_wordedAnew_6 ?_
  refine z_getD F 0 7 rfl (by decide) (by decide) rfl rfl lk_X9_106 dX9_wordedAnew_9 (fun hv1 => ?_)
  refine z_getI F 1 rfl hv1 (by decide) rfl lk_X9_147 dX9_wordedAnew_12 ?_
  refine z_icmp_ge F 57 dX9_wordedAnew_15 (by decide) ⟨fun hc => ?_, fun hc => ?_⟩
  · have h := h.1 hc
    refine z_iload_n F dX9_wordedAnew_57 rfl ?_
    exact z_iret F dX9_wordedAnew_58 (by decide) h
  · have h := h.2 hc
    refine z_aload_n F dX9_wordedAnew_18 rfl ?_
    refine z_getR F 3 4 0 rfl (by decide) (by decide) rfl rfl rfl lk_X9_33 dX9_wordedAnew_19 ?_
    refine z_getR F 1 5 0 rfl (by decide) (by decide) rfl rfl rfl lk_X9_128 dX9_wordedAnew_22 ?_
    refine z_getR F 7 21 0 rfl (by decide) (by decide) rfl rfl rfl lk_X9_227 dX9_wordedAnew_25 ?_
    refine z_iload_n F dX9_wordedAnew_28 rfl ?_
    obtain ⟨hb, h⟩ := h
    refine z_ialdK F ((x2 : Int32).toNatClampNeg) rfl rfl (by decide) hb dX9_wordedAnew_29 ?_
    refine z_aload_n F dX9_wordedAnew_30 rfl ?_
    refine z_getR F 1 2 0 rfl (by decide) (by decide) rfl rfl rfl lk_X9_19 dX9_wordedAnew_31 ?_
    refine z_getD F 0 7 rfl (by decide) (by decide) rfl rfl lk_X9_106 dX9_wordedAnew_34 (fun hv2 => ?_)
    refine z_getR F 7 28 (w.2.2 2 0 0) rfl hv2 (by decide) rfl rfl rfl lk_X9_230 dX9_wordedAnew_37 ?_
    refine z_iload_n F dX9_wordedAnew_40 rfl ?_
    obtain ⟨hb, h⟩ := h
    refine z_ialdK F ((x2 : Int32).toNatClampNeg) rfl rfl (fix_lt 7 (w.2.2 2 0 0) 7 hv2 (by decide) rfl rfl) hb dX9_wordedAnew_41 ?_
    refine z_icmp_eq F 51 dX9_wordedAnew_42 (by decide) ⟨fun hc => ?_, fun hc => ?_⟩
    · have h := h.1 hc
      refine z_iinc F (x2 + 1) dX9_wordedAnew_51 rfl rfl (Nat.le_of_ble_eq_true rfl) ?_
      refine z_goto F 4 dX9_wordedAnew_54 (by decide) ?_
      exact h
    · have h := h.2 hc
      refine z_iload_n F dX9_wordedAnew_45 rfl ?_
      refine z_iconst F 1 dX9_wordedAnew_46 (by decide) ?_
      refine z_iload_n F dX9_wordedAnew_47 rfl ?_
      refine z_ishl F dX9_wordedAnew_48 ?_
      refine z_ior F dX9_wordedAnew_49 ?_
      refine z_istore_n F dX9_wordedAnew_50 (Nat.le_of_ble_eq_true rfl) ?_
      refine z_iinc F (x2 + 1) dX9_wordedAnew_51 rfl rfl (Nat.le_of_ble_eq_true rfl) ?_
      refine z_goto F 4 dX9_wordedAnew_54 (by decide) ?_
      exact h
set_option maxRecDepth 20000 in
theorem e_X9_sungByNow {l : Launch} {G : Gx} {w : Wd} {p0 : Int32} {K : Option Value → Wd → Prop} {X : String → Wd → Prop} (hl : l.stackTraces = false)
    (h : ∀ (M : Mx) (kk : Nat), mL M = l → 5 ≤ kk → Fx M G RX9 cX9_sungByNow 2 (some .int) kk 0 → Con (mL M) G 3 0 yX6_become cX6_become 2 none w [.ref (G.2.1 5 68), .ref (G.2.1 5 0)] (fun r w2 => r = none ∧ Con (mL M) G 4 0 yX7_singNote cX7_singNote 5 (some .int) w2 [.ref (G.2.1 2 0), .ref (G.2.1 5 68), .int p0] (fun r w4 => ∃ v3 : Int32, r = some (.int v3) ∧ K (some (.int v3)) w4) X) X) :
    Con l G 5 0 yX9_sungByNow cX9_sungByNow 2 (some .int) w [.ref (G.2.1 0 0), .int p0] K X := by
  refine con_intro hl (by decide +kernel) (Nat.le_of_ble_eq_true rfl) (Nat.le_of_ble_eq_true rfl) (fun M kk hM hk F => ?_)
  have h := h M kk hM hk F
  show Z M G 0 K X w 0 [some (.ref (G.2.1 0 0)), some (.int p0)] []
  refine z_aload_n F dX9_sungByNow_0 rfl ?_
  refine z_getR F 5 5 68 rfl (by decide) (by decide) rfl rfl rfl lk_X9_44 dX9_sungByNow_1 ?_
  refine z_aload_n F dX9_sungByNow_4 rfl ?_
  refine z_getR F 3 4 0 rfl (by decide) (by decide) rfl rfl rfl lk_X9_33 dX9_sungByNow_5 ?_
  refine z_getR F 1 5 0 rfl (by decide) (by decide) rfl rfl rfl lk_X9_128 dX9_sungByNow_8 ?_
  refine z_callV F (k' := 3) (mc' := 0) [.ref (G.2.1 5 0)] [] dX9_sungByNow_11 rfl rfl (by decide) rfl cl_X9_256 hy_X6_become (by omega) (by decide) (by decide) (Nat.le_of_ble_eq_true rfl) rfl (con_mono h ?_ (fun _ _ h => h))
  rintro _ w2 ⟨rfl, h⟩
  show Z M G 0 K X w2 14 [some (.ref (G.2.1 0 0)), some (.int p0)] []
  refine z_aload_n F dX9_sungByNow_14 rfl ?_
  refine z_getR F 1 2 0 rfl (by decide) (by decide) rfl rfl rfl lk_X9_19 dX9_sungByNow_15 ?_
  refine z_aload_n F dX9_sungByNow_18 rfl ?_
  refine z_getR F 5 5 68 rfl (by decide) (by decide) rfl rfl rfl lk_X9_44 dX9_sungByNow_19 ?_
  refine z_iload_n F dX9_sungByNow_22 rfl ?_
  refine z_callV F (k' := 4) (mc' := 0) [.ref (G.2.1 5 68), .int p0] [] dX9_sungByNow_23 rfl rfl (by decide) rfl cl_X9_383 hy_X7_singNote (by omega) (by decide) (by decide) (Nat.le_of_ble_eq_true rfl) rfl (con_mono h ?_ (fun _ _ h => h))
  rintro _ w4 ⟨v3, rfl, h⟩
  show Z M G 0 K X w4 26 [some (.ref (G.2.1 0 0)), some (.int p0)] [.int v3]
  exact z_iret F dX9_sungByNow_26 (by decide) h
set_option maxRecDepth 20000 in
theorem e_X9_outOfBreath {l : Launch} {G : Gx} {w : Wd} {j1 : Nat} (hj1 : j1 < cnt 5) {K : Option Value → Wd → Prop} {X : String → Wd → Prop} (hl : l.stackTraces = false)
    (h : ∀ (M : Mx) (kk : Nat), mL M = l → 2 ≤ kk → Fx M G RX9 cX9_outOfBreath 2 (some .int) kk 0 → Con (mL M) G 1 0 yX9_places cX9_places 5 (some .int) w [.ref (G.2.1 17 j1), .int (w.1 7 (w.2.2 2 0 0) 0), .int 0] (fun r w3 => ∃ v2 : Int32, r = some (.int v2) ∧ K (some (.int v2)) w3) X) :
    Con l G 2 0 yX9_outOfBreath cX9_outOfBreath 2 (some .int) w [.ref (G.2.1 0 0), .ref (G.2.1 5 j1)] K X := by
  refine con_intro hl (by decide +kernel) (Nat.le_of_ble_eq_true rfl) (Nat.le_of_ble_eq_true rfl) (fun M kk hM hk F => ?_)
  have h := h M kk hM hk F
  show Z M G 0 K X w 0 [some (.ref (G.2.1 0 0)), some (.ref (G.2.1 5 j1))] []
  refine z_aload_n F dX9_outOfBreath_0 rfl ?_
  refine z_getR F 3 17 j1 rfl hj1 (by decide) rfl rfl rfl lk_X9_198 dX9_outOfBreath_1 ?_
  refine z_aload_n F dX9_outOfBreath_4 rfl ?_
  refine z_getR F 1 2 0 rfl (by decide) (by decide) rfl rfl rfl lk_X9_19 dX9_outOfBreath_5 ?_
  refine z_getD F 0 7 rfl (by decide) (by decide) rfl rfl lk_X9_106 dX9_outOfBreath_8 (fun hv1 => ?_)
  refine z_getI F 0 rfl hv1 (by decide) rfl lk_X9_112 dX9_outOfBreath_11 ?_
  refine z_iconst F 0 dX9_outOfBreath_14 (by decide) ?_
  refine z_callS F (k' := 1) (mc' := 0) [.ref (G.2.1 17 j1), .int (w.1 7 (w.2.2 2 0 0) 0), .int 0] [] dX9_outOfBreath_15 rfl cl_X9_332 hy_X9_places.2 (by omega) (by decide) (by decide) (Nat.le_of_ble_eq_true rfl) rfl (con_mono h ?_ (fun _ _ h => h))
  rintro _ w3 ⟨v2, rfl, h⟩
  show Z M G 0 K X w3 18 [some (.ref (G.2.1 0 0)), some (.ref (G.2.1 5 j1))] [.int v2]
  exact z_iret F dX9_outOfBreath_18 (by decide) h
set_option maxRecDepth 20000 in
theorem e_X9_notesSungBy {l : Launch} {G : Gx} {w : Wd} {p0 : Int32} {K : Option Value → Wd → Prop} {X : String → Wd → Prop} (hl : l.stackTraces = false)
    (h : ∀ (M : Mx) (kk : Nat), mL M = l → 5 ≤ kk → Fx M G RX9 cX9_notesSungBy 4 (some .int) kk 0 → Z M G 0 K X w 4 [some (.ref (G.2.1 0 0)), some (.int p0), some (.int 0), some (.int 0)] []) :
    Con l G 5 0 yX9_notesSungBy cX9_notesSungBy 4 (some .int) w [.ref (G.2.1 0 0), .int p0] K X := by
  refine con_intro hl (by decide +kernel) (Nat.le_of_ble_eq_true rfl) (Nat.le_of_ble_eq_true rfl) (fun M kk hM hk F => ?_)
  have h := h M kk hM hk F
  show Z M G 0 K X w 0 [some (.ref (G.2.1 0 0)), some (.int p0), none, none] []
  refine z_iconst F 0 dX9_notesSungBy_0 (by decide) ?_
  refine z_istore_n F dX9_notesSungBy_1 (Nat.le_of_ble_eq_true rfl) ?_
  refine z_iconst F 0 dX9_notesSungBy_2 (by decide) ?_
  refine z_istore_n F dX9_notesSungBy_3 (Nat.le_of_ble_eq_true rfl) ?_
  exact h
set_option maxRecDepth 20000 in
theorem b_X9_notesSungBy_4 {M : Mx} {G : Gx} {kk : Nat} {w : Wd}  {x1 : Int32} {x2 : Int32} {x3 : Int32} {K : Option Value → Wd → Prop} {X : String → Wd → Prop} (F : Fx M G RX9 cX9_notesSungBy 4 (some .int) kk 0) (hk : 5 ≤ kk)
    (h : (((w.1 7 (w.2.2 2 0 0) 1) ≤ x3 → K (some (.int x2)) w) ∧ (¬ ((w.1 7 (w.2.2 2 0 0) 1) ≤ x3) → Con (mL M) G 4 0 yX7_singNote cX7_singNote 5 (some .int) w [.ref (G.2.1 2 0), .ref (G.2.1 5 68), .int x3] (fun r w3 => ∃ v2 : Int32, r = some (.int v2) ∧ ((¬ v2 = x1 → Z M G 0 K X w3 4 [some (.ref (G.2.1 0 0)), some (.int x1), some (.int x2), some (.int (x3 + 1))] []) ∧ (¬ (¬ v2 = x1) → Z M G 0 K X w3 4 [some (.ref (G.2.1 0 0)), some (.int x1), some (.int (x2 ||| ((1 : Int32) <<< (x3 &&& 31)))), some (.int (x3 + 1))] []))) X))) :
    Z M G 0 K X w 4 [some (.ref (G.2.1 0 0)), some (.int x1), some (.int x2), some (.int x3)] [] := by
  refine z_iload_n F dX9_notesSungBy_4 rfl ?_
  refine z_aload_n F dX9_notesSungBy_5 rfl ?_
  refine z_getR F 1 2 0 rfl (by decide) (by decide) rfl rfl rfl lk_X9_19 dX9_notesSungBy_6 ?_
  refine z_getD F 0 7 rfl (by decide) (by decide) rfl rfl lk_X9_106 dX9_notesSungBy_9 (fun hv1 => ?_)
  refine z_getI F 1 rfl hv1 (by decide) rfl lk_X9_147 dX9_notesSungBy_12 ?_
  refine z_icmp_ge F 46 dX9_notesSungBy_15 (by decide) ⟨fun hc => ?_, fun hc => ?_⟩
  · have h := h.1 hc
    refine z_iload_n F dX9_notesSungBy_46 rfl ?_
    exact z_iret F dX9_notesSungBy_47 (by decide) h
  · have h := h.2 hc
    refine z_aload_n F dX9_notesSungBy_18 rfl ?_
    refine z_getR F 1 2 0 rfl (by decide) (by decide) rfl rfl rfl lk_X9_19 dX9_notesSungBy_19 ?_
    refine z_aload_n F dX9_notesSungBy_22 rfl ?_
    refine z_getR F 5 5 68 rfl (by decide) (by decide) rfl rfl rfl lk_X9_44 dX9_notesSungBy_23 ?_
    refine z_iload_n F dX9_notesSungBy_26 rfl ?_
    refine z_callV F (k' := 4) (mc' := 0) [.ref (G.2.1 5 68), .int x3] [] dX9_notesSungBy_27 rfl rfl (by decide) rfl cl_X9_383 hy_X7_singNote (by omega) (by decide) (by decide) (Nat.le_of_ble_eq_true rfl) rfl (con_mono h ?_ (fun _ _ h => h))
    rintro _ w3 ⟨v2, rfl, h⟩
    show Z M G 0 K X w3 30 [some (.ref (G.2.1 0 0)), some (.int x1), some (.int x2), some (.int x3)] [.int v2]
    refine z_iload_n F dX9_notesSungBy_30 rfl ?_
    refine z_icmp_ne F 40 dX9_notesSungBy_31 (by decide) ⟨fun hc => ?_, fun hc => ?_⟩
    · have h := h.1 hc
      refine z_iinc F (x3 + 1) dX9_notesSungBy_40 rfl rfl (Nat.le_of_ble_eq_true rfl) ?_
      refine z_goto F 4 dX9_notesSungBy_43 (by decide) ?_
      exact h
    · have h := h.2 hc
      refine z_iload_n F dX9_notesSungBy_34 rfl ?_
      refine z_iconst F 1 dX9_notesSungBy_35 (by decide) ?_
      refine z_iload_n F dX9_notesSungBy_36 rfl ?_
      refine z_ishl F dX9_notesSungBy_37 ?_
      refine z_ior F dX9_notesSungBy_38 ?_
      refine z_istore_n F dX9_notesSungBy_39 (Nat.le_of_ble_eq_true rfl) ?_
      refine z_iinc F (x3 + 1) dX9_notesSungBy_40 rfl rfl (Nat.le_of_ble_eq_true rfl) ?_
      refine z_goto F 4 dX9_notesSungBy_43 (by decide) ?_
      exact h
set_option maxRecDepth 20000 in
theorem e_X9_payOf {l : Launch} {G : Gx} {w : Wd} {p0 : Int32} {K : Option Value → Wd → Prop} {X : String → Wd → Prop} (hl : l.stackTraces = false)
    (h : ∀ (M : Mx) (kk : Nat), mL M = l → 1 ≤ kk → Fx M G RX9 cX9_payOf 4 (some .int) kk 0 → Z M G 0 K X w 4 [some (.ref (G.2.1 0 0)), some (.int p0), some (.int 0), some (.int 0)] []) :
    Con l G 1 0 yX9_payOf cX9_payOf 4 (some .int) w [.ref (G.2.1 0 0), .int p0] K X := by
  refine con_intro hl (by decide +kernel) (Nat.le_of_ble_eq_true rfl) (Nat.le_of_ble_eq_true rfl) (fun M kk hM hk F => ?_)
  have h := h M kk hM hk F
  show Z M G 0 K X w 0 [some (.ref (G.2.1 0 0)), some (.int p0), none, none] []
  refine z_iconst F 0 dX9_payOf_0 (by decide) ?_
  refine z_istore_n F dX9_payOf_1 (Nat.le_of_ble_eq_true rfl) ?_
  refine z_iconst F 0 dX9_payOf_2 (by decide) ?_
  refine z_istore_n F dX9_payOf_3 (Nat.le_of_ble_eq_true rfl) ?_
  exact h
set_option maxRecDepth 20000 in
theorem b_X9_payOf_4 {M : Mx} {G : Gx} {kk : Nat} {w : Wd}  {x1 : Int32} {x2 : Int32} {x3 : Int32} {K : Option Value → Wd → Prop} {X : String → Wd → Prop} (F : Fx M G RX9 cX9_payOf 4 (some .int) kk 0) (hk : 1 ≤ kk)
    (h : (((w.1 7 (w.2.2 2 0 0) 0) ≤ x3 → K (some (.int x2)) w) ∧ (¬ ((w.1 7 (w.2.2 2 0 0) 0) ≤ x3) → (vp_in x3 7 ∧ Z M G 0 K X w 4 [some (.ref (G.2.1 0 0)), some (.int x1), some (.int (x2 + (((x1 >>> (x3 &&& 31)) &&& (1 : Int32)) * (w.1 26 (w.2.2 2 0 0) ((x3 : Int32).toNatClampNeg))))), some (.int (x3 + 1))] [])))) :
    Z M G 0 K X w 4 [some (.ref (G.2.1 0 0)), some (.int x1), some (.int x2), some (.int x3)] [] := by
  refine z_iload_n F dX9_payOf_4 rfl ?_
  refine z_aload_n F dX9_payOf_5 rfl ?_
  refine z_getR F 1 2 0 rfl (by decide) (by decide) rfl rfl rfl lk_X9_19 dX9_payOf_6 ?_
  refine z_getD F 0 7 rfl (by decide) (by decide) rfl rfl lk_X9_106 dX9_payOf_9 (fun hv1 => ?_)
  refine z_getI F 0 rfl hv1 (by decide) rfl lk_X9_112 dX9_payOf_12 ?_
  refine z_icmp_ge F 45 dX9_payOf_15 (by decide) ⟨fun hc => ?_, fun hc => ?_⟩
  · have h := h.1 hc
    refine z_iload_n F dX9_payOf_45 rfl ?_
    exact z_iret F dX9_payOf_46 (by decide) h
  · have h := h.2 hc
    refine z_iload_n F dX9_payOf_18 rfl ?_
    refine z_iload_n F dX9_payOf_19 rfl ?_
    refine z_iload_n F dX9_payOf_20 rfl ?_
    refine z_ishr F dX9_payOf_21 ?_
    refine z_iconst F 1 dX9_payOf_22 (by decide) ?_
    refine z_iand F dX9_payOf_23 ?_
    refine z_aload_n F dX9_payOf_24 rfl ?_
    refine z_getR F 1 2 0 rfl (by decide) (by decide) rfl rfl rfl lk_X9_19 dX9_payOf_25 ?_
    refine z_getD F 0 7 rfl (by decide) (by decide) rfl rfl lk_X9_106 dX9_payOf_28 (fun hv2 => ?_)
    refine z_getR F 5 26 (w.2.2 2 0 0) rfl hv2 (by decide) rfl rfl rfl lk_X9_215 dX9_payOf_31 ?_
    refine z_iload_n F dX9_payOf_34 rfl ?_
    obtain ⟨hb, h⟩ := h
    refine z_ialdK F ((x3 : Int32).toNatClampNeg) rfl rfl (fix_lt 7 (w.2.2 2 0 0) 5 hv2 (by decide) rfl rfl) hb dX9_payOf_35 ?_
    refine z_imul F dX9_payOf_36 ?_
    refine z_iadd F dX9_payOf_37 ?_
    refine z_istore_n F dX9_payOf_38 (Nat.le_of_ble_eq_true rfl) ?_
    refine z_iinc F (x3 + 1) dX9_payOf_39 rfl rfl (Nat.le_of_ble_eq_true rfl) ?_
    refine z_goto F 4 dX9_payOf_42 (by decide) ?_
    exact h
set_option maxRecDepth 20000 in
theorem e_X9_isCheaper {l : Launch} {G : Gx} {w : Wd} {p0 : Int32} {p1 : Int32} {K : Option Value → Wd → Prop} {X : String → Wd → Prop} (hl : l.stackTraces = false)
    (h : ∀ (M : Mx) (kk : Nat), mL M = l → 2 ≤ kk → Fx M G RX9 cX9_isCheaper 4 (some .boolean) kk 0 → ((¬ p1 = (-1) → Con (mL M) G 1 0 yJ6_bitCount_0f7a4 cJ6_bitCount_0f7a4 1 (some .int) w [.int p1] (fun r w2 => ∃ v1 : Int32, r = some (.int v1) ∧ Con (mL M) G 1 0 yJ6_bitCount_0f7a4 cJ6_bitCount_0f7a4 1 (some .int) w2 [.int p0] (fun r w4 => ∃ v3 : Int32, r = some (.int v3) ∧ ((0 < (v1 - v3) → K (some (.int 1)) w4) ∧ (¬ (0 < (v1 - v3)) → ((¬ (v1 - v3) = 0 → K (some (.int 0)) w4) ∧ (¬ (¬ (v1 - v3) = 0) → Con (mL M) G 1 0 yX9_payOf cX9_payOf 4 (some .int) w4 [.ref (G.2.1 0 0), .int p0] (fun r w6 => ∃ v5 : Int32, r = some (.int v5) ∧ Con (mL M) G 1 0 yX9_payOf cX9_payOf 4 (some .int) w6 [.ref (G.2.1 0 0), .int p1] (fun r w8 => ∃ v7 : Int32, r = some (.int v7) ∧ ((v7 ≤ v5 → K (some (.int 0)) w8) ∧ (¬ (v7 ≤ v5) → K (some (.int 1)) w8))) X) X))))) X) X) ∧ (¬ (¬ p1 = (-1)) → K (some (.int 1)) w))) :
    Con l G 2 0 yX9_isCheaper cX9_isCheaper 4 (some .boolean) w [.ref (G.2.1 0 0), .int p0, .int p1] K X := by
  refine con_intro hl (by decide +kernel) (Nat.le_of_ble_eq_true rfl) (Nat.le_of_ble_eq_true rfl) (fun M kk hM hk F => ?_)
  have h := h M kk hM hk F
  show Z M G 0 K X w 0 [some (.ref (G.2.1 0 0)), some (.int p0), some (.int p1), none] []
  refine z_iload_n F dX9_isCheaper_0 rfl ?_
  refine z_iconst F (-1) dX9_isCheaper_1 (by decide) ?_
  refine z_icmp_ne F 7 dX9_isCheaper_2 (by decide) ⟨fun hc => ?_, fun hc => ?_⟩
  · have h := h.1 hc
    refine z_iload_n F dX9_isCheaper_7 rfl ?_
    refine z_callS F (k' := 1) (mc' := 0) [.int p1] [] dX9_isCheaper_8 rfl cl_X9_156 hy_J6_bitCount_0f7a4.2 (by omega) (by decide) (by decide) (Nat.le_of_ble_eq_true rfl) rfl (con_mono h ?_ (fun _ _ h => h))
    rintro _ w2 ⟨v1, rfl, h⟩
    show Z M G 0 K X w2 11 [some (.ref (G.2.1 0 0)), some (.int p0), some (.int p1), none] [.int v1]
    refine z_iload_n F dX9_isCheaper_11 rfl ?_
    refine z_callS F (k' := 1) (mc' := 0) [.int p0] [.int v1] dX9_isCheaper_12 rfl cl_X9_156 hy_J6_bitCount_0f7a4.2 (by omega) (by decide) (by decide) (Nat.le_of_ble_eq_true rfl) rfl (con_mono h ?_ (fun _ _ h => h))
    rintro _ w4 ⟨v3, rfl, h⟩
    show Z M G 0 K X w4 15 [some (.ref (G.2.1 0 0)), some (.int p0), some (.int p1), none] [.int v3, .int v1]
    refine z_isub F dX9_isCheaper_15 ?_
    refine z_istore_n F dX9_isCheaper_16 (Nat.le_of_ble_eq_true rfl) ?_
    refine z_iload_n F dX9_isCheaper_17 rfl ?_
    refine z_if_gt F 38 dX9_isCheaper_18 (by decide) ⟨fun hc => ?_, fun hc => ?_⟩
    · have h := h.1 hc
      refine z_iconst F 1 dX9_isCheaper_38 (by decide) ?_
      refine z_goto F 43 dX9_isCheaper_39 (by decide) ?_
      exact z_zret F dX9_isCheaper_43 (by decide) rfl h
    · have h := h.2 hc
      refine z_iload_n F dX9_isCheaper_21 rfl ?_
      refine z_if_ne F 42 dX9_isCheaper_22 (by decide) ⟨fun hc => ?_, fun hc => ?_⟩
      · have h := h.1 hc
        refine z_iconst F 0 dX9_isCheaper_42 (by decide) ?_
        exact z_zret F dX9_isCheaper_43 (by decide) rfl h
      · have h := h.2 hc
        refine z_aload_n F dX9_isCheaper_25 rfl ?_
        refine z_iload_n F dX9_isCheaper_26 rfl ?_
        refine z_callV F (k' := 1) (mc' := 0) [.int p0] [] dX9_isCheaper_27 rfl rfl (by decide) rfl cl_X9_387 hy_X9_payOf (by omega) (by decide) (by decide) (Nat.le_of_ble_eq_true rfl) rfl (con_mono h ?_ (fun _ _ h => h))
        rintro _ w6 ⟨v5, rfl, h⟩
        show Z M G 0 K X w6 30 [some (.ref (G.2.1 0 0)), some (.int p0), some (.int p1), some (.int (v1 - v3))] [.int v5]
        refine z_aload_n F dX9_isCheaper_30 rfl ?_
        refine z_iload_n F dX9_isCheaper_31 rfl ?_
        refine z_callV F (k' := 1) (mc' := 0) [.int p1] [.int v5] dX9_isCheaper_32 rfl rfl (by decide) rfl cl_X9_387 hy_X9_payOf (by omega) (by decide) (by decide) (Nat.le_of_ble_eq_true rfl) rfl (con_mono h ?_ (fun _ _ h => h))
        rintro _ w8 ⟨v7, rfl, h⟩
        show Z M G 0 K X w8 35 [some (.ref (G.2.1 0 0)), some (.int p0), some (.int p1), some (.int (v1 - v3))] [.int v7, .int v5]
        refine z_icmp_ge F 42 dX9_isCheaper_35 (by decide) ⟨fun hc => ?_, fun hc => ?_⟩
        · have h := h.1 hc
          refine z_iconst F 0 dX9_isCheaper_42 (by decide) ?_
          exact z_zret F dX9_isCheaper_43 (by decide) rfl h
        · have h := h.2 hc
          refine z_iconst F 1 dX9_isCheaper_38 (by decide) ?_
          refine z_goto F 43 dX9_isCheaper_39 (by decide) ?_
          exact z_zret F dX9_isCheaper_43 (by decide) rfl h
  · have h := h.2 hc
    refine z_iconst F 1 dX9_isCheaper_5 (by decide) ?_
    exact z_zret F dX9_isCheaper_6 (by decide) rfl h
set_option maxRecDepth 20000 in
theorem e_X9_canCast {l : Launch} {G : Gx} {w : Wd} {p0 : Int32} {K : Option Value → Wd → Prop} {X : String → Wd → Prop} (hl : l.stackTraces = false)
    (h : ∀ (M : Mx) (kk : Nat), mL M = l → 5 ≤ kk → Fx M G RX9 cX9_canCast 3 (some .boolean) kk 0 → Con (mL M) G 3 0 yX6_become cX6_become 2 none w [.ref (G.2.1 5 68), .ref (G.2.1 5 0)] (fun r w2 => r = none ∧ Con (mL M) G 1 0 yX9_allSingers cX9_allSingers 1 (some .int) w2 [.ref (G.2.1 0 0)] (fun r w4 => ∃ v3 : Int32, r = some (.int v3) ∧ (∀ w5 : Wd, w5 = setI w4 5 68 1 (v3 &&& (p0 ^^^ ((-1) : Int32))) → Con (mL M) G 1 0 yX7_refresh cX7_refresh 3 none w5 [.ref (G.2.1 2 0), .ref (G.2.1 5 68)] (fun r w7 => r = none ∧ Z M G 0 K X w7 42 [some (.ref (G.2.1 0 0)), none, some (.int 0)] []) X)) X) X) :
    Con l G 5 0 yX9_canCast cX9_canCast 3 (some .boolean) w [.ref (G.2.1 0 0), .int p0] K X := by
  refine con_intro hl (by decide +kernel) (Nat.le_of_ble_eq_true rfl) (Nat.le_of_ble_eq_true rfl) (fun M kk hM hk F => ?_)
  have h := h M kk hM hk F
  show Z M G 0 K X w 0 [some (.ref (G.2.1 0 0)), some (.int p0), none] []
  refine z_aload_n F dX9_canCast_0 rfl ?_
  refine z_getR F 5 5 68 rfl (by decide) (by decide) rfl rfl rfl lk_X9_44 dX9_canCast_1 ?_
  refine z_aload_n F dX9_canCast_4 rfl ?_
  refine z_getR F 3 4 0 rfl (by decide) (by decide) rfl rfl rfl lk_X9_33 dX9_canCast_5 ?_
  refine z_getR F 1 5 0 rfl (by decide) (by decide) rfl rfl rfl lk_X9_128 dX9_canCast_8 ?_
  refine z_callV F (k' := 3) (mc' := 0) [.ref (G.2.1 5 0)] [] dX9_canCast_11 rfl rfl (by decide) rfl cl_X9_256 hy_X6_become (by omega) (by decide) (by decide) (Nat.le_of_ble_eq_true rfl) rfl (con_mono h ?_ (fun _ _ h => h))
  rintro _ w2 ⟨rfl, h⟩
  show Z M G 0 K X w2 14 [some (.ref (G.2.1 0 0)), some (.int p0), none] []
  refine z_aload_n F dX9_canCast_14 rfl ?_
  refine z_getR F 5 5 68 rfl (by decide) (by decide) rfl rfl rfl lk_X9_44 dX9_canCast_15 ?_
  refine z_aload_n F dX9_canCast_18 rfl ?_
  refine z_callV F (k' := 1) (mc' := 0) [] [.ref (G.2.1 5 68)] dX9_canCast_19 rfl rfl (by decide) rfl cl_X9_339 hy_X9_allSingers (by omega) (by decide) (by decide) (Nat.le_of_ble_eq_true rfl) rfl (con_mono h ?_ (fun _ _ h => h))
  rintro _ w4 ⟨v3, rfl, h⟩
  show Z M G 0 K X w4 22 [some (.ref (G.2.1 0 0)), some (.int p0), none] [.int v3, .ref (G.2.1 5 68)]
  refine z_iload_n F dX9_canCast_22 rfl ?_
  refine z_iconst F (-1) dX9_canCast_23 (by decide) ?_
  refine z_ixor F dX9_canCast_24 ?_
  refine z_iand F dX9_canCast_25 ?_
  refine z_putIW F 1 rfl (by decide) (by decide) rfl lk_X9_182 dX9_canCast_26 (fun w5 hw5 => ?_)
  have h := h w5 hw5
  refine z_aload_n F dX9_canCast_29 rfl ?_
  refine z_getR F 1 2 0 rfl (by decide) (by decide) rfl rfl rfl lk_X9_19 dX9_canCast_30 ?_
  refine z_aload_n F dX9_canCast_33 rfl ?_
  refine z_getR F 5 5 68 rfl (by decide) (by decide) rfl rfl rfl lk_X9_44 dX9_canCast_34 ?_
  refine z_callV F (k' := 1) (mc' := 0) [.ref (G.2.1 5 68)] [] dX9_canCast_37 rfl rfl (by decide) rfl cl_X9_390 hy_X7_refresh (by omega) (by decide) (by decide) (Nat.le_of_ble_eq_true rfl) rfl (con_mono h ?_ (fun _ _ h => h))
  rintro _ w7 ⟨rfl, h⟩
  show Z M G 0 K X w7 40 [some (.ref (G.2.1 0 0)), some (.int p0), none] []
  refine z_iconst F 0 dX9_canCast_40 (by decide) ?_
  refine z_istore_n F dX9_canCast_41 (Nat.le_of_ble_eq_true rfl) ?_
  exact z_weak h (⟨rfl, ⟨rfl, trivial⟩⟩)
set_option maxRecDepth 20000 in
theorem b_X9_canCast_42 {M : Mx} {G : Gx} {kk : Nat} {w : Wd}  {x2 : Int32} {K : Option Value → Wd → Prop} {X : String → Wd → Prop} (F : Fx M G RX9 cX9_canCast 3 (some .boolean) kk 0) (hk : 5 ≤ kk)
    (h : (((w.1 7 (w.2.2 2 0 0) 1) ≤ x2 → K (some (.int 1)) w) ∧ (¬ ((w.1 7 (w.2.2 2 0 0) 1) ≤ x2) → Con (mL M) G 4 0 yX7_singNote cX7_singNote 5 (some .int) w [.ref (G.2.1 2 0), .ref (G.2.1 5 68), .int x2] (fun r w3 => ∃ v2 : Int32, r = some (.int v2) ∧ ((¬ v2 = (-1) → Z M G 0 K X w3 42 [some (.ref (G.2.1 0 0)), none, some (.int (x2 + 1))] []) ∧ (¬ (¬ v2 = (-1)) → K (some (.int 0)) w3))) X))) :
    Z M G 0 K X w 42 [some (.ref (G.2.1 0 0)), none, some (.int x2)] [] := by
  refine z_iload_n F dX9_canCast_42 rfl ?_
  refine z_aload_n F dX9_canCast_43 rfl ?_
  refine z_getR F 1 2 0 rfl (by decide) (by decide) rfl rfl rfl lk_X9_19 dX9_canCast_44 ?_
  refine z_getD F 0 7 rfl (by decide) (by decide) rfl rfl lk_X9_106 dX9_canCast_47 (fun hv1 => ?_)
  refine z_getI F 1 rfl hv1 (by decide) rfl lk_X9_147 dX9_canCast_50 ?_
  refine z_icmp_ge F 80 dX9_canCast_53 (by decide) ⟨fun hc => ?_, fun hc => ?_⟩
  · have h := h.1 hc
    refine z_iconst F 1 dX9_canCast_80 (by decide) ?_
    exact z_zret F dX9_canCast_81 (by decide) rfl h
  · have h := h.2 hc
    refine z_aload_n F dX9_canCast_56 rfl ?_
    refine z_getR F 1 2 0 rfl (by decide) (by decide) rfl rfl rfl lk_X9_19 dX9_canCast_57 ?_
    refine z_aload_n F dX9_canCast_60 rfl ?_
    refine z_getR F 5 5 68 rfl (by decide) (by decide) rfl rfl rfl lk_X9_44 dX9_canCast_61 ?_
    refine z_iload_n F dX9_canCast_64 rfl ?_
    refine z_callV F (k' := 4) (mc' := 0) [.ref (G.2.1 5 68), .int x2] [] dX9_canCast_65 rfl rfl (by decide) rfl cl_X9_383 hy_X7_singNote (by omega) (by decide) (by decide) (Nat.le_of_ble_eq_true rfl) rfl (con_mono h ?_ (fun _ _ h => h))
    rintro _ w3 ⟨v2, rfl, h⟩
    show Z M G 0 K X w3 68 [some (.ref (G.2.1 0 0)), none, some (.int x2)] [.int v2]
    refine z_iconst F (-1) dX9_canCast_68 (by decide) ?_
    refine z_icmp_ne F 74 dX9_canCast_69 (by decide) ⟨fun hc => ?_, fun hc => ?_⟩
    · have h := h.1 hc
      refine z_iinc F (x2 + 1) dX9_canCast_74 rfl rfl (Nat.le_of_ble_eq_true rfl) ?_
      refine z_goto F 42 dX9_canCast_77 (by decide) ?_
      exact h
    · have h := h.2 hc
      refine z_iconst F 0 dX9_canCast_72 (by decide) ?_
      exact z_zret F dX9_canCast_73 (by decide) rfl h
set_option maxRecDepth 20000 in
theorem e_X9_handedOn {l : Launch} {G : Gx} {w : Wd} {p0 : Int32} {p1 : Int32} {K : Option Value → Wd → Prop} {X : String → Wd → Prop} (hl : l.stackTraces = false)
    (h : ∀ (M : Mx) (kk : Nat), mL M = l → 1 ≤ kk → Fx M G RX9 cX9_handedOn 8 (some .int) kk 0 → ((¬ p0 = p1 → Z M G 0 K X w 24 [some (.ref (G.2.1 0 0)), some (.int p0), some (.int p1), some (.ref (G.2.1 21 0)), some (.int 0), some (.int 1), none, none] []) ∧ (¬ (¬ p0 = p1) → K (some (.int 0)) w))) :
    Con l G 1 0 yX9_handedOn cX9_handedOn 8 (some .int) w [.ref (G.2.1 0 0), .int p0, .int p1] K X := by
  refine con_intro hl (by decide +kernel) (Nat.le_of_ble_eq_true rfl) (Nat.le_of_ble_eq_true rfl) (fun M kk hM hk F => ?_)
  have h := h M kk hM hk F
  show Z M G 0 K X w 0 [some (.ref (G.2.1 0 0)), some (.int p0), some (.int p1), none, none, none, none, none] []
  refine z_iload_n F dX9_handedOn_0 rfl ?_
  refine z_iload_n F dX9_handedOn_1 rfl ?_
  refine z_icmp_ne F 7 dX9_handedOn_2 (by decide) ⟨fun hc => ?_, fun hc => ?_⟩
  · have h := h.1 hc
    refine z_aload_n F dX9_handedOn_7 rfl ?_
    refine z_getR F 3 4 0 rfl (by decide) (by decide) rfl rfl rfl lk_X9_33 dX9_handedOn_8 ?_
    refine z_getR F 1 5 0 rfl (by decide) (by decide) rfl rfl rfl lk_X9_128 dX9_handedOn_11 ?_
    refine z_getR F 7 21 0 rfl (by decide) (by decide) rfl rfl rfl lk_X9_227 dX9_handedOn_14 ?_
    refine z_astore_n F dX9_handedOn_17 (Nat.le_of_ble_eq_true rfl) ?_
    refine z_iconst F 0 dX9_handedOn_18 (by decide) ?_
    refine z_istore F dX9_handedOn_19 (Nat.le_of_ble_eq_true rfl) ?_
    refine z_iconst F 1 dX9_handedOn_21 (by decide) ?_
    refine z_istore F dX9_handedOn_22 (Nat.le_of_ble_eq_true rfl) ?_
    exact h
  · have h := h.2 hc
    refine z_iconst F 0 dX9_handedOn_5 (by decide) ?_
    exact z_iret F dX9_handedOn_6 (by decide) h
set_option maxRecDepth 20000 in
theorem b_X9_handedOn_24 {M : Mx} {G : Gx} {kk : Nat} {w : Wd}  {x1 : Int32} {x2 : Int32} {x4 : Int32} {x5 : Int32} {K : Option Value → Wd → Prop} {X : String → Wd → Prop} (F : Fx M G RX9 cX9_handedOn 8 (some .int) kk 0) (hk : 1 ≤ kk)
    (h : (((w.1 7 (w.2.2 2 0 0) 1) ≤ x5 → K (some (.int x4)) w) ∧ (¬ ((w.1 7 (w.2.2 2 0 0) 1) ≤ x5) → (vp_in (x5 - (1 : Int32)) 20 ∧ ((¬ (w.1 21 0 ((x5 - (1 : Int32) : Int32).toNatClampNeg)) = x1 → Z M G 0 K X w 61 [some (.ref (G.2.1 0 0)), some (.int x1), some (.int x2), some (.ref (G.2.1 21 0)), some (.int x4), some (.int x5), none, none] []) ∧ (¬ (¬ (w.1 21 0 ((x5 - (1 : Int32) : Int32).toNatClampNeg)) = x1) → (vp_in x5 20 ∧ ((¬ (w.1 21 0 ((x5 : Int32).toNatClampNeg)) = x2 → Z M G 0 K X w 61 [some (.ref (G.2.1 0 0)), some (.int x1), some (.int x2), some (.ref (G.2.1 21 0)), some (.int x4), some (.int x5), none, none] []) ∧ (¬ (¬ (w.1 21 0 ((x5 : Int32).toNatClampNeg)) = x2) → Z M G 0 K X w 62 [some (.ref (G.2.1 0 0)), some (.int x1), some (.int x2), some (.ref (G.2.1 21 0)), some (.int x4), some (.int x5), none, none] [.int 1]))))))))) :
    Z M G 0 K X w 24 [some (.ref (G.2.1 0 0)), some (.int x1), some (.int x2), some (.ref (G.2.1 21 0)), some (.int x4), some (.int x5), none, none] [] := by
  refine z_iload F dX9_handedOn_24 rfl ?_
  refine z_aload_n F dX9_handedOn_26 rfl ?_
  refine z_getR F 1 2 0 rfl (by decide) (by decide) rfl rfl rfl lk_X9_19 dX9_handedOn_27 ?_
  refine z_getD F 0 7 rfl (by decide) (by decide) rfl rfl lk_X9_106 dX9_handedOn_30 (fun hv1 => ?_)
  refine z_getI F 1 rfl hv1 (by decide) rfl lk_X9_147 dX9_handedOn_33 ?_
  refine z_icmp_ge F 115 dX9_handedOn_36 (by decide) ⟨fun hc => ?_, fun hc => ?_⟩
  · have h := h.1 hc
    refine z_iload F dX9_handedOn_115 rfl ?_
    exact z_iret F dX9_handedOn_117 (by decide) h
  · have h := h.2 hc
    refine z_aload_n F dX9_handedOn_39 rfl ?_
    refine z_iload F dX9_handedOn_40 rfl ?_
    refine z_iconst F 1 dX9_handedOn_42 (by decide) ?_
    refine z_isub F dX9_handedOn_43 ?_
    obtain ⟨hb, h⟩ := h
    refine z_ialdK F ((x5 - (1 : Int32) : Int32).toNatClampNeg) rfl rfl (by decide) hb dX9_handedOn_44 ?_
    refine z_iload_n F dX9_handedOn_45 rfl ?_
    refine z_icmp_ne F 61 dX9_handedOn_46 (by decide) ⟨fun hc => ?_, fun hc => ?_⟩
    · have h := h.1 hc
      exact h
    · have h := h.2 hc
      refine z_aload_n F dX9_handedOn_49 rfl ?_
      refine z_iload F dX9_handedOn_50 rfl ?_
      obtain ⟨hb, h⟩ := h
      refine z_ialdK F ((x5 : Int32).toNatClampNeg) rfl rfl (by decide) hb dX9_handedOn_52 ?_
      refine z_iload_n F dX9_handedOn_53 rfl ?_
      refine z_icmp_ne F 61 dX9_handedOn_54 (by decide) ⟨fun hc => ?_, fun hc => ?_⟩
      · have h := h.1 hc
        exact h
      · have h := h.2 hc
        refine z_iconst F 1 dX9_handedOn_57 (by decide) ?_
        refine z_goto F 62 dX9_handedOn_58 (by decide) ?_
        exact h
set_option maxRecDepth 20000 in
theorem b_X9_handedOn_61 {M : Mx} {G : Gx} {kk : Nat} {w : Wd}  {x1 : Int32} {x2 : Int32} {x4 : Int32} {x5 : Int32} {K : Option Value → Wd → Prop} {X : String → Wd → Prop} (F : Fx M G RX9 cX9_handedOn 8 (some .int) kk 0) (hk : 1 ≤ kk)
    (h : Z M G 0 K X w 62 [some (.ref (G.2.1 0 0)), some (.int x1), some (.int x2), some (.ref (G.2.1 21 0)), some (.int x4), some (.int x5), none, none] [.int 0]) :
    Z M G 0 K X w 61 [some (.ref (G.2.1 0 0)), some (.int x1), some (.int x2), some (.ref (G.2.1 21 0)), some (.int x4), some (.int x5), none, none] [] := by
  refine z_iconst F 0 dX9_handedOn_61 (by decide) ?_
  exact h
set_option maxRecDepth 20000 in
theorem b_X9_handedOn_62 {M : Mx} {G : Gx} {kk : Nat} {w : Wd}  {x1 : Int32} {x2 : Int32} {x4 : Int32} {x5 : Int32} {s0 : Int32} {K : Option Value → Wd → Prop} {X : String → Wd → Prop} (F : Fx M G RX9 cX9_handedOn 8 (some .int) kk 0) (hk : 1 ≤ kk)
    (h : (vp_in (x5 - (1 : Int32)) 20 ∧ ((¬ (w.1 21 0 ((x5 - (1 : Int32) : Int32).toNatClampNeg)) = x2 → Z M G 0 K X w 86 [some (.ref (G.2.1 0 0)), some (.int x1), some (.int x2), some (.ref (G.2.1 21 0)), some (.int x4), some (.int x5), some (.int s0), none] []) ∧ (¬ (¬ (w.1 21 0 ((x5 - (1 : Int32) : Int32).toNatClampNeg)) = x2) → (vp_in x5 20 ∧ ((¬ (w.1 21 0 ((x5 : Int32).toNatClampNeg)) = x1 → Z M G 0 K X w 86 [some (.ref (G.2.1 0 0)), some (.int x1), some (.int x2), some (.ref (G.2.1 21 0)), some (.int x4), some (.int x5), some (.int s0), none] []) ∧ (¬ (¬ (w.1 21 0 ((x5 : Int32).toNatClampNeg)) = x1) → Z M G 0 K X w 87 [some (.ref (G.2.1 0 0)), some (.int x1), some (.int x2), some (.ref (G.2.1 21 0)), some (.int x4), some (.int x5), some (.int s0), none] [.int 1]))))))) :
    Z M G 0 K X w 62 [some (.ref (G.2.1 0 0)), some (.int x1), some (.int x2), some (.ref (G.2.1 21 0)), some (.int x4), some (.int x5), none, none] [.int s0] := by
  refine z_istore F dX9_handedOn_62 (Nat.le_of_ble_eq_true rfl) ?_
  refine z_aload_n F dX9_handedOn_64 rfl ?_
  refine z_iload F dX9_handedOn_65 rfl ?_
  refine z_iconst F 1 dX9_handedOn_67 (by decide) ?_
  refine z_isub F dX9_handedOn_68 ?_
  obtain ⟨hb, h⟩ := h
  refine z_ialdK F ((x5 - (1 : Int32) : Int32).toNatClampNeg) rfl rfl (by decide) hb dX9_handedOn_69 ?_
  refine z_iload_n F dX9_handedOn_70 rfl ?_
  refine z_icmp_ne F 86 dX9_handedOn_71 (by decide) ⟨fun hc => ?_, fun hc => ?_⟩
  · have h := h.1 hc
    exact h
  · have h := h.2 hc
    refine z_aload_n F dX9_handedOn_74 rfl ?_
    refine z_iload F dX9_handedOn_75 rfl ?_
    obtain ⟨hb, h⟩ := h
    refine z_ialdK F ((x5 : Int32).toNatClampNeg) rfl rfl (by decide) hb dX9_handedOn_77 ?_
    refine z_iload_n F dX9_handedOn_78 rfl ?_
    refine z_icmp_ne F 86 dX9_handedOn_79 (by decide) ⟨fun hc => ?_, fun hc => ?_⟩
    · have h := h.1 hc
      exact h
    · have h := h.2 hc
      refine z_iconst F 1 dX9_handedOn_82 (by decide) ?_
      refine z_goto F 87 dX9_handedOn_83 (by decide) ?_
      exact h
set_option maxRecDepth 20000 in
theorem b_X9_handedOn_86 {M : Mx} {G : Gx} {kk : Nat} {w : Wd}  {x1 : Int32} {x2 : Int32} {x4 : Int32} {x5 : Int32} {x6 : Int32} {K : Option Value → Wd → Prop} {X : String → Wd → Prop} (F : Fx M G RX9 cX9_handedOn 8 (some .int) kk 0) (hk : 1 ≤ kk)
    (h : Z M G 0 K X w 87 [some (.ref (G.2.1 0 0)), some (.int x1), some (.int x2), some (.ref (G.2.1 21 0)), some (.int x4), some (.int x5), some (.int x6), none] [.int 0]) :
    Z M G 0 K X w 86 [some (.ref (G.2.1 0 0)), some (.int x1), some (.int x2), some (.ref (G.2.1 21 0)), some (.int x4), some (.int x5), some (.int x6), none] [] := by
  refine z_iconst F 0 dX9_handedOn_86 (by decide) ?_
  exact h
set_option maxRecDepth 20000 in
theorem b_X9_handedOn_87 {M : Mx} {G : Gx} {kk : Nat} {w : Wd}  {x1 : Int32} {x2 : Int32} {x4 : Int32} {x5 : Int32} {x6 : Int32} {s0 : Int32} {K : Option Value → Wd → Prop} {X : String → Wd → Prop} (F : Fx M G RX9 cX9_handedOn 8 (some .int) kk 0) (hk : 1 ≤ kk)
    (h : ((¬ x6 = 0 → Z M G 0 K X w 24 [some (.ref (G.2.1 0 0)), some (.int x1), some (.int x2), some (.ref (G.2.1 21 0)), some (.int (x4 + (1 : Int32))), some (.int (x5 + 1)), none, none] []) ∧ (¬ (¬ x6 = 0) → ((s0 = 0 → Z M G 0 K X w 24 [some (.ref (G.2.1 0 0)), some (.int x1), some (.int x2), some (.ref (G.2.1 21 0)), some (.int (x4 + (0 : Int32))), some (.int (x5 + 1)), none, none] []) ∧ (¬ (s0 = 0) → Z M G 0 K X w 24 [some (.ref (G.2.1 0 0)), some (.int x1), some (.int x2), some (.ref (G.2.1 21 0)), some (.int (x4 + (1 : Int32))), some (.int (x5 + 1)), none, none] []))))) :
    Z M G 0 K X w 87 [some (.ref (G.2.1 0 0)), some (.int x1), some (.int x2), some (.ref (G.2.1 21 0)), some (.int x4), some (.int x5), some (.int x6), none] [.int s0] := by
  refine z_istore F dX9_handedOn_87 (Nat.le_of_ble_eq_true rfl) ?_
  refine z_iload F dX9_handedOn_89 rfl ?_
  refine z_iload F dX9_handedOn_91 rfl ?_
  refine z_if_ne F 101 dX9_handedOn_93 (by decide) ⟨fun hc => ?_, fun hc => ?_⟩
  · have h := h.1 hc
    refine z_iconst F 1 dX9_handedOn_101 (by decide) ?_
    refine z_goto F 106 dX9_handedOn_102 (by decide) ?_
    refine z_iadd F dX9_handedOn_106 ?_
    refine z_istore F dX9_handedOn_107 (Nat.le_of_ble_eq_true rfl) ?_
    refine z_iinc F (x5 + 1) dX9_handedOn_109 rfl rfl (Nat.le_of_ble_eq_true rfl) ?_
    refine z_goto F 24 dX9_handedOn_112 (by decide) ?_
    exact z_weak h (⟨rfl, ⟨rfl, ⟨rfl, ⟨rfl, ⟨rfl, ⟨rfl, trivial⟩⟩⟩⟩⟩⟩)
  · have h := h.2 hc
    refine z_iload F dX9_handedOn_96 rfl ?_
    refine z_if_eq F 105 dX9_handedOn_98 (by decide) ⟨fun hc => ?_, fun hc => ?_⟩
    · have h := h.1 hc
      refine z_iconst F 0 dX9_handedOn_105 (by decide) ?_
      refine z_iadd F dX9_handedOn_106 ?_
      refine z_istore F dX9_handedOn_107 (Nat.le_of_ble_eq_true rfl) ?_
      refine z_iinc F (x5 + 1) dX9_handedOn_109 rfl rfl (Nat.le_of_ble_eq_true rfl) ?_
      refine z_goto F 24 dX9_handedOn_112 (by decide) ?_
      exact z_weak h (⟨rfl, ⟨rfl, ⟨rfl, ⟨rfl, ⟨rfl, ⟨rfl, trivial⟩⟩⟩⟩⟩⟩)
    · have h := h.2 hc
      refine z_iconst F 1 dX9_handedOn_101 (by decide) ?_
      refine z_goto F 106 dX9_handedOn_102 (by decide) ?_
      refine z_iadd F dX9_handedOn_106 ?_
      refine z_istore F dX9_handedOn_107 (Nat.le_of_ble_eq_true rfl) ?_
      refine z_iinc F (x5 + 1) dX9_handedOn_109 rfl rfl (Nat.le_of_ble_eq_true rfl) ?_
      refine z_goto F 24 dX9_handedOn_112 (by decide) ?_
      exact z_weak h (⟨rfl, ⟨rfl, ⟨rfl, ⟨rfl, ⟨rfl, ⟨rfl, trivial⟩⟩⟩⟩⟩⟩)
set_option maxRecDepth 20000 in
theorem e_X9_fillBench {l : Launch} {G : Gx} {w : Wd}  {K : Option Value → Wd → Prop} {X : String → Wd → Prop} (hl : l.stackTraces = false)
    (h : ∀ (M : Mx) (kk : Nat), mL M = l → 4 ≤ kk → Fx M G RX9 cX9_fillBench 4 none kk 0 → (∀ w2 : Wd, w2 = setI w 6 0 0 (w.1 7 (w.2.2 2 0 0) 0) → Z M G 0 K X w2 21 [some (.ref (G.2.1 0 0)), some (.ref (G.2.1 7 (w.2.2 2 0 0))), some (.int 0), none] [])) :
    Con l G 4 0 yX9_fillBench cX9_fillBench 4 none w [.ref (G.2.1 0 0)] K X := by
  refine con_intro hl (by decide +kernel) (Nat.le_of_ble_eq_true rfl) (Nat.le_of_ble_eq_true rfl) (fun M kk hM hk F => ?_)
  have h := h M kk hM hk F
  show Z M G 0 K X w 0 [some (.ref (G.2.1 0 0)), none, none, none] []
  refine z_aload_n F dX9_fillBench_0 rfl ?_
  refine z_getR F 1 2 0 rfl (by decide) (by decide) rfl rfl rfl lk_X9_19 dX9_fillBench_1 ?_
  refine z_getD F 0 7 rfl (by decide) (by decide) rfl rfl lk_X9_106 dX9_fillBench_4 (fun hv1 => ?_)
  refine z_astore_n F dX9_fillBench_7 (Nat.le_of_ble_eq_true rfl) ?_
  refine z_aload_n F dX9_fillBench_8 rfl ?_
  refine z_getR F 6 6 0 rfl (by decide) (by decide) rfl rfl rfl lk_X9_51 dX9_fillBench_9 ?_
  refine z_aload_n F dX9_fillBench_12 rfl ?_
  refine z_getI F 0 rfl hv1 (by decide) rfl lk_X9_112 dX9_fillBench_13 ?_
  refine z_putIW F 0 rfl (by decide) (by decide) rfl lk_X9_393 dX9_fillBench_16 (fun w2 hw2 => ?_)
  have h := h w2 hw2
  refine z_iconst F 0 dX9_fillBench_19 (by decide) ?_
  refine z_istore_n F dX9_fillBench_20 (Nat.le_of_ble_eq_true rfl) ?_
  exact h
set_option maxRecDepth 20000 in
theorem b_X9_fillBench_21 {M : Mx} {G : Gx} {kk : Nat} {w : Wd}  {y1 : Nat} (hy1 : y1 < cnt 7) {x2 : Int32} {K : Option Value → Wd → Prop} {X : String → Wd → Prop} (F : Fx M G RX9 cX9_fillBench 4 none kk 0) (hk : 4 ≤ kk)
    (h : (((w.1 7 y1 0) ≤ x2 → Con (mL M) G 3 0 yX0_fill cX0_fill 3 none w [.ref (G.2.1 6 0)] (fun r w2 => r = none ∧ K none w2) X) ∧ (¬ ((w.1 7 y1 0) ≤ x2) → Z M G 0 K X w 31 [some (.ref (G.2.1 0 0)), some (.ref (G.2.1 7 y1)), some (.int x2), some (.int 0)] []))) :
    Z M G 0 K X w 21 [some (.ref (G.2.1 0 0)), some (.ref (G.2.1 7 y1)), some (.int x2), none] [] := by
  refine z_iload_n F dX9_fillBench_21 rfl ?_
  refine z_aload_n F dX9_fillBench_22 rfl ?_
  refine z_getI F 0 rfl hy1 (by decide) rfl lk_X9_112 dX9_fillBench_23 ?_
  refine z_icmp_ge F 81 dX9_fillBench_26 (by decide) ⟨fun hc => ?_, fun hc => ?_⟩
  · have h := h.1 hc
    refine z_aload_n F dX9_fillBench_81 rfl ?_
    refine z_getR F 6 6 0 rfl (by decide) (by decide) rfl rfl rfl lk_X9_51 dX9_fillBench_82 ?_
    refine z_callV F (k' := 3) (mc' := 0) [] [] dX9_fillBench_85 rfl rfl (by decide) rfl cl_X9_397 hy_X0_fill (by omega) (by decide) (by decide) (Nat.le_of_ble_eq_true rfl) rfl (con_mono h ?_ (fun _ _ h => h))
    rintro _ w2 ⟨rfl, h⟩
    show Z M G 0 K X w2 88 [some (.ref (G.2.1 0 0)), some (.ref (G.2.1 7 y1)), some (.int x2), none] []
    exact z_vret F dX9_fillBench_88 (by decide) h
  · have h := h.2 hc
    refine z_iconst F 0 dX9_fillBench_29 (by decide) ?_
    refine z_istore_n F dX9_fillBench_30 (Nat.le_of_ble_eq_true rfl) ?_
    exact h
set_option maxRecDepth 20000 in
theorem b_X9_fillBench_31 {M : Mx} {G : Gx} {kk : Nat} {w : Wd}  {y1 : Nat} (hy1 : y1 < cnt 7) {x2 : Int32} {x3 : Int32} {K : Option Value → Wd → Prop} {X : String → Wd → Prop} (F : Fx M G RX9 cX9_fillBench 4 none kk 0) (hk : 4 ≤ kk)
    (h : (((w.1 7 y1 0) ≤ x3 → Z M G 0 K X w 21 [some (.ref (G.2.1 0 0)), some (.ref (G.2.1 7 y1)), some (.int (x2 + 1)), none] []) ∧ (¬ ((w.1 7 y1 0) ≤ x3) → (vp_in x2 7 ∧ (vp_in x3 7 ∧ Con (mL M) G 1 0 yX9_handedOn cX9_handedOn 8 (some .int) w [.ref (G.2.1 0 0), .int (w.1 25 y1 ((x2 : Int32).toNatClampNeg)), .int (w.1 25 y1 ((x3 : Int32).toNatClampNeg))] (fun r w2 => ∃ v1 : Int32, r = some (.int v1) ∧ (vp_in ((x2 * (7 : Int32)) + x3) 49 ∧ ∀ w3 : Wd, w3 = setI w2 22 0 (((x2 * (7 : Int32)) + x3 : Int32).toNatClampNeg) v1 → Z M G 0 K X w3 31 [some (.ref (G.2.1 0 0)), some (.ref (G.2.1 7 y1)), some (.int x2), some (.int (x3 + 1))] [])) X))))) :
    Z M G 0 K X w 31 [some (.ref (G.2.1 0 0)), some (.ref (G.2.1 7 y1)), some (.int x2), some (.int x3)] [] := by
  refine z_iload_n F dX9_fillBench_31 rfl ?_
  refine z_aload_n F dX9_fillBench_32 rfl ?_
  refine z_getI F 0 rfl hy1 (by decide) rfl lk_X9_112 dX9_fillBench_33 ?_
  refine z_icmp_ge F 75 dX9_fillBench_36 (by decide) ⟨fun hc => ?_, fun hc => ?_⟩
  · have h := h.1 hc
    refine z_iinc F (x2 + 1) dX9_fillBench_75 rfl rfl (Nat.le_of_ble_eq_true rfl) ?_
    refine z_goto F 21 dX9_fillBench_78 (by decide) ?_
    exact z_weak h (⟨rfl, ⟨rfl, ⟨rfl, trivial⟩⟩⟩)
  · have h := h.2 hc
    refine z_aload_n F dX9_fillBench_39 rfl ?_
    refine z_getR F 6 6 0 rfl (by decide) (by decide) rfl rfl rfl lk_X9_51 dX9_fillBench_40 ?_
    refine z_getR F 1 22 0 rfl (by decide) (by decide) rfl rfl rfl lk_X9_394 dX9_fillBench_43 ?_
    refine z_iload_n F dX9_fillBench_46 rfl ?_
    refine z_bipush F 7 dX9_fillBench_47 (by decide) ?_
    refine z_imul F dX9_fillBench_49 ?_
    refine z_iload_n F dX9_fillBench_50 rfl ?_
    refine z_iadd F dX9_fillBench_51 ?_
    refine z_aload_n F dX9_fillBench_52 rfl ?_
    refine z_aload_n F dX9_fillBench_53 rfl ?_
    refine z_getR F 4 25 y1 rfl hy1 (by decide) rfl rfl rfl lk_X9_212 dX9_fillBench_54 ?_
    refine z_iload_n F dX9_fillBench_57 rfl ?_
    obtain ⟨hb, h⟩ := h
    refine z_ialdK F ((x2 : Int32).toNatClampNeg) rfl rfl (fix_lt 7 y1 4 hy1 (by decide) rfl rfl) hb dX9_fillBench_58 ?_
    refine z_aload_n F dX9_fillBench_59 rfl ?_
    refine z_getR F 4 25 y1 rfl hy1 (by decide) rfl rfl rfl lk_X9_212 dX9_fillBench_60 ?_
    refine z_iload_n F dX9_fillBench_63 rfl ?_
    obtain ⟨hb, h⟩ := h
    refine z_ialdK F ((x3 : Int32).toNatClampNeg) rfl rfl (fix_lt 7 y1 4 hy1 (by decide) rfl rfl) hb dX9_fillBench_64 ?_
    refine z_callV F (k' := 1) (mc' := 0) [.int (w.1 25 y1 ((x2 : Int32).toNatClampNeg)), .int (w.1 25 y1 ((x3 : Int32).toNatClampNeg))] [.int ((x2 * (7 : Int32)) + x3), .ref (G.2.1 22 0)] dX9_fillBench_65 rfl rfl (by decide) rfl cl_X9_274 hy_X9_handedOn (by omega) (by decide) (by decide) (Nat.le_of_ble_eq_true rfl) rfl (con_mono h ?_ (fun _ _ h => h))
    rintro _ w2 ⟨v1, rfl, h⟩
    show Z M G 0 K X w2 68 [some (.ref (G.2.1 0 0)), some (.ref (G.2.1 7 y1)), some (.int x2), some (.int x3)] [.int v1, .int ((x2 * (7 : Int32)) + x3), .ref (G.2.1 22 0)]
    obtain ⟨hb, h⟩ := h
    refine z_iastW F (((x2 * (7 : Int32)) + x3 : Int32).toNatClampNeg) rfl rfl (by decide) hb dX9_fillBench_68 (fun w3 hw3 => ?_)
    have h := h w3 hw3
    refine z_iinc F (x3 + 1) dX9_fillBench_69 rfl rfl (Nat.le_of_ble_eq_true rfl) ?_
    refine z_goto F 31 dX9_fillBench_72 (by decide) ?_
    exact h
set_option maxRecDepth 20000 in
theorem e_X9_waysToWord {l : Launch} {G : Gx} {w : Wd} {p0 : Int32} {K : Option Value → Wd → Prop} {X : String → Wd → Prop} (hl : l.stackTraces = false)
    (h : ∀ (M : Mx) (kk : Nat), mL M = l → 2 ≤ kk → Fx M G RX9 cX9_waysToWord 5 (some .long) kk 0 → Z M G 0 K X w 5 [some (.ref (G.2.1 0 0)), some (.int p0), some (.long 1), none, some (.int 0)] []) :
    Con l G 2 0 yX9_waysToWord cX9_waysToWord 5 (some .long) w [.ref (G.2.1 0 0), .int p0] K X := by
  refine con_intro hl (by decide +kernel) (Nat.le_of_ble_eq_true rfl) (Nat.le_of_ble_eq_true rfl) (fun M kk hM hk F => ?_)
  have h := h M kk hM hk F
  show Z M G 0 K X w 0 [some (.ref (G.2.1 0 0)), some (.int p0), none, none, none] []
  refine z_lconst F 1 dX9_waysToWord_0 (by decide) ?_
  refine z_lstore_n F dX9_waysToWord_1 (Nat.le_of_ble_eq_true rfl) ?_
  refine z_iconst F 0 dX9_waysToWord_2 (by decide) ?_
  refine z_istore F dX9_waysToWord_3 (Nat.le_of_ble_eq_true rfl) ?_
  exact h
set_option maxRecDepth 20000 in
theorem b_X9_waysToWord_5 {M : Mx} {G : Gx} {kk : Nat} {w : Wd}  {x1 : Int32} {x2 : Int64} {x4 : Int32} {K : Option Value → Wd → Prop} {X : String → Wd → Prop} (F : Fx M G RX9 cX9_waysToWord 5 (some .long) kk 0) (hk : 2 ≤ kk)
    (h : (((w.1 7 (w.2.2 2 0 0) 1) ≤ x4 → K (some (.long x2)) w) ∧ (¬ ((w.1 7 (w.2.2 2 0 0) 1) ≤ x4) → (vp_in x4 20 ∧ Con (mL M) G 1 0 yJ6_bitCount_0f7a4 cJ6_bitCount_0f7a4 1 (some .int) w [.int ((w.1 30 (w.2.2 2 0 0) ((x4 : Int32).toNatClampNeg)) &&& x1)] (fun r w4 => ∃ v3 : Int32, r = some (.int v3) ∧ Z M G 0 K X w4 5 [some (.ref (G.2.1 0 0)), some (.int x1), some (.long (x2 * ((v3 : Int32).toInt64))), none, some (.int (x4 + 1))] []) X)))) :
    Z M G 0 K X w 5 [some (.ref (G.2.1 0 0)), some (.int x1), some (.long x2), none, some (.int x4)] [] := by
  refine z_iload F dX9_waysToWord_5 rfl ?_
  refine z_aload_n F dX9_waysToWord_7 rfl ?_
  refine z_getR F 1 2 0 rfl (by decide) (by decide) rfl rfl rfl lk_X9_19 dX9_waysToWord_8 ?_
  refine z_getD F 0 7 rfl (by decide) (by decide) rfl rfl lk_X9_106 dX9_waysToWord_11 (fun hv1 => ?_)
  refine z_getI F 1 rfl hv1 (by decide) rfl lk_X9_147 dX9_waysToWord_14 ?_
  refine z_icmp_ge F 48 dX9_waysToWord_17 (by decide) ⟨fun hc => ?_, fun hc => ?_⟩
  · have h := h.1 hc
    refine z_lload_n F dX9_waysToWord_48 rfl ?_
    exact z_lret F dX9_waysToWord_49 (by decide) h
  · have h := h.2 hc
    refine z_lload_n F dX9_waysToWord_20 rfl ?_
    refine z_aload_n F dX9_waysToWord_21 rfl ?_
    refine z_getR F 1 2 0 rfl (by decide) (by decide) rfl rfl rfl lk_X9_19 dX9_waysToWord_22 ?_
    refine z_getD F 0 7 rfl (by decide) (by decide) rfl rfl lk_X9_106 dX9_waysToWord_25 (fun hv2 => ?_)
    refine z_getR F 9 30 (w.2.2 2 0 0) rfl hv2 (by decide) rfl rfl rfl lk_X9_336 dX9_waysToWord_28 ?_
    refine z_iload F dX9_waysToWord_31 rfl ?_
    obtain ⟨hb, h⟩ := h
    refine z_ialdK F ((x4 : Int32).toNatClampNeg) rfl rfl (fix_lt 7 (w.2.2 2 0 0) 9 hv2 (by decide) rfl rfl) hb dX9_waysToWord_33 ?_
    refine z_iload_n F dX9_waysToWord_34 rfl ?_
    refine z_iand F dX9_waysToWord_35 ?_
    refine z_callS F (k' := 1) (mc' := 0) [.int ((w.1 30 (w.2.2 2 0 0) ((x4 : Int32).toNatClampNeg)) &&& x1)] [.long x2] dX9_waysToWord_36 rfl cl_X9_156 hy_J6_bitCount_0f7a4.2 (by omega) (by decide) (by decide) (Nat.le_of_ble_eq_true rfl) rfl (con_mono h ?_ (fun _ _ h => h))
    rintro _ w4 ⟨v3, rfl, h⟩
    show Z M G 0 K X w4 39 [some (.ref (G.2.1 0 0)), some (.int x1), some (.long x2), none, some (.int x4)] [.int v3, .long x2]
    refine z_i2l F dX9_waysToWord_39 ?_
    refine z_lmul F dX9_waysToWord_40 ?_
    refine z_lstore_n F dX9_waysToWord_41 (Nat.le_of_ble_eq_true rfl) ?_
    refine z_iinc F (x4 + 1) dX9_waysToWord_42 rfl rfl (Nat.le_of_ble_eq_true rfl) ?_
    refine z_goto F 5 dX9_waysToWord_45 (by decide) ?_
    exact h
set_option maxRecDepth 20000 in
theorem e_X9_heardWithout {l : Launch} {G : Gx} {w : Wd} {p0 : Int32} {K : Option Value → Wd → Prop} {X : String → Wd → Prop} (hl : l.stackTraces = false)
    (h : ∀ (M : Mx) (kk : Nat), mL M = l → 6 ≤ kk → Fx M G RX9 cX9_heardWithout 2 (some .int) kk 0 → Con (mL M) G 3 0 yX6_become cX6_become 2 none w [.ref (G.2.1 5 68), .ref (G.2.1 5 0)] (fun r w2 => r = none ∧ (∀ w3 : Wd, w3 = setI w2 5 68 1 p0 → Con (mL M) G 5 0 yX7_singHymn cX7_singHymn 4 (some .int) w3 [.ref (G.2.1 2 0), .ref (G.2.1 5 68)] (fun r w5 => ∃ v4 : Int32, r = some (.int v4) ∧ K (some (.int v4)) w5) X)) X) :
    Con l G 6 0 yX9_heardWithout cX9_heardWithout 2 (some .int) w [.ref (G.2.1 0 0), .int p0] K X := by
  refine con_intro hl (by decide +kernel) (Nat.le_of_ble_eq_true rfl) (Nat.le_of_ble_eq_true rfl) (fun M kk hM hk F => ?_)
  have h := h M kk hM hk F
  show Z M G 0 K X w 0 [some (.ref (G.2.1 0 0)), some (.int p0)] []
  refine z_aload_n F dX9_heardWithout_0 rfl ?_
  refine z_getR F 5 5 68 rfl (by decide) (by decide) rfl rfl rfl lk_X9_44 dX9_heardWithout_1 ?_
  refine z_aload_n F dX9_heardWithout_4 rfl ?_
  refine z_getR F 3 4 0 rfl (by decide) (by decide) rfl rfl rfl lk_X9_33 dX9_heardWithout_5 ?_
  refine z_getR F 1 5 0 rfl (by decide) (by decide) rfl rfl rfl lk_X9_128 dX9_heardWithout_8 ?_
  refine z_callV F (k' := 3) (mc' := 0) [.ref (G.2.1 5 0)] [] dX9_heardWithout_11 rfl rfl (by decide) rfl cl_X9_256 hy_X6_become (by omega) (by decide) (by decide) (Nat.le_of_ble_eq_true rfl) rfl (con_mono h ?_ (fun _ _ h => h))
  rintro _ w2 ⟨rfl, h⟩
  show Z M G 0 K X w2 14 [some (.ref (G.2.1 0 0)), some (.int p0)] []
  refine z_aload_n F dX9_heardWithout_14 rfl ?_
  refine z_getR F 5 5 68 rfl (by decide) (by decide) rfl rfl rfl lk_X9_44 dX9_heardWithout_15 ?_
  refine z_iload_n F dX9_heardWithout_18 rfl ?_
  refine z_putIW F 1 rfl (by decide) (by decide) rfl lk_X9_182 dX9_heardWithout_19 (fun w3 hw3 => ?_)
  have h := h w3 hw3
  refine z_aload_n F dX9_heardWithout_22 rfl ?_
  refine z_getR F 1 2 0 rfl (by decide) (by decide) rfl rfl rfl lk_X9_19 dX9_heardWithout_23 ?_
  refine z_aload_n F dX9_heardWithout_26 rfl ?_
  refine z_getR F 5 5 68 rfl (by decide) (by decide) rfl rfl rfl lk_X9_44 dX9_heardWithout_27 ?_
  refine z_callV F (k' := 5) (mc' := 0) [.ref (G.2.1 5 68)] [] dX9_heardWithout_30 rfl rfl (by decide) rfl cl_X9_260 hy_X7_singHymn (by omega) (by decide) (by decide) (Nat.le_of_ble_eq_true rfl) rfl (con_mono h ?_ (fun _ _ h => h))
  rintro _ w5 ⟨v4, rfl, h⟩
  show Z M G 0 K X w5 33 [some (.ref (G.2.1 0 0)), some (.int p0)] [.int v4]
  exact z_iret F dX9_heardWithout_33 (by decide) h
set_option maxRecDepth 20000 in
theorem e_X9_tallyHeard {l : Launch} {G : Gx} {w : Wd}  {K : Option Value → Wd → Prop} {X : String → Wd → Prop} (hl : l.stackTraces = false)
    (h : ∀ (M : Mx) (kk : Nat), mL M = l → 7 ≤ kk → Fx M G RX9 cX9_tallyHeard 6 (some .int) kk 0 → Z M G 0 K X w 2 [some (.ref (G.2.1 0 0)), some (.int 0), none, none, none, none] []) :
    Con l G 7 0 yX9_tallyHeard cX9_tallyHeard 6 (some .int) w [.ref (G.2.1 0 0)] K X := by
  refine con_intro hl (by decide +kernel) (Nat.le_of_ble_eq_true rfl) (Nat.le_of_ble_eq_true rfl) (fun M kk hM hk F => ?_)
  have h := h M kk hM hk F
  show Z M G 0 K X w 0 [some (.ref (G.2.1 0 0)), none, none, none, none, none] []
  refine z_iconst F 0 dX9_tallyHeard_0 (by decide) ?_
  refine z_istore_n F dX9_tallyHeard_1 (Nat.le_of_ble_eq_true rfl) ?_
  exact h
set_option maxRecDepth 20000 in
theorem b_X9_tallyHeard_2 {M : Mx} {G : Gx} {kk : Nat} {w : Wd}  {x1 : Int32} {K : Option Value → Wd → Prop} {X : String → Wd → Prop} (F : Fx M G RX9 cX9_tallyHeard 6 (some .int) kk 0) (hk : 7 ≤ kk)
    (h : ((20 ≤ x1 → Z M G 0 K X w 38 [some (.ref (G.2.1 0 0)), some (.int 0), some (.int ((1 : Int32) <<< ((w.1 7 (w.2.2 2 0 0) 0) &&& 31))), some (.int 0), none, none] []) ∧ (¬ (20 ≤ x1) → (vp_in x1 20 ∧ ∀ w2 : Wd, w2 = setI w 24 0 ((x1 : Int32).toNatClampNeg) 0 → Z M G 0 K X w2 2 [some (.ref (G.2.1 0 0)), some (.int (x1 + 1)), none, none, none, none] [])))) :
    Z M G 0 K X w 2 [some (.ref (G.2.1 0 0)), some (.int x1), none, none, none, none] [] := by
  refine z_iload_n F dX9_tallyHeard_2 rfl ?_
  refine z_bipush F 20 dX9_tallyHeard_3 (by decide) ?_
  refine z_icmp_ge F 21 dX9_tallyHeard_5 (by decide) ⟨fun hc => ?_, fun hc => ?_⟩
  · have h := h.1 hc
    refine z_iconst F 0 dX9_tallyHeard_21 (by decide) ?_
    refine z_istore_n F dX9_tallyHeard_22 (Nat.le_of_ble_eq_true rfl) ?_
    refine z_iconst F 1 dX9_tallyHeard_23 (by decide) ?_
    refine z_aload_n F dX9_tallyHeard_24 rfl ?_
    refine z_getR F 1 2 0 rfl (by decide) (by decide) rfl rfl rfl lk_X9_19 dX9_tallyHeard_25 ?_
    refine z_getD F 0 7 rfl (by decide) (by decide) rfl rfl lk_X9_106 dX9_tallyHeard_28 (fun hv1 => ?_)
    refine z_getI F 0 rfl hv1 (by decide) rfl lk_X9_112 dX9_tallyHeard_31 ?_
    refine z_ishl F dX9_tallyHeard_34 ?_
    refine z_istore_n F dX9_tallyHeard_35 (Nat.le_of_ble_eq_true rfl) ?_
    refine z_iconst F 0 dX9_tallyHeard_36 (by decide) ?_
    refine z_istore_n F dX9_tallyHeard_37 (Nat.le_of_ble_eq_true rfl) ?_
    exact h
  · have h := h.2 hc
    refine z_aload_n F dX9_tallyHeard_8 rfl ?_
    refine z_getR F 7 24 0 rfl (by decide) (by decide) rfl rfl rfl lk_X9_55 dX9_tallyHeard_9 ?_
    refine z_iload_n F dX9_tallyHeard_12 rfl ?_
    refine z_iconst F 0 dX9_tallyHeard_13 (by decide) ?_
    obtain ⟨hb, h⟩ := h
    refine z_iastW F ((x1 : Int32).toNatClampNeg) rfl rfl (by decide) hb dX9_tallyHeard_14 (fun w2 hw2 => ?_)
    have h := h w2 hw2
    refine z_iinc F (x1 + 1) dX9_tallyHeard_15 rfl rfl (Nat.le_of_ble_eq_true rfl) ?_
    refine z_goto F 2 dX9_tallyHeard_18 (by decide) ?_
    exact h
set_option maxRecDepth 20000 in
theorem b_X9_tallyHeard_38 {M : Mx} {G : Gx} {kk : Nat} {w : Wd}  {x1 : Int32} {x2 : Int32} {x3 : Int32} {K : Option Value → Wd → Prop} {X : String → Wd → Prop} (F : Fx M G RX9 cX9_tallyHeard 6 (some .int) kk 0) (hk : 7 ≤ kk)
    (h : ((x2 ≤ x3 → K (some (.int x1)) w) ∧ (¬ (x2 ≤ x3) → Con (mL M) G 6 0 yX9_heardWithout cX9_heardWithout 2 (some .int) w [.ref (G.2.1 0 0), .int x3] (fun r w2 => ∃ v1 : Int32, r = some (.int v1) ∧ Con (mL M) G 1 0 yX1_fits cX1_fits 2 (some .boolean) w2 [.ref (G.2.1 9 (w2.2.2 0 0 10)), .int v1] (fun r w5 => ∃ v4 : Int32, r = some (.int v4) ∧ ((¬ v4 = 0 → Z M G 0 K X w5 71 [some (.ref (G.2.1 0 0)), some (.int (x1 + 1)), some (.int x2), some (.int x3), some (.int v1), some (.int 0)] []) ∧ (¬ (¬ v4 = 0) → Z M G 0 K X w5 38 [some (.ref (G.2.1 0 0)), some (.int x1), some (.int x2), some (.int (x3 + 1)), none, none] []))) X) X))) :
    Z M G 0 K X w 38 [some (.ref (G.2.1 0 0)), some (.int x1), some (.int x2), some (.int x3), none, none] [] := by
  refine z_iload_n F dX9_tallyHeard_38 rfl ?_
  refine z_iload_n F dX9_tallyHeard_39 rfl ?_
  refine z_icmp_ge F 107 dX9_tallyHeard_40 (by decide) ⟨fun hc => ?_, fun hc => ?_⟩
  · have h := h.1 hc
    refine z_iload_n F dX9_tallyHeard_107 rfl ?_
    exact z_iret F dX9_tallyHeard_108 (by decide) h
  · have h := h.2 hc
    refine z_aload_n F dX9_tallyHeard_43 rfl ?_
    refine z_iload_n F dX9_tallyHeard_44 rfl ?_
    refine z_callV F (k' := 6) (mc' := 0) [.int x3] [] dX9_tallyHeard_45 rfl rfl (by decide) rfl cl_X9_291 hy_X9_heardWithout (by omega) (by decide) (by decide) (Nat.le_of_ble_eq_true rfl) rfl (con_mono h ?_ (fun _ _ h => h))
    rintro _ w2 ⟨v1, rfl, h⟩
    show Z M G 0 K X w2 48 [some (.ref (G.2.1 0 0)), some (.int x1), some (.int x2), some (.int x3), none, none] [.int v1]
    refine z_istore F dX9_tallyHeard_48 (Nat.le_of_ble_eq_true rfl) ?_
    refine z_aload_n F dX9_tallyHeard_50 rfl ?_
    refine z_getD F 10 9 rfl (by decide) (by decide) rfl rfl lk_X9_76 dX9_tallyHeard_51 (fun hv3 => ?_)
    refine z_iload F dX9_tallyHeard_54 rfl ?_
    refine z_callV F (k' := 1) (mc' := 0) [.int v1] [] dX9_tallyHeard_56 rfl rfl hv3 rfl cl_X9_294 hy_X1_fits (by omega) (by decide) (by decide) (Nat.le_of_ble_eq_true rfl) rfl (con_mono h ?_ (fun _ _ h => h))
    rintro _ w5 ⟨v4, rfl, h⟩
    show Z M G 0 K X w5 59 [some (.ref (G.2.1 0 0)), some (.int x1), some (.int x2), some (.int x3), some (.int v1), none] [.int v4]
    refine z_if_ne F 65 dX9_tallyHeard_59 (by decide) ⟨fun hc => ?_, fun hc => ?_⟩
    · have h := h.1 hc
      refine z_iinc F (x1 + 1) dX9_tallyHeard_65 rfl rfl (Nat.le_of_ble_eq_true rfl) ?_
      refine z_iconst F 0 dX9_tallyHeard_68 (by decide) ?_
      refine z_istore F dX9_tallyHeard_69 (Nat.le_of_ble_eq_true rfl) ?_
      exact h
    · have h := h.2 hc
      refine z_goto F 101 dX9_tallyHeard_62 (by decide) ?_
      refine z_iinc F (x3 + 1) dX9_tallyHeard_101 rfl rfl (Nat.le_of_ble_eq_true rfl) ?_
      refine z_goto F 38 dX9_tallyHeard_104 (by decide) ?_
      exact z_weak h (⟨rfl, ⟨rfl, ⟨rfl, ⟨rfl, trivial⟩⟩⟩⟩)
set_option maxRecDepth 20000 in
theorem b_X9_tallyHeard_71 {M : Mx} {G : Gx} {kk : Nat} {w : Wd}  {x1 : Int32} {x2 : Int32} {x3 : Int32} {x4 : Int32} {x5 : Int32} {K : Option Value → Wd → Prop} {X : String → Wd → Prop} (F : Fx M G RX9 cX9_tallyHeard 6 (some .int) kk 0) (hk : 7 ≤ kk)
    (h : ((20 ≤ x5 → Z M G 0 K X w 38 [some (.ref (G.2.1 0 0)), some (.int x1), some (.int x2), some (.int (x3 + 1)), none, none] []) ∧ (¬ (20 ≤ x5) → (vp_in x5 20 ∧ (vp_in x5 20 ∧ ∀ w1 : Wd, w1 = setI w 24 0 ((x5 : Int32).toNatClampNeg) ((w.1 24 0 ((x5 : Int32).toNatClampNeg)) + ((x4 >>> (x5 &&& 31)) &&& (1 : Int32))) → Z M G 0 K X w1 71 [some (.ref (G.2.1 0 0)), some (.int x1), some (.int x2), some (.int x3), some (.int x4), some (.int (x5 + 1))] []))))) :
    Z M G 0 K X w 71 [some (.ref (G.2.1 0 0)), some (.int x1), some (.int x2), some (.int x3), some (.int x4), some (.int x5)] [] := by
  refine z_iload F dX9_tallyHeard_71 rfl ?_
  refine z_bipush F 20 dX9_tallyHeard_73 (by decide) ?_
  refine z_icmp_ge F 101 dX9_tallyHeard_75 (by decide) ⟨fun hc => ?_, fun hc => ?_⟩
  · have h := h.1 hc
    refine z_iinc F (x3 + 1) dX9_tallyHeard_101 rfl rfl (Nat.le_of_ble_eq_true rfl) ?_
    refine z_goto F 38 dX9_tallyHeard_104 (by decide) ?_
    exact z_weak h (⟨rfl, ⟨rfl, ⟨rfl, ⟨rfl, trivial⟩⟩⟩⟩)
  · have h := h.2 hc
    refine z_aload_n F dX9_tallyHeard_78 rfl ?_
    refine z_getR F 7 24 0 rfl (by decide) (by decide) rfl rfl rfl lk_X9_55 dX9_tallyHeard_79 ?_
    refine z_iload F dX9_tallyHeard_82 rfl ?_
    refine z_dup2 F dX9_tallyHeard_84 rfl rfl ?_
    obtain ⟨hb, h⟩ := h
    refine z_ialdK F ((x5 : Int32).toNatClampNeg) rfl rfl (by decide) hb dX9_tallyHeard_85 ?_
    refine z_iload F dX9_tallyHeard_86 rfl ?_
    refine z_iload F dX9_tallyHeard_88 rfl ?_
    refine z_ishr F dX9_tallyHeard_90 ?_
    refine z_iconst F 1 dX9_tallyHeard_91 (by decide) ?_
    refine z_iand F dX9_tallyHeard_92 ?_
    refine z_iadd F dX9_tallyHeard_93 ?_
    obtain ⟨hb, h⟩ := h
    refine z_iastW F ((x5 : Int32).toNatClampNeg) rfl rfl (by decide) hb dX9_tallyHeard_94 (fun w1 hw1 => ?_)
    have h := h w1 hw1
    refine z_iinc F (x5 + 1) dX9_tallyHeard_95 rfl rfl (Nat.le_of_ble_eq_true rfl) ?_
    refine z_goto F 71 dX9_tallyHeard_98 (by decide) ?_
    exact h
set_option maxRecDepth 20000 in
theorem e_X9_gain {l : Launch} {G : Gx} {w : Wd} {p0 : Int32} {p1 : Int32} {p2 : Int32} {p3 : Int32} {K : Option Value → Wd → Prop} {X : String → Wd → Prop} (hl : l.stackTraces = false)
    (h : ∀ (M : Mx) (kk : Nat), mL M = l → 1 ≤ kk → Fx M G RX9 cX9_gain 4 (some .int) kk 0 → ((¬ p0 = 0 → ((¬ p1 = 0 → K (some (.int (-p3))) w) ∧ (¬ (¬ p1 = 0) → K (some (.int (p2 + p3))) w))) ∧ (¬ (¬ p0 = 0) → ((¬ p1 = 0 → K (some (.int 0)) w) ∧ (¬ (¬ p1 = 0) → K (some (.int p2)) w))))) :
    Con l G 1 0 yX9_gain cX9_gain 4 (some .int) w [.int p0, .int p1, .int p2, .int p3] K X := by
  refine con_intro hl (by decide +kernel) (Nat.le_of_ble_eq_true rfl) (Nat.le_of_ble_eq_true rfl) (fun M kk hM hk F => ?_)
  have h := h M kk hM hk F
  show Z M G 0 K X w 0 [some (.int p0), some (.int p1), some (.int p2), some (.int p3)] []
  refine z_iload_n F dX9_gain_0 rfl ?_
  refine z_if_ne F 14 dX9_gain_1 (by decide) ⟨fun hc => ?_, fun hc => ?_⟩
  · have h := h.1 hc
    refine z_iload_n F dX9_gain_14 rfl ?_
    refine z_if_ne F 24 dX9_gain_15 (by decide) ⟨fun hc => ?_, fun hc => ?_⟩
    · have h := h.1 hc
      refine z_iload_n F dX9_gain_24 rfl ?_
      refine z_ineg F dX9_gain_25 ?_
      exact z_iret F dX9_gain_26 (by decide) h
    · have h := h.2 hc
      refine z_iload_n F dX9_gain_18 rfl ?_
      refine z_iload_n F dX9_gain_19 rfl ?_
      refine z_iadd F dX9_gain_20 ?_
      refine z_goto F 26 dX9_gain_21 (by decide) ?_
      exact z_iret F dX9_gain_26 (by decide) h
  · have h := h.2 hc
    refine z_iload_n F dX9_gain_4 rfl ?_
    refine z_if_ne F 12 dX9_gain_5 (by decide) ⟨fun hc => ?_, fun hc => ?_⟩
    · have h := h.1 hc
      refine z_iconst F 0 dX9_gain_12 (by decide) ?_
      exact z_iret F dX9_gain_13 (by decide) h
    · have h := h.2 hc
      refine z_iload_n F dX9_gain_8 rfl ?_
      refine z_goto F 13 dX9_gain_9 (by decide) ?_
      exact z_iret F dX9_gain_13 (by decide) h
set_option maxRecDepth 20000 in
theorem e_X9_power {l : Launch} {G : Gx} {w : Wd} {p0 : Int32} {p1 : Int32} {K : Option Value → Wd → Prop} {X : String → Wd → Prop} (hl : l.stackTraces = false)
    (h : ∀ (M : Mx) (kk : Nat), mL M = l → 1 ≤ kk → Fx M G RX9 cX9_power 5 (some .long) kk 0 → Z M G 0 K X w 5 [some (.int p0), some (.int p1), some (.long 1), none, some (.int 0)] []) :
    Con l G 1 0 yX9_power cX9_power 5 (some .long) w [.int p0, .int p1] K X := by
  refine con_intro hl (by decide +kernel) (Nat.le_of_ble_eq_true rfl) (Nat.le_of_ble_eq_true rfl) (fun M kk hM hk F => ?_)
  have h := h M kk hM hk F
  show Z M G 0 K X w 0 [some (.int p0), some (.int p1), none, none, none] []
  refine z_lconst F 1 dX9_power_0 (by decide) ?_
  refine z_lstore_n F dX9_power_1 (Nat.le_of_ble_eq_true rfl) ?_
  refine z_iconst F 0 dX9_power_2 (by decide) ?_
  refine z_istore F dX9_power_3 (Nat.le_of_ble_eq_true rfl) ?_
  exact h
set_option maxRecDepth 20000 in
theorem b_X9_power_5 {M : Mx} {G : Gx} {kk : Nat} {w : Wd}  {x0 : Int32} {x1 : Int32} {x2 : Int64} {x4 : Int32} {K : Option Value → Wd → Prop} {X : String → Wd → Prop} (F : Fx M G RX9 cX9_power 5 (some .long) kk 0) (hk : 1 ≤ kk)
    (h : ((x1 ≤ x4 → K (some (.long x2)) w) ∧ (¬ (x1 ≤ x4) → Z M G 0 K X w 5 [some (.int x0), some (.int x1), some (.long (x2 * ((x0 : Int32).toInt64))), none, some (.int (x4 + 1))] []))) :
    Z M G 0 K X w 5 [some (.int x0), some (.int x1), some (.long x2), none, some (.int x4)] [] := by
  refine z_iload F dX9_power_5 rfl ?_
  refine z_iload_n F dX9_power_7 rfl ?_
  refine z_icmp_ge F 22 dX9_power_8 (by decide) ⟨fun hc => ?_, fun hc => ?_⟩
  · have h := h.1 hc
    refine z_lload_n F dX9_power_22 rfl ?_
    exact z_lret F dX9_power_23 (by decide) h
  · have h := h.2 hc
    refine z_lload_n F dX9_power_11 rfl ?_
    refine z_iload_n F dX9_power_12 rfl ?_
    refine z_i2l F dX9_power_13 ?_
    refine z_lmul F dX9_power_14 ?_
    refine z_lstore_n F dX9_power_15 (Nat.le_of_ble_eq_true rfl) ?_
    refine z_iinc F (x4 + 1) dX9_power_16 rfl rfl (Nat.le_of_ble_eq_true rfl) ?_
    refine z_goto F 5 dX9_power_19 (by decide) ?_
    exact h
set_option maxRecDepth 20000 in
theorem e_X9_choices {l : Launch} {G : Gx} {w : Wd} {p0 : Int32} {p1 : Int32} {K : Option Value → Wd → Prop} {X : String → Wd → Prop} (hl : l.stackTraces = false)
    (h : ∀ (M : Mx) (kk : Nat), mL M = l → 1 ≤ kk → Fx M G RX9 cX9_choices 5 (some .long) kk 0 → Z M G 0 K X w 5 [some (.int p0), some (.int p1), some (.long 1), none, some (.int 1)] []) :
    Con l G 1 0 yX9_choices cX9_choices 5 (some .long) w [.int p0, .int p1] K X := by
  refine con_intro hl (by decide +kernel) (Nat.le_of_ble_eq_true rfl) (Nat.le_of_ble_eq_true rfl) (fun M kk hM hk F => ?_)
  have h := h M kk hM hk F
  show Z M G 0 K X w 0 [some (.int p0), some (.int p1), none, none, none] []
  refine z_lconst F 1 dX9_choices_0 (by decide) ?_
  refine z_lstore_n F dX9_choices_1 (Nat.le_of_ble_eq_true rfl) ?_
  refine z_iconst F 1 dX9_choices_2 (by decide) ?_
  refine z_istore F dX9_choices_3 (Nat.le_of_ble_eq_true rfl) ?_
  exact h
set_option maxRecDepth 20000 in
theorem b_X9_choices_5 {M : Mx} {G : Gx} {kk : Nat} {w : Wd}  {x0 : Int32} {x1 : Int32} {x2 : Int64} {x4 : Int32} {K : Option Value → Wd → Prop} {X : String → Wd → Prop} (F : Fx M G RX9 cX9_choices 5 (some .long) kk 0) (hk : 1 ≤ kk)
    (h : ((x1 < x4 → K (some (.long x2)) w) ∧ (¬ (x1 < x4) → (¬ ((x4 : Int32).toInt64) = 0) ∧ Z M G 0 K X w 5 [some (.int x0), some (.int x1), some (.long ((x2 * (((x0 - x1) + x4 : Int32).toInt64)) / ((x4 : Int32).toInt64))), none, some (.int (x4 + 1))] []))) :
    Z M G 0 K X w 5 [some (.int x0), some (.int x1), some (.long x2), none, some (.int x4)] [] := by
  refine z_iload F dX9_choices_5 rfl ?_
  refine z_iload_n F dX9_choices_7 rfl ?_
  refine z_icmp_gt F 31 dX9_choices_8 (by decide) ⟨fun hc => ?_, fun hc => ?_⟩
  · have h := h.1 hc
    refine z_lload_n F dX9_choices_31 rfl ?_
    exact z_lret F dX9_choices_32 (by decide) h
  · have h := h.2 hc
    refine z_lload_n F dX9_choices_11 rfl ?_
    refine z_iload_n F dX9_choices_12 rfl ?_
    refine z_iload_n F dX9_choices_13 rfl ?_
    refine z_isub F dX9_choices_14 ?_
    refine z_iload F dX9_choices_15 rfl ?_
    refine z_iadd F dX9_choices_17 ?_
    refine z_i2l F dX9_choices_18 ?_
    refine z_lmul F dX9_choices_19 ?_
    refine z_iload F dX9_choices_20 rfl ?_
    refine z_i2l F dX9_choices_22 ?_
    obtain ⟨hb, h⟩ := h
    refine z_ldiv F dX9_choices_23 hb ?_
    refine z_lstore_n F dX9_choices_24 (Nat.le_of_ble_eq_true rfl) ?_
    refine z_iinc F (x4 + 1) dX9_choices_25 rfl rfl (Nat.le_of_ble_eq_true rfl) ?_
    refine z_goto F 5 dX9_choices_28 (by decide) ?_
    exact h
set_option maxRecDepth 20000 in
theorem e_X9_given {l : Launch} {G : Gx} {w : Wd} {p0 : Int32} {p1 : Int32} {K : Option Value → Wd → Prop} {X : String → Wd → Prop} (hl : l.stackTraces = false)
    (h : ∀ (M : Mx) (kk : Nat), mL M = l → 1 ≤ kk → Fx M G RX9 cX9_given 5 (some .int) kk 0 → Z M G 0 K X w 5 [some (.ref (G.2.1 0 0)), some (.int p0), some (.int p1), some (.int 0), some (.int 0)] []) :
    Con l G 1 0 yX9_given cX9_given 5 (some .int) w [.ref (G.2.1 0 0), .int p0, .int p1] K X := by
  refine con_intro hl (by decide +kernel) (Nat.le_of_ble_eq_true rfl) (Nat.le_of_ble_eq_true rfl) (fun M kk hM hk F => ?_)
  have h := h M kk hM hk F
  show Z M G 0 K X w 0 [some (.ref (G.2.1 0 0)), some (.int p0), some (.int p1), none, none] []
  refine z_iconst F 0 dX9_given_0 (by decide) ?_
  refine z_istore_n F dX9_given_1 (Nat.le_of_ble_eq_true rfl) ?_
  refine z_iconst F 0 dX9_given_2 (by decide) ?_
  refine z_istore F dX9_given_3 (Nat.le_of_ble_eq_true rfl) ?_
  exact h
set_option maxRecDepth 20000 in
theorem b_X9_given_5 {M : Mx} {G : Gx} {kk : Nat} {w : Wd}  {x1 : Int32} {x2 : Int32} {x3 : Int32} {x4 : Int32} {K : Option Value → Wd → Prop} {X : String → Wd → Prop} (F : Fx M G RX9 cX9_given 5 (some .int) kk 0) (hk : 1 ≤ kk)
    (h : (((w.1 7 (w.2.2 2 0 0) 0) ≤ x4 → K (some (.int x3)) w) ∧ (¬ ((w.1 7 (w.2.2 2 0 0) 0) ≤ x4) → (vp_in x4 7 ∧ Z M G 0 K X w 5 [some (.ref (G.2.1 0 0)), some (.int x1), some (.int x2), some (.int (x3 + (((x1 >>> (x4 &&& 31)) &&& (1 : Int32)) * (if x2 < (w.1 26 (w.2.2 2 0 0) ((x4 : Int32).toNatClampNeg)) then x2 else (w.1 26 (w.2.2 2 0 0) ((x4 : Int32).toNatClampNeg)))))), some (.int (x4 + 1))] [])))) :
    Z M G 0 K X w 5 [some (.ref (G.2.1 0 0)), some (.int x1), some (.int x2), some (.int x3), some (.int x4)] [] := by
  refine z_iload F dX9_given_5 rfl ?_
  refine z_aload_n F dX9_given_7 rfl ?_
  refine z_getR F 1 2 0 rfl (by decide) (by decide) rfl rfl rfl lk_X9_19 dX9_given_8 ?_
  refine z_getD F 0 7 rfl (by decide) (by decide) rfl rfl lk_X9_106 dX9_given_11 (fun hv1 => ?_)
  refine z_getI F 0 rfl hv1 (by decide) rfl lk_X9_112 dX9_given_14 ?_
  refine z_icmp_ge F 53 dX9_given_17 (by decide) ⟨fun hc => ?_, fun hc => ?_⟩
  · have h := h.1 hc
    refine z_iload_n F dX9_given_53 rfl ?_
    exact z_iret F dX9_given_54 (by decide) h
  · have h := h.2 hc
    refine z_iload_n F dX9_given_20 rfl ?_
    refine z_iload_n F dX9_given_21 rfl ?_
    refine z_iload F dX9_given_22 rfl ?_
    refine z_ishr F dX9_given_24 ?_
    refine z_iconst F 1 dX9_given_25 (by decide) ?_
    refine z_iand F dX9_given_26 ?_
    refine z_aload_n F dX9_given_27 rfl ?_
    refine z_getR F 1 2 0 rfl (by decide) (by decide) rfl rfl rfl lk_X9_19 dX9_given_28 ?_
    refine z_getD F 0 7 rfl (by decide) (by decide) rfl rfl lk_X9_106 dX9_given_31 (fun hv2 => ?_)
    refine z_getR F 5 26 (w.2.2 2 0 0) rfl hv2 (by decide) rfl rfl rfl lk_X9_215 dX9_given_34 ?_
    refine z_iload F dX9_given_37 rfl ?_
    obtain ⟨hb, h⟩ := h
    refine z_ialdK F ((x4 : Int32).toNatClampNeg) rfl rfl (fix_lt 7 (w.2.2 2 0 0) 5 hv2 (by decide) rfl rfl) hb dX9_given_39 ?_
    refine z_iload_n F dX9_given_40 rfl ?_
    refine z_mmin F (GW_5 135 rfl rfl) (GW_4 135 rfl rfl) (GW_1 21 rfl rfl) (GW_4 136 rfl rfl) (by omega) (by decide) rfl (Nat.le_of_ble_eq_true rfl) dX9_given_41 ?_
    refine z_imul F dX9_given_44 ?_
    refine z_iadd F dX9_given_45 ?_
    refine z_istore_n F dX9_given_46 (Nat.le_of_ble_eq_true rfl) ?_
    refine z_iinc F (x4 + 1) dX9_given_47 rfl rfl (Nat.le_of_ble_eq_true rfl) ?_
    refine z_goto F 5 dX9_given_50 (by decide) ?_
    exact h
set_option maxRecDepth 20000 in
theorem e_X9_draw {l : Launch} {G : Gx} {w : Wd} {p0 : Int32} {K : Option Value → Wd → Prop} {X : String → Wd → Prop} (hl : l.stackTraces = false)
    (h : ∀ (M : Mx) (kk : Nat), mL M = l → 1 ≤ kk → Fx M G RX9 cX9_draw 2 (some .int) kk 0 → (∀ w1 : Wd, w1 = setI w 0 0 14 (((w.1 0 0 14) * (1103515245 : Int32)) + (12345 : Int32)) → ((p0 ≤ 0 → K (some (.int 0)) w1) ∧ (¬ (p0 ≤ 0) → (¬ p0 = 0) ∧ K (some (.int (((((w1.1 0 0 14).toUInt32 >>> ((16 : Int32).toUInt32 &&& Int32.toUInt32 31)).toInt32) &&& (32767 : Int32)) - ((((w1.1 0 0 14).toUInt32 >>> ((16 : Int32).toUInt32 &&& Int32.toUInt32 31)).toInt32) &&& (32767 : Int32)) / p0 * p0))) w1)))) :
    Con l G 1 0 yX9_draw cX9_draw 2 (some .int) w [.ref (G.2.1 0 0), .int p0] K X := by
  refine con_intro hl (by decide +kernel) (Nat.le_of_ble_eq_true rfl) (Nat.le_of_ble_eq_true rfl) (fun M kk hM hk F => ?_)
  have h := h M kk hM hk F
  show Z M G 0 K X w 0 [some (.ref (G.2.1 0 0)), some (.int p0)] []
  refine z_aload_n F dX9_draw_0 rfl ?_
  refine z_aload_n F dX9_draw_1 rfl ?_
  refine z_getI F 14 rfl (by decide) (by decide) rfl lk_X9_400 dX9_draw_2 ?_
  refine z_ldcw F 1103515245 dX9_draw_5 (GW_5 217 rfl rfl) ?_
  refine z_imul F dX9_draw_8 ?_
  refine z_sipush F 12345 dX9_draw_9 (by decide) ?_
  refine z_iadd F dX9_draw_12 ?_
  refine z_putIW F 14 rfl (by decide) (by decide) rfl lk_X9_400 dX9_draw_13 (fun w1 hw1 => ?_)
  have h := h w1 hw1
  refine z_iload_n F dX9_draw_16 rfl ?_
  refine z_if_le F 36 dX9_draw_17 (by decide) ⟨fun hc => ?_, fun hc => ?_⟩
  · have h := h.1 hc
    refine z_iconst F 0 dX9_draw_36 (by decide) ?_
    exact z_iret F dX9_draw_37 (by decide) h
  · have h := h.2 hc
    refine z_aload_n F dX9_draw_20 rfl ?_
    refine z_getI F 14 rfl (by decide) (by decide) rfl lk_X9_400 dX9_draw_21 ?_
    refine z_bipush F 16 dX9_draw_24 (by decide) ?_
    refine z_iushr F dX9_draw_26 ?_
    refine z_sipush F 32767 dX9_draw_27 (by decide) ?_
    refine z_iand F dX9_draw_30 ?_
    refine z_iload_n F dX9_draw_31 rfl ?_
    obtain ⟨hb, h⟩ := h
    refine z_irem F dX9_draw_32 hb ?_
    refine z_goto F 37 dX9_draw_33 (by decide) ?_
    exact z_iret F dX9_draw_37 (by decide) h
set_option maxRecDepth 20000 in
theorem e_X9_liveSunday {l : Launch} {G : Gx} {w : Wd} {p0 : Int32} {p1 : Int32} {p2 : Int32} {K : Option Value → Wd → Prop} {X : String → Wd → Prop} (hl : l.stackTraces = false)
    (h : ∀ (M : Mx) (kk : Nat), mL M = l → 6 ≤ kk → Fx M G RX9 cX9_liveSunday 6 none kk 0 → Con (mL M) G 3 0 yX6_become cX6_become 2 none w [.ref (G.2.1 5 68), .ref (G.2.1 5 0)] (fun r w2 => r = none ∧ (∀ w3 : Wd, w3 = setI w2 0 0 14 p0 → Z M G 0 K X w3 34 [some (.ref (G.2.1 0 0)), none, some (.int p1), some (.int p2), some (.int (w3.1 7 (w3.2.2 2 0 0) 0)), some (.int 0)] [])) X) :
    Con l G 6 0 yX9_liveSunday cX9_liveSunday 6 none w [.ref (G.2.1 0 0), .int p0, .int p1, .int p2] K X := by
  refine con_intro hl (by decide +kernel) (Nat.le_of_ble_eq_true rfl) (Nat.le_of_ble_eq_true rfl) (fun M kk hM hk F => ?_)
  have h := h M kk hM hk F
  show Z M G 0 K X w 0 [some (.ref (G.2.1 0 0)), some (.int p0), some (.int p1), some (.int p2), none, none] []
  refine z_aload_n F dX9_liveSunday_0 rfl ?_
  refine z_getR F 5 5 68 rfl (by decide) (by decide) rfl rfl rfl lk_X9_44 dX9_liveSunday_1 ?_
  refine z_aload_n F dX9_liveSunday_4 rfl ?_
  refine z_getR F 3 4 0 rfl (by decide) (by decide) rfl rfl rfl lk_X9_33 dX9_liveSunday_5 ?_
  refine z_getR F 1 5 0 rfl (by decide) (by decide) rfl rfl rfl lk_X9_128 dX9_liveSunday_8 ?_
  refine z_callV F (k' := 3) (mc' := 0) [.ref (G.2.1 5 0)] [] dX9_liveSunday_11 rfl rfl (by decide) rfl cl_X9_256 hy_X6_become (by omega) (by decide) (by decide) (Nat.le_of_ble_eq_true rfl) rfl (con_mono h ?_ (fun _ _ h => h))
  rintro _ w2 ⟨rfl, h⟩
  show Z M G 0 K X w2 14 [some (.ref (G.2.1 0 0)), some (.int p0), some (.int p1), some (.int p2), none, none] []
  refine z_aload_n F dX9_liveSunday_14 rfl ?_
  refine z_iload_n F dX9_liveSunday_15 rfl ?_
  refine z_putIW F 14 rfl (by decide) (by decide) rfl lk_X9_400 dX9_liveSunday_16 (fun w3 hw3 => ?_)
  have h := h w3 hw3
  refine z_aload_n F dX9_liveSunday_19 rfl ?_
  refine z_getR F 1 2 0 rfl (by decide) (by decide) rfl rfl rfl lk_X9_19 dX9_liveSunday_20 ?_
  refine z_getD F 0 7 rfl (by decide) (by decide) rfl rfl lk_X9_106 dX9_liveSunday_23 (fun hv4 => ?_)
  refine z_getI F 0 rfl hv4 (by decide) rfl lk_X9_112 dX9_liveSunday_26 ?_
  refine z_istore F dX9_liveSunday_29 (Nat.le_of_ble_eq_true rfl) ?_
  refine z_iconst F 0 dX9_liveSunday_31 (by decide) ?_
  refine z_istore F dX9_liveSunday_32 (Nat.le_of_ble_eq_true rfl) ?_
  exact z_weak h (⟨rfl, ⟨rfl, ⟨rfl, ⟨rfl, ⟨rfl, trivial⟩⟩⟩⟩⟩)
set_option maxRecDepth 20000 in
theorem b_X9_liveSunday_34 {M : Mx} {G : Gx} {kk : Nat} {w : Wd}  {x2 : Int32} {x3 : Int32} {x4 : Int32} {x5 : Int32} {K : Option Value → Wd → Prop} {X : String → Wd → Prop} (F : Fx M G RX9 cX9_liveSunday 6 none kk 0) (hk : 6 ≤ kk)
    (h : ((x2 ≤ x5 → K none w) ∧ (¬ (x2 ≤ x5) → ((x4 ≤ 0 → Z M G 0 K X w 65 [some (.ref (G.2.1 0 0)), none, some (.int x2), some (.int x3), some (.int x4), some (.int x5)] []) ∧ (¬ (x4 ≤ 0) → Con (mL M) G 1 0 yX9_draw cX9_draw 2 (some .int) w [.ref (G.2.1 0 0), .int x4] (fun r w2 => ∃ v1 : Int32, r = some (.int v1) ∧ (∀ w3 : Wd, w3 = setI w2 5 68 1 ((w.1 5 68 1) ^^^ ((1 : Int32) <<< (v1 &&& 31))) → Z M G 0 K X w3 65 [some (.ref (G.2.1 0 0)), none, some (.int x2), some (.int x3), some (.int x4), some (.int x5)] [])) X))))) :
    Z M G 0 K X w 34 [some (.ref (G.2.1 0 0)), none, some (.int x2), some (.int x3), some (.int x4), some (.int x5)] [] := by
  refine z_iload F dX9_liveSunday_34 rfl ?_
  refine z_iload_n F dX9_liveSunday_36 rfl ?_
  refine z_icmp_ge F 134 dX9_liveSunday_37 (by decide) ⟨fun hc => ?_, fun hc => ?_⟩
  · have h := h.1 hc
    exact z_vret F dX9_liveSunday_134 (by decide) h
  · have h := h.2 hc
    refine z_iload F dX9_liveSunday_40 rfl ?_
    refine z_if_le F 65 dX9_liveSunday_42 (by decide) ⟨fun hc => ?_, fun hc => ?_⟩
    · have h := h.1 hc
      exact h
    · have h := h.2 hc
      refine z_aload_n F dX9_liveSunday_45 rfl ?_
      refine z_getR F 5 5 68 rfl (by decide) (by decide) rfl rfl rfl lk_X9_44 dX9_liveSunday_46 ?_
      refine z_dup F dX9_liveSunday_49 rfl ?_
      refine z_getI F 1 rfl (by decide) (by decide) rfl lk_X9_182 dX9_liveSunday_50 ?_
      refine z_iconst F 1 dX9_liveSunday_53 (by decide) ?_
      refine z_aload_n F dX9_liveSunday_54 rfl ?_
      refine z_iload F dX9_liveSunday_55 rfl ?_
      refine z_callV F (k' := 1) (mc' := 0) [.int x4] [.int 1, .int (w.1 5 68 1), .ref (G.2.1 5 68)] dX9_liveSunday_57 rfl rfl (by decide) rfl cl_X9_404 hy_X9_draw (by omega) (by decide) (by decide) (Nat.le_of_ble_eq_true rfl) rfl (con_mono h ?_ (fun _ _ h => h))
      rintro _ w2 ⟨v1, rfl, h⟩
      show Z M G 0 K X w2 60 [some (.ref (G.2.1 0 0)), none, some (.int x2), some (.int x3), some (.int x4), some (.int x5)] [.int v1, .int 1, .int (w.1 5 68 1), .ref (G.2.1 5 68)]
      refine z_ishl F dX9_liveSunday_60 ?_
      refine z_ixor F dX9_liveSunday_61 ?_
      refine z_putIW F 1 rfl (by decide) (by decide) rfl lk_X9_182 dX9_liveSunday_62 (fun w3 hw3 => ?_)
      have h := h w3 hw3
      exact h
set_option maxRecDepth 20000 in
theorem b_X9_liveSunday_65 {M : Mx} {G : Gx} {kk : Nat} {w : Wd}  {x2 : Int32} {x3 : Int32} {x4 : Int32} {x5 : Int32} {K : Option Value → Wd → Prop} {X : String → Wd → Prop} (F : Fx M G RX9 cX9_liveSunday 6 none kk 0) (hk : 6 ≤ kk)
    (h : Con (mL M) G 5 0 yX7_singHymn cX7_singHymn 4 (some .int) w [.ref (G.2.1 2 0), .ref (G.2.1 5 68)] (fun r w2 => ∃ v1 : Int32, r = some (.int v1) ∧ ((x4 ≤ 0 → Z M G 0 K X w2 116 [some (.ref (G.2.1 0 0)), none, some (.int x2), some (.int x3), some (.int x4), some (.int x5)] []) ∧ (¬ (x4 ≤ 0) → Con (mL M) G 1 0 yX9_draw cX9_draw 2 (some .int) w2 [.ref (G.2.1 0 0), .int 16] (fun r w4 => ∃ v3 : Int32, r = some (.int v3) ∧ ((x3 ≤ v3 → Z M G 0 K X w4 116 [some (.ref (G.2.1 0 0)), none, some (.int x2), some (.int x3), some (.int x4), some (.int x5)] []) ∧ (¬ (x3 ≤ v3) → Con (mL M) G 1 0 yX7_rest cX7_rest 4 (some .boolean) w4 [.ref (G.2.1 2 0), .ref (G.2.1 5 68)] (fun r w6 => ∃ v5 : Int32, r = some (.int v5) ∧ Con (mL M) G 5 0 yX7_singHymn cX7_singHymn 4 (some .int) w6 [.ref (G.2.1 2 0), .ref (G.2.1 5 68)] (fun r w8 => ∃ v7 : Int32, r = some (.int v7) ∧ Z M G 0 K X w8 116 [some (.ref (G.2.1 0 0)), none, some (.int x2), some (.int x3), some (.int x4), some (.int x5)] []) X) X))) X))) X) :
    Z M G 0 K X w 65 [some (.ref (G.2.1 0 0)), none, some (.int x2), some (.int x3), some (.int x4), some (.int x5)] [] := by
  refine z_aload_n F dX9_liveSunday_65 rfl ?_
  refine z_getR F 1 2 0 rfl (by decide) (by decide) rfl rfl rfl lk_X9_19 dX9_liveSunday_66 ?_
  refine z_aload_n F dX9_liveSunday_69 rfl ?_
  refine z_getR F 5 5 68 rfl (by decide) (by decide) rfl rfl rfl lk_X9_44 dX9_liveSunday_70 ?_
  refine z_callV F (k' := 5) (mc' := 0) [.ref (G.2.1 5 68)] [] dX9_liveSunday_73 rfl rfl (by decide) rfl cl_X9_260 hy_X7_singHymn (by omega) (by decide) (by decide) (Nat.le_of_ble_eq_true rfl) rfl (con_mono h ?_ (fun _ _ h => h))
  rintro _ w2 ⟨v1, rfl, h⟩
  show Z M G 0 K X w2 76 [some (.ref (G.2.1 0 0)), none, some (.int x2), some (.int x3), some (.int x4), some (.int x5)] [.int v1]
  refine z_pop F dX9_liveSunday_76 rfl ?_
  refine z_iload F dX9_liveSunday_77 rfl ?_
  refine z_if_le F 116 dX9_liveSunday_79 (by decide) ⟨fun hc => ?_, fun hc => ?_⟩
  · have h := h.1 hc
    exact h
  · have h := h.2 hc
    refine z_aload_n F dX9_liveSunday_82 rfl ?_
    refine z_bipush F 16 dX9_liveSunday_83 (by decide) ?_
    refine z_callV F (k' := 1) (mc' := 0) [.int 16] [] dX9_liveSunday_85 rfl rfl (by decide) rfl cl_X9_404 hy_X9_draw (by omega) (by decide) (by decide) (Nat.le_of_ble_eq_true rfl) rfl (con_mono h ?_ (fun _ _ h => h))
    rintro _ w4 ⟨v3, rfl, h⟩
    show Z M G 0 K X w4 88 [some (.ref (G.2.1 0 0)), none, some (.int x2), some (.int x3), some (.int x4), some (.int x5)] [.int v3]
    refine z_iload_n F dX9_liveSunday_88 rfl ?_
    refine z_icmp_ge F 116 dX9_liveSunday_89 (by decide) ⟨fun hc => ?_, fun hc => ?_⟩
    · have h := h.1 hc
      exact h
    · have h := h.2 hc
      refine z_aload_n F dX9_liveSunday_92 rfl ?_
      refine z_getR F 1 2 0 rfl (by decide) (by decide) rfl rfl rfl lk_X9_19 dX9_liveSunday_93 ?_
      refine z_aload_n F dX9_liveSunday_96 rfl ?_
      refine z_getR F 5 5 68 rfl (by decide) (by decide) rfl rfl rfl lk_X9_44 dX9_liveSunday_97 ?_
      refine z_callV F (k' := 1) (mc' := 0) [.ref (G.2.1 5 68)] [] dX9_liveSunday_100 rfl rfl (by decide) rfl cl_X9_407 hy_X7_rest (by omega) (by decide) (by decide) (Nat.le_of_ble_eq_true rfl) rfl (con_mono h ?_ (fun _ _ h => h))
      rintro _ w6 ⟨v5, rfl, h⟩
      show Z M G 0 K X w6 103 [some (.ref (G.2.1 0 0)), none, some (.int x2), some (.int x3), some (.int x4), some (.int x5)] [.int v5]
      refine z_pop F dX9_liveSunday_103 rfl ?_
      refine z_aload_n F dX9_liveSunday_104 rfl ?_
      refine z_getR F 1 2 0 rfl (by decide) (by decide) rfl rfl rfl lk_X9_19 dX9_liveSunday_105 ?_
      refine z_aload_n F dX9_liveSunday_108 rfl ?_
      refine z_getR F 5 5 68 rfl (by decide) (by decide) rfl rfl rfl lk_X9_44 dX9_liveSunday_109 ?_
      refine z_callV F (k' := 5) (mc' := 0) [.ref (G.2.1 5 68)] [] dX9_liveSunday_112 rfl rfl (by decide) rfl cl_X9_260 hy_X7_singHymn (by omega) (by decide) (by decide) (Nat.le_of_ble_eq_true rfl) rfl (con_mono h ?_ (fun _ _ h => h))
      rintro _ w8 ⟨v7, rfl, h⟩
      show Z M G 0 K X w8 115 [some (.ref (G.2.1 0 0)), none, some (.int x2), some (.int x3), some (.int x4), some (.int x5)] [.int v7]
      refine z_pop F dX9_liveSunday_115 rfl ?_
      exact h
set_option maxRecDepth 20000 in
theorem b_X9_liveSunday_116 {M : Mx} {G : Gx} {kk : Nat} {w : Wd}  {x2 : Int32} {x3 : Int32} {x4 : Int32} {x5 : Int32} {K : Option Value → Wd → Prop} {X : String → Wd → Prop} (F : Fx M G RX9 cX9_liveSunday 6 none kk 0) (hk : 6 ≤ kk)
    (h : Con (mL M) G 2 0 yX7_nextDay cX7_nextDay 3 (some .boolean) w [.ref (G.2.1 2 0), .ref (G.2.1 5 68)] (fun r w2 => ∃ v1 : Int32, r = some (.int v1) ∧ Z M G 0 K X w2 34 [some (.ref (G.2.1 0 0)), none, some (.int x2), some (.int x3), some (.int x4), some (.int (x5 + 1))] []) X) :
    Z M G 0 K X w 116 [some (.ref (G.2.1 0 0)), none, some (.int x2), some (.int x3), some (.int x4), some (.int x5)] [] := by
  refine z_aload_n F dX9_liveSunday_116 rfl ?_
  refine z_getR F 1 2 0 rfl (by decide) (by decide) rfl rfl rfl lk_X9_19 dX9_liveSunday_117 ?_
  refine z_aload_n F dX9_liveSunday_120 rfl ?_
  refine z_getR F 5 5 68 rfl (by decide) (by decide) rfl rfl rfl lk_X9_44 dX9_liveSunday_121 ?_
  refine z_callV F (k' := 2) (mc' := 0) [.ref (G.2.1 5 68)] [] dX9_liveSunday_124 rfl rfl (by decide) rfl cl_X9_411 hy_X7_nextDay (by omega) (by decide) (by decide) (Nat.le_of_ble_eq_true rfl) rfl (con_mono h ?_ (fun _ _ h => h))
  rintro _ w2 ⟨v1, rfl, h⟩
  show Z M G 0 K X w2 127 [some (.ref (G.2.1 0 0)), none, some (.int x2), some (.int x3), some (.int x4), some (.int x5)] [.int v1]
  refine z_pop F dX9_liveSunday_127 rfl ?_
  refine z_iinc F (x5 + 1) dX9_liveSunday_128 rfl rfl (Nat.le_of_ble_eq_true rfl) ?_
  refine z_goto F 34 dX9_liveSunday_131 (by decide) ?_
  exact h
