set_option maxRecDepth 20000 in
theorem e_X0_fill {l : Launch} {G : Gx} {w : Wd}  {K : Option Value → Wd → Prop} {X : String → Wd → Prop} (hl : l.stackTraces = false)
    (h : ∀ (M : Mx) (kk : Nat), mL M = l → 3 ≤ kk → Fx M G RX0 cX0_fill 3 none kk 0 → Z M G 0 K X w 9 [some (.ref (G.2.1 6 0)), some (.int (((1 : Int32) <<< ((w.1 6 0 0) &&& 31)) - (1 : Int32))), none] []) :
    Con l G 3 0 yX0_fill cX0_fill 3 none w [.ref (G.2.1 6 0)] K X := by
  refine con_intro hl (by decide +kernel) (Nat.le_of_ble_eq_true rfl) (Nat.le_of_ble_eq_true rfl) (fun M kk hM hk F => ?_)
  have h := h M kk hM hk F
  show Z M G 0 K X w 0 [some (.ref (G.2.1 6 0)), none, none] []
  refine z_iconst F 1 dX0_fill_0 (by decide) ?_
  refine z_aload_n F dX0_fill_1 rfl ?_
  refine z_getI F 0 rfl (by decide) (by decide) rfl lk_X0_18 dX0_fill_2 ?_
  refine z_ishl F dX0_fill_5 ?_
  refine z_iconst F 1 dX0_fill_6 (by decide) ?_
  refine z_isub F dX0_fill_7 ?_
  refine z_istore_n F dX0_fill_8 (Nat.le_of_ble_eq_true rfl) ?_
  exact h
set_option maxRecDepth 20000 in
theorem b_X0_fill_9 {M : Mx} {G : Gx} {kk : Nat} {w : Wd}  {x1 : Int32} {K : Option Value → Wd → Prop} {X : String → Wd → Prop} (F : Fx M G RX0 cX0_fill 3 none kk 0) (hk : 3 ≤ kk)
    (h : ((x1 ≤ 0 → K none w) ∧ (¬ (x1 ≤ 0) → Z M G 0 K X w 15 [some (.ref (G.2.1 6 0)), some (.int x1), some (.int 0)] []))) :
    Z M G 0 K X w 9 [some (.ref (G.2.1 6 0)), some (.int x1), none] [] := by
  refine z_iload_n F dX0_fill_9 rfl ?_
  refine z_if_le F 52 dX0_fill_10 (by decide) ⟨fun hc => ?_, fun hc => ?_⟩
  · have h := h.1 hc
    exact z_vret F dX0_fill_52 (by decide) h
  · have h := h.2 hc
    refine z_iconst F 0 dX0_fill_13 (by decide) ?_
    refine z_istore_n F dX0_fill_14 (Nat.le_of_ble_eq_true rfl) ?_
    exact h
set_option maxRecDepth 20000 in
theorem b_X0_fill_15 {M : Mx} {G : Gx} {kk : Nat} {w : Wd}  {x1 : Int32} {x2 : Int32} {K : Option Value → Wd → Prop} {X : String → Wd → Prop} (F : Fx M G RX0 cX0_fill 3 none kk 0) (hk : 3 ≤ kk)
    (h : (((w.1 6 0 0) ≤ x2 → Z M G 0 K X w 9 [some (.ref (G.2.1 6 0)), some (.int (x1 + (-1))), none] []) ∧ (¬ ((w.1 6 0 0) ≤ x2) → Con (mL M) G 2 0 yX0_mostBehind cX0_mostBehind 5 (some .int) w [.ref (G.2.1 6 0), .int x1, .int x2] (fun r w2 => ∃ v1 : Int32, r = some (.int v1) ∧ (vp_in ((x1 * (7 : Int32)) + x2) 896 ∧ ∀ w3 : Wd, w3 = setI w2 23 0 (((x1 * (7 : Int32)) + x2 : Int32).toNatClampNeg) v1 → Z M G 0 K X w3 15 [some (.ref (G.2.1 6 0)), some (.int x1), some (.int (x2 + 1))] [])) X))) :
    Z M G 0 K X w 15 [some (.ref (G.2.1 6 0)), some (.int x1), some (.int x2)] [] := by
  refine z_iload_n F dX0_fill_15 rfl ?_
  refine z_aload_n F dX0_fill_16 rfl ?_
  refine z_getI F 0 rfl (by decide) (by decide) rfl lk_X0_18 dX0_fill_17 ?_
  refine z_icmp_ge F 46 dX0_fill_20 (by decide) ⟨fun hc => ?_, fun hc => ?_⟩
  · have h := h.1 hc
    refine z_iinc F (x1 + (-1)) dX0_fill_46 rfl rfl (Nat.le_of_ble_eq_true rfl) ?_
    refine z_goto F 9 dX0_fill_49 (by decide) ?_
    exact z_weak h (⟨rfl, ⟨rfl, trivial⟩⟩)
  · have h := h.2 hc
    refine z_aload_n F dX0_fill_23 rfl ?_
    refine z_getR F 2 23 0 rfl (by decide) (by decide) rfl rfl rfl lk_X0_15 dX0_fill_24 ?_
    refine z_iload_n F dX0_fill_27 rfl ?_
    refine z_bipush F 7 dX0_fill_28 (by decide) ?_
    refine z_imul F dX0_fill_30 ?_
    refine z_iload_n F dX0_fill_31 rfl ?_
    refine z_iadd F dX0_fill_32 ?_
    refine z_aload_n F dX0_fill_33 rfl ?_
    refine z_iload_n F dX0_fill_34 rfl ?_
    refine z_iload_n F dX0_fill_35 rfl ?_
    refine z_callV F (k' := 2) (mc' := 0) [.int x1, .int x2] [.int ((x1 * (7 : Int32)) + x2), .ref (G.2.1 23 0)] dX0_fill_36 rfl rfl (by decide) rfl cl_X0_22 hy_X0_mostBehind (by omega) (by decide) (by decide) (Nat.le_of_ble_eq_true rfl) rfl (con_mono h ?_ (fun _ _ h => h))
    rintro _ w2 ⟨v1, rfl, h⟩
    show Z M G 0 K X w2 39 [some (.ref (G.2.1 6 0)), some (.int x1), some (.int x2)] [.int v1, .int ((x1 * (7 : Int32)) + x2), .ref (G.2.1 23 0)]
    obtain ⟨hb, h⟩ := h
    refine z_iastW F (((x1 * (7 : Int32)) + x2 : Int32).toNatClampNeg) rfl rfl (by decide) hb dX0_fill_39 (fun w3 hw3 => ?_)
    have h := h w3 hw3
    refine z_iinc F (x2 + 1) dX0_fill_40 rfl rfl (Nat.le_of_ble_eq_true rfl) ?_
    refine z_goto F 15 dX0_fill_43 (by decide) ?_
    exact h
set_option maxRecDepth 20000 in
theorem e_X0_mostBehind {l : Launch} {G : Gx} {w : Wd} {p0 : Int32} {p1 : Int32} {K : Option Value → Wd → Prop} {X : String → Wd → Prop} (hl : l.stackTraces = false)
    (h : ∀ (M : Mx) (kk : Nat), mL M = l → 2 ≤ kk → Fx M G RX0 cX0_mostBehind 5 (some .int) kk 0 → Z M G 0 K X w 5 [some (.ref (G.2.1 6 0)), some (.int p0), some (.int p1), some (.int 0), some (.int 0)] []) :
    Con l G 2 0 yX0_mostBehind cX0_mostBehind 5 (some .int) w [.ref (G.2.1 6 0), .int p0, .int p1] K X := by
  refine con_intro hl (by decide +kernel) (Nat.le_of_ble_eq_true rfl) (Nat.le_of_ble_eq_true rfl) (fun M kk hM hk F => ?_)
  have h := h M kk hM hk F
  show Z M G 0 K X w 0 [some (.ref (G.2.1 6 0)), some (.int p0), some (.int p1), none, none] []
  refine z_iconst F 0 dX0_mostBehind_0 (by decide) ?_
  refine z_istore_n F dX0_mostBehind_1 (Nat.le_of_ble_eq_true rfl) ?_
  refine z_iconst F 0 dX0_mostBehind_2 (by decide) ?_
  refine z_istore F dX0_mostBehind_3 (Nat.le_of_ble_eq_true rfl) ?_
  exact h
set_option maxRecDepth 20000 in
theorem b_X0_mostBehind_5 {M : Mx} {G : Gx} {kk : Nat} {w : Wd}  {x1 : Int32} {x2 : Int32} {x3 : Int32} {x4 : Int32} {K : Option Value → Wd → Prop} {X : String → Wd → Prop} (F : Fx M G RX0 cX0_mostBehind 5 (some .int) kk 0) (hk : 2 ≤ kk)
    (h : (((w.1 6 0 0) ≤ x4 → K (some (.int x3)) w) ∧ (¬ ((w.1 6 0 0) ≤ x4) → ((¬ ((x1 >>> (x4 &&& 31)) &&& (1 : Int32)) = 0 → Z M G 0 K X w 5 [some (.ref (G.2.1 6 0)), some (.int x1), some (.int x2), some (.int x3), some (.int (x4 + 1))] []) ∧ (¬ (¬ ((x1 >>> (x4 &&& 31)) &&& (1 : Int32)) = 0) → Con (mL M) G 1 0 yX0_worth cX0_worth 5 (some .int) w [.ref (G.2.1 6 0), .int x1, .int x2, .int x4] (fun r w2 => ∃ v1 : Int32, r = some (.int v1) ∧ Z M G 0 K X w2 5 [some (.ref (G.2.1 6 0)), some (.int x1), some (.int x2), some (.int (if x3 < v1 then v1 else x3)), some (.int (x4 + 1))] []) X))))) :
    Z M G 0 K X w 5 [some (.ref (G.2.1 6 0)), some (.int x1), some (.int x2), some (.int x3), some (.int x4)] [] := by
  refine z_iload F dX0_mostBehind_5 rfl ?_
  refine z_aload_n F dX0_mostBehind_7 rfl ?_
  refine z_getI F 0 rfl (by decide) (by decide) rfl lk_X0_18 dX0_mostBehind_8 ?_
  refine z_icmp_ge F 42 dX0_mostBehind_11 (by decide) ⟨fun hc => ?_, fun hc => ?_⟩
  · have h := h.1 hc
    refine z_iload_n F dX0_mostBehind_42 rfl ?_
    exact z_iret F dX0_mostBehind_43 (by decide) h
  · have h := h.2 hc
    refine z_iload_n F dX0_mostBehind_14 rfl ?_
    refine z_iload F dX0_mostBehind_15 rfl ?_
    refine z_ishr F dX0_mostBehind_17 ?_
    refine z_iconst F 1 dX0_mostBehind_18 (by decide) ?_
    refine z_iand F dX0_mostBehind_19 ?_
    refine z_if_ne F 36 dX0_mostBehind_20 (by decide) ⟨fun hc => ?_, fun hc => ?_⟩
    · have h := h.1 hc
      refine z_iinc F (x4 + 1) dX0_mostBehind_36 rfl rfl (Nat.le_of_ble_eq_true rfl) ?_
      refine z_goto F 5 dX0_mostBehind_39 (by decide) ?_
      exact h
    · have h := h.2 hc
      refine z_iload_n F dX0_mostBehind_23 rfl ?_
      refine z_aload_n F dX0_mostBehind_24 rfl ?_
      refine z_iload_n F dX0_mostBehind_25 rfl ?_
      refine z_iload_n F dX0_mostBehind_26 rfl ?_
      refine z_iload F dX0_mostBehind_27 rfl ?_
      refine z_callV F (k' := 1) (mc' := 0) [.int x1, .int x2, .int x4] [.int x3] dX0_mostBehind_29 rfl rfl (by decide) rfl cl_X0_26 hy_X0_worth (by omega) (by decide) (by decide) (Nat.le_of_ble_eq_true rfl) rfl (con_mono h ?_ (fun _ _ h => h))
      rintro _ w2 ⟨v1, rfl, h⟩
      show Z M G 0 K X w2 32 [some (.ref (G.2.1 6 0)), some (.int x1), some (.int x2), some (.int x3), some (.int x4)] [.int v1, .int x3]
      refine z_mmax F (GW_2 229 rfl rfl) (GW_2 230 rfl rfl) (GW_1 21 rfl rfl) (GW_2 231 rfl rfl) (by omega) (by decide) rfl (Nat.le_of_ble_eq_true rfl) dX0_mostBehind_32 ?_
      refine z_istore_n F dX0_mostBehind_35 (Nat.le_of_ble_eq_true rfl) ?_
      refine z_iinc F (x4 + 1) dX0_mostBehind_36 rfl rfl (Nat.le_of_ble_eq_true rfl) ?_
      refine z_goto F 5 dX0_mostBehind_39 (by decide) ?_
      exact h
set_option maxRecDepth 20000 in
theorem e_X0_worth {l : Launch} {G : Gx} {w : Wd} {p0 : Int32} {p1 : Int32} {p2 : Int32} {K : Option Value → Wd → Prop} {X : String → Wd → Prop} (hl : l.stackTraces = false)
    (h : ∀ (M : Mx) (kk : Nat), mL M = l → 1 ≤ kk → Fx M G RX0 cX0_worth 5 (some .int) kk 0 → ((¬ p1 = (-1) → (vp_in ((p1 * (7 : Int32)) + p2) 49 ∧ Z M G 0 K X w 20 [some (.ref (G.2.1 6 0)), some (.int p0), none, some (.int p2), none] [.int (w.1 22 0 (((p1 * (7 : Int32)) + p2 : Int32).toNatClampNeg))])) ∧ (¬ (¬ p1 = (-1)) → Z M G 0 K X w 20 [some (.ref (G.2.1 6 0)), some (.int p0), none, some (.int p2), none] [.int 0]))) :
    Con l G 1 0 yX0_worth cX0_worth 5 (some .int) w [.ref (G.2.1 6 0), .int p0, .int p1, .int p2] K X := by
  refine con_intro hl (by decide +kernel) (Nat.le_of_ble_eq_true rfl) (Nat.le_of_ble_eq_true rfl) (fun M kk hM hk F => ?_)
  have h := h M kk hM hk F
  show Z M G 0 K X w 0 [some (.ref (G.2.1 6 0)), some (.int p0), some (.int p1), some (.int p2), none] []
  refine z_iload_n F dX0_worth_0 rfl ?_
  refine z_iconst F (-1) dX0_worth_1 (by decide) ?_
  refine z_icmp_ne F 9 dX0_worth_2 (by decide) ⟨fun hc => ?_, fun hc => ?_⟩
  · have h := h.1 hc
    refine z_aload_n F dX0_worth_9 rfl ?_
    refine z_getR F 1 22 0 rfl (by decide) (by decide) rfl rfl rfl lk_X0_9 dX0_worth_10 ?_
    refine z_iload_n F dX0_worth_13 rfl ?_
    refine z_bipush F 7 dX0_worth_14 (by decide) ?_
    refine z_imul F dX0_worth_16 ?_
    refine z_iload_n F dX0_worth_17 rfl ?_
    refine z_iadd F dX0_worth_18 ?_
    obtain ⟨hb, h⟩ := h
    refine z_ialdK F (((p1 * (7 : Int32)) + p2 : Int32).toNatClampNeg) rfl rfl (by decide) hb dX0_worth_19 ?_
    exact z_weak h (⟨rfl, ⟨rfl, ⟨rfl, trivial⟩⟩⟩)
  · have h := h.2 hc
    refine z_iconst F 0 dX0_worth_5 (by decide) ?_
    refine z_goto F 20 dX0_worth_6 (by decide) ?_
    exact z_weak h (⟨rfl, ⟨rfl, ⟨rfl, trivial⟩⟩⟩)
set_option maxRecDepth 20000 in
theorem b_X0_worth_20 {M : Mx} {G : Gx} {kk : Nat} {w : Wd}  {x1 : Int32} {x3 : Int32} {s0 : Int32} {K : Option Value → Wd → Prop} {X : String → Wd → Prop} (F : Fx M G RX0 cX0_worth 5 (some .int) kk 0) (hk : 1 ≤ kk)
    (h : (vp_in (((x1 ||| ((1 : Int32) <<< (x3 &&& 31))) * (7 : Int32)) + x3) 896 ∧ K (some (.int (s0 + (w.1 23 0 ((((x1 ||| ((1 : Int32) <<< (x3 &&& 31))) * (7 : Int32)) + x3 : Int32).toNatClampNeg))))) w)) :
    Z M G 0 K X w 20 [some (.ref (G.2.1 6 0)), some (.int x1), none, some (.int x3), none] [.int s0] := by
  refine z_istore F dX0_worth_20 (Nat.le_of_ble_eq_true rfl) ?_
  refine z_iload F dX0_worth_22 rfl ?_
  refine z_aload_n F dX0_worth_24 rfl ?_
  refine z_getR F 2 23 0 rfl (by decide) (by decide) rfl rfl rfl lk_X0_15 dX0_worth_25 ?_
  refine z_iload_n F dX0_worth_28 rfl ?_
  refine z_iconst F 1 dX0_worth_29 (by decide) ?_
  refine z_iload_n F dX0_worth_30 rfl ?_
  refine z_ishl F dX0_worth_31 ?_
  refine z_ior F dX0_worth_32 ?_
  refine z_bipush F 7 dX0_worth_33 (by decide) ?_
  refine z_imul F dX0_worth_35 ?_
  refine z_iload_n F dX0_worth_36 rfl ?_
  refine z_iadd F dX0_worth_37 ?_
  obtain ⟨hb, h⟩ := h
  refine z_ialdK F ((((x1 ||| ((1 : Int32) <<< (x3 &&& 31))) * (7 : Int32)) + x3 : Int32).toNatClampNeg) rfl rfl (by decide) hb dX0_worth_38 ?_
  refine z_iadd F dX0_worth_39 ?_
  exact z_iret F dX0_worth_40 (by decide) h
set_option maxRecDepth 20000 in
theorem e_X0_most {l : Launch} {G : Gx} {w : Wd}  {K : Option Value → Wd → Prop} {X : String → Wd → Prop} (hl : l.stackTraces = false)
    (h : ∀ (M : Mx) (kk : Nat), mL M = l → 3 ≤ kk → Fx M G RX0 cX0_most 1 (some .int) kk 0 → Con (mL M) G 2 0 yX0_mostBehind cX0_mostBehind 5 (some .int) w [.ref (G.2.1 6 0), .int 0, .int (-1)] (fun r w2 => ∃ v1 : Int32, r = some (.int v1) ∧ K (some (.int v1)) w2) X) :
    Con l G 3 0 yX0_most cX0_most 1 (some .int) w [.ref (G.2.1 6 0)] K X := by
  refine con_intro hl (by decide +kernel) (Nat.le_of_ble_eq_true rfl) (Nat.le_of_ble_eq_true rfl) (fun M kk hM hk F => ?_)
  have h := h M kk hM hk F
  show Z M G 0 K X w 0 [some (.ref (G.2.1 6 0))] []
  refine z_aload_n F dX0_most_0 rfl ?_
  refine z_iconst F 0 dX0_most_1 (by decide) ?_
  refine z_iconst F (-1) dX0_most_2 (by decide) ?_
  refine z_callV F (k' := 2) (mc' := 0) [.int 0, .int (-1)] [] dX0_most_3 rfl rfl (by decide) rfl cl_X0_22 hy_X0_mostBehind (by omega) (by decide) (by decide) (Nat.le_of_ble_eq_true rfl) rfl (con_mono h ?_ (fun _ _ h => h))
  rintro _ w2 ⟨v1, rfl, h⟩
  show Z M G 0 K X w2 6 [some (.ref (G.2.1 6 0))] [.int v1]
  exact z_iret F dX0_most_6 (by decide) h
set_option maxRecDepth 20000 in
theorem e_X0_at {l : Launch} {G : Gx} {w : Wd} {p0 : Int32} {K : Option Value → Wd → Prop} {X : String → Wd → Prop} (hl : l.stackTraces = false)
    (h : ∀ (M : Mx) (kk : Nat), mL M = l → 4 ≤ kk → Fx M G RX0 cX0_at 6 (some .int) kk 0 → Z M G 0 K X w 7 [some (.ref (G.2.1 6 0)), some (.int p0), some (.int 0), some (.int (-1)), some (.int 0), none] []) :
    Con l G 4 0 yX0_at cX0_at 6 (some .int) w [.ref (G.2.1 6 0), .int p0] K X := by
  refine con_intro hl (by decide +kernel) (Nat.le_of_ble_eq_true rfl) (Nat.le_of_ble_eq_true rfl) (fun M kk hM hk F => ?_)
  have h := h M kk hM hk F
  show Z M G 0 K X w 0 [some (.ref (G.2.1 6 0)), some (.int p0), none, none, none, none] []
  refine z_iconst F 0 dX0_at_0 (by decide) ?_
  refine z_istore_n F dX0_at_1 (Nat.le_of_ble_eq_true rfl) ?_
  refine z_iconst F (-1) dX0_at_2 (by decide) ?_
  refine z_istore_n F dX0_at_3 (Nat.le_of_ble_eq_true rfl) ?_
  refine z_iconst F 0 dX0_at_4 (by decide) ?_
  refine z_istore F dX0_at_5 (Nat.le_of_ble_eq_true rfl) ?_
  exact h
set_option maxRecDepth 20000 in
theorem b_X0_at_7 {M : Mx} {G : Gx} {kk : Nat} {w : Wd}  {x1 : Int32} {x2 : Int32} {x3 : Int32} {x4 : Int32} {K : Option Value → Wd → Prop} {X : String → Wd → Prop} (F : Fx M G RX0 cX0_at 6 (some .int) kk 0) (hk : 4 ≤ kk)
    (h : ((x1 < x4 → K (some (.int x3)) w) ∧ (¬ (x1 < x4) → (((w.1 6 0 0) ≤ x4 → K (some (.int x3)) w) ∧ (¬ ((w.1 6 0 0) ≤ x4) → Con (mL M) G 3 0 yX0_firstBest cX0_firstBest 5 (some .int) w [.ref (G.2.1 6 0), .int x2, .int x3] (fun r w2 => ∃ v1 : Int32, r = some (.int v1) ∧ Z M G 0 K X w2 7 [some (.ref (G.2.1 6 0)), some (.int x1), some (.int (x2 ||| ((1 : Int32) <<< (v1 &&& 31)))), some (.int v1), some (.int (x4 + 1)), none] []) X))))) :
    Z M G 0 K X w 7 [some (.ref (G.2.1 6 0)), some (.int x1), some (.int x2), some (.int x3), some (.int x4), none] [] := by
  refine z_iload F dX0_at_7 rfl ?_
  refine z_iload_n F dX0_at_9 rfl ?_
  refine z_icmp_gt F 46 dX0_at_10 (by decide) ⟨fun hc => ?_, fun hc => ?_⟩
  · have h := h.1 hc
    refine z_iload_n F dX0_at_46 rfl ?_
    exact z_iret F dX0_at_47 (by decide) h
  · have h := h.2 hc
    refine z_iload F dX0_at_13 rfl ?_
    refine z_aload_n F dX0_at_15 rfl ?_
    refine z_getI F 0 rfl (by decide) (by decide) rfl lk_X0_18 dX0_at_16 ?_
    refine z_icmp_ge F 46 dX0_at_19 (by decide) ⟨fun hc => ?_, fun hc => ?_⟩
    · have h := h.1 hc
      refine z_iload_n F dX0_at_46 rfl ?_
      exact z_iret F dX0_at_47 (by decide) h
    · have h := h.2 hc
      refine z_aload_n F dX0_at_22 rfl ?_
      refine z_iload_n F dX0_at_23 rfl ?_
      refine z_iload_n F dX0_at_24 rfl ?_
      refine z_callV F (k' := 3) (mc' := 0) [.int x2, .int x3] [] dX0_at_25 rfl rfl (by decide) rfl cl_X0_35 hy_X0_firstBest (by omega) (by decide) (by decide) (Nat.le_of_ble_eq_true rfl) rfl (con_mono h ?_ (fun _ _ h => h))
      rintro _ w2 ⟨v1, rfl, h⟩
      show Z M G 0 K X w2 28 [some (.ref (G.2.1 6 0)), some (.int x1), some (.int x2), some (.int x3), some (.int x4), none] [.int v1]
      refine z_istore F dX0_at_28 (Nat.le_of_ble_eq_true rfl) ?_
      refine z_iload_n F dX0_at_30 rfl ?_
      refine z_iconst F 1 dX0_at_31 (by decide) ?_
      refine z_iload F dX0_at_32 rfl ?_
      refine z_ishl F dX0_at_34 ?_
      refine z_ior F dX0_at_35 ?_
      refine z_istore_n F dX0_at_36 (Nat.le_of_ble_eq_true rfl) ?_
      refine z_iload F dX0_at_37 rfl ?_
      refine z_istore_n F dX0_at_39 (Nat.le_of_ble_eq_true rfl) ?_
      refine z_iinc F (x4 + 1) dX0_at_40 rfl rfl (Nat.le_of_ble_eq_true rfl) ?_
      refine z_goto F 7 dX0_at_43 (by decide) ?_
      exact z_weak h (⟨rfl, ⟨rfl, ⟨rfl, ⟨rfl, ⟨rfl, trivial⟩⟩⟩⟩⟩)
set_option maxRecDepth 20000 in
theorem e_X0_firstBest {l : Launch} {G : Gx} {w : Wd} {p0 : Int32} {p1 : Int32} {K : Option Value → Wd → Prop} {X : String → Wd → Prop} (hl : l.stackTraces = false)
    (h : ∀ (M : Mx) (kk : Nat), mL M = l → 3 ≤ kk → Fx M G RX0 cX0_firstBest 5 (some .int) kk 0 → Con (mL M) G 2 0 yX0_mostBehind cX0_mostBehind 5 (some .int) w [.ref (G.2.1 6 0), .int p0, .int p1] (fun r w2 => ∃ v1 : Int32, r = some (.int v1) ∧ Z M G 0 K X w2 10 [some (.ref (G.2.1 6 0)), some (.int p0), some (.int p1), some (.int v1), some (.int 0)] []) X) :
    Con l G 3 0 yX0_firstBest cX0_firstBest 5 (some .int) w [.ref (G.2.1 6 0), .int p0, .int p1] K X := by
  refine con_intro hl (by decide +kernel) (Nat.le_of_ble_eq_true rfl) (Nat.le_of_ble_eq_true rfl) (fun M kk hM hk F => ?_)
  have h := h M kk hM hk F
  show Z M G 0 K X w 0 [some (.ref (G.2.1 6 0)), some (.int p0), some (.int p1), none, none] []
  refine z_aload_n F dX0_firstBest_0 rfl ?_
  refine z_iload_n F dX0_firstBest_1 rfl ?_
  refine z_iload_n F dX0_firstBest_2 rfl ?_
  refine z_callV F (k' := 2) (mc' := 0) [.int p0, .int p1] [] dX0_firstBest_3 rfl rfl (by decide) rfl cl_X0_22 hy_X0_mostBehind (by omega) (by decide) (by decide) (Nat.le_of_ble_eq_true rfl) rfl (con_mono h ?_ (fun _ _ h => h))
  rintro _ w2 ⟨v1, rfl, h⟩
  show Z M G 0 K X w2 6 [some (.ref (G.2.1 6 0)), some (.int p0), some (.int p1), none, none] [.int v1]
  refine z_istore_n F dX0_firstBest_6 (Nat.le_of_ble_eq_true rfl) ?_
  refine z_iconst F 0 dX0_firstBest_7 (by decide) ?_
  refine z_istore F dX0_firstBest_8 (Nat.le_of_ble_eq_true rfl) ?_
  exact h
set_option maxRecDepth 20000 in
theorem b_X0_firstBest_10 {M : Mx} {G : Gx} {kk : Nat} {w : Wd}  {x1 : Int32} {x2 : Int32} {x3 : Int32} {x4 : Int32} {K : Option Value → Wd → Prop} {X : String → Wd → Prop} (F : Fx M G RX0 cX0_firstBest 5 (some .int) kk 0) (hk : 3 ≤ kk)
    (h : (((w.1 6 0 0) ≤ x4 → K (some (.int 0)) w) ∧ (¬ ((w.1 6 0 0) ≤ x4) → ((¬ ((x1 >>> (x4 &&& 31)) &&& (1 : Int32)) = 0 → Z M G 0 K X w 10 [some (.ref (G.2.1 6 0)), some (.int x1), some (.int x2), some (.int x3), some (.int (x4 + 1))] []) ∧ (¬ (¬ ((x1 >>> (x4 &&& 31)) &&& (1 : Int32)) = 0) → Con (mL M) G 1 0 yX0_worth cX0_worth 5 (some .int) w [.ref (G.2.1 6 0), .int x1, .int x2, .int x4] (fun r w2 => ∃ v1 : Int32, r = some (.int v1) ∧ ((¬ v1 = x3 → Z M G 0 K X w2 10 [some (.ref (G.2.1 6 0)), some (.int x1), some (.int x2), some (.int x3), some (.int (x4 + 1))] []) ∧ (¬ (¬ v1 = x3) → K (some (.int x4)) w2))) X))))) :
    Z M G 0 K X w 10 [some (.ref (G.2.1 6 0)), some (.int x1), some (.int x2), some (.int x3), some (.int x4)] [] := by
  refine z_iload F dX0_firstBest_10 rfl ?_
  refine z_aload_n F dX0_firstBest_12 rfl ?_
  refine z_getI F 0 rfl (by decide) (by decide) rfl lk_X0_18 dX0_firstBest_13 ?_
  refine z_icmp_ge F 49 dX0_firstBest_16 (by decide) ⟨fun hc => ?_, fun hc => ?_⟩
  · have h := h.1 hc
    refine z_iconst F 0 dX0_firstBest_49 (by decide) ?_
    exact z_iret F dX0_firstBest_50 (by decide) h
  · have h := h.2 hc
    refine z_iload_n F dX0_firstBest_19 rfl ?_
    refine z_iload F dX0_firstBest_20 rfl ?_
    refine z_ishr F dX0_firstBest_22 ?_
    refine z_iconst F 1 dX0_firstBest_23 (by decide) ?_
    refine z_iand F dX0_firstBest_24 ?_
    refine z_if_ne F 43 dX0_firstBest_25 (by decide) ⟨fun hc => ?_, fun hc => ?_⟩
    · have h := h.1 hc
      refine z_iinc F (x4 + 1) dX0_firstBest_43 rfl rfl (Nat.le_of_ble_eq_true rfl) ?_
      refine z_goto F 10 dX0_firstBest_46 (by decide) ?_
      exact h
    · have h := h.2 hc
      refine z_aload_n F dX0_firstBest_28 rfl ?_
      refine z_iload_n F dX0_firstBest_29 rfl ?_
      refine z_iload_n F dX0_firstBest_30 rfl ?_
      refine z_iload F dX0_firstBest_31 rfl ?_
      refine z_callV F (k' := 1) (mc' := 0) [.int x1, .int x2, .int x4] [] dX0_firstBest_33 rfl rfl (by decide) rfl cl_X0_26 hy_X0_worth (by omega) (by decide) (by decide) (Nat.le_of_ble_eq_true rfl) rfl (con_mono h ?_ (fun _ _ h => h))
      rintro _ w2 ⟨v1, rfl, h⟩
      show Z M G 0 K X w2 36 [some (.ref (G.2.1 6 0)), some (.int x1), some (.int x2), some (.int x3), some (.int x4)] [.int v1]
      refine z_iload_n F dX0_firstBest_36 rfl ?_
      refine z_icmp_ne F 43 dX0_firstBest_37 (by decide) ⟨fun hc => ?_, fun hc => ?_⟩
      · have h := h.1 hc
        refine z_iinc F (x4 + 1) dX0_firstBest_43 rfl rfl (Nat.le_of_ble_eq_true rfl) ?_
        refine z_goto F 10 dX0_firstBest_46 (by decide) ?_
        exact h
      · have h := h.2 hc
        refine z_iload F dX0_firstBest_40 rfl ?_
        exact z_iret F dX0_firstBest_42 (by decide) h
set_option maxRecDepth 20000 in
theorem e_X1_clear {l : Launch} {G : Gx} {w : Wd} {j0 : Nat} (hj0 : j0 < cnt 9) {K : Option Value → Wd → Prop} {X : String → Wd → Prop} (hl : l.stackTraces = false)
    (h : ∀ (M : Mx) (kk : Nat), mL M = l → 1 ≤ kk → Fx M G RX1 cX1_clear 1 none kk 0 → (∀ w1 : Wd, w1 = setI w 9 j0 0 0 → (∀ w2 : Wd, w2 = setI w1 9 j0 1 0 → K none w2))) :
    Con l G 1 0 yX1_clear cX1_clear 1 none w [.ref (G.2.1 9 j0)] K X := by
  refine con_intro hl (by decide +kernel) (Nat.le_of_ble_eq_true rfl) (Nat.le_of_ble_eq_true rfl) (fun M kk hM hk F => ?_)
  have h := h M kk hM hk F
  show Z M G 0 K X w 0 [some (.ref (G.2.1 9 j0))] []
  refine z_aload_n F dX1_clear_0 rfl ?_
  refine z_iconst F 0 dX1_clear_1 (by decide) ?_
  refine z_putIW F 0 rfl hj0 (by decide) rfl lk_X1_9 dX1_clear_2 (fun w1 hw1 => ?_)
  have h := h w1 hw1
  refine z_aload_n F dX1_clear_5 rfl ?_
  refine z_iconst F 0 dX1_clear_6 (by decide) ?_
  refine z_putIW F 1 rfl hj0 (by decide) rfl lk_X1_15 dX1_clear_7 (fun w2 hw2 => ?_)
  have h := h w2 hw2
  exact z_vret F dX1_clear_10 (by decide) h
set_option maxRecDepth 20000 in
theorem e_X1_read {l : Launch} {G : Gx} {w : Wd} {j0 : Nat} (hj0 : j0 < cnt 9) {p1 : Int32} {K : Option Value → Wd → Prop} {X : String → Wd → Prop} (hl : l.stackTraces = false)
    (h : ∀ (M : Mx) (kk : Nat), mL M = l → 3 ≤ kk → Fx M G RX1 cX1_read 5 none kk 0 → Con (mL M) G 1 0 yX1_clear cX1_clear 1 none w [.ref (G.2.1 9 j0)] (fun r w2 => r = none ∧ Z M G 0 K X w2 6 [some (.ref (G.2.1 9 j0)), some (.ref (G.2.1 1 0)), some (.int p1), some (.int 0), none] []) X) :
    Con l G 3 0 yX1_read cX1_read 5 none w [.ref (G.2.1 9 j0), .ref (G.2.1 1 0), .int p1] K X := by
  refine con_intro hl (by decide +kernel) (Nat.le_of_ble_eq_true rfl) (Nat.le_of_ble_eq_true rfl) (fun M kk hM hk F => ?_)
  have h := h M kk hM hk F
  show Z M G 0 K X w 0 [some (.ref (G.2.1 9 j0)), some (.ref (G.2.1 1 0)), some (.int p1), none, none] []
  refine z_aload_n F dX1_read_0 rfl ?_
  refine z_callV F (k' := 1) (mc' := 0) [] [] dX1_read_1 rfl rfl hj0 rfl cl_X1_18 hy_X1_clear (by omega) (by decide) (by decide) (Nat.le_of_ble_eq_true rfl) rfl (con_mono h ?_ (fun _ _ h => h))
  rintro _ w2 ⟨rfl, h⟩
  show Z M G 0 K X w2 4 [some (.ref (G.2.1 9 j0)), some (.ref (G.2.1 1 0)), some (.int p1), none, none] []
  refine z_iconst F 0 dX1_read_4 (by decide) ?_
  refine z_istore_n F dX1_read_5 (Nat.le_of_ble_eq_true rfl) ?_
  exact h
set_option maxRecDepth 20000 in
theorem b_X1_read_6 {M : Mx} {G : Gx} {kk : Nat} {w : Wd} {j0 : Nat} (hj0 : j0 < cnt 9) {x2 : Int32} {x3 : Int32} {K : Option Value → Wd → Prop} {X : String → Wd → Prop} (F : Fx M G RX1 cX1_read 5 none kk 0) (hk : 3 ≤ kk)
    (h : ((60 ≤ x3 → K none w) ∧ (¬ (60 ≤ x3) → Con (mL M) G 2 0 yX8_more cX8_more 1 (some .boolean) w [.ref (G.2.1 1 0)] (fun r w2 => ∃ v1 : Int32, r = some (.int v1) ∧ ((v1 = 0 → K none w2) ∧ (¬ (v1 = 0) → Con (mL M) G 2 0 yX8_figure cX8_figure 4 (some .int) w2 [.ref (G.2.1 1 0), .int 0, .int (x2 - (1 : Int32))] (fun r w4 => ∃ v3 : Int32, r = some (.int v3) ∧ ((¬ (((w4.1 9 j0 0) >>> (v3 &&& 31)) &&& (1 : Int32)) = 1 → Z M G 0 K X w4 51 [some (.ref (G.2.1 9 j0)), some (.ref (G.2.1 1 0)), some (.int x2), some (.int x3), some (.int v3)] []) ∧ (¬ (¬ (((w4.1 9 j0 0) >>> (v3 &&& 31)) &&& (1 : Int32)) = 1) → Con (mL M) G 1 0 yX8_fail cX8_fail 3 none w4 [.ref (G.2.1 1 0), .int 2, .int (w4.1 1 0 4)] (fun r w6 => r = none ∧ Z M G 0 K X w6 51 [some (.ref (G.2.1 9 j0)), some (.ref (G.2.1 1 0)), some (.int x2), some (.int x3), some (.int v3)] []) X))) X))) X))) :
    Z M G 0 K X w 6 [some (.ref (G.2.1 9 j0)), some (.ref (G.2.1 1 0)), some (.int x2), some (.int x3), none] [] := by
  refine z_iload_n F dX1_read_6 rfl ?_
  refine z_bipush F 60 dX1_read_7 (by decide) ?_
  refine z_icmp_ge F 94 dX1_read_9 (by decide) ⟨fun hc => ?_, fun hc => ?_⟩
  · have h := h.1 hc
    exact z_vret F dX1_read_94 (by decide) h
  · have h := h.2 hc
    refine z_aload_n F dX1_read_12 rfl ?_
    refine z_callV F (k' := 2) (mc' := 0) [] [] dX1_read_13 rfl rfl (by decide) rfl cl_X1_21 hy_X8_more (by omega) (by decide) (by decide) (Nat.le_of_ble_eq_true rfl) rfl (con_mono h ?_ (fun _ _ h => h))
    rintro _ w2 ⟨v1, rfl, h⟩
    show Z M G 0 K X w2 16 [some (.ref (G.2.1 9 j0)), some (.ref (G.2.1 1 0)), some (.int x2), some (.int x3), none] [.int v1]
    refine z_if_eq F 94 dX1_read_16 (by decide) ⟨fun hc => ?_, fun hc => ?_⟩
    · have h := h.1 hc
      exact z_vret F dX1_read_94 (by decide) h
    · have h := h.2 hc
      refine z_aload_n F dX1_read_19 rfl ?_
      refine z_iconst F 0 dX1_read_20 (by decide) ?_
      refine z_iload_n F dX1_read_21 rfl ?_
      refine z_iconst F 1 dX1_read_22 (by decide) ?_
      refine z_isub F dX1_read_23 ?_
      refine z_callV F (k' := 2) (mc' := 0) [.int 0, .int (x2 - (1 : Int32))] [] dX1_read_24 rfl rfl (by decide) rfl cl_X1_27 hy_X8_figure (by omega) (by decide) (by decide) (Nat.le_of_ble_eq_true rfl) rfl (con_mono h ?_ (fun _ _ h => h))
      rintro _ w4 ⟨v3, rfl, h⟩
      show Z M G 0 K X w4 27 [some (.ref (G.2.1 9 j0)), some (.ref (G.2.1 1 0)), some (.int x2), some (.int x3), none] [.int v3]
      refine z_istore F dX1_read_27 (Nat.le_of_ble_eq_true rfl) ?_
      refine z_aload_n F dX1_read_29 rfl ?_
      refine z_getI F 0 rfl hj0 (by decide) rfl lk_X1_9 dX1_read_30 ?_
      refine z_iload F dX1_read_33 rfl ?_
      refine z_ishr F dX1_read_35 ?_
      refine z_iconst F 1 dX1_read_36 (by decide) ?_
      refine z_iand F dX1_read_37 ?_
      refine z_iconst F 1 dX1_read_38 (by decide) ?_
      refine z_icmp_ne F 51 dX1_read_39 (by decide) ⟨fun hc => ?_, fun hc => ?_⟩
      · have h := h.1 hc
        exact h
      · have h := h.2 hc
        refine z_aload_n F dX1_read_42 rfl ?_
        refine z_iconst F 2 dX1_read_43 (by decide) ?_
        refine z_aload_n F dX1_read_44 rfl ?_
        refine z_getI F 4 rfl (by decide) (by decide) rfl lk_X1_31 dX1_read_45 ?_
        refine z_callV F (k' := 1) (mc' := 0) [.int 2, .int (w4.1 1 0 4)] [] dX1_read_48 rfl rfl (by decide) rfl cl_X1_34 hy_X8_fail (by omega) (by decide) (by decide) (Nat.le_of_ble_eq_true rfl) rfl (con_mono h ?_ (fun _ _ h => h))
        rintro _ w6 ⟨rfl, h⟩
        show Z M G 0 K X w6 51 [some (.ref (G.2.1 9 j0)), some (.ref (G.2.1 1 0)), some (.int x2), some (.int x3), some (.int v3)] []
        exact h
set_option maxRecDepth 20000 in
theorem b_X1_read_51 {M : Mx} {G : Gx} {kk : Nat} {w : Wd} {j0 : Nat} (hj0 : j0 < cnt 9) {x2 : Int32} {x3 : Int32} {x4 : Int32} {K : Option Value → Wd → Prop} {X : String → Wd → Prop} (F : Fx M G RX1 cX1_read 5 none kk 0) (hk : 3 ≤ kk)
    (h : (∀ w1 : Wd, w1 = setI w 9 j0 0 ((w.1 9 j0 0) ||| ((1 : Int32) <<< (x4 &&& 31))) → Con (mL M) G 2 0 yX8_figure cX8_figure 4 (some .int) w1 [.ref (G.2.1 1 0), .int 0, .int 1] (fun r w3 => ∃ v2 : Int32, r = some (.int v2) ∧ (∀ w4 : Wd, w4 = setI w3 9 j0 1 ((w1.1 9 j0 1) ||| (v2 <<< (x4 &&& 31))) → Con (mL M) G 2 0 yX8_sign cX8_sign 2 none w4 [.ref (G.2.1 1 0), .int 59] (fun r w6 => r = none ∧ Z M G 0 K X w6 6 [some (.ref (G.2.1 9 j0)), some (.ref (G.2.1 1 0)), some (.int x2), some (.int (x3 + 1)), none] []) X)) X)) :
    Z M G 0 K X w 51 [some (.ref (G.2.1 9 j0)), some (.ref (G.2.1 1 0)), some (.int x2), some (.int x3), some (.int x4)] [] := by
  refine z_aload_n F dX1_read_51 rfl ?_
  refine z_dup F dX1_read_52 rfl ?_
  refine z_getI F 0 rfl hj0 (by decide) rfl lk_X1_9 dX1_read_53 ?_
  refine z_iconst F 1 dX1_read_56 (by decide) ?_
  refine z_iload F dX1_read_57 rfl ?_
  refine z_ishl F dX1_read_59 ?_
  refine z_ior F dX1_read_60 ?_
  refine z_putIW F 0 rfl hj0 (by decide) rfl lk_X1_9 dX1_read_61 (fun w1 hw1 => ?_)
  have h := h w1 hw1
  refine z_aload_n F dX1_read_64 rfl ?_
  refine z_dup F dX1_read_65 rfl ?_
  refine z_getI F 1 rfl hj0 (by decide) rfl lk_X1_15 dX1_read_66 ?_
  refine z_aload_n F dX1_read_69 rfl ?_
  refine z_iconst F 0 dX1_read_70 (by decide) ?_
  refine z_iconst F 1 dX1_read_71 (by decide) ?_
  refine z_callV F (k' := 2) (mc' := 0) [.int 0, .int 1] [.int (w1.1 9 j0 1), .ref (G.2.1 9 j0)] dX1_read_72 rfl rfl (by decide) rfl cl_X1_27 hy_X8_figure (by omega) (by decide) (by decide) (Nat.le_of_ble_eq_true rfl) rfl (con_mono h ?_ (fun _ _ h => h))
  rintro _ w3 ⟨v2, rfl, h⟩
  show Z M G 0 K X w3 75 [some (.ref (G.2.1 9 j0)), some (.ref (G.2.1 1 0)), some (.int x2), some (.int x3), some (.int x4)] [.int v2, .int (w1.1 9 j0 1), .ref (G.2.1 9 j0)]
  refine z_iload F dX1_read_75 rfl ?_
  refine z_ishl F dX1_read_77 ?_
  refine z_ior F dX1_read_78 ?_
  refine z_putIW F 1 rfl hj0 (by decide) rfl lk_X1_15 dX1_read_79 (fun w4 hw4 => ?_)
  have h := h w4 hw4
  refine z_aload_n F dX1_read_82 rfl ?_
  refine z_bipush F 59 dX1_read_83 (by decide) ?_
  refine z_callV F (k' := 2) (mc' := 0) [.int 59] [] dX1_read_85 rfl rfl (by decide) rfl cl_X1_38 hy_X8_sign (by omega) (by decide) (by decide) (Nat.le_of_ble_eq_true rfl) rfl (con_mono h ?_ (fun _ _ h => h))
  rintro _ w6 ⟨rfl, h⟩
  show Z M G 0 K X w6 88 [some (.ref (G.2.1 9 j0)), some (.ref (G.2.1 1 0)), some (.int x2), some (.int x3), some (.int x4)] []
  refine z_iinc F (x3 + 1) dX1_read_88 rfl rfl (Nat.le_of_ble_eq_true rfl) ?_
  refine z_goto F 6 dX1_read_91 (by decide) ?_
  exact z_weak h (⟨rfl, ⟨rfl, ⟨rfl, ⟨rfl, trivial⟩⟩⟩⟩)
set_option maxRecDepth 20000 in
theorem e_X1_fits {l : Launch} {G : Gx} {w : Wd} {j0 : Nat} (hj0 : j0 < cnt 9) {p0 : Int32} {K : Option Value → Wd → Prop} {X : String → Wd → Prop} (hl : l.stackTraces = false)
    (h : ∀ (M : Mx) (kk : Nat), mL M = l → 1 ≤ kk → Fx M G RX1 cX1_fits 2 (some .boolean) kk 0 → ((¬ (p0 &&& (w.1 9 j0 0)) = (w.1 9 j0 1) → K (some (.int 0)) w) ∧ (¬ (¬ (p0 &&& (w.1 9 j0 0)) = (w.1 9 j0 1)) → K (some (.int 1)) w))) :
    Con l G 1 0 yX1_fits cX1_fits 2 (some .boolean) w [.ref (G.2.1 9 j0), .int p0] K X := by
  refine con_intro hl (by decide +kernel) (Nat.le_of_ble_eq_true rfl) (Nat.le_of_ble_eq_true rfl) (fun M kk hM hk F => ?_)
  have h := h M kk hM hk F
  show Z M G 0 K X w 0 [some (.ref (G.2.1 9 j0)), some (.int p0)] []
  refine z_iload_n F dX1_fits_0 rfl ?_
  refine z_aload_n F dX1_fits_1 rfl ?_
  refine z_getI F 0 rfl hj0 (by decide) rfl lk_X1_9 dX1_fits_2 ?_
  refine z_iand F dX1_fits_5 ?_
  refine z_aload_n F dX1_fits_6 rfl ?_
  refine z_getI F 1 rfl hj0 (by decide) rfl lk_X1_15 dX1_fits_7 ?_
  refine z_icmp_ne F 17 dX1_fits_10 (by decide) ⟨fun hc => ?_, fun hc => ?_⟩
  · have h := h.1 hc
    refine z_iconst F 0 dX1_fits_17 (by decide) ?_
    exact z_zret F dX1_fits_18 (by decide) rfl h
  · have h := h.2 hc
    refine z_iconst F 1 dX1_fits_13 (by decide) ?_
    refine z_goto F 18 dX1_fits_14 (by decide) ?_
    exact z_zret F dX1_fits_18 (by decide) rfl h
set_option maxRecDepth 20000 in
theorem e_X3_begin {l : Launch} {G : Gx} {w : Wd} {j0 : Nat} (hj0 : j0 < cnt 4) {j1 : Nat} (hj1 : j1 < cnt 7) {K : Option Value → Wd → Prop} {X : String → Wd → Prop} (hl : l.stackTraces = false)
    (h : ∀ (M : Mx) (kk : Nat), mL M = l → 4 ≤ kk → Fx M G RX3 cX3_begin 2 none kk 0 → (∀ w1 : Wd, w1 = setI w 4 j0 0 0 → Con (mL M) G 3 0 yX6_begin cX6_begin 3 none w1 [.ref (G.2.1 5 (17 * j0)), .ref (G.2.1 7 j1)] (fun r w3 => r = none ∧ K none w3) X)) :
    Con l G 4 0 yX3_begin cX3_begin 2 none w [.ref (G.2.1 4 j0), .ref (G.2.1 7 j1)] K X := by
  refine con_intro hl (by decide +kernel) (Nat.le_of_ble_eq_true rfl) (Nat.le_of_ble_eq_true rfl) (fun M kk hM hk F => ?_)
  have h := h M kk hM hk F
  show Z M G 0 K X w 0 [some (.ref (G.2.1 4 j0)), some (.ref (G.2.1 7 j1))] []
  refine z_aload_n F dX3_begin_0 rfl ?_
  refine z_iconst F 0 dX3_begin_1 (by decide) ?_
  refine z_putIW F 0 rfl hj0 (by decide) rfl lk_X3_22 dX3_begin_2 (fun w1 hw1 => ?_)
  have h := h w1 hw1
  refine z_aload_n F dX3_begin_5 rfl ?_
  refine z_getR F 1 5 (17 * j0) rfl hj0 (by decide) rfl rfl rfl lk_X3_12 dX3_begin_6 ?_
  refine z_aload_n F dX3_begin_9 rfl ?_
  refine z_callV F (k' := 3) (mc' := 0) [.ref (G.2.1 7 j1)] [] dX3_begin_10 rfl rfl (fix_lt 4 j0 1 hj0 (by decide) rfl rfl) rfl cl_X3_26 hy_X6_begin (by omega) (by decide) (by decide) (Nat.le_of_ble_eq_true rfl) rfl (con_mono h ?_ (fun _ _ h => h))
  rintro _ w3 ⟨rfl, h⟩
  show Z M G 0 K X w3 13 [some (.ref (G.2.1 4 j0)), some (.ref (G.2.1 7 j1))] []
  exact z_vret F dX3_begin_13 (by decide) h
set_option maxRecDepth 20000 in
theorem e_X3_keep {l : Launch} {G : Gx} {w : Wd} {j0 : Nat} (hj0 : j0 < cnt 4) {K : Option Value → Wd → Prop} {X : String → Wd → Prop} (hl : l.stackTraces = false)
    (h : ∀ (M : Mx) (kk : Nat), mL M = l → 4 ≤ kk → Fx M G RX3 cX3_keep 1 none kk 0 → ((16 ≤ (w.1 4 j0 0) → K none w) ∧ (¬ (16 ≤ (w.1 4 j0 0)) → (vp_in (w.1 4 j0 0) 16 ∧ Con (mL M) G 3 0 yX6_become cX6_become 2 none w [.ref (G.2.1 5 (17 * j0 + 1 + (w.1 4 j0 0 : Int32).toNatClampNeg)), .ref (G.2.1 5 (17 * j0))] (fun r w3 => r = none ∧ (∀ w4 : Wd, w4 = setI w3 4 j0 0 ((w3.1 4 j0 0) + (1 : Int32)) → K none w4)) X)))) :
    Con l G 4 0 yX3_keep cX3_keep 1 none w [.ref (G.2.1 4 j0)] K X := by
  refine con_intro hl (by decide +kernel) (Nat.le_of_ble_eq_true rfl) (Nat.le_of_ble_eq_true rfl) (fun M kk hM hk F => ?_)
  have h := h M kk hM hk F
  show Z M G 0 K X w 0 [some (.ref (G.2.1 4 j0))] []
  refine z_aload_n F dX3_keep_0 rfl ?_
  refine z_getI F 0 rfl hj0 (by decide) rfl lk_X3_22 dX3_keep_1 ?_
  refine z_bipush F 16 dX3_keep_4 (by decide) ?_
  refine z_icmp_ge F 35 dX3_keep_6 (by decide) ⟨fun hc => ?_, fun hc => ?_⟩
  · have h := h.1 hc
    exact z_vret F dX3_keep_35 (by decide) h
  · have h := h.2 hc
    refine z_aload_n F dX3_keep_9 rfl ?_
    refine z_getR F 2 15 j0 rfl hj0 (by decide) rfl rfl rfl lk_X3_18 dX3_keep_10 ?_
    refine z_aload_n F dX3_keep_13 rfl ?_
    refine z_getI F 0 rfl hj0 (by decide) rfl lk_X3_22 dX3_keep_14 ?_
    obtain ⟨hb, h⟩ := h
    refine z_aald F 5 (17 * j0 + 1 + (w.1 4 j0 0 : Int32).toNatClampNeg) rfl (by decide) (by decide) (fix_lt 4 j0 2 hj0 (by decide) rfl rfl) rfl rfl hb dX3_keep_17 (fun hv1 => ?_)
    refine z_aload_n F dX3_keep_18 rfl ?_
    refine z_getR F 1 5 (17 * j0) rfl hj0 (by decide) rfl rfl rfl lk_X3_12 dX3_keep_19 ?_
    refine z_callV F (k' := 3) (mc' := 0) [.ref (G.2.1 5 (17 * j0))] [] dX3_keep_22 rfl rfl hv1 rfl cl_X3_30 hy_X6_become (by omega) (by decide) (by decide) (Nat.le_of_ble_eq_true rfl) rfl (con_mono h ?_ (fun _ _ h => h))
    rintro _ w3 ⟨rfl, h⟩
    show Z M G 0 K X w3 25 [some (.ref (G.2.1 4 j0))] []
    refine z_aload_n F dX3_keep_25 rfl ?_
    refine z_dup F dX3_keep_26 rfl ?_
    refine z_getI F 0 rfl hj0 (by decide) rfl lk_X3_22 dX3_keep_27 ?_
    refine z_iconst F 1 dX3_keep_30 (by decide) ?_
    refine z_iadd F dX3_keep_31 ?_
    refine z_putIW F 0 rfl hj0 (by decide) rfl lk_X3_22 dX3_keep_32 (fun w4 hw4 => ?_)
    have h := h w4 hw4
    exact z_vret F dX3_keep_35 (by decide) h
set_option maxRecDepth 20000 in
theorem e_X3_drop {l : Launch} {G : Gx} {w : Wd} {j0 : Nat} (hj0 : j0 < cnt 4) {K : Option Value → Wd → Prop} {X : String → Wd → Prop} (hl : l.stackTraces = false)
    (h : ∀ (M : Mx) (kk : Nat), mL M = l → 4 ≤ kk → Fx M G RX3 cX3_drop 1 none kk 0 → (((w.1 4 j0 0) ≤ 0 → K none w) ∧ (¬ ((w.1 4 j0 0) ≤ 0) → (∀ w1 : Wd, w1 = setI w 4 j0 0 ((w.1 4 j0 0) - (1 : Int32)) → (vp_in (w1.1 4 j0 0) 16 ∧ Con (mL M) G 3 0 yX6_become cX6_become 2 none w1 [.ref (G.2.1 5 (17 * j0)), .ref (G.2.1 5 (17 * j0 + 1 + (w1.1 4 j0 0 : Int32).toNatClampNeg))] (fun r w4 => r = none ∧ K none w4) X))))) :
    Con l G 4 0 yX3_drop cX3_drop 1 none w [.ref (G.2.1 4 j0)] K X := by
  refine con_intro hl (by decide +kernel) (Nat.le_of_ble_eq_true rfl) (Nat.le_of_ble_eq_true rfl) (fun M kk hM hk F => ?_)
  have h := h M kk hM hk F
  show Z M G 0 K X w 0 [some (.ref (G.2.1 4 j0))] []
  refine z_aload_n F dX3_drop_0 rfl ?_
  refine z_getI F 0 rfl hj0 (by decide) rfl lk_X3_22 dX3_drop_1 ?_
  refine z_if_le F 33 dX3_drop_4 (by decide) ⟨fun hc => ?_, fun hc => ?_⟩
  · have h := h.1 hc
    exact z_vret F dX3_drop_33 (by decide) h
  · have h := h.2 hc
    refine z_aload_n F dX3_drop_7 rfl ?_
    refine z_dup F dX3_drop_8 rfl ?_
    refine z_getI F 0 rfl hj0 (by decide) rfl lk_X3_22 dX3_drop_9 ?_
    refine z_iconst F 1 dX3_drop_12 (by decide) ?_
    refine z_isub F dX3_drop_13 ?_
    refine z_putIW F 0 rfl hj0 (by decide) rfl lk_X3_22 dX3_drop_14 (fun w1 hw1 => ?_)
    have h := h w1 hw1
    refine z_aload_n F dX3_drop_17 rfl ?_
    refine z_getR F 1 5 (17 * j0) rfl hj0 (by decide) rfl rfl rfl lk_X3_12 dX3_drop_18 ?_
    refine z_aload_n F dX3_drop_21 rfl ?_
    refine z_getR F 2 15 j0 rfl hj0 (by decide) rfl rfl rfl lk_X3_18 dX3_drop_22 ?_
    refine z_aload_n F dX3_drop_25 rfl ?_
    refine z_getI F 0 rfl hj0 (by decide) rfl lk_X3_22 dX3_drop_26 ?_
    obtain ⟨hb, h⟩ := h
    refine z_aald F 5 (17 * j0 + 1 + (w1.1 4 j0 0 : Int32).toNatClampNeg) rfl (by decide) (by decide) (fix_lt 4 j0 2 hj0 (by decide) rfl rfl) rfl rfl hb dX3_drop_29 (fun hv2 => ?_)
    refine z_callV F (k' := 3) (mc' := 0) [.ref (G.2.1 5 (17 * j0 + 1 + (w1.1 4 j0 0 : Int32).toNatClampNeg))] [] dX3_drop_30 rfl rfl (fix_lt 4 j0 1 hj0 (by decide) rfl rfl) rfl cl_X3_30 hy_X6_become (by omega) (by decide) (by decide) (Nat.le_of_ble_eq_true rfl) rfl (con_mono h ?_ (fun _ _ h => h))
    rintro _ w4 ⟨rfl, h⟩
    show Z M G 0 K X w4 33 [some (.ref (G.2.1 4 j0))] []
    exact z_vret F dX3_drop_33 (by decide) h
set_option maxRecDepth 20000 in
theorem e_X3_become {l : Launch} {G : Gx} {w : Wd} {j0 : Nat} (hj0 : j0 < cnt 4) {j1 : Nat} (hj1 : j1 < cnt 4) {K : Option Value → Wd → Prop} {X : String → Wd → Prop} (hl : l.stackTraces = false)
    (h : ∀ (M : Mx) (kk : Nat), mL M = l → 4 ≤ kk → Fx M G RX3 cX3_become 3 none kk 0 → (∀ w1 : Wd, w1 = setI w 4 j0 0 (w.1 4 j1 0) → Con (mL M) G 3 0 yX6_become cX6_become 2 none w1 [.ref (G.2.1 5 (17 * j0)), .ref (G.2.1 5 (17 * j1))] (fun r w3 => r = none ∧ Z M G 0 K X w3 21 [some (.ref (G.2.1 4 j0)), some (.ref (G.2.1 4 j1)), some (.int 0)] []) X)) :
    Con l G 4 0 yX3_become cX3_become 3 none w [.ref (G.2.1 4 j0), .ref (G.2.1 4 j1)] K X := by
  refine con_intro hl (by decide +kernel) (Nat.le_of_ble_eq_true rfl) (Nat.le_of_ble_eq_true rfl) (fun M kk hM hk F => ?_)
  have h := h M kk hM hk F
  show Z M G 0 K X w 0 [some (.ref (G.2.1 4 j0)), some (.ref (G.2.1 4 j1)), none] []
  refine z_aload_n F dX3_become_0 rfl ?_
  refine z_aload_n F dX3_become_1 rfl ?_
  refine z_getI F 0 rfl hj1 (by decide) rfl lk_X3_22 dX3_become_2 ?_
  refine z_putIW F 0 rfl hj0 (by decide) rfl lk_X3_22 dX3_become_5 (fun w1 hw1 => ?_)
  have h := h w1 hw1
  refine z_aload_n F dX3_become_8 rfl ?_
  refine z_getR F 1 5 (17 * j0) rfl hj0 (by decide) rfl rfl rfl lk_X3_12 dX3_become_9 ?_
  refine z_aload_n F dX3_become_12 rfl ?_
  refine z_getR F 1 5 (17 * j1) rfl hj1 (by decide) rfl rfl rfl lk_X3_12 dX3_become_13 ?_
  refine z_callV F (k' := 3) (mc' := 0) [.ref (G.2.1 5 (17 * j1))] [] dX3_become_16 rfl rfl (fix_lt 4 j0 1 hj0 (by decide) rfl rfl) rfl cl_X3_30 hy_X6_become (by omega) (by decide) (by decide) (Nat.le_of_ble_eq_true rfl) rfl (con_mono h ?_ (fun _ _ h => h))
  rintro _ w3 ⟨rfl, h⟩
  show Z M G 0 K X w3 19 [some (.ref (G.2.1 4 j0)), some (.ref (G.2.1 4 j1)), none] []
  refine z_iconst F 0 dX3_become_19 (by decide) ?_
  refine z_istore_n F dX3_become_20 (Nat.le_of_ble_eq_true rfl) ?_
  exact h
set_option maxRecDepth 20000 in
theorem b_X3_become_21 {M : Mx} {G : Gx} {kk : Nat} {w : Wd} {j0 : Nat} (hj0 : j0 < cnt 4) {j1 : Nat} (hj1 : j1 < cnt 4) {x2 : Int32} {K : Option Value → Wd → Prop} {X : String → Wd → Prop} (F : Fx M G RX3 cX3_become 3 none kk 0) (hk : 4 ≤ kk)
    (h : (((w.1 4 j0 0) ≤ x2 → K none w) ∧ (¬ ((w.1 4 j0 0) ≤ x2) → (vp_in x2 16 ∧ (vp_in x2 16 ∧ Con (mL M) G 3 0 yX6_become cX6_become 2 none w [.ref (G.2.1 5 (17 * j0 + 1 + (x2 : Int32).toNatClampNeg)), .ref (G.2.1 5 (17 * j1 + 1 + (x2 : Int32).toNatClampNeg))] (fun r w4 => r = none ∧ Z M G 0 K X w4 21 [some (.ref (G.2.1 4 j0)), some (.ref (G.2.1 4 j1)), some (.int (x2 + 1))] []) X))))) :
    Z M G 0 K X w 21 [some (.ref (G.2.1 4 j0)), some (.ref (G.2.1 4 j1)), some (.int x2)] [] := by
  refine z_iload_n F dX3_become_21 rfl ?_
  refine z_aload_n F dX3_become_22 rfl ?_
  refine z_getI F 0 rfl hj0 (by decide) rfl lk_X3_22 dX3_become_23 ?_
  refine z_icmp_ge F 50 dX3_become_26 (by decide) ⟨fun hc => ?_, fun hc => ?_⟩
  · have h := h.1 hc
    exact z_vret F dX3_become_50 (by decide) h
  · have h := h.2 hc
    refine z_aload_n F dX3_become_29 rfl ?_
    refine z_getR F 2 15 j0 rfl hj0 (by decide) rfl rfl rfl lk_X3_18 dX3_become_30 ?_
    refine z_iload_n F dX3_become_33 rfl ?_
    obtain ⟨hb, h⟩ := h
    refine z_aald F 5 (17 * j0 + 1 + (x2 : Int32).toNatClampNeg) rfl (by decide) (by decide) (fix_lt 4 j0 2 hj0 (by decide) rfl rfl) rfl rfl hb dX3_become_34 (fun hv1 => ?_)
    refine z_aload_n F dX3_become_35 rfl ?_
    refine z_getR F 2 15 j1 rfl hj1 (by decide) rfl rfl rfl lk_X3_18 dX3_become_36 ?_
    refine z_iload_n F dX3_become_39 rfl ?_
    obtain ⟨hb, h⟩ := h
    refine z_aald F 5 (17 * j1 + 1 + (x2 : Int32).toNatClampNeg) rfl (by decide) (by decide) (fix_lt 4 j1 2 hj1 (by decide) rfl rfl) rfl rfl hb dX3_become_40 (fun hv2 => ?_)
    refine z_callV F (k' := 3) (mc' := 0) [.ref (G.2.1 5 (17 * j1 + 1 + (x2 : Int32).toNatClampNeg))] [] dX3_become_41 rfl rfl hv1 rfl cl_X3_30 hy_X6_become (by omega) (by decide) (by decide) (Nat.le_of_ble_eq_true rfl) rfl (con_mono h ?_ (fun _ _ h => h))
    rintro _ w4 ⟨rfl, h⟩
    show Z M G 0 K X w4 44 [some (.ref (G.2.1 4 j0)), some (.ref (G.2.1 4 j1)), some (.int x2)] []
    refine z_iinc F (x2 + 1) dX3_become_44 rfl rfl (Nat.le_of_ble_eq_true rfl) ?_
    refine z_goto F 21 dX3_become_47 (by decide) ?_
    exact h
set_option maxRecDepth 20000 in
theorem e_X6_begin {l : Launch} {G : Gx} {w : Wd} {j0 : Nat} (hj0 : j0 < cnt 5) {j1 : Nat} (hj1 : j1 < cnt 7) {K : Option Value → Wd → Prop} {X : String → Wd → Prop} (hl : l.stackTraces = false)
    (h : ∀ (M : Mx) (kk : Nat), mL M = l → 3 ≤ kk → Fx M G RX6 cX6_begin 3 none kk 0 → (∀ w1 : Wd, w1 = setI w 5 j0 0 0 → (∀ w2 : Wd, w2 = setI w1 5 j0 1 0 → (∀ w3 : Wd, w3 = setI w2 5 j0 2 0 → Z M G 0 K X w3 17 [some (.ref (G.2.1 5 j0)), some (.ref (G.2.1 7 j1)), some (.int 0)] [])))) :
    Con l G 3 0 yX6_begin cX6_begin 3 none w [.ref (G.2.1 5 j0), .ref (G.2.1 7 j1)] K X := by
  refine con_intro hl (by decide +kernel) (Nat.le_of_ble_eq_true rfl) (Nat.le_of_ble_eq_true rfl) (fun M kk hM hk F => ?_)
  have h := h M kk hM hk F
  show Z M G 0 K X w 0 [some (.ref (G.2.1 5 j0)), some (.ref (G.2.1 7 j1)), none] []
  refine z_aload_n F dX6_begin_0 rfl ?_
  refine z_iconst F 0 dX6_begin_1 (by decide) ?_
  refine z_putIW F 0 rfl hj0 (by decide) rfl lk_X6_27 dX6_begin_2 (fun w1 hw1 => ?_)
  have h := h w1 hw1
  refine z_aload_n F dX6_begin_5 rfl ?_
  refine z_iconst F 0 dX6_begin_6 (by decide) ?_
  refine z_putIW F 1 rfl hj0 (by decide) rfl lk_X6_31 dX6_begin_7 (fun w2 hw2 => ?_)
  have h := h w2 hw2
  refine z_aload_n F dX6_begin_10 rfl ?_
  refine z_iconst F 0 dX6_begin_11 (by decide) ?_
  refine z_putIW F 2 rfl hj0 (by decide) rfl lk_X6_34 dX6_begin_12 (fun w3 hw3 => ?_)
  have h := h w3 hw3
  refine z_iconst F 0 dX6_begin_15 (by decide) ?_
  refine z_istore_n F dX6_begin_16 (Nat.le_of_ble_eq_true rfl) ?_
  exact h
set_option maxRecDepth 20000 in
theorem b_X6_begin_17 {M : Mx} {G : Gx} {kk : Nat} {w : Wd} {j0 : Nat} (hj0 : j0 < cnt 5) {j1 : Nat} (hj1 : j1 < cnt 7) {x2 : Int32} {K : Option Value → Wd → Prop} {X : String → Wd → Prop} (F : Fx M G RX6 cX6_begin 3 none kk 0) (hk : 3 ≤ kk)
    (h : ((7 ≤ x2 → (∀ w1 : Wd, w1 = setR w 21 j0 (va_cpy (w.1 28 j1) (w.1 21 j0) 0 0 20) → K none w1)) ∧ (¬ (7 ≤ x2) → (((w.1 7 j1 0) ≤ x2 → Z M G 0 K X w 46 [some (.ref (G.2.1 5 j0)), some (.ref (G.2.1 7 j1)), some (.int x2)] [.int 0, .int x2, .ref (G.2.1 17 j0)]) ∧ (¬ ((w.1 7 j1 0) ≤ x2) → (vp_in x2 7 ∧ Z M G 0 K X w 46 [some (.ref (G.2.1 5 j0)), some (.ref (G.2.1 7 j1)), some (.int x2)] [.int (w.1 27 j1 ((x2 : Int32).toNatClampNeg)), .int x2, .ref (G.2.1 17 j0)])))))) :
    Z M G 0 K X w 17 [some (.ref (G.2.1 5 j0)), some (.ref (G.2.1 7 j1)), some (.int x2)] [] := by
  refine z_iload_n F dX6_begin_17 rfl ?_
  refine z_bipush F 7 dX6_begin_18 (by decide) ?_
  refine z_icmp_ge F 74 dX6_begin_20 (by decide) ⟨fun hc => ?_, fun hc => ?_⟩
  · have h := h.1 hc
    refine z_aload_n F dX6_begin_74 rfl ?_
    refine z_getR F 7 28 j1 rfl hj1 (by decide) rfl rfl rfl lk_X6_45 dX6_begin_75 ?_
    refine z_iconst F 0 dX6_begin_78 (by decide) ?_
    refine z_aload_n F dX6_begin_79 rfl ?_
    refine z_getR F 7 21 j0 rfl hj0 (by decide) rfl rfl rfl lk_X6_24 dX6_begin_80 ?_
    refine z_iconst F 0 dX6_begin_83 (by decide) ?_
    refine z_bipush F 20 dX6_begin_84 (by decide) ?_
    refine z_copyW F 0 0 20 (by decide) (by decide) (by decide) rfl (fix_lt 7 j1 7 hj1 (by decide) rfl rfl) rfl (fix_lt 5 j0 7 hj0 (by decide) rfl rfl) (GW_2 156 rfl rfl) (GW_2 158 rfl rfl) (GW_2 157 rfl rfl) (GW_1 20 rfl rfl) (by decide) (by decide) (by decide) (by decide) (by decide) (by omega) rfl (Nat.le_of_ble_eq_true rfl) dX6_begin_86 (fun w1 hw1 => ?_)
    have h := h w1 hw1
    exact z_vret F dX6_begin_89 (by decide) h
  · have h := h.2 hc
    refine z_aload_n F dX6_begin_23 rfl ?_
    refine z_getR F 3 17 j0 rfl hj0 (by decide) rfl rfl rfl lk_X6_9 dX6_begin_24 ?_
    refine z_iload_n F dX6_begin_27 rfl ?_
    refine z_iload_n F dX6_begin_28 rfl ?_
    refine z_aload_n F dX6_begin_29 rfl ?_
    refine z_getI F 0 rfl hj1 (by decide) rfl lk_X6_37 dX6_begin_30 ?_
    refine z_icmp_ge F 45 dX6_begin_33 (by decide) ⟨fun hc => ?_, fun hc => ?_⟩
    · have h := h.1 hc
      refine z_iconst F 0 dX6_begin_45 (by decide) ?_
      exact h
    · have h := h.2 hc
      refine z_aload_n F dX6_begin_36 rfl ?_
      refine z_getR F 6 27 j1 rfl hj1 (by decide) rfl rfl rfl lk_X6_42 dX6_begin_37 ?_
      refine z_iload_n F dX6_begin_40 rfl ?_
      obtain ⟨hb, h⟩ := h
      refine z_ialdK F ((x2 : Int32).toNatClampNeg) rfl rfl (fix_lt 7 j1 6 hj1 (by decide) rfl rfl) hb dX6_begin_41 ?_
      refine z_goto F 46 dX6_begin_42 (by decide) ?_
      exact h
set_option maxRecDepth 20000 in
theorem b_X6_begin_46 {M : Mx} {G : Gx} {kk : Nat} {w : Wd} {j0 : Nat} (hj0 : j0 < cnt 5) {j1 : Nat} (hj1 : j1 < cnt 7) {x2 : Int32} {s0 : Int32} {s1 : Int32} {K : Option Value → Wd → Prop} {X : String → Wd → Prop} (F : Fx M G RX6 cX6_begin 3 none kk 0) (hk : 3 ≤ kk)
    (h : (vp_in s1 7 ∧ ∀ w1 : Wd, w1 = setI w 17 j0 ((s1 : Int32).toNatClampNeg) s0 → (vp_in x2 7 ∧ ∀ w2 : Wd, w2 = setI w1 18 j0 ((x2 : Int32).toNatClampNeg) 0 → (vp_in x2 7 ∧ ∀ w3 : Wd, w3 = setI w2 19 j0 ((x2 : Int32).toNatClampNeg) 0 → (vp_in x2 7 ∧ ∀ w4 : Wd, w4 = setI w3 20 j0 ((x2 : Int32).toNatClampNeg) 0 → Z M G 0 K X w4 17 [some (.ref (G.2.1 5 j0)), some (.ref (G.2.1 7 j1)), some (.int (x2 + 1))] []))))) :
    Z M G 0 K X w 46 [some (.ref (G.2.1 5 j0)), some (.ref (G.2.1 7 j1)), some (.int x2)] [.int s0, .int s1, .ref (G.2.1 17 j0)] := by
  obtain ⟨hb, h⟩ := h
  refine z_iastW F ((s1 : Int32).toNatClampNeg) rfl rfl (fix_lt 5 j0 3 hj0 (by decide) rfl rfl) hb dX6_begin_46 (fun w1 hw1 => ?_)
  have h := h w1 hw1
  refine z_aload_n F dX6_begin_47 rfl ?_
  refine z_getR F 4 18 j0 rfl hj0 (by decide) rfl rfl rfl lk_X6_15 dX6_begin_48 ?_
  refine z_iload_n F dX6_begin_51 rfl ?_
  refine z_iconst F 0 dX6_begin_52 (by decide) ?_
  obtain ⟨hb, h⟩ := h
  refine z_iastW F ((x2 : Int32).toNatClampNeg) rfl rfl (fix_lt 5 j0 4 hj0 (by decide) rfl rfl) hb dX6_begin_53 (fun w2 hw2 => ?_)
  have h := h w2 hw2
  refine z_aload_n F dX6_begin_54 rfl ?_
  refine z_getR F 5 19 j0 rfl hj0 (by decide) rfl rfl rfl lk_X6_18 dX6_begin_55 ?_
  refine z_iload_n F dX6_begin_58 rfl ?_
  refine z_iconst F 0 dX6_begin_59 (by decide) ?_
  obtain ⟨hb, h⟩ := h
  refine z_iastW F ((x2 : Int32).toNatClampNeg) rfl rfl (fix_lt 5 j0 5 hj0 (by decide) rfl rfl) hb dX6_begin_60 (fun w3 hw3 => ?_)
  have h := h w3 hw3
  refine z_aload_n F dX6_begin_61 rfl ?_
  refine z_getR F 6 20 j0 rfl hj0 (by decide) rfl rfl rfl lk_X6_21 dX6_begin_62 ?_
  refine z_iload_n F dX6_begin_65 rfl ?_
  refine z_iconst F 0 dX6_begin_66 (by decide) ?_
  obtain ⟨hb, h⟩ := h
  refine z_iastW F ((x2 : Int32).toNatClampNeg) rfl rfl (fix_lt 5 j0 6 hj0 (by decide) rfl rfl) hb dX6_begin_67 (fun w4 hw4 => ?_)
  have h := h w4 hw4
  refine z_iinc F (x2 + 1) dX6_begin_68 rfl rfl (Nat.le_of_ble_eq_true rfl) ?_
  refine z_goto F 17 dX6_begin_71 (by decide) ?_
  exact h
set_option maxRecDepth 20000 in
theorem e_X6_become {l : Launch} {G : Gx} {w : Wd} {j0 : Nat} (hj0 : j0 < cnt 5) {j1 : Nat} (hj1 : j1 < cnt 5) {K : Option Value → Wd → Prop} {X : String → Wd → Prop} (hl : l.stackTraces = false)
    (h : ∀ (M : Mx) (kk : Nat), mL M = l → 3 ≤ kk → Fx M G RX6 cX6_become 2 none kk 0 → (∀ w1 : Wd, w1 = setI w 5 j0 0 (w.1 5 j1 0) → (∀ w2 : Wd, w2 = setI w1 5 j0 1 (w1.1 5 j1 1) → (∀ w3 : Wd, w3 = setI w2 5 j0 2 (w2.1 5 j1 2) → (∀ w4 : Wd, w4 = setR w3 17 j0 (va_cpy (w3.1 17 j1) (w3.1 17 j0) 0 0 7) → (∀ w5 : Wd, w5 = setR w4 18 j0 (va_cpy (w4.1 18 j1) (w4.1 18 j0) 0 0 7) → (∀ w6 : Wd, w6 = setR w5 19 j0 (va_cpy (w5.1 19 j1) (w5.1 19 j0) 0 0 7) → (∀ w7 : Wd, w7 = setR w6 20 j0 (va_cpy (w6.1 20 j1) (w6.1 20 j0) 0 0 7) → (∀ w8 : Wd, w8 = setR w7 21 j0 (va_cpy (w7.1 21 j1) (w7.1 21 j0) 0 0 20) → K none w8))))))))) :
    Con l G 3 0 yX6_become cX6_become 2 none w [.ref (G.2.1 5 j0), .ref (G.2.1 5 j1)] K X := by
  refine con_intro hl (by decide +kernel) (Nat.le_of_ble_eq_true rfl) (Nat.le_of_ble_eq_true rfl) (fun M kk hM hk F => ?_)
  have h := h M kk hM hk F
  show Z M G 0 K X w 0 [some (.ref (G.2.1 5 j0)), some (.ref (G.2.1 5 j1))] []
  refine z_aload_n F dX6_become_0 rfl ?_
  refine z_aload_n F dX6_become_1 rfl ?_
  refine z_getI F 0 rfl hj1 (by decide) rfl lk_X6_27 dX6_become_2 ?_
  refine z_putIW F 0 rfl hj0 (by decide) rfl lk_X6_27 dX6_become_5 (fun w1 hw1 => ?_)
  have h := h w1 hw1
  refine z_aload_n F dX6_become_8 rfl ?_
  refine z_aload_n F dX6_become_9 rfl ?_
  refine z_getI F 1 rfl hj1 (by decide) rfl lk_X6_31 dX6_become_10 ?_
  refine z_putIW F 1 rfl hj0 (by decide) rfl lk_X6_31 dX6_become_13 (fun w2 hw2 => ?_)
  have h := h w2 hw2
  refine z_aload_n F dX6_become_16 rfl ?_
  refine z_aload_n F dX6_become_17 rfl ?_
  refine z_getI F 2 rfl hj1 (by decide) rfl lk_X6_34 dX6_become_18 ?_
  refine z_putIW F 2 rfl hj0 (by decide) rfl lk_X6_34 dX6_become_21 (fun w3 hw3 => ?_)
  have h := h w3 hw3
  refine z_aload_n F dX6_become_24 rfl ?_
  refine z_getR F 3 17 j1 rfl hj1 (by decide) rfl rfl rfl lk_X6_9 dX6_become_25 ?_
  refine z_iconst F 0 dX6_become_28 (by decide) ?_
  refine z_aload_n F dX6_become_29 rfl ?_
  refine z_getR F 3 17 j0 rfl hj0 (by decide) rfl rfl rfl lk_X6_9 dX6_become_30 ?_
  refine z_iconst F 0 dX6_become_33 (by decide) ?_
  refine z_bipush F 7 dX6_become_34 (by decide) ?_
  refine z_copyW F 0 0 7 (by decide) (by decide) (by decide) rfl (fix_lt 5 j1 3 hj1 (by decide) rfl rfl) rfl (fix_lt 5 j0 3 hj0 (by decide) rfl rfl) (GW_2 156 rfl rfl) (GW_2 158 rfl rfl) (GW_2 157 rfl rfl) (GW_1 20 rfl rfl) (by decide) (by decide) (by decide) (by decide) (by decide) (by omega) rfl (Nat.le_of_ble_eq_true rfl) dX6_become_36 (fun w4 hw4 => ?_)
  have h := h w4 hw4
  refine z_aload_n F dX6_become_39 rfl ?_
  refine z_getR F 4 18 j1 rfl hj1 (by decide) rfl rfl rfl lk_X6_15 dX6_become_40 ?_
  refine z_iconst F 0 dX6_become_43 (by decide) ?_
  refine z_aload_n F dX6_become_44 rfl ?_
  refine z_getR F 4 18 j0 rfl hj0 (by decide) rfl rfl rfl lk_X6_15 dX6_become_45 ?_
  refine z_iconst F 0 dX6_become_48 (by decide) ?_
  refine z_bipush F 7 dX6_become_49 (by decide) ?_
  refine z_copyW F 0 0 7 (by decide) (by decide) (by decide) rfl (fix_lt 5 j1 4 hj1 (by decide) rfl rfl) rfl (fix_lt 5 j0 4 hj0 (by decide) rfl rfl) (GW_2 156 rfl rfl) (GW_2 158 rfl rfl) (GW_2 157 rfl rfl) (GW_1 20 rfl rfl) (by decide) (by decide) (by decide) (by decide) (by decide) (by omega) rfl (Nat.le_of_ble_eq_true rfl) dX6_become_51 (fun w5 hw5 => ?_)
  have h := h w5 hw5
  refine z_aload_n F dX6_become_54 rfl ?_
  refine z_getR F 5 19 j1 rfl hj1 (by decide) rfl rfl rfl lk_X6_18 dX6_become_55 ?_
  refine z_iconst F 0 dX6_become_58 (by decide) ?_
  refine z_aload_n F dX6_become_59 rfl ?_
  refine z_getR F 5 19 j0 rfl hj0 (by decide) rfl rfl rfl lk_X6_18 dX6_become_60 ?_
  refine z_iconst F 0 dX6_become_63 (by decide) ?_
  refine z_bipush F 7 dX6_become_64 (by decide) ?_
  refine z_copyW F 0 0 7 (by decide) (by decide) (by decide) rfl (fix_lt 5 j1 5 hj1 (by decide) rfl rfl) rfl (fix_lt 5 j0 5 hj0 (by decide) rfl rfl) (GW_2 156 rfl rfl) (GW_2 158 rfl rfl) (GW_2 157 rfl rfl) (GW_1 20 rfl rfl) (by decide) (by decide) (by decide) (by decide) (by decide) (by omega) rfl (Nat.le_of_ble_eq_true rfl) dX6_become_66 (fun w6 hw6 => ?_)
  have h := h w6 hw6
  refine z_aload_n F dX6_become_69 rfl ?_
  refine z_getR F 6 20 j1 rfl hj1 (by decide) rfl rfl rfl lk_X6_21 dX6_become_70 ?_
  refine z_iconst F 0 dX6_become_73 (by decide) ?_
  refine z_aload_n F dX6_become_74 rfl ?_
  refine z_getR F 6 20 j0 rfl hj0 (by decide) rfl rfl rfl lk_X6_21 dX6_become_75 ?_
  refine z_iconst F 0 dX6_become_78 (by decide) ?_
  refine z_bipush F 7 dX6_become_79 (by decide) ?_
  refine z_copyW F 0 0 7 (by decide) (by decide) (by decide) rfl (fix_lt 5 j1 6 hj1 (by decide) rfl rfl) rfl (fix_lt 5 j0 6 hj0 (by decide) rfl rfl) (GW_2 156 rfl rfl) (GW_2 158 rfl rfl) (GW_2 157 rfl rfl) (GW_1 20 rfl rfl) (by decide) (by decide) (by decide) (by decide) (by decide) (by omega) rfl (Nat.le_of_ble_eq_true rfl) dX6_become_81 (fun w7 hw7 => ?_)
  have h := h w7 hw7
  refine z_aload_n F dX6_become_84 rfl ?_
  refine z_getR F 7 21 j1 rfl hj1 (by decide) rfl rfl rfl lk_X6_24 dX6_become_85 ?_
  refine z_iconst F 0 dX6_become_88 (by decide) ?_
  refine z_aload_n F dX6_become_89 rfl ?_
  refine z_getR F 7 21 j0 rfl hj0 (by decide) rfl rfl rfl lk_X6_24 dX6_become_90 ?_
  refine z_iconst F 0 dX6_become_93 (by decide) ?_
  refine z_bipush F 20 dX6_become_94 (by decide) ?_
  refine z_copyW F 0 0 20 (by decide) (by decide) (by decide) rfl (fix_lt 5 j1 7 hj1 (by decide) rfl rfl) rfl (fix_lt 5 j0 7 hj0 (by decide) rfl rfl) (GW_2 156 rfl rfl) (GW_2 158 rfl rfl) (GW_2 157 rfl rfl) (GW_1 20 rfl rfl) (by decide) (by decide) (by decide) (by decide) (by decide) (by omega) rfl (Nat.le_of_ble_eq_true rfl) dX6_become_96 (fun w8 hw8 => ?_)
  have h := h w8 hw8
  exact z_vret F dX6_become_99 (by decide) h
set_option maxRecDepth 20000 in
theorem e_X6_turn {l : Launch} {G : Gx} {w : Wd} {j0 : Nat} (hj0 : j0 < cnt 5) {p0 : Int32} {p1 : Int32} {K : Option Value → Wd → Prop} {X : String → Wd → Prop} (hl : l.stackTraces = false)
    (h : ∀ (M : Mx) (kk : Nat), mL M = l → 1 ≤ kk → Fx M G RX6 cX6_turn 3 (some .boolean) kk 0 → ((¬ (((w.1 5 j0 1) >>> (p0 &&& 31)) &&& (1 : Int32)) = p1 → (∀ w1 : Wd, w1 = setI w 5 j0 1 ((w.1 5 j0 1) ^^^ ((1 : Int32) <<< (p0 &&& 31))) → K (some (.int 1)) w1)) ∧ (¬ (¬ (((w.1 5 j0 1) >>> (p0 &&& 31)) &&& (1 : Int32)) = p1) → K (some (.int 0)) w))) :
    Con l G 1 0 yX6_turn cX6_turn 3 (some .boolean) w [.ref (G.2.1 5 j0), .int p0, .int p1] K X := by
  refine con_intro hl (by decide +kernel) (Nat.le_of_ble_eq_true rfl) (Nat.le_of_ble_eq_true rfl) (fun M kk hM hk F => ?_)
  have h := h M kk hM hk F
  show Z M G 0 K X w 0 [some (.ref (G.2.1 5 j0)), some (.int p0), some (.int p1)] []
  refine z_aload_n F dX6_turn_0 rfl ?_
  refine z_getI F 1 rfl hj0 (by decide) rfl lk_X6_31 dX6_turn_1 ?_
  refine z_iload_n F dX6_turn_4 rfl ?_
  refine z_ishr F dX6_turn_5 ?_
  refine z_iconst F 1 dX6_turn_6 (by decide) ?_
  refine z_iand F dX6_turn_7 ?_
  refine z_iload_n F dX6_turn_8 rfl ?_
  refine z_icmp_ne F 14 dX6_turn_9 (by decide) ⟨fun hc => ?_, fun hc => ?_⟩
  · have h := h.1 hc
    refine z_aload_n F dX6_turn_14 rfl ?_
    refine z_dup F dX6_turn_15 rfl ?_
    refine z_getI F 1 rfl hj0 (by decide) rfl lk_X6_31 dX6_turn_16 ?_
    refine z_iconst F 1 dX6_turn_19 (by decide) ?_
    refine z_iload_n F dX6_turn_20 rfl ?_
    refine z_ishl F dX6_turn_21 ?_
    refine z_ixor F dX6_turn_22 ?_
    refine z_putIW F 1 rfl hj0 (by decide) rfl lk_X6_31 dX6_turn_23 (fun w1 hw1 => ?_)
    have h := h w1 hw1
    refine z_iconst F 1 dX6_turn_26 (by decide) ?_
    exact z_zret F dX6_turn_27 (by decide) rfl h
  · have h := h.2 hc
    refine z_iconst F 0 dX6_turn_12 (by decide) ?_
    exact z_zret F dX6_turn_13 (by decide) rfl h
set_option maxRecDepth 20000 in
theorem e_X7_breathFor {l : Launch} {G : Gx} {w : Wd} {j1 : Nat} (hj1 : j1 < cnt 5) {p1 : Int32} {p2 : Int32} {K : Option Value → Wd → Prop} {X : String → Wd → Prop} (hl : l.stackTraces = false)
    (h : ∀ (M : Mx) (kk : Nat), mL M = l → 3 ≤ kk → Fx M G RX7 cX7_breathFor 5 (some .int) kk 0 → (vp_in p1 20 ∧ (∀ w3 : Wd, w3 = setI w 33 (w.2.2 2 0 1) 0 (w.1 29 (w.2.2 2 0 0) ((p1 : Int32).toNatClampNeg)) → (vp_in p2 7 ∧ (∀ w5 : Wd, w5 = setI w3 33 (w.2.2 2 0 1) 1 (w3.1 26 (w3.2.2 2 0 0) ((p2 : Int32).toNatClampNeg)) → (vp_in p2 7 ∧ (∀ w6 : Wd, w6 = setI w5 33 (w.2.2 2 0 1) 2 (w5.1 17 j1 ((p2 : Int32).toNatClampNeg)) → (vp_in p2 7 ∧ (∀ w7 : Wd, w7 = setI w6 33 (w.2.2 2 0 1) 3 (w6.1 18 j1 ((p2 : Int32).toNatClampNeg)) → (∀ w8 : Wd, w8 = setI w7 33 (w.2.2 2 0 1) 4 p1 → (vp_in p1 20 ∧ (∀ w9 : Wd, w9 = setI w8 33 (w.2.2 2 0 1) 5 (w8.1 21 j1 ((p1 : Int32).toNatClampNeg)) → (∀ w10 : Wd, w10 = setI w9 33 (w.2.2 2 0 1) 6 (w9.1 5 j1 0) → (∀ w11 : Wd, w11 = setI w10 33 (w.2.2 2 0 1) 7 p2 → Con (mL M) G 2 0 yX2_weigh cX2_weigh 4 (some .int) w11 [.ref (G.2.1 8 (w11.2.2 2 0 1))] (fun r w14 => ∃ v13 : Int32, r = some (.int v13) ∧ K (some (.int v13)) w14) X)))))))))))))) :
    Con l G 3 0 yX7_breathFor cX7_breathFor 5 (some .int) w [.ref (G.2.1 2 0), .ref (G.2.1 5 j1), .int p1, .int p2] K X := by
  refine con_intro hl (by decide +kernel) (Nat.le_of_ble_eq_true rfl) (Nat.le_of_ble_eq_true rfl) (fun M kk hM hk F => ?_)
  have h := h M kk hM hk F
  show Z M G 0 K X w 0 [some (.ref (G.2.1 2 0)), some (.ref (G.2.1 5 j1)), some (.int p1), some (.int p2), none] []
  refine z_aload_n F dX7_breathFor_0 rfl ?_
  refine z_getD F 1 8 rfl (by decide) (by decide) rfl rfl lk_X7_21 dX7_breathFor_1 (fun hv1 => ?_)
  refine z_getR F 0 33 (w.2.2 2 0 1) rfl hv1 (by decide) rfl rfl rfl lk_X7_25 dX7_breathFor_4 ?_
  refine z_astore F dX7_breathFor_7 (Nat.le_of_ble_eq_true rfl) ?_
  refine z_aload F dX7_breathFor_9 rfl ?_
  refine z_iconst F 0 dX7_breathFor_11 (by decide) ?_
  refine z_aload_n F dX7_breathFor_12 rfl ?_
  refine z_getD F 0 7 rfl (by decide) (by decide) rfl rfl lk_X7_12 dX7_breathFor_13 (fun hv2 => ?_)
  refine z_getR F 8 29 (w.2.2 2 0 0) rfl hv2 (by decide) rfl rfl rfl lk_X7_29 dX7_breathFor_16 ?_
  refine z_iload_n F dX7_breathFor_19 rfl ?_
  obtain ⟨hb, h⟩ := h
  refine z_ialdK F ((p1 : Int32).toNatClampNeg) rfl rfl (fix_lt 7 (w.2.2 2 0 0) 8 hv2 (by decide) rfl rfl) hb dX7_breathFor_20 ?_
  refine z_iastW F 0 (by decide) rfl (fix_lt 8 (w.2.2 2 0 1) 0 hv1 (by decide) rfl rfl) (by unfold vp_in; decide) dX7_breathFor_21 (fun w3 hw3 => ?_)
  have h := h w3 hw3
  refine z_aload F dX7_breathFor_22 rfl ?_
  refine z_iconst F 1 dX7_breathFor_24 (by decide) ?_
  refine z_aload_n F dX7_breathFor_25 rfl ?_
  refine z_getD F 0 7 rfl (by decide) (by decide) rfl rfl lk_X7_12 dX7_breathFor_26 (fun hv4 => ?_)
  refine z_getR F 5 26 (w3.2.2 2 0 0) rfl hv4 (by decide) rfl rfl rfl lk_X7_32 dX7_breathFor_29 ?_
  refine z_iload_n F dX7_breathFor_32 rfl ?_
  obtain ⟨hb, h⟩ := h
  refine z_ialdK F ((p2 : Int32).toNatClampNeg) rfl rfl (fix_lt 7 (w3.2.2 2 0 0) 5 hv4 (by decide) rfl rfl) hb dX7_breathFor_33 ?_
  refine z_iastW F 1 (by decide) rfl (fix_lt 8 (w.2.2 2 0 1) 0 hv1 (by decide) rfl rfl) (by unfold vp_in; decide) dX7_breathFor_34 (fun w5 hw5 => ?_)
  have h := h w5 hw5
  refine z_aload F dX7_breathFor_35 rfl ?_
  refine z_iconst F 2 dX7_breathFor_37 (by decide) ?_
  refine z_aload_n F dX7_breathFor_38 rfl ?_
  refine z_getR F 3 17 j1 rfl hj1 (by decide) rfl rfl rfl lk_X7_35 dX7_breathFor_39 ?_
  refine z_iload_n F dX7_breathFor_42 rfl ?_
  obtain ⟨hb, h⟩ := h
  refine z_ialdK F ((p2 : Int32).toNatClampNeg) rfl rfl (fix_lt 5 j1 3 hj1 (by decide) rfl rfl) hb dX7_breathFor_43 ?_
  refine z_iastW F 2 (by decide) rfl (fix_lt 8 (w.2.2 2 0 1) 0 hv1 (by decide) rfl rfl) (by unfold vp_in; decide) dX7_breathFor_44 (fun w6 hw6 => ?_)
  have h := h w6 hw6
  refine z_aload F dX7_breathFor_45 rfl ?_
  refine z_iconst F 3 dX7_breathFor_47 (by decide) ?_
  refine z_aload_n F dX7_breathFor_48 rfl ?_
  refine z_getR F 4 18 j1 rfl hj1 (by decide) rfl rfl rfl lk_X7_40 dX7_breathFor_49 ?_
  refine z_iload_n F dX7_breathFor_52 rfl ?_
  obtain ⟨hb, h⟩ := h
  refine z_ialdK F ((p2 : Int32).toNatClampNeg) rfl rfl (fix_lt 5 j1 4 hj1 (by decide) rfl rfl) hb dX7_breathFor_53 ?_
  refine z_iastW F 3 (by decide) rfl (fix_lt 8 (w.2.2 2 0 1) 0 hv1 (by decide) rfl rfl) (by unfold vp_in; decide) dX7_breathFor_54 (fun w7 hw7 => ?_)
  have h := h w7 hw7
  refine z_aload F dX7_breathFor_55 rfl ?_
  refine z_iconst F 4 dX7_breathFor_57 (by decide) ?_
  refine z_iload_n F dX7_breathFor_58 rfl ?_
  refine z_iastW F 4 (by decide) rfl (fix_lt 8 (w.2.2 2 0 1) 0 hv1 (by decide) rfl rfl) (by unfold vp_in; decide) dX7_breathFor_59 (fun w8 hw8 => ?_)
  have h := h w8 hw8
  refine z_aload F dX7_breathFor_60 rfl ?_
  refine z_iconst F 5 dX7_breathFor_62 (by decide) ?_
  refine z_aload_n F dX7_breathFor_63 rfl ?_
  refine z_getR F 7 21 j1 rfl hj1 (by decide) rfl rfl rfl lk_X7_43 dX7_breathFor_64 ?_
  refine z_iload_n F dX7_breathFor_67 rfl ?_
  obtain ⟨hb, h⟩ := h
  refine z_ialdK F ((p1 : Int32).toNatClampNeg) rfl rfl (fix_lt 5 j1 7 hj1 (by decide) rfl rfl) hb dX7_breathFor_68 ?_
  refine z_iastW F 5 (by decide) rfl (fix_lt 8 (w.2.2 2 0 1) 0 hv1 (by decide) rfl rfl) (by unfold vp_in; decide) dX7_breathFor_69 (fun w9 hw9 => ?_)
  have h := h w9 hw9
  refine z_aload F dX7_breathFor_70 rfl ?_
  refine z_bipush F 6 dX7_breathFor_72 (by decide) ?_
  refine z_aload_n F dX7_breathFor_74 rfl ?_
  refine z_getI F 0 rfl hj1 (by decide) rfl lk_X7_46 dX7_breathFor_75 ?_
  refine z_iastW F 6 (by decide) rfl (fix_lt 8 (w.2.2 2 0 1) 0 hv1 (by decide) rfl rfl) (by unfold vp_in; decide) dX7_breathFor_78 (fun w10 hw10 => ?_)
  have h := h w10 hw10
  refine z_aload F dX7_breathFor_79 rfl ?_
  refine z_bipush F 7 dX7_breathFor_81 (by decide) ?_
  refine z_iload_n F dX7_breathFor_83 rfl ?_
  refine z_iastW F 7 (by decide) rfl (fix_lt 8 (w.2.2 2 0 1) 0 hv1 (by decide) rfl rfl) (by unfold vp_in; decide) dX7_breathFor_84 (fun w11 hw11 => ?_)
  have h := h w11 hw11
  refine z_aload_n F dX7_breathFor_85 rfl ?_
  refine z_getD F 1 8 rfl (by decide) (by decide) rfl rfl lk_X7_21 dX7_breathFor_86 (fun hv12 => ?_)
  refine z_callV F (k' := 2) (mc' := 0) [] [] dX7_breathFor_89 rfl rfl hv12 rfl cl_X7_50 hy_X2_weigh (by omega) (by decide) (by decide) (Nat.le_of_ble_eq_true rfl) rfl (con_mono h ?_ (fun _ _ h => h))
  rintro _ w14 ⟨v13, rfl, h⟩
  show Z M G 0 K X w14 92 [some (.ref (G.2.1 2 0)), some (.ref (G.2.1 5 j1)), some (.int p1), some (.int p2), some (.ref (G.2.1 33 (w.2.2 2 0 1)))] [.int v13]
  exact z_iret F dX7_breathFor_92 (by decide) h
set_option maxRecDepth 20000 in
theorem e_X7_singNote {l : Launch} {G : Gx} {w : Wd} {j1 : Nat} (hj1 : j1 < cnt 5) {p1 : Int32} {K : Option Value → Wd → Prop} {X : String → Wd → Prop} (hl : l.stackTraces = false)
    (h : ∀ (M : Mx) (kk : Nat), mL M = l → 4 ≤ kk → Fx M G RX7 cX7_singNote 5 (some .int) kk 0 → Z M G 0 K X w 2 [some (.ref (G.2.1 2 0)), some (.ref (G.2.1 5 j1)), some (.int p1), some (.int 0), none] []) :
    Con l G 4 0 yX7_singNote cX7_singNote 5 (some .int) w [.ref (G.2.1 2 0), .ref (G.2.1 5 j1), .int p1] K X := by
  refine con_intro hl (by decide +kernel) (Nat.le_of_ble_eq_true rfl) (Nat.le_of_ble_eq_true rfl) (fun M kk hM hk F => ?_)
  have h := h M kk hM hk F
  show Z M G 0 K X w 0 [some (.ref (G.2.1 2 0)), some (.ref (G.2.1 5 j1)), some (.int p1), none, none] []
  refine z_iconst F 0 dX7_singNote_0 (by decide) ?_
  refine z_istore_n F dX7_singNote_1 (Nat.le_of_ble_eq_true rfl) ?_
  exact h
set_option maxRecDepth 20000 in
theorem b_X7_singNote_2 {M : Mx} {G : Gx} {kk : Nat} {w : Wd} {j1 : Nat} (hj1 : j1 < cnt 5) {x2 : Int32} {x3 : Int32} {K : Option Value → Wd → Prop} {X : String → Wd → Prop} (F : Fx M G RX7 cX7_singNote 5 (some .int) kk 0) (hk : 4 ≤ kk)
    (h : (((w.1 7 (w.2.2 2 0 0) 0) ≤ x3 → K (some (.int (-1))) w) ∧ (¬ ((w.1 7 (w.2.2 2 0 0) 0) ≤ x3) → (vp_in x3 7 ∧ (vp_in x2 20 ∧ ((¬ (w.1 25 (w.2.2 2 0 0) ((x3 : Int32).toNatClampNeg)) = (w.1 21 j1 ((x2 : Int32).toNatClampNeg)) → Z M G 0 K X w 2 [some (.ref (G.2.1 2 0)), some (.ref (G.2.1 5 j1)), some (.int x2), some (.int (x3 + 1)), none] []) ∧ (¬ (¬ (w.1 25 (w.2.2 2 0 0) ((x3 : Int32).toNatClampNeg)) = (w.1 21 j1 ((x2 : Int32).toNatClampNeg))) → ((¬ (((w.1 5 j1 1) >>> (x3 &&& 31)) &&& (1 : Int32)) = 1 → Con (mL M) G 3 0 yX7_breathFor cX7_breathFor 5 (some .int) w [.ref (G.2.1 2 0), .ref (G.2.1 5 j1), .int x2, .int x3] (fun r w4 => ∃ v3 : Int32, r = some (.int v3) ∧ (vp_in x3 7 ∧ (((w4.1 17 j1 ((x3 : Int32).toNatClampNeg)) < v3 → Z M G 0 K X w4 2 [some (.ref (G.2.1 2 0)), some (.ref (G.2.1 5 j1)), some (.int x2), some (.int (x3 + 1)), none] []) ∧ (¬ ((w4.1 17 j1 ((x3 : Int32).toNatClampNeg)) < v3) → (vp_in x3 7 ∧ (vp_in x3 7 ∧ ∀ w5 : Wd, w5 = setI w4 17 j1 ((x3 : Int32).toNatClampNeg) ((w4.1 17 j1 ((x3 : Int32).toNatClampNeg)) - v3) → (vp_in x3 7 ∧ (vp_in x3 7 ∧ ∀ w6 : Wd, w6 = setI w5 18 j1 ((x3 : Int32).toNatClampNeg) ((w5.1 18 j1 ((x3 : Int32).toNatClampNeg)) + (1 : Int32)) → (vp_in x3 7 ∧ (vp_in x3 7 ∧ ∀ w7 : Wd, w7 = setI w6 20 j1 ((x3 : Int32).toNatClampNeg) ((w6.1 20 j1 ((x3 : Int32).toNatClampNeg)) + (1 : Int32)) → K (some (.int x3)) w7)))))))))) X) ∧ (¬ (¬ (((w.1 5 j1 1) >>> (x3 &&& 31)) &&& (1 : Int32)) = 1) → Z M G 0 K X w 2 [some (.ref (G.2.1 2 0)), some (.ref (G.2.1 5 j1)), some (.int x2), some (.int (x3 + 1)), none] []))))))))) :
    Z M G 0 K X w 2 [some (.ref (G.2.1 2 0)), some (.ref (G.2.1 5 j1)), some (.int x2), some (.int x3), none] [] := by
  refine z_iload_n F dX7_singNote_2 rfl ?_
  refine z_aload_n F dX7_singNote_3 rfl ?_
  refine z_getD F 0 7 rfl (by decide) (by decide) rfl rfl lk_X7_12 dX7_singNote_4 (fun hv1 => ?_)
  refine z_getI F 0 rfl hv1 (by decide) rfl lk_X7_54 dX7_singNote_7 ?_
  refine z_icmp_ge F 105 dX7_singNote_10 (by decide) ⟨fun hc => ?_, fun hc => ?_⟩
  · have h := h.1 hc
    refine z_iconst F (-1) dX7_singNote_105 (by decide) ?_
    exact z_iret F dX7_singNote_106 (by decide) h
  · have h := h.2 hc
    refine z_aload_n F dX7_singNote_13 rfl ?_
    refine z_getD F 0 7 rfl (by decide) (by decide) rfl rfl lk_X7_12 dX7_singNote_14 (fun hv2 => ?_)
    refine z_getR F 4 25 (w.2.2 2 0 0) rfl hv2 (by decide) rfl rfl rfl lk_X7_57 dX7_singNote_17 ?_
    refine z_iload_n F dX7_singNote_20 rfl ?_
    obtain ⟨hb, h⟩ := h
    refine z_ialdK F ((x3 : Int32).toNatClampNeg) rfl rfl (fix_lt 7 (w.2.2 2 0 0) 4 hv2 (by decide) rfl rfl) hb dX7_singNote_21 ?_
    refine z_aload_n F dX7_singNote_22 rfl ?_
    refine z_getR F 7 21 j1 rfl hj1 (by decide) rfl rfl rfl lk_X7_43 dX7_singNote_23 ?_
    refine z_iload_n F dX7_singNote_26 rfl ?_
    obtain ⟨hb, h⟩ := h
    refine z_ialdK F ((x2 : Int32).toNatClampNeg) rfl rfl (fix_lt 5 j1 7 hj1 (by decide) rfl rfl) hb dX7_singNote_27 ?_
    refine z_icmp_ne F 99 dX7_singNote_28 (by decide) ⟨fun hc => ?_, fun hc => ?_⟩
    · have h := h.1 hc
      refine z_iinc F (x3 + 1) dX7_singNote_99 rfl rfl (Nat.le_of_ble_eq_true rfl) ?_
      refine z_goto F 2 dX7_singNote_102 (by decide) ?_
      exact h
    · have h := h.2 hc
      refine z_aload_n F dX7_singNote_31 rfl ?_
      refine z_getI F 1 rfl hj1 (by decide) rfl lk_X7_60 dX7_singNote_32 ?_
      refine z_iload_n F dX7_singNote_35 rfl ?_
      refine z_ishr F dX7_singNote_36 ?_
      refine z_iconst F 1 dX7_singNote_37 (by decide) ?_
      refine z_iand F dX7_singNote_38 ?_
      refine z_iconst F 1 dX7_singNote_39 (by decide) ?_
      refine z_icmp_ne F 46 dX7_singNote_40 (by decide) ⟨fun hc => ?_, fun hc => ?_⟩
      · have h := h.1 hc
        refine z_aload_n F dX7_singNote_46 rfl ?_
        refine z_aload_n F dX7_singNote_47 rfl ?_
        refine z_iload_n F dX7_singNote_48 rfl ?_
        refine z_iload_n F dX7_singNote_49 rfl ?_
        refine z_callV F (k' := 3) (mc' := 0) [.ref (G.2.1 5 j1), .int x2, .int x3] [] dX7_singNote_50 rfl rfl (by decide) rfl cl_X7_63 hy_X7_breathFor (by omega) (by decide) (by decide) (Nat.le_of_ble_eq_true rfl) rfl (con_mono h ?_ (fun _ _ h => h))
        rintro _ w4 ⟨v3, rfl, h⟩
        show Z M G 0 K X w4 53 [some (.ref (G.2.1 2 0)), some (.ref (G.2.1 5 j1)), some (.int x2), some (.int x3), none] [.int v3]
        refine z_istore F dX7_singNote_53 (Nat.le_of_ble_eq_true rfl) ?_
        refine z_iload F dX7_singNote_55 rfl ?_
        refine z_aload_n F dX7_singNote_57 rfl ?_
        refine z_getR F 3 17 j1 rfl hj1 (by decide) rfl rfl rfl lk_X7_35 dX7_singNote_58 ?_
        refine z_iload_n F dX7_singNote_61 rfl ?_
        obtain ⟨hb, h⟩ := h
        refine z_ialdK F ((x3 : Int32).toNatClampNeg) rfl rfl (fix_lt 5 j1 3 hj1 (by decide) rfl rfl) hb dX7_singNote_62 ?_
        refine z_icmp_gt F 99 dX7_singNote_63 (by decide) ⟨fun hc => ?_, fun hc => ?_⟩
        · have h := h.1 hc
          refine z_iinc F (x3 + 1) dX7_singNote_99 rfl rfl (Nat.le_of_ble_eq_true rfl) ?_
          refine z_goto F 2 dX7_singNote_102 (by decide) ?_
          exact z_weak h (⟨rfl, ⟨rfl, ⟨rfl, ⟨rfl, trivial⟩⟩⟩⟩)
        · have h := h.2 hc
          refine z_aload_n F dX7_singNote_66 rfl ?_
          refine z_getR F 3 17 j1 rfl hj1 (by decide) rfl rfl rfl lk_X7_35 dX7_singNote_67 ?_
          refine z_iload_n F dX7_singNote_70 rfl ?_
          refine z_dup2 F dX7_singNote_71 rfl rfl ?_
          obtain ⟨hb, h⟩ := h
          refine z_ialdK F ((x3 : Int32).toNatClampNeg) rfl rfl (fix_lt 5 j1 3 hj1 (by decide) rfl rfl) hb dX7_singNote_72 ?_
          refine z_iload F dX7_singNote_73 rfl ?_
          refine z_isub F dX7_singNote_75 ?_
          obtain ⟨hb, h⟩ := h
          refine z_iastW F ((x3 : Int32).toNatClampNeg) rfl rfl (fix_lt 5 j1 3 hj1 (by decide) rfl rfl) hb dX7_singNote_76 (fun w5 hw5 => ?_)
          have h := h w5 hw5
          refine z_aload_n F dX7_singNote_77 rfl ?_
          refine z_getR F 4 18 j1 rfl hj1 (by decide) rfl rfl rfl lk_X7_40 dX7_singNote_78 ?_
          refine z_iload_n F dX7_singNote_81 rfl ?_
          refine z_dup2 F dX7_singNote_82 rfl rfl ?_
          obtain ⟨hb, h⟩ := h
          refine z_ialdK F ((x3 : Int32).toNatClampNeg) rfl rfl (fix_lt 5 j1 4 hj1 (by decide) rfl rfl) hb dX7_singNote_83 ?_
          refine z_iconst F 1 dX7_singNote_84 (by decide) ?_
          refine z_iadd F dX7_singNote_85 ?_
          obtain ⟨hb, h⟩ := h
          refine z_iastW F ((x3 : Int32).toNatClampNeg) rfl rfl (fix_lt 5 j1 4 hj1 (by decide) rfl rfl) hb dX7_singNote_86 (fun w6 hw6 => ?_)
          have h := h w6 hw6
          refine z_aload_n F dX7_singNote_87 rfl ?_
          refine z_getR F 6 20 j1 rfl hj1 (by decide) rfl rfl rfl lk_X7_67 dX7_singNote_88 ?_
          refine z_iload_n F dX7_singNote_91 rfl ?_
          refine z_dup2 F dX7_singNote_92 rfl rfl ?_
          obtain ⟨hb, h⟩ := h
          refine z_ialdK F ((x3 : Int32).toNatClampNeg) rfl rfl (fix_lt 5 j1 6 hj1 (by decide) rfl rfl) hb dX7_singNote_93 ?_
          refine z_iconst F 1 dX7_singNote_94 (by decide) ?_
          refine z_iadd F dX7_singNote_95 ?_
          obtain ⟨hb, h⟩ := h
          refine z_iastW F ((x3 : Int32).toNatClampNeg) rfl rfl (fix_lt 5 j1 6 hj1 (by decide) rfl rfl) hb dX7_singNote_96 (fun w7 hw7 => ?_)
          have h := h w7 hw7
          refine z_iload_n F dX7_singNote_97 rfl ?_
          exact z_iret F dX7_singNote_98 (by decide) h
      · have h := h.2 hc
        refine z_goto F 99 dX7_singNote_43 (by decide) ?_
        refine z_iinc F (x3 + 1) dX7_singNote_99 rfl rfl (Nat.le_of_ble_eq_true rfl) ?_
        refine z_goto F 2 dX7_singNote_102 (by decide) ?_
        exact h
set_option maxRecDepth 20000 in
theorem e_X7_singHymn {l : Launch} {G : Gx} {w : Wd} {j1 : Nat} (hj1 : j1 < cnt 5) {K : Option Value → Wd → Prop} {X : String → Wd → Prop} (hl : l.stackTraces = false)
    (h : ∀ (M : Mx) (kk : Nat), mL M = l → 5 ≤ kk → Fx M G RX7 cX7_singHymn 4 (some .int) kk 0 → Z M G 0 K X w 4 [some (.ref (G.2.1 2 0)), some (.ref (G.2.1 5 j1)), some (.int 0), some (.int 0)] []) :
    Con l G 5 0 yX7_singHymn cX7_singHymn 4 (some .int) w [.ref (G.2.1 2 0), .ref (G.2.1 5 j1)] K X := by
  refine con_intro hl (by decide +kernel) (Nat.le_of_ble_eq_true rfl) (Nat.le_of_ble_eq_true rfl) (fun M kk hM hk F => ?_)
  have h := h M kk hM hk F
  show Z M G 0 K X w 0 [some (.ref (G.2.1 2 0)), some (.ref (G.2.1 5 j1)), none, none] []
  refine z_iconst F 0 dX7_singHymn_0 (by decide) ?_
  refine z_istore_n F dX7_singHymn_1 (Nat.le_of_ble_eq_true rfl) ?_
  refine z_iconst F 0 dX7_singHymn_2 (by decide) ?_
  refine z_istore_n F dX7_singHymn_3 (Nat.le_of_ble_eq_true rfl) ?_
  exact h
set_option maxRecDepth 20000 in
theorem b_X7_singHymn_4 {M : Mx} {G : Gx} {kk : Nat} {w : Wd} {j1 : Nat} (hj1 : j1 < cnt 5) {x2 : Int32} {x3 : Int32} {K : Option Value → Wd → Prop} {X : String → Wd → Prop} (F : Fx M G RX7 cX7_singHymn 4 (some .int) kk 0) (hk : 5 ≤ kk)
    (h : (((w.1 7 (w.2.2 2 0 0) 1) ≤ x3 → K (some (.int x2)) w) ∧ (¬ ((w.1 7 (w.2.2 2 0 0) 1) ≤ x3) → Con (mL M) G 4 0 yX7_singNote cX7_singNote 5 (some .int) w [.ref (G.2.1 2 0), .ref (G.2.1 5 j1), .int x3] (fun r w3 => ∃ v2 : Int32, r = some (.int v2) ∧ ((¬ v2 = (-1) → Z M G 0 K X w3 4 [some (.ref (G.2.1 2 0)), some (.ref (G.2.1 5 j1)), some (.int (x2 ||| ((1 : Int32) <<< (x3 &&& 31)))), some (.int (x3 + 1))] []) ∧ (¬ (¬ v2 = (-1)) → (∀ w4 : Wd, w4 = setI w3 5 j1 2 ((w3.1 5 j1 2) + (1 : Int32)) → Z M G 0 K X w4 4 [some (.ref (G.2.1 2 0)), some (.ref (G.2.1 5 j1)), some (.int x2), some (.int (x3 + 1))] [])))) X))) :
    Z M G 0 K X w 4 [some (.ref (G.2.1 2 0)), some (.ref (G.2.1 5 j1)), some (.int x2), some (.int x3)] [] := by
  refine z_iload_n F dX7_singHymn_4 rfl ?_
  refine z_aload_n F dX7_singHymn_5 rfl ?_
  refine z_getD F 0 7 rfl (by decide) (by decide) rfl rfl lk_X7_12 dX7_singHymn_6 (fun hv1 => ?_)
  refine z_getI F 1 rfl hv1 (by decide) rfl lk_X7_70 dX7_singHymn_9 ?_
  refine z_icmp_ge F 50 dX7_singHymn_12 (by decide) ⟨fun hc => ?_, fun hc => ?_⟩
  · have h := h.1 hc
    refine z_iload_n F dX7_singHymn_50 rfl ?_
    exact z_iret F dX7_singHymn_51 (by decide) h
  · have h := h.2 hc
    refine z_aload_n F dX7_singHymn_15 rfl ?_
    refine z_aload_n F dX7_singHymn_16 rfl ?_
    refine z_iload_n F dX7_singHymn_17 rfl ?_
    refine z_callV F (k' := 4) (mc' := 0) [.ref (G.2.1 5 j1), .int x3] [] dX7_singHymn_18 rfl rfl (by decide) rfl cl_X7_73 hy_X7_singNote (by omega) (by decide) (by decide) (Nat.le_of_ble_eq_true rfl) rfl (con_mono h ?_ (fun _ _ h => h))
    rintro _ w3 ⟨v2, rfl, h⟩
    show Z M G 0 K X w3 21 [some (.ref (G.2.1 2 0)), some (.ref (G.2.1 5 j1)), some (.int x2), some (.int x3)] [.int v2]
    refine z_iconst F (-1) dX7_singHymn_21 (by decide) ?_
    refine z_icmp_ne F 38 dX7_singHymn_22 (by decide) ⟨fun hc => ?_, fun hc => ?_⟩
    · have h := h.1 hc
      refine z_iload_n F dX7_singHymn_38 rfl ?_
      refine z_iconst F 1 dX7_singHymn_39 (by decide) ?_
      refine z_iload_n F dX7_singHymn_40 rfl ?_
      refine z_ishl F dX7_singHymn_41 ?_
      refine z_ior F dX7_singHymn_42 ?_
      refine z_istore_n F dX7_singHymn_43 (Nat.le_of_ble_eq_true rfl) ?_
      refine z_iinc F (x3 + 1) dX7_singHymn_44 rfl rfl (Nat.le_of_ble_eq_true rfl) ?_
      refine z_goto F 4 dX7_singHymn_47 (by decide) ?_
      exact h
    · have h := h.2 hc
      refine z_aload_n F dX7_singHymn_25 rfl ?_
      refine z_dup F dX7_singHymn_26 rfl ?_
      refine z_getI F 2 rfl hj1 (by decide) rfl lk_X7_77 dX7_singHymn_27 ?_
      refine z_iconst F 1 dX7_singHymn_30 (by decide) ?_
      refine z_iadd F dX7_singHymn_31 ?_
      refine z_putIW F 2 rfl hj1 (by decide) rfl lk_X7_77 dX7_singHymn_32 (fun w4 hw4 => ?_)
      have h := h w4 hw4
      refine z_goto F 44 dX7_singHymn_35 (by decide) ?_
      refine z_iinc F (x3 + 1) dX7_singHymn_44 rfl rfl (Nat.le_of_ble_eq_true rfl) ?_
      refine z_goto F 4 dX7_singHymn_47 (by decide) ?_
      exact h
set_option maxRecDepth 20000 in
theorem e_X7_rest {l : Launch} {G : Gx} {w : Wd} {j1 : Nat} (hj1 : j1 < cnt 5) {K : Option Value → Wd → Prop} {X : String → Wd → Prop} (hl : l.stackTraces = false)
    (h : ∀ (M : Mx) (kk : Nat), mL M = l → 1 ≤ kk → Fx M G RX7 cX7_rest 4 (some .boolean) kk 0 → Z M G 0 K X w 4 [some (.ref (G.2.1 2 0)), some (.ref (G.2.1 5 j1)), some (.int 0), some (.int 0)] []) :
    Con l G 1 0 yX7_rest cX7_rest 4 (some .boolean) w [.ref (G.2.1 2 0), .ref (G.2.1 5 j1)] K X := by
  refine con_intro hl (by decide +kernel) (Nat.le_of_ble_eq_true rfl) (Nat.le_of_ble_eq_true rfl) (fun M kk hM hk F => ?_)
  have h := h M kk hM hk F
  show Z M G 0 K X w 0 [some (.ref (G.2.1 2 0)), some (.ref (G.2.1 5 j1)), none, none] []
  refine z_iconst F 0 dX7_rest_0 (by decide) ?_
  refine z_istore_n F dX7_rest_1 (Nat.le_of_ble_eq_true rfl) ?_
  refine z_iconst F 0 dX7_rest_2 (by decide) ?_
  refine z_istore_n F dX7_rest_3 (Nat.le_of_ble_eq_true rfl) ?_
  exact h
set_option maxRecDepth 20000 in
theorem b_X7_rest_4 {M : Mx} {G : Gx} {kk : Nat} {w : Wd} {j1 : Nat} (hj1 : j1 < cnt 5) {x2 : Int32} {x3 : Int32} {K : Option Value → Wd → Prop} {X : String → Wd → Prop} (F : Fx M G RX7 cX7_rest 4 (some .boolean) kk 0) (hk : 1 ≤ kk)
    (h : (((w.1 7 (w.2.2 2 0 0) 0) ≤ x3 → (narrow .boolean (.int x2) = .int x2 ∧ K (some (.int x2)) w)) ∧ (¬ ((w.1 7 (w.2.2 2 0 0) 0) ≤ x3) → (vp_in x3 7 ∧ (vp_in x3 7 ∧ (((w.1 27 (w.2.2 2 0 0) ((x3 : Int32).toNatClampNeg)) ≤ (w.1 17 j1 ((x3 : Int32).toNatClampNeg)) → Z M G 0 K X w 39 [some (.ref (G.2.1 2 0)), some (.ref (G.2.1 5 j1)), none, some (.int x3)] [.int 0, .int x2]) ∧ (¬ ((w.1 27 (w.2.2 2 0 0) ((x3 : Int32).toNatClampNeg)) ≤ (w.1 17 j1 ((x3 : Int32).toNatClampNeg))) → Z M G 0 K X w 39 [some (.ref (G.2.1 2 0)), some (.ref (G.2.1 5 j1)), none, some (.int x3)] [.int 1, .int x2]))))))) :
    Z M G 0 K X w 4 [some (.ref (G.2.1 2 0)), some (.ref (G.2.1 5 j1)), some (.int x2), some (.int x3)] [] := by
  refine z_iload_n F dX7_rest_4 rfl ?_
  refine z_aload_n F dX7_rest_5 rfl ?_
  refine z_getD F 0 7 rfl (by decide) (by decide) rfl rfl lk_X7_12 dX7_rest_6 (fun hv1 => ?_)
  refine z_getI F 0 rfl hv1 (by decide) rfl lk_X7_54 dX7_rest_9 ?_
  refine z_icmp_ge F 79 dX7_rest_12 (by decide) ⟨fun hc => ?_, fun hc => ?_⟩
  · have h := h.1 hc
    refine z_iload_n F dX7_rest_79 rfl ?_
    exact z_zret F dX7_rest_80 (by decide) h.1 h.2
  · have h := h.2 hc
    refine z_iload_n F dX7_rest_15 rfl ?_
    refine z_aload_n F dX7_rest_16 rfl ?_
    refine z_getR F 3 17 j1 rfl hj1 (by decide) rfl rfl rfl lk_X7_35 dX7_rest_17 ?_
    refine z_iload_n F dX7_rest_20 rfl ?_
    obtain ⟨hb, h⟩ := h
    refine z_ialdK F ((x3 : Int32).toNatClampNeg) rfl rfl (fix_lt 5 j1 3 hj1 (by decide) rfl rfl) hb dX7_rest_21 ?_
    refine z_aload_n F dX7_rest_22 rfl ?_
    refine z_getD F 0 7 rfl (by decide) (by decide) rfl rfl lk_X7_12 dX7_rest_23 (fun hv2 => ?_)
    refine z_getR F 6 27 (w.2.2 2 0 0) rfl hv2 (by decide) rfl rfl rfl lk_X7_80 dX7_rest_26 ?_
    refine z_iload_n F dX7_rest_29 rfl ?_
    obtain ⟨hb, h⟩ := h
    refine z_ialdK F ((x3 : Int32).toNatClampNeg) rfl rfl (fix_lt 7 (w.2.2 2 0 0) 6 hv2 (by decide) rfl rfl) hb dX7_rest_30 ?_
    refine z_icmp_ge F 38 dX7_rest_31 (by decide) ⟨fun hc => ?_, fun hc => ?_⟩
    · have h := h.1 hc
      refine z_iconst F 0 dX7_rest_38 (by decide) ?_
      exact z_weak h (⟨rfl, ⟨rfl, ⟨rfl, trivial⟩⟩⟩)
    · have h := h.2 hc
      refine z_iconst F 1 dX7_rest_34 (by decide) ?_
      refine z_goto F 39 dX7_rest_35 (by decide) ?_
      exact z_weak h (⟨rfl, ⟨rfl, ⟨rfl, trivial⟩⟩⟩)
set_option maxRecDepth 20000 in
theorem b_X7_rest_39 {M : Mx} {G : Gx} {kk : Nat} {w : Wd} {j1 : Nat} (hj1 : j1 < cnt 5) {x3 : Int32} {s0 : Int32} {s1 : Int32} {K : Option Value → Wd → Prop} {X : String → Wd → Prop} (F : Fx M G RX7 cX7_rest 4 (some .boolean) kk 0) (hk : 1 ≤ kk)
    (h : (vp_in x3 7 ∧ (vp_in x3 7 ∧ (vp_in x3 7 ∧ ∀ w3 : Wd, w3 = setI w 17 j1 ((x3 : Int32).toNatClampNeg) (if (w.1 27 (w.2.2 2 0 0) ((x3 : Int32).toNatClampNeg)) < ((w.1 17 j1 ((x3 : Int32).toNatClampNeg)) + (w.1 7 (w.2.2 2 0 0) 3)) then (w.1 27 (w.2.2 2 0 0) ((x3 : Int32).toNatClampNeg)) else ((w.1 17 j1 ((x3 : Int32).toNatClampNeg)) + (w.1 7 (w.2.2 2 0 0) 3))) → Z M G 0 K X w3 4 [some (.ref (G.2.1 2 0)), some (.ref (G.2.1 5 j1)), some (.int (s1 ||| s0)), some (.int (x3 + 1))] [])))) :
    Z M G 0 K X w 39 [some (.ref (G.2.1 2 0)), some (.ref (G.2.1 5 j1)), none, some (.int x3)] [.int s0, .int s1] := by
  refine z_ior F dX7_rest_39 ?_
  refine z_istore_n F dX7_rest_40 (Nat.le_of_ble_eq_true rfl) ?_
  refine z_aload_n F dX7_rest_41 rfl ?_
  refine z_getR F 3 17 j1 rfl hj1 (by decide) rfl rfl rfl lk_X7_35 dX7_rest_42 ?_
  refine z_iload_n F dX7_rest_45 rfl ?_
  refine z_aload_n F dX7_rest_46 rfl ?_
  refine z_getR F 3 17 j1 rfl hj1 (by decide) rfl rfl rfl lk_X7_35 dX7_rest_47 ?_
  refine z_iload_n F dX7_rest_50 rfl ?_
  obtain ⟨hb, h⟩ := h
  refine z_ialdK F ((x3 : Int32).toNatClampNeg) rfl rfl (fix_lt 5 j1 3 hj1 (by decide) rfl rfl) hb dX7_rest_51 ?_
  refine z_aload_n F dX7_rest_52 rfl ?_
  refine z_getD F 0 7 rfl (by decide) (by decide) rfl rfl lk_X7_12 dX7_rest_53 (fun hv1 => ?_)
  refine z_getI F 3 rfl hv1 (by decide) rfl lk_X7_83 dX7_rest_56 ?_
  refine z_iadd F dX7_rest_59 ?_
  refine z_aload_n F dX7_rest_60 rfl ?_
  refine z_getD F 0 7 rfl (by decide) (by decide) rfl rfl lk_X7_12 dX7_rest_61 (fun hv2 => ?_)
  refine z_getR F 6 27 (w.2.2 2 0 0) rfl hv2 (by decide) rfl rfl rfl lk_X7_80 dX7_rest_64 ?_
  refine z_iload_n F dX7_rest_67 rfl ?_
  obtain ⟨hb, h⟩ := h
  refine z_ialdK F ((x3 : Int32).toNatClampNeg) rfl rfl (fix_lt 7 (w.2.2 2 0 0) 6 hv2 (by decide) rfl rfl) hb dX7_rest_68 ?_
  refine z_mmin F (GW_4 134 rfl rfl) (GW_4 135 rfl rfl) (GW_1 21 rfl rfl) (GW_4 136 rfl rfl) (by omega) (by decide) rfl (Nat.le_of_ble_eq_true rfl) dX7_rest_69 ?_
  obtain ⟨hb, h⟩ := h
  refine z_iastW F ((x3 : Int32).toNatClampNeg) rfl rfl (fix_lt 5 j1 3 hj1 (by decide) rfl rfl) hb dX7_rest_72 (fun w3 hw3 => ?_)
  have h := h w3 hw3
  refine z_iinc F (x3 + 1) dX7_rest_73 rfl rfl (Nat.le_of_ble_eq_true rfl) ?_
  refine z_goto F 4 dX7_rest_76 (by decide) ?_
  exact h
set_option maxRecDepth 20000 in
theorem e_X7_reword {l : Launch} {G : Gx} {w : Wd} {j1 : Nat} (hj1 : j1 < cnt 5) {p1 : Int32} {p2 : Int32} {K : Option Value → Wd → Prop} {X : String → Wd → Prop} (hl : l.stackTraces = false)
    (h : ∀ (M : Mx) (kk : Nat), mL M = l → 1 ≤ kk → Fx M G RX7 cX7_reword 4 (some .boolean) kk 0 → (vp_in p1 20 ∧ (((w.1 21 j1 ((p1 : Int32).toNatClampNeg)) = p2 → K (some (.int 0)) w) ∧ (¬ ((w.1 21 j1 ((p1 : Int32).toNatClampNeg)) = p2) → (vp_in p1 20 ∧ ((¬ (((w.1 30 (w.2.2 2 0 0) ((p1 : Int32).toNatClampNeg)) >>> (p2 &&& 31)) &&& (1 : Int32)) = 0 → (vp_in p1 20 ∧ ∀ w2 : Wd, w2 = setI w 21 j1 ((p1 : Int32).toNatClampNeg) p2 → K (some (.int 1)) w2)) ∧ (¬ (¬ (((w.1 30 (w.2.2 2 0 0) ((p1 : Int32).toNatClampNeg)) >>> (p2 &&& 31)) &&& (1 : Int32)) = 0) → K (some (.int 0)) w))))))) :
    Con l G 1 0 yX7_reword cX7_reword 4 (some .boolean) w [.ref (G.2.1 2 0), .ref (G.2.1 5 j1), .int p1, .int p2] K X := by
  refine con_intro hl (by decide +kernel) (Nat.le_of_ble_eq_true rfl) (Nat.le_of_ble_eq_true rfl) (fun M kk hM hk F => ?_)
  have h := h M kk hM hk F
  show Z M G 0 K X w 0 [some (.ref (G.2.1 2 0)), some (.ref (G.2.1 5 j1)), some (.int p1), some (.int p2)] []
  refine z_aload_n F dX7_reword_0 rfl ?_
  refine z_getR F 7 21 j1 rfl hj1 (by decide) rfl rfl rfl lk_X7_43 dX7_reword_1 ?_
  refine z_iload_n F dX7_reword_4 rfl ?_
  obtain ⟨hb, h⟩ := h
  refine z_ialdK F ((p1 : Int32).toNatClampNeg) rfl rfl (fix_lt 5 j1 7 hj1 (by decide) rfl rfl) hb dX7_reword_5 ?_
  refine z_iload_n F dX7_reword_6 rfl ?_
  refine z_icmp_eq F 26 dX7_reword_7 (by decide) ⟨fun hc => ?_, fun hc => ?_⟩
  · have h := h.1 hc
    refine z_iconst F 0 dX7_reword_26 (by decide) ?_
    exact z_zret F dX7_reword_27 (by decide) rfl h
  · have h := h.2 hc
    refine z_aload_n F dX7_reword_10 rfl ?_
    refine z_getD F 0 7 rfl (by decide) (by decide) rfl rfl lk_X7_12 dX7_reword_11 (fun hv1 => ?_)
    refine z_getR F 9 30 (w.2.2 2 0 0) rfl hv1 (by decide) rfl rfl rfl lk_X7_92 dX7_reword_14 ?_
    refine z_iload_n F dX7_reword_17 rfl ?_
    obtain ⟨hb, h⟩ := h
    refine z_ialdK F ((p1 : Int32).toNatClampNeg) rfl rfl (fix_lt 7 (w.2.2 2 0 0) 9 hv1 (by decide) rfl rfl) hb dX7_reword_18 ?_
    refine z_iload_n F dX7_reword_19 rfl ?_
    refine z_ishr F dX7_reword_20 ?_
    refine z_iconst F 1 dX7_reword_21 (by decide) ?_
    refine z_iand F dX7_reword_22 ?_
    refine z_if_ne F 28 dX7_reword_23 (by decide) ⟨fun hc => ?_, fun hc => ?_⟩
    · have h := h.1 hc
      refine z_aload_n F dX7_reword_28 rfl ?_
      refine z_getR F 7 21 j1 rfl hj1 (by decide) rfl rfl rfl lk_X7_43 dX7_reword_29 ?_
      refine z_iload_n F dX7_reword_32 rfl ?_
      refine z_iload_n F dX7_reword_33 rfl ?_
      obtain ⟨hb, h⟩ := h
      refine z_iastW F ((p1 : Int32).toNatClampNeg) rfl rfl (fix_lt 5 j1 7 hj1 (by decide) rfl rfl) hb dX7_reword_34 (fun w2 hw2 => ?_)
      have h := h w2 hw2
      refine z_iconst F 1 dX7_reword_35 (by decide) ?_
      exact z_zret F dX7_reword_36 (by decide) rfl h
    · have h := h.2 hc
      refine z_iconst F 0 dX7_reword_26 (by decide) ?_
      exact z_zret F dX7_reword_27 (by decide) rfl h
set_option maxRecDepth 20000 in
theorem e_X7_refresh {l : Launch} {G : Gx} {w : Wd} {j1 : Nat} (hj1 : j1 < cnt 5) {K : Option Value → Wd → Prop} {X : String → Wd → Prop} (hl : l.stackTraces = false)
    (h : ∀ (M : Mx) (kk : Nat), mL M = l → 1 ≤ kk → Fx M G RX7 cX7_refresh 3 none kk 0 → Z M G 0 K X w 2 [some (.ref (G.2.1 2 0)), some (.ref (G.2.1 5 j1)), some (.int 0)] []) :
    Con l G 1 0 yX7_refresh cX7_refresh 3 none w [.ref (G.2.1 2 0), .ref (G.2.1 5 j1)] K X := by
  refine con_intro hl (by decide +kernel) (Nat.le_of_ble_eq_true rfl) (Nat.le_of_ble_eq_true rfl) (fun M kk hM hk F => ?_)
  have h := h M kk hM hk F
  show Z M G 0 K X w 0 [some (.ref (G.2.1 2 0)), some (.ref (G.2.1 5 j1)), none] []
  refine z_iconst F 0 dX7_refresh_0 (by decide) ?_
  refine z_istore_n F dX7_refresh_1 (Nat.le_of_ble_eq_true rfl) ?_
  exact h
set_option maxRecDepth 20000 in
theorem b_X7_refresh_2 {M : Mx} {G : Gx} {kk : Nat} {w : Wd} {j1 : Nat} (hj1 : j1 < cnt 5) {x2 : Int32} {K : Option Value → Wd → Prop} {X : String → Wd → Prop} (F : Fx M G RX7 cX7_refresh 3 none kk 0) (hk : 1 ≤ kk)
    (h : (((w.1 7 (w.2.2 2 0 0) 0) ≤ x2 → K none w) ∧ (¬ ((w.1 7 (w.2.2 2 0 0) 0) ≤ x2) → (vp_in x2 7 ∧ (vp_in x2 7 ∧ ∀ w3 : Wd, w3 = setI w 17 j1 ((x2 : Int32).toNatClampNeg) (w.1 27 (w.2.2 2 0 0) ((x2 : Int32).toNatClampNeg)) → Z M G 0 K X w3 2 [some (.ref (G.2.1 2 0)), some (.ref (G.2.1 5 j1)), some (.int (x2 + 1))] []))))) :
    Z M G 0 K X w 2 [some (.ref (G.2.1 2 0)), some (.ref (G.2.1 5 j1)), some (.int x2)] [] := by
  refine z_iload_n F dX7_refresh_2 rfl ?_
  refine z_aload_n F dX7_refresh_3 rfl ?_
  refine z_getD F 0 7 rfl (by decide) (by decide) rfl rfl lk_X7_12 dX7_refresh_4 (fun hv1 => ?_)
  refine z_getI F 0 rfl hv1 (by decide) rfl lk_X7_54 dX7_refresh_7 ?_
  refine z_icmp_ge F 34 dX7_refresh_10 (by decide) ⟨fun hc => ?_, fun hc => ?_⟩
  · have h := h.1 hc
    exact z_vret F dX7_refresh_34 (by decide) h
  · have h := h.2 hc
    refine z_aload_n F dX7_refresh_13 rfl ?_
    refine z_getR F 3 17 j1 rfl hj1 (by decide) rfl rfl rfl lk_X7_35 dX7_refresh_14 ?_
    refine z_iload_n F dX7_refresh_17 rfl ?_
    refine z_aload_n F dX7_refresh_18 rfl ?_
    refine z_getD F 0 7 rfl (by decide) (by decide) rfl rfl lk_X7_12 dX7_refresh_19 (fun hv2 => ?_)
    refine z_getR F 6 27 (w.2.2 2 0 0) rfl hv2 (by decide) rfl rfl rfl lk_X7_80 dX7_refresh_22 ?_
    refine z_iload_n F dX7_refresh_25 rfl ?_
    obtain ⟨hb, h⟩ := h
    refine z_ialdK F ((x2 : Int32).toNatClampNeg) rfl rfl (fix_lt 7 (w.2.2 2 0 0) 6 hv2 (by decide) rfl rfl) hb dX7_refresh_26 ?_
    obtain ⟨hb, h⟩ := h
    refine z_iastW F ((x2 : Int32).toNatClampNeg) rfl rfl (fix_lt 5 j1 3 hj1 (by decide) rfl rfl) hb dX7_refresh_27 (fun w3 hw3 => ?_)
    have h := h w3 hw3
    refine z_iinc F (x2 + 1) dX7_refresh_28 rfl rfl (Nat.le_of_ble_eq_true rfl) ?_
    refine z_goto F 2 dX7_refresh_31 (by decide) ?_
    exact h
set_option maxRecDepth 20000 in
theorem e_X7_nextDay {l : Launch} {G : Gx} {w : Wd} {j1 : Nat} (hj1 : j1 < cnt 5) {K : Option Value → Wd → Prop} {X : String → Wd → Prop} (hl : l.stackTraces = false)
    (h : ∀ (M : Mx) (kk : Nat), mL M = l → 2 ≤ kk → Fx M G RX7 cX7_nextDay 3 (some .boolean) kk 0 → Con (mL M) G 1 0 yX7_refresh cX7_refresh 3 none w [.ref (G.2.1 2 0), .ref (G.2.1 5 j1)] (fun r w2 => r = none ∧ Z M G 0 K X w2 7 [some (.ref (G.2.1 2 0)), some (.ref (G.2.1 5 j1)), some (.int 0)] []) X) :
    Con l G 2 0 yX7_nextDay cX7_nextDay 3 (some .boolean) w [.ref (G.2.1 2 0), .ref (G.2.1 5 j1)] K X := by
  refine con_intro hl (by decide +kernel) (Nat.le_of_ble_eq_true rfl) (Nat.le_of_ble_eq_true rfl) (fun M kk hM hk F => ?_)
  have h := h M kk hM hk F
  show Z M G 0 K X w 0 [some (.ref (G.2.1 2 0)), some (.ref (G.2.1 5 j1)), none] []
  refine z_aload_n F dX7_nextDay_0 rfl ?_
  refine z_aload_n F dX7_nextDay_1 rfl ?_
  refine z_callV F (k' := 1) (mc' := 0) [.ref (G.2.1 5 j1)] [] dX7_nextDay_2 rfl rfl (by decide) rfl cl_X7_95 hy_X7_refresh (by omega) (by decide) (by decide) (Nat.le_of_ble_eq_true rfl) rfl (con_mono h ?_ (fun _ _ h => h))
  rintro _ w2 ⟨rfl, h⟩
  show Z M G 0 K X w2 5 [some (.ref (G.2.1 2 0)), some (.ref (G.2.1 5 j1)), none] []
  refine z_iconst F 0 dX7_nextDay_5 (by decide) ?_
  refine z_istore_n F dX7_nextDay_6 (Nat.le_of_ble_eq_true rfl) ?_
  exact h
set_option maxRecDepth 20000 in
theorem b_X7_nextDay_7 {M : Mx} {G : Gx} {kk : Nat} {w : Wd} {j1 : Nat} (hj1 : j1 < cnt 5) {x2 : Int32} {K : Option Value → Wd → Prop} {X : String → Wd → Prop} (F : Fx M G RX7 cX7_nextDay 3 (some .boolean) kk 0) (hk : 2 ≤ kk)
    (h : (((w.1 7 (w.2.2 2 0 0) 0) ≤ x2 → (∀ w2 : Wd, w2 = setI w 5 j1 0 ((w.1 5 j1 0) + (1 : Int32)) → K (some (.int 1)) w2)) ∧ (¬ ((w.1 7 (w.2.2 2 0 0) 0) ≤ x2) → (vp_in x2 7 ∧ (((w.1 20 j1 ((x2 : Int32).toNatClampNeg)) ≤ 0 → (vp_in x2 7 ∧ ∀ w3 : Wd, w3 = setI w 20 j1 ((x2 : Int32).toNatClampNeg) 0 → Z M G 0 K X w3 7 [some (.ref (G.2.1 2 0)), some (.ref (G.2.1 5 j1)), some (.int (x2 + 1))] [])) ∧ (¬ ((w.1 20 j1 ((x2 : Int32).toNatClampNeg)) ≤ 0) → (vp_in x2 7 ∧ (vp_in x2 7 ∧ (vp_in x2 7 ∧ ∀ w5 : Wd, w5 = setI w 19 j1 ((x2 : Int32).toNatClampNeg) (if 9999 < ((w.1 19 j1 ((x2 : Int32).toNatClampNeg)) + (w.1 26 (w.2.2 2 0 0) ((x2 : Int32).toNatClampNeg))) then 9999 else ((w.1 19 j1 ((x2 : Int32).toNatClampNeg)) + (w.1 26 (w.2.2 2 0 0) ((x2 : Int32).toNatClampNeg)))) → (vp_in x2 7 ∧ ∀ w6 : Wd, w6 = setI w5 20 j1 ((x2 : Int32).toNatClampNeg) 0 → Z M G 0 K X w6 7 [some (.ref (G.2.1 2 0)), some (.ref (G.2.1 5 j1)), some (.int (x2 + 1))] [])))))))))) :
    Z M G 0 K X w 7 [some (.ref (G.2.1 2 0)), some (.ref (G.2.1 5 j1)), some (.int x2)] [] := by
  refine z_iload_n F dX7_nextDay_7 rfl ?_
  refine z_aload_n F dX7_nextDay_8 rfl ?_
  refine z_getD F 0 7 rfl (by decide) (by decide) rfl rfl lk_X7_12 dX7_nextDay_9 (fun hv1 => ?_)
  refine z_getI F 0 rfl hv1 (by decide) rfl lk_X7_54 dX7_nextDay_12 ?_
  refine z_icmp_ge F 68 dX7_nextDay_15 (by decide) ⟨fun hc => ?_, fun hc => ?_⟩
  · have h := h.1 hc
    refine z_aload_n F dX7_nextDay_68 rfl ?_
    refine z_dup F dX7_nextDay_69 rfl ?_
    refine z_getI F 0 rfl hj1 (by decide) rfl lk_X7_46 dX7_nextDay_70 ?_
    refine z_iconst F 1 dX7_nextDay_73 (by decide) ?_
    refine z_iadd F dX7_nextDay_74 ?_
    refine z_putIW F 0 rfl hj1 (by decide) rfl lk_X7_46 dX7_nextDay_75 (fun w2 hw2 => ?_)
    have h := h w2 hw2
    refine z_iconst F 1 dX7_nextDay_78 (by decide) ?_
    exact z_zret F dX7_nextDay_79 (by decide) rfl h
  · have h := h.2 hc
    refine z_aload_n F dX7_nextDay_18 rfl ?_
    refine z_getR F 6 20 j1 rfl hj1 (by decide) rfl rfl rfl lk_X7_67 dX7_nextDay_19 ?_
    refine z_iload_n F dX7_nextDay_22 rfl ?_
    obtain ⟨hb, h⟩ := h
    refine z_ialdK F ((x2 : Int32).toNatClampNeg) rfl rfl (fix_lt 5 j1 6 hj1 (by decide) rfl rfl) hb dX7_nextDay_23 ?_
    refine z_if_le F 55 dX7_nextDay_24 (by decide) ⟨fun hc => ?_, fun hc => ?_⟩
    · have h := h.1 hc
      refine z_aload_n F dX7_nextDay_55 rfl ?_
      refine z_getR F 6 20 j1 rfl hj1 (by decide) rfl rfl rfl lk_X7_67 dX7_nextDay_56 ?_
      refine z_iload_n F dX7_nextDay_59 rfl ?_
      refine z_iconst F 0 dX7_nextDay_60 (by decide) ?_
      obtain ⟨hb, h⟩ := h
      refine z_iastW F ((x2 : Int32).toNatClampNeg) rfl rfl (fix_lt 5 j1 6 hj1 (by decide) rfl rfl) hb dX7_nextDay_61 (fun w3 hw3 => ?_)
      have h := h w3 hw3
      refine z_iinc F (x2 + 1) dX7_nextDay_62 rfl rfl (Nat.le_of_ble_eq_true rfl) ?_
      refine z_goto F 7 dX7_nextDay_65 (by decide) ?_
      exact h
    · have h := h.2 hc
      refine z_aload_n F dX7_nextDay_27 rfl ?_
      refine z_getR F 5 19 j1 rfl hj1 (by decide) rfl rfl rfl lk_X7_99 dX7_nextDay_28 ?_
      refine z_iload_n F dX7_nextDay_31 rfl ?_
      refine z_aload_n F dX7_nextDay_32 rfl ?_
      refine z_getR F 5 19 j1 rfl hj1 (by decide) rfl rfl rfl lk_X7_99 dX7_nextDay_33 ?_
      refine z_iload_n F dX7_nextDay_36 rfl ?_
      obtain ⟨hb, h⟩ := h
      refine z_ialdK F ((x2 : Int32).toNatClampNeg) rfl rfl (fix_lt 5 j1 5 hj1 (by decide) rfl rfl) hb dX7_nextDay_37 ?_
      refine z_aload_n F dX7_nextDay_38 rfl ?_
      refine z_getD F 0 7 rfl (by decide) (by decide) rfl rfl lk_X7_12 dX7_nextDay_39 (fun hv4 => ?_)
      refine z_getR F 5 26 (w.2.2 2 0 0) rfl hv4 (by decide) rfl rfl rfl lk_X7_32 dX7_nextDay_42 ?_
      refine z_iload_n F dX7_nextDay_45 rfl ?_
      obtain ⟨hb, h⟩ := h
      refine z_ialdK F ((x2 : Int32).toNatClampNeg) rfl rfl (fix_lt 7 (w.2.2 2 0 0) 5 hv4 (by decide) rfl rfl) hb dX7_nextDay_46 ?_
      refine z_iadd F dX7_nextDay_47 ?_
      refine z_sipush F 9999 dX7_nextDay_48 (by decide) ?_
      refine z_mmin F (GW_4 134 rfl rfl) (GW_4 135 rfl rfl) (GW_1 21 rfl rfl) (GW_4 136 rfl rfl) (by omega) (by decide) rfl (Nat.le_of_ble_eq_true rfl) dX7_nextDay_51 ?_
      obtain ⟨hb, h⟩ := h
      refine z_iastW F ((x2 : Int32).toNatClampNeg) rfl rfl (fix_lt 5 j1 5 hj1 (by decide) rfl rfl) hb dX7_nextDay_54 (fun w5 hw5 => ?_)
      have h := h w5 hw5
      refine z_aload_n F dX7_nextDay_55 rfl ?_
      refine z_getR F 6 20 j1 rfl hj1 (by decide) rfl rfl rfl lk_X7_67 dX7_nextDay_56 ?_
      refine z_iload_n F dX7_nextDay_59 rfl ?_
      refine z_iconst F 0 dX7_nextDay_60 (by decide) ?_
      obtain ⟨hb, h⟩ := h
      refine z_iastW F ((x2 : Int32).toNatClampNeg) rfl rfl (fix_lt 5 j1 6 hj1 (by decide) rfl rfl) hb dX7_nextDay_61 (fun w6 hw6 => ?_)
      have h := h w6 hw6
      refine z_iinc F (x2 + 1) dX7_nextDay_62 rfl rfl (Nat.le_of_ble_eq_true rfl) ?_
      refine z_goto F 7 dX7_nextDay_65 (by decide) ?_
      exact h
set_option maxRecDepth 20000 in
theorem e_X8_add {l : Launch} {G : Gx} {w : Wd} {p0 : Int32} {K : Option Value → Wd → Prop} {X : String → Wd → Prop} (hl : l.stackTraces = false)
    (h : ∀ (M : Mx) (kk : Nat), mL M = l → 1 ≤ kk → Fx M G RX8 cX8_add 3 none kk 0 → Z M G 0 K X w 3 [some (.ref (G.2.1 1 0)), some (.int p0), some (.int 24)] []) :
    Con l G 1 0 yX8_add cX8_add 3 none w [.ref (G.2.1 1 0), .int p0] K X := by
  refine con_intro hl (by decide +kernel) (Nat.le_of_ble_eq_true rfl) (Nat.le_of_ble_eq_true rfl) (fun M kk hM hk F => ?_)
  have h := h M kk hM hk F
  show Z M G 0 K X w 0 [some (.ref (G.2.1 1 0)), some (.int p0), none] []
  refine z_bipush F 24 dX8_add_0 (by decide) ?_
  refine z_istore_n F dX8_add_2 (Nat.le_of_ble_eq_true rfl) ?_
  exact h
set_option maxRecDepth 20000 in
theorem b_X8_add_3 {M : Mx} {G : Gx} {kk : Nat} {w : Wd}  {x1 : Int32} {x2 : Int32} {K : Option Value → Wd → Prop} {X : String → Wd → Prop} (F : Fx M G RX8 cX8_add 3 none kk 0) (hk : 1 ≤ kk)
    (h : ((x2 < 0 → K none w) ∧ (¬ (x2 < 0) → ((600 ≤ (w.1 1 0 0) → K none w) ∧ (¬ (600 ≤ (w.1 1 0 0)) → (vp_in (w.1 1 0 0) 600 ∧ ∀ w1 : Wd, w1 = setI w 10 0 ((w.1 1 0 0 : Int32).toNatClampNeg) (vp_nar .byte (((x1.toUInt32 >>> ((x2 : Int32).toUInt32 &&& Int32.toUInt32 31)).toInt32 : Int32).toInt8.toInt32)) → (∀ w2 : Wd, w2 = setI w1 1 0 0 ((w1.1 1 0 0) + (1 : Int32)) → Z M G 0 K X w2 3 [some (.ref (G.2.1 1 0)), some (.int x1), some (.int (x2 + (-8)))] []))))))) :
    Z M G 0 K X w 3 [some (.ref (G.2.1 1 0)), some (.int x1), some (.int x2)] [] := by
  refine z_iload_n F dX8_add_3 rfl ?_
  refine z_if_lt F 46 dX8_add_4 (by decide) ⟨fun hc => ?_, fun hc => ?_⟩
  · have h := h.1 hc
    exact z_vret F dX8_add_46 (by decide) h
  · have h := h.2 hc
    refine z_aload_n F dX8_add_7 rfl ?_
    refine z_getI F 0 rfl (by decide) (by decide) rfl lk_X8_19 dX8_add_8 ?_
    refine z_sipush F 600 dX8_add_11 (by decide) ?_
    refine z_icmp_ge F 46 dX8_add_14 (by decide) ⟨fun hc => ?_, fun hc => ?_⟩
    · have h := h.1 hc
      exact z_vret F dX8_add_46 (by decide) h
    · have h := h.2 hc
      refine z_aload_n F dX8_add_17 rfl ?_
      refine z_getR F 6 10 0 rfl (by decide) (by decide) rfl rfl rfl lk_X8_15 dX8_add_18 ?_
      refine z_aload_n F dX8_add_21 rfl ?_
      refine z_getI F 0 rfl (by decide) (by decide) rfl lk_X8_19 dX8_add_22 ?_
      refine z_iload_n F dX8_add_25 rfl ?_
      refine z_iload_n F dX8_add_26 rfl ?_
      refine z_iushr F dX8_add_27 ?_
      refine z_i2b F dX8_add_28 ?_
      obtain ⟨hb, h⟩ := h
      refine z_bastW F ((w.1 1 0 0 : Int32).toNatClampNeg) rfl rfl (by decide) hb dX8_add_29 (fun w1 hw1 => ?_)
      have h := h w1 hw1
      refine z_aload_n F dX8_add_30 rfl ?_
      refine z_dup F dX8_add_31 rfl ?_
      refine z_getI F 0 rfl (by decide) (by decide) rfl lk_X8_19 dX8_add_32 ?_
      refine z_iconst F 1 dX8_add_35 (by decide) ?_
      refine z_iadd F dX8_add_36 ?_
      refine z_putIW F 0 rfl (by decide) (by decide) rfl lk_X8_19 dX8_add_37 (fun w2 hw2 => ?_)
      have h := h w2 hw2
      refine z_iinc F (x2 + (-8)) dX8_add_40 rfl rfl (Nat.le_of_ble_eq_true rfl) ?_
      refine z_goto F 3 dX8_add_43 (by decide) ?_
      exact h
set_option maxRecDepth 20000 in
theorem e_X8_open {l : Launch} {G : Gx} {w : Wd} {p0 : Int32} {K : Option Value → Wd → Prop} {X : String → Wd → Prop} (hl : l.stackTraces = false)
    (h : ∀ (M : Mx) (kk : Nat), mL M = l → 1 ≤ kk → Fx M G RX8 cX8_open 2 none kk 0 → (∀ w1 : Wd, w1 = setI w 1 0 5 p0 → (∀ w2 : Wd, w2 = setI w1 1 0 0 0 → (∀ w3 : Wd, w3 = setI w2 1 0 3 0 → (∀ w4 : Wd, w4 = setI w3 1 0 4 0 → (∀ w5 : Wd, w5 = setI w4 1 0 1 0 → (∀ w6 : Wd, w6 = setI w5 1 0 2 (-1) → K none w6))))))) :
    Con l G 1 0 yX8_open cX8_open 2 none w [.ref (G.2.1 1 0), .int p0] K X := by
  refine con_intro hl (by decide +kernel) (Nat.le_of_ble_eq_true rfl) (Nat.le_of_ble_eq_true rfl) (fun M kk hM hk F => ?_)
  have h := h M kk hM hk F
  show Z M G 0 K X w 0 [some (.ref (G.2.1 1 0)), some (.int p0)] []
  refine z_aload_n F dX8_open_0 rfl ?_
  refine z_iload_n F dX8_open_1 rfl ?_
  refine z_putIW F 5 rfl (by decide) (by decide) rfl lk_X8_22 dX8_open_2 (fun w1 hw1 => ?_)
  have h := h w1 hw1
  refine z_aload_n F dX8_open_5 rfl ?_
  refine z_iconst F 0 dX8_open_6 (by decide) ?_
  refine z_putIW F 0 rfl (by decide) (by decide) rfl lk_X8_19 dX8_open_7 (fun w2 hw2 => ?_)
  have h := h w2 hw2
  refine z_aload_n F dX8_open_10 rfl ?_
  refine z_iconst F 0 dX8_open_11 (by decide) ?_
  refine z_putIW F 3 rfl (by decide) (by decide) rfl lk_X8_25 dX8_open_12 (fun w3 hw3 => ?_)
  have h := h w3 hw3
  refine z_aload_n F dX8_open_15 rfl ?_
  refine z_iconst F 0 dX8_open_16 (by decide) ?_
  refine z_putIW F 4 rfl (by decide) (by decide) rfl lk_X8_28 dX8_open_17 (fun w4 hw4 => ?_)
  have h := h w4 hw4
  refine z_aload_n F dX8_open_20 rfl ?_
  refine z_iconst F 0 dX8_open_21 (by decide) ?_
  refine z_putIW F 1 rfl (by decide) (by decide) rfl lk_X8_31 dX8_open_22 (fun w5 hw5 => ?_)
  have h := h w5 hw5
  refine z_aload_n F dX8_open_25 rfl ?_
  refine z_iconst F (-1) dX8_open_26 (by decide) ?_
  refine z_putIW F 2 rfl (by decide) (by decide) rfl lk_X8_9 dX8_open_27 (fun w6 hw6 => ?_)
  have h := h w6 hw6
  exact z_vret F dX8_open_30 (by decide) h
set_option maxRecDepth 20000 in
theorem e_X8_fine {l : Launch} {G : Gx} {w : Wd}  {K : Option Value → Wd → Prop} {X : String → Wd → Prop} (hl : l.stackTraces = false)
    (h : ∀ (M : Mx) (kk : Nat), mL M = l → 1 ≤ kk → Fx M G RX8 cX8_fine 1 (some .boolean) kk 0 → ((¬ (w.1 1 0 1) = 0 → K (some (.int 0)) w) ∧ (¬ (¬ (w.1 1 0 1) = 0) → K (some (.int 1)) w))) :
    Con l G 1 0 yX8_fine cX8_fine 1 (some .boolean) w [.ref (G.2.1 1 0)] K X := by
  refine con_intro hl (by decide +kernel) (Nat.le_of_ble_eq_true rfl) (Nat.le_of_ble_eq_true rfl) (fun M kk hM hk F => ?_)
  have h := h M kk hM hk F
  show Z M G 0 K X w 0 [some (.ref (G.2.1 1 0))] []
  refine z_aload_n F dX8_fine_0 rfl ?_
  refine z_getI F 1 rfl (by decide) (by decide) rfl lk_X8_31 dX8_fine_1 ?_
  refine z_if_ne F 11 dX8_fine_4 (by decide) ⟨fun hc => ?_, fun hc => ?_⟩
  · have h := h.1 hc
    refine z_iconst F 0 dX8_fine_11 (by decide) ?_
    exact z_zret F dX8_fine_12 (by decide) rfl h
  · have h := h.2 hc
    refine z_iconst F 1 dX8_fine_7 (by decide) ?_
    refine z_goto F 12 dX8_fine_8 (by decide) ?_
    exact z_zret F dX8_fine_12 (by decide) rfl h
set_option maxRecDepth 20000 in
theorem e_X8_fail {l : Launch} {G : Gx} {w : Wd} {p0 : Int32} {p1 : Int32} {K : Option Value → Wd → Prop} {X : String → Wd → Prop} (hl : l.stackTraces = false)
    (h : ∀ (M : Mx) (kk : Nat), mL M = l → 1 ≤ kk → Fx M G RX8 cX8_fail 3 none kk 0 → ((¬ (w.1 1 0 1) = 0 → K none w) ∧ (¬ (¬ (w.1 1 0 1) = 0) → (∀ w1 : Wd, w1 = setI w 1 0 1 p0 → (∀ w2 : Wd, w2 = setI w1 1 0 2 p1 → (∀ w3 : Wd, w3 = setI w2 1 0 3 (w2.1 1 0 5) → K none w3)))))) :
    Con l G 1 0 yX8_fail cX8_fail 3 none w [.ref (G.2.1 1 0), .int p0, .int p1] K X := by
  refine con_intro hl (by decide +kernel) (Nat.le_of_ble_eq_true rfl) (Nat.le_of_ble_eq_true rfl) (fun M kk hM hk F => ?_)
  have h := h M kk hM hk F
  show Z M G 0 K X w 0 [some (.ref (G.2.1 1 0)), some (.int p0), some (.int p1)] []
  refine z_aload_n F dX8_fail_0 rfl ?_
  refine z_getI F 1 rfl (by decide) (by decide) rfl lk_X8_31 dX8_fail_1 ?_
  refine z_if_ne F 25 dX8_fail_4 (by decide) ⟨fun hc => ?_, fun hc => ?_⟩
  · have h := h.1 hc
    exact z_vret F dX8_fail_25 (by decide) h
  · have h := h.2 hc
    refine z_aload_n F dX8_fail_7 rfl ?_
    refine z_iload_n F dX8_fail_8 rfl ?_
    refine z_putIW F 1 rfl (by decide) (by decide) rfl lk_X8_31 dX8_fail_9 (fun w1 hw1 => ?_)
    have h := h w1 hw1
    refine z_aload_n F dX8_fail_12 rfl ?_
    refine z_iload_n F dX8_fail_13 rfl ?_
    refine z_putIW F 2 rfl (by decide) (by decide) rfl lk_X8_9 dX8_fail_14 (fun w2 hw2 => ?_)
    have h := h w2 hw2
    refine z_aload_n F dX8_fail_17 rfl ?_
    refine z_aload_n F dX8_fail_18 rfl ?_
    refine z_getI F 5 rfl (by decide) (by decide) rfl lk_X8_22 dX8_fail_19 ?_
    refine z_putIW F 3 rfl (by decide) (by decide) rfl lk_X8_25 dX8_fail_22 (fun w3 hw3 => ?_)
    have h := h w3 hw3
    exact z_vret F dX8_fail_25 (by decide) h
set_option maxRecDepth 20000 in
theorem e_X8_peek {l : Launch} {G : Gx} {w : Wd}  {K : Option Value → Wd → Prop} {X : String → Wd → Prop} (hl : l.stackTraces = false)
    (h : ∀ (M : Mx) (kk : Nat), mL M = l → 1 ≤ kk → Fx M G RX8 cX8_peek 1 (some .int) kk 0 → Z M G 0 K X w 0 [some (.ref (G.2.1 1 0))] []) :
    Con l G 1 0 yX8_peek cX8_peek 1 (some .int) w [.ref (G.2.1 1 0)] K X := by
  refine con_intro hl (by decide +kernel) (Nat.le_of_ble_eq_true rfl) (Nat.le_of_ble_eq_true rfl) (fun M kk hM hk F => ?_)
  have h := h M kk hM hk F
  show Z M G 0 K X w 0 [some (.ref (G.2.1 1 0))] []
  exact h
set_option maxRecDepth 20000 in
theorem b_X8_peek_0 {M : Mx} {G : Gx} {kk : Nat} {w : Wd}   {K : Option Value → Wd → Prop} {X : String → Wd → Prop} (F : Fx M G RX8 cX8_peek 1 (some .int) kk 0) (hk : 1 ≤ kk)
    (h : (((w.1 1 0 5) ≤ (w.1 1 0 3) → Z M G 0 K X w 38 [some (.ref (G.2.1 1 0))] []) ∧ (¬ ((w.1 1 0 5) ≤ (w.1 1 0 3)) → (vp_in (w.1 1 0 3) 600 ∧ ((¬ (w.1 10 0 ((w.1 1 0 3 : Int32).toNatClampNeg)) = 32 → Z M G 0 K X w 38 [some (.ref (G.2.1 1 0))] []) ∧ (¬ (¬ (w.1 10 0 ((w.1 1 0 3 : Int32).toNatClampNeg)) = 32) → (∀ w1 : Wd, w1 = setI w 1 0 3 ((w.1 1 0 3) + (1 : Int32)) → Z M G 0 K X w1 0 [some (.ref (G.2.1 1 0))] []))))))) :
    Z M G 0 K X w 0 [some (.ref (G.2.1 1 0))] [] := by
  refine z_aload_n F dX8_peek_0 rfl ?_
  refine z_getI F 3 rfl (by decide) (by decide) rfl lk_X8_25 dX8_peek_1 ?_
  refine z_aload_n F dX8_peek_4 rfl ?_
  refine z_getI F 5 rfl (by decide) (by decide) rfl lk_X8_22 dX8_peek_5 ?_
  refine z_icmp_ge F 38 dX8_peek_8 (by decide) ⟨fun hc => ?_, fun hc => ?_⟩
  · have h := h.1 hc
    exact h
  · have h := h.2 hc
    refine z_aload_n F dX8_peek_11 rfl ?_
    refine z_getR F 6 10 0 rfl (by decide) (by decide) rfl rfl rfl lk_X8_15 dX8_peek_12 ?_
    refine z_aload_n F dX8_peek_15 rfl ?_
    refine z_getI F 3 rfl (by decide) (by decide) rfl lk_X8_25 dX8_peek_16 ?_
    obtain ⟨hb, h⟩ := h
    refine z_baldK F ((w.1 1 0 3 : Int32).toNatClampNeg) rfl rfl (by decide) hb dX8_peek_19 ?_
    refine z_bipush F 32 dX8_peek_20 (by decide) ?_
    refine z_icmp_ne F 38 dX8_peek_22 (by decide) ⟨fun hc => ?_, fun hc => ?_⟩
    · have h := h.1 hc
      exact h
    · have h := h.2 hc
      refine z_aload_n F dX8_peek_25 rfl ?_
      refine z_dup F dX8_peek_26 rfl ?_
      refine z_getI F 3 rfl (by decide) (by decide) rfl lk_X8_25 dX8_peek_27 ?_
      refine z_iconst F 1 dX8_peek_30 (by decide) ?_
      refine z_iadd F dX8_peek_31 ?_
      refine z_putIW F 3 rfl (by decide) (by decide) rfl lk_X8_25 dX8_peek_32 (fun w1 hw1 => ?_)
      have h := h w1 hw1
      refine z_goto F 0 dX8_peek_35 (by decide) ?_
      exact h
set_option maxRecDepth 20000 in
theorem b_X8_peek_38 {M : Mx} {G : Gx} {kk : Nat} {w : Wd}   {K : Option Value → Wd → Prop} {X : String → Wd → Prop} (F : Fx M G RX8 cX8_peek 1 (some .int) kk 0) (hk : 1 ≤ kk)
    (h : (((w.1 1 0 5) ≤ (w.1 1 0 3) → K (some (.int (-1))) w) ∧ (¬ ((w.1 1 0 5) ≤ (w.1 1 0 3)) → (vp_in (w.1 1 0 3) 600 ∧ K (some (.int ((w.1 10 0 ((w.1 1 0 3 : Int32).toNatClampNeg)) &&& (255 : Int32)))) w)))) :
    Z M G 0 K X w 38 [some (.ref (G.2.1 1 0))] [] := by
  refine z_aload_n F dX8_peek_38 rfl ?_
  refine z_getI F 3 rfl (by decide) (by decide) rfl lk_X8_25 dX8_peek_39 ?_
  refine z_aload_n F dX8_peek_42 rfl ?_
  refine z_getI F 5 rfl (by decide) (by decide) rfl lk_X8_22 dX8_peek_43 ?_
  refine z_icmp_ge F 65 dX8_peek_46 (by decide) ⟨fun hc => ?_, fun hc => ?_⟩
  · have h := h.1 hc
    refine z_iconst F (-1) dX8_peek_65 (by decide) ?_
    exact z_iret F dX8_peek_66 (by decide) h
  · have h := h.2 hc
    refine z_aload_n F dX8_peek_49 rfl ?_
    refine z_getR F 6 10 0 rfl (by decide) (by decide) rfl rfl rfl lk_X8_15 dX8_peek_50 ?_
    refine z_aload_n F dX8_peek_53 rfl ?_
    refine z_getI F 3 rfl (by decide) (by decide) rfl lk_X8_25 dX8_peek_54 ?_
    obtain ⟨hb, h⟩ := h
    refine z_baldK F ((w.1 1 0 3 : Int32).toNatClampNeg) rfl rfl (by decide) hb dX8_peek_57 ?_
    refine z_sipush F 255 dX8_peek_58 (by decide) ?_
    refine z_iand F dX8_peek_61 ?_
    refine z_goto F 66 dX8_peek_62 (by decide) ?_
    exact z_iret F dX8_peek_66 (by decide) h
set_option maxRecDepth 20000 in
theorem e_X8_more {l : Launch} {G : Gx} {w : Wd}  {K : Option Value → Wd → Prop} {X : String → Wd → Prop} (hl : l.stackTraces = false)
    (h : ∀ (M : Mx) (kk : Nat), mL M = l → 2 ≤ kk → Fx M G RX8 cX8_more 1 (some .boolean) kk 0 → ((¬ (w.1 1 0 1) = 0 → K (some (.int 0)) w) ∧ (¬ (¬ (w.1 1 0 1) = 0) → Con (mL M) G 1 0 yX8_peek cX8_peek 1 (some .int) w [.ref (G.2.1 1 0)] (fun r w2 => ∃ v1 : Int32, r = some (.int v1) ∧ ((v1 = (-1) → K (some (.int 0)) w2) ∧ (¬ (v1 = (-1)) → K (some (.int 1)) w2))) X))) :
    Con l G 2 0 yX8_more cX8_more 1 (some .boolean) w [.ref (G.2.1 1 0)] K X := by
  refine con_intro hl (by decide +kernel) (Nat.le_of_ble_eq_true rfl) (Nat.le_of_ble_eq_true rfl) (fun M kk hM hk F => ?_)
  have h := h M kk hM hk F
  show Z M G 0 K X w 0 [some (.ref (G.2.1 1 0))] []
  refine z_aload_n F dX8_more_0 rfl ?_
  refine z_getI F 1 rfl (by decide) (by decide) rfl lk_X8_31 dX8_more_1 ?_
  refine z_if_ne F 19 dX8_more_4 (by decide) ⟨fun hc => ?_, fun hc => ?_⟩
  · have h := h.1 hc
    refine z_iconst F 0 dX8_more_19 (by decide) ?_
    exact z_zret F dX8_more_20 (by decide) rfl h
  · have h := h.2 hc
    refine z_aload_n F dX8_more_7 rfl ?_
    refine z_callV F (k' := 1) (mc' := 0) [] [] dX8_more_8 rfl rfl (by decide) rfl cl_X8_34 hy_X8_peek (by omega) (by decide) (by decide) (Nat.le_of_ble_eq_true rfl) rfl (con_mono h ?_ (fun _ _ h => h))
    rintro _ w2 ⟨v1, rfl, h⟩
    show Z M G 0 K X w2 11 [some (.ref (G.2.1 1 0))] [.int v1]
    refine z_iconst F (-1) dX8_more_11 (by decide) ?_
    refine z_icmp_eq F 19 dX8_more_12 (by decide) ⟨fun hc => ?_, fun hc => ?_⟩
    · have h := h.1 hc
      refine z_iconst F 0 dX8_more_19 (by decide) ?_
      exact z_zret F dX8_more_20 (by decide) rfl h
    · have h := h.2 hc
      refine z_iconst F 1 dX8_more_15 (by decide) ?_
      refine z_goto F 20 dX8_more_16 (by decide) ?_
      exact z_zret F dX8_more_20 (by decide) rfl h
set_option maxRecDepth 20000 in
theorem e_X8_sign {l : Launch} {G : Gx} {w : Wd} {p0 : Int32} {K : Option Value → Wd → Prop} {X : String → Wd → Prop} (hl : l.stackTraces = false)
    (h : ∀ (M : Mx) (kk : Nat), mL M = l → 2 ≤ kk → Fx M G RX8 cX8_sign 2 none kk 0 → Con (mL M) G 1 0 yX8_peek cX8_peek 1 (some .int) w [.ref (G.2.1 1 0)] (fun r w2 => ∃ v1 : Int32, r = some (.int v1) ∧ ((¬ v1 = p0 → Con (mL M) G 1 0 yX8_fail cX8_fail 3 none w2 [.ref (G.2.1 1 0), .int 1, .int (w2.1 1 0 3)] (fun r w4 => r = none ∧ K none w4) X) ∧ (¬ (¬ v1 = p0) → (∀ w5 : Wd, w5 = setI w2 1 0 3 ((w2.1 1 0 3) + (1 : Int32)) → K none w5)))) X) :
    Con l G 2 0 yX8_sign cX8_sign 2 none w [.ref (G.2.1 1 0), .int p0] K X := by
  refine con_intro hl (by decide +kernel) (Nat.le_of_ble_eq_true rfl) (Nat.le_of_ble_eq_true rfl) (fun M kk hM hk F => ?_)
  have h := h M kk hM hk F
  show Z M G 0 K X w 0 [some (.ref (G.2.1 1 0)), some (.int p0)] []
  refine z_aload_n F dX8_sign_0 rfl ?_
  refine z_callV F (k' := 1) (mc' := 0) [] [] dX8_sign_1 rfl rfl (by decide) rfl cl_X8_34 hy_X8_peek (by omega) (by decide) (by decide) (Nat.le_of_ble_eq_true rfl) rfl (con_mono h ?_ (fun _ _ h => h))
  rintro _ w2 ⟨v1, rfl, h⟩
  show Z M G 0 K X w2 4 [some (.ref (G.2.1 1 0)), some (.int p0)] [.int v1]
  refine z_iload_n F dX8_sign_4 rfl ?_
  refine z_icmp_ne F 21 dX8_sign_5 (by decide) ⟨fun hc => ?_, fun hc => ?_⟩
  · have h := h.1 hc
    refine z_aload_n F dX8_sign_21 rfl ?_
    refine z_iconst F 1 dX8_sign_22 (by decide) ?_
    refine z_aload_n F dX8_sign_23 rfl ?_
    refine z_getI F 3 rfl (by decide) (by decide) rfl lk_X8_25 dX8_sign_24 ?_
    refine z_callV F (k' := 1) (mc' := 0) [.int 1, .int (w2.1 1 0 3)] [] dX8_sign_27 rfl rfl (by decide) rfl cl_X8_38 hy_X8_fail (by omega) (by decide) (by decide) (Nat.le_of_ble_eq_true rfl) rfl (con_mono h ?_ (fun _ _ h => h))
    rintro _ w4 ⟨rfl, h⟩
    show Z M G 0 K X w4 30 [some (.ref (G.2.1 1 0)), some (.int p0)] []
    exact z_vret F dX8_sign_30 (by decide) h
  · have h := h.2 hc
    refine z_aload_n F dX8_sign_8 rfl ?_
    refine z_dup F dX8_sign_9 rfl ?_
    refine z_getI F 3 rfl (by decide) (by decide) rfl lk_X8_25 dX8_sign_10 ?_
    refine z_iconst F 1 dX8_sign_13 (by decide) ?_
    refine z_iadd F dX8_sign_14 ?_
    refine z_putIW F 3 rfl (by decide) (by decide) rfl lk_X8_25 dX8_sign_15 (fun w5 hw5 => ?_)
    have h := h w5 hw5
    refine z_goto F 30 dX8_sign_18 (by decide) ?_
    exact z_vret F dX8_sign_30 (by decide) h
set_option maxRecDepth 20000 in
theorem e_X8_word {l : Launch} {G : Gx} {w : Wd}  {K : Option Value → Wd → Prop} {X : String → Wd → Prop} (hl : l.stackTraces = false)
    (h : ∀ (M : Mx) (kk : Nat), mL M = l → 2 ≤ kk → Fx M G RX8 cX8_word 1 none kk 0 → Con (mL M) G 1 0 yX8_peek cX8_peek 1 (some .int) w [.ref (G.2.1 1 0)] (fun r w2 => ∃ v1 : Int32, r = some (.int v1) ∧ (∀ w3 : Wd, w3 = setI w2 1 0 4 (w2.1 1 0 3) → Z M G 0 K X w3 13 [some (.ref (G.2.1 1 0))] [])) X) :
    Con l G 2 0 yX8_word cX8_word 1 none w [.ref (G.2.1 1 0)] K X := by
  refine con_intro hl (by decide +kernel) (Nat.le_of_ble_eq_true rfl) (Nat.le_of_ble_eq_true rfl) (fun M kk hM hk F => ?_)
  have h := h M kk hM hk F
  show Z M G 0 K X w 0 [some (.ref (G.2.1 1 0))] []
  refine z_aload_n F dX8_word_0 rfl ?_
  refine z_callV F (k' := 1) (mc' := 0) [] [] dX8_word_1 rfl rfl (by decide) rfl cl_X8_34 hy_X8_peek (by omega) (by decide) (by decide) (Nat.le_of_ble_eq_true rfl) rfl (con_mono h ?_ (fun _ _ h => h))
  rintro _ w2 ⟨v1, rfl, h⟩
  show Z M G 0 K X w2 4 [some (.ref (G.2.1 1 0))] [.int v1]
  refine z_pop F dX8_word_4 rfl ?_
  refine z_aload_n F dX8_word_5 rfl ?_
  refine z_aload_n F dX8_word_6 rfl ?_
  refine z_getI F 3 rfl (by decide) (by decide) rfl lk_X8_25 dX8_word_7 ?_
  refine z_putIW F 4 rfl (by decide) (by decide) rfl lk_X8_28 dX8_word_10 (fun w3 hw3 => ?_)
  have h := h w3 hw3
  exact h
set_option maxRecDepth 20000 in
theorem b_X8_word_13 {M : Mx} {G : Gx} {kk : Nat} {w : Wd}   {K : Option Value → Wd → Prop} {X : String → Wd → Prop} (F : Fx M G RX8 cX8_word 1 none kk 0) (hk : 2 ≤ kk)
    (h : (((w.1 1 0 5) ≤ (w.1 1 0 3) → K none w) ∧ (¬ ((w.1 1 0 5) ≤ (w.1 1 0 3)) → (vp_in (w.1 1 0 3) 600 ∧ (((w.1 10 0 ((w.1 1 0 3 : Int32).toNatClampNeg)) < 97 → K none w) ∧ (¬ ((w.1 10 0 ((w.1 1 0 3 : Int32).toNatClampNeg)) < 97) → (vp_in (w.1 1 0 3) 600 ∧ ((122 < (w.1 10 0 ((w.1 1 0 3 : Int32).toNatClampNeg)) → K none w) ∧ (¬ (122 < (w.1 10 0 ((w.1 1 0 3 : Int32).toNatClampNeg))) → (∀ w1 : Wd, w1 = setI w 1 0 3 ((w.1 1 0 3) + (1 : Int32)) → Z M G 0 K X w1 13 [some (.ref (G.2.1 1 0))] [])))))))))) :
    Z M G 0 K X w 13 [some (.ref (G.2.1 1 0))] [] := by
  refine z_aload_n F dX8_word_13 rfl ?_
  refine z_getI F 3 rfl (by decide) (by decide) rfl lk_X8_25 dX8_word_14 ?_
  refine z_aload_n F dX8_word_17 rfl ?_
  refine z_getI F 5 rfl (by decide) (by decide) rfl lk_X8_22 dX8_word_18 ?_
  refine z_icmp_ge F 65 dX8_word_21 (by decide) ⟨fun hc => ?_, fun hc => ?_⟩
  · have h := h.1 hc
    exact z_vret F dX8_word_65 (by decide) h
  · have h := h.2 hc
    refine z_aload_n F dX8_word_24 rfl ?_
    refine z_getR F 6 10 0 rfl (by decide) (by decide) rfl rfl rfl lk_X8_15 dX8_word_25 ?_
    refine z_aload_n F dX8_word_28 rfl ?_
    refine z_getI F 3 rfl (by decide) (by decide) rfl lk_X8_25 dX8_word_29 ?_
    obtain ⟨hb, h⟩ := h
    refine z_baldK F ((w.1 1 0 3 : Int32).toNatClampNeg) rfl rfl (by decide) hb dX8_word_32 ?_
    refine z_bipush F 97 dX8_word_33 (by decide) ?_
    refine z_icmp_lt F 65 dX8_word_35 (by decide) ⟨fun hc => ?_, fun hc => ?_⟩
    · have h := h.1 hc
      exact z_vret F dX8_word_65 (by decide) h
    · have h := h.2 hc
      refine z_aload_n F dX8_word_38 rfl ?_
      refine z_getR F 6 10 0 rfl (by decide) (by decide) rfl rfl rfl lk_X8_15 dX8_word_39 ?_
      refine z_aload_n F dX8_word_42 rfl ?_
      refine z_getI F 3 rfl (by decide) (by decide) rfl lk_X8_25 dX8_word_43 ?_
      obtain ⟨hb, h⟩ := h
      refine z_baldK F ((w.1 1 0 3 : Int32).toNatClampNeg) rfl rfl (by decide) hb dX8_word_46 ?_
      refine z_bipush F 122 dX8_word_47 (by decide) ?_
      refine z_icmp_gt F 65 dX8_word_49 (by decide) ⟨fun hc => ?_, fun hc => ?_⟩
      · have h := h.1 hc
        exact z_vret F dX8_word_65 (by decide) h
      · have h := h.2 hc
        refine z_aload_n F dX8_word_52 rfl ?_
        refine z_dup F dX8_word_53 rfl ?_
        refine z_getI F 3 rfl (by decide) (by decide) rfl lk_X8_25 dX8_word_54 ?_
        refine z_iconst F 1 dX8_word_57 (by decide) ?_
        refine z_iadd F dX8_word_58 ?_
        refine z_putIW F 3 rfl (by decide) (by decide) rfl lk_X8_25 dX8_word_59 (fun w1 hw1 => ?_)
        have h := h w1 hw1
        refine z_goto F 13 dX8_word_62 (by decide) ?_
        exact h
set_option maxRecDepth 20000 in
theorem e_X8_says {l : Launch} {G : Gx} {w : Wd} {t0 : Nat} (ht0 : t0 < 20) {K : Option Value → Wd → Prop} {X : String → Wd → Prop} (hl : l.stackTraces = false)
    (h : ∀ (M : Mx) (kk : Nat), mL M = l → 7 ≤ kk → Fx M G RX8 cX8_says 3 (some .boolean) kk 0 → Con (mL M) G 3 0 yJ0_length_8abf5 cJ0_length_8abf5 1 (some .int) w [.ref (G.2.2.2.2.1 t0)] (fun r w2 => ∃ v1 : Int32, r = some (.int v1) ∧ ((((w.1 1 0 3) - (w.1 1 0 4)) = v1 → Z M G 0 K X w2 20 [some (.ref (G.2.1 1 0)), some (.ref (G.2.2.2.2.1 t0)), some (.int 0)] []) ∧ (¬ (((w.1 1 0 3) - (w.1 1 0 4)) = v1) → K (some (.int 0)) w2))) X) :
    Con l G 7 0 yX8_says cX8_says 3 (some .boolean) w [.ref (G.2.1 1 0), .ref (G.2.2.2.2.1 t0)] K X := by
  refine con_intro hl (by decide +kernel) (Nat.le_of_ble_eq_true rfl) (Nat.le_of_ble_eq_true rfl) (fun M kk hM hk F => ?_)
  have h := h M kk hM hk F
  show Z M G 0 K X w 0 [some (.ref (G.2.1 1 0)), some (.ref (G.2.2.2.2.1 t0)), none] []
  refine z_aload_n F dX8_says_0 rfl ?_
  refine z_getI F 3 rfl (by decide) (by decide) rfl lk_X8_25 dX8_says_1 ?_
  refine z_aload_n F dX8_says_4 rfl ?_
  refine z_getI F 4 rfl (by decide) (by decide) rfl lk_X8_28 dX8_says_5 ?_
  refine z_isub F dX8_says_8 ?_
  refine z_aload_n F dX8_says_9 rfl ?_
  refine z_callT F (k' := 3) (mc' := 0) [] [.int ((w.1 1 0 3) - (w.1 1 0 4))] dX8_says_10 rfl ht0 rfl cl_X8_42 hy_J0_length_8abf5 (by omega) (by decide) (by decide) (Nat.le_of_ble_eq_true rfl) rfl (con_mono h ?_ (fun _ _ h => h))
  rintro _ w2 ⟨v1, rfl, h⟩
  show Z M G 0 K X w2 13 [some (.ref (G.2.1 1 0)), some (.ref (G.2.2.2.2.1 t0)), none] [.int v1, .int ((w.1 1 0 3) - (w.1 1 0 4))]
  refine z_icmp_eq F 18 dX8_says_13 (by decide) ⟨fun hc => ?_, fun hc => ?_⟩
  · have h := h.1 hc
    refine z_iconst F 0 dX8_says_18 (by decide) ?_
    refine z_istore_n F dX8_says_19 (Nat.le_of_ble_eq_true rfl) ?_
    exact h
  · have h := h.2 hc
    refine z_iconst F 0 dX8_says_16 (by decide) ?_
    exact z_zret F dX8_says_17 (by decide) rfl h
set_option maxRecDepth 20000 in
theorem b_X8_says_20 {M : Mx} {G : Gx} {kk : Nat} {w : Wd} {t0 : Nat} (ht0 : t0 < 20) {x2 : Int32} {K : Option Value → Wd → Prop} {X : String → Wd → Prop} (F : Fx M G RX8 cX8_says 3 (some .boolean) kk 0) (hk : 7 ≤ kk)
    (h : Con (mL M) G 3 0 yJ0_length_8abf5 cJ0_length_8abf5 1 (some .int) w [.ref (G.2.2.2.2.1 t0)] (fun r w2 => ∃ v1 : Int32, r = some (.int v1) ∧ ((v1 ≤ x2 → K (some (.int 1)) w2) ∧ (¬ (v1 ≤ x2) → (vp_in ((w2.1 1 0 4) + x2) 600 ∧ Con (mL M) G 6 0 yJ0_charAt_5068e cJ0_charAt_5068e 2 (some .char) w2 [.ref (G.2.2.2.2.1 t0), .int x2] (fun r w4 => ∃ v3 : Int32, r = some (.int v3) ∧ (((w2.1 10 0 (((w2.1 1 0 4) + x2 : Int32).toNatClampNeg)) = v3 → Z M G 0 K X w4 20 [some (.ref (G.2.1 1 0)), some (.ref (G.2.2.2.2.1 t0)), some (.int (x2 + 1))] []) ∧ (¬ ((w2.1 10 0 (((w2.1 1 0 4) + x2 : Int32).toNatClampNeg)) = v3) → K (some (.int 0)) w4))) X)))) X) :
    Z M G 0 K X w 20 [some (.ref (G.2.1 1 0)), some (.ref (G.2.2.2.2.1 t0)), some (.int x2)] [] := by
  refine z_iload_n F dX8_says_20 rfl ?_
  refine z_aload_n F dX8_says_21 rfl ?_
  refine z_callT F (k' := 3) (mc' := 0) [] [.int x2] dX8_says_22 rfl ht0 rfl cl_X8_42 hy_J0_length_8abf5 (by omega) (by decide) (by decide) (Nat.le_of_ble_eq_true rfl) rfl (con_mono h ?_ (fun _ _ h => h))
  rintro _ w2 ⟨v1, rfl, h⟩
  show Z M G 0 K X w2 25 [some (.ref (G.2.1 1 0)), some (.ref (G.2.2.2.2.1 t0)), some (.int x2)] [.int v1, .int x2]
  refine z_icmp_ge F 55 dX8_says_25 (by decide) ⟨fun hc => ?_, fun hc => ?_⟩
  · have h := h.1 hc
    refine z_iconst F 1 dX8_says_55 (by decide) ?_
    exact z_zret F dX8_says_56 (by decide) rfl h
  · have h := h.2 hc
    refine z_aload_n F dX8_says_28 rfl ?_
    refine z_getR F 6 10 0 rfl (by decide) (by decide) rfl rfl rfl lk_X8_15 dX8_says_29 ?_
    refine z_aload_n F dX8_says_32 rfl ?_
    refine z_getI F 4 rfl (by decide) (by decide) rfl lk_X8_28 dX8_says_33 ?_
    refine z_iload_n F dX8_says_36 rfl ?_
    refine z_iadd F dX8_says_37 ?_
    obtain ⟨hb, h⟩ := h
    refine z_baldK F (((w2.1 1 0 4) + x2 : Int32).toNatClampNeg) rfl rfl (by decide) hb dX8_says_38 ?_
    refine z_aload_n F dX8_says_39 rfl ?_
    refine z_iload_n F dX8_says_40 rfl ?_
    refine z_callT F (k' := 6) (mc' := 0) [.int x2] [.int (w2.1 10 0 (((w2.1 1 0 4) + x2 : Int32).toNatClampNeg))] dX8_says_41 rfl ht0 rfl cl_X8_47 hy_J0_charAt_5068e (by omega) (by decide) (by decide) (Nat.le_of_ble_eq_true rfl) rfl (con_mono h ?_ (fun _ _ h => h))
    rintro _ w4 ⟨v3, rfl, h⟩
    show Z M G 0 K X w4 44 [some (.ref (G.2.1 1 0)), some (.ref (G.2.2.2.2.1 t0)), some (.int x2)] [.int v3, .int (w2.1 10 0 (((w2.1 1 0 4) + x2 : Int32).toNatClampNeg))]
    refine z_icmp_eq F 49 dX8_says_44 (by decide) ⟨fun hc => ?_, fun hc => ?_⟩
    · have h := h.1 hc
      refine z_iinc F (x2 + 1) dX8_says_49 rfl rfl (Nat.le_of_ble_eq_true rfl) ?_
      refine z_goto F 20 dX8_says_52 (by decide) ?_
      exact h
    · have h := h.2 hc
      refine z_iconst F 0 dX8_says_47 (by decide) ?_
      exact z_zret F dX8_says_48 (by decide) rfl h
set_option maxRecDepth 20000 in
theorem e_X8_figure {l : Launch} {G : Gx} {w : Wd} {p0 : Int32} {p1 : Int32} {K : Option Value → Wd → Prop} {X : String → Wd → Prop} (hl : l.stackTraces = false)
    (h : ∀ (M : Mx) (kk : Nat), mL M = l → 2 ≤ kk → Fx M G RX8 cX8_figure 4 (some .int) kk 0 → Con (mL M) G 1 0 yX8_peek cX8_peek 1 (some .int) w [.ref (G.2.1 1 0)] (fun r w2 => ∃ v1 : Int32, r = some (.int v1) ∧ (∀ w3 : Wd, w3 = setI w2 1 0 4 (w2.1 1 0 3) → Z M G 0 K X w3 15 [some (.ref (G.2.1 1 0)), some (.int p0), some (.int p1), some (.int 0)] [])) X) :
    Con l G 2 0 yX8_figure cX8_figure 4 (some .int) w [.ref (G.2.1 1 0), .int p0, .int p1] K X := by
  refine con_intro hl (by decide +kernel) (Nat.le_of_ble_eq_true rfl) (Nat.le_of_ble_eq_true rfl) (fun M kk hM hk F => ?_)
  have h := h M kk hM hk F
  show Z M G 0 K X w 0 [some (.ref (G.2.1 1 0)), some (.int p0), some (.int p1), none] []
  refine z_aload_n F dX8_figure_0 rfl ?_
  refine z_callV F (k' := 1) (mc' := 0) [] [] dX8_figure_1 rfl rfl (by decide) rfl cl_X8_34 hy_X8_peek (by omega) (by decide) (by decide) (Nat.le_of_ble_eq_true rfl) rfl (con_mono h ?_ (fun _ _ h => h))
  rintro _ w2 ⟨v1, rfl, h⟩
  show Z M G 0 K X w2 4 [some (.ref (G.2.1 1 0)), some (.int p0), some (.int p1), none] [.int v1]
  refine z_pop F dX8_figure_4 rfl ?_
  refine z_aload_n F dX8_figure_5 rfl ?_
  refine z_aload_n F dX8_figure_6 rfl ?_
  refine z_getI F 3 rfl (by decide) (by decide) rfl lk_X8_25 dX8_figure_7 ?_
  refine z_putIW F 4 rfl (by decide) (by decide) rfl lk_X8_28 dX8_figure_10 (fun w3 hw3 => ?_)
  have h := h w3 hw3
  refine z_iconst F 0 dX8_figure_13 (by decide) ?_
  refine z_istore_n F dX8_figure_14 (Nat.le_of_ble_eq_true rfl) ?_
  exact h
set_option maxRecDepth 20000 in
theorem b_X8_figure_15 {M : Mx} {G : Gx} {kk : Nat} {w : Wd}  {x1 : Int32} {x2 : Int32} {x3 : Int32} {K : Option Value → Wd → Prop} {X : String → Wd → Prop} (F : Fx M G RX8 cX8_figure 4 (some .int) kk 0) (hk : 2 ≤ kk)
    (h : (((w.1 1 0 5) ≤ (w.1 1 0 3) → Z M G 0 K X w 98 [some (.ref (G.2.1 1 0)), some (.int x1), some (.int x2), some (.int x3)] []) ∧ (¬ ((w.1 1 0 5) ≤ (w.1 1 0 3)) → (vp_in (w.1 1 0 3) 600 ∧ (((w.1 10 0 ((w.1 1 0 3 : Int32).toNatClampNeg)) < 48 → Z M G 0 K X w 98 [some (.ref (G.2.1 1 0)), some (.int x1), some (.int x2), some (.int x3)] []) ∧ (¬ ((w.1 10 0 ((w.1 1 0 3 : Int32).toNatClampNeg)) < 48) → (vp_in (w.1 1 0 3) 600 ∧ ((57 < (w.1 10 0 ((w.1 1 0 3 : Int32).toNatClampNeg)) → Z M G 0 K X w 98 [some (.ref (G.2.1 1 0)), some (.int x1), some (.int x2), some (.int x3)] []) ∧ (¬ (57 < (w.1 10 0 ((w.1 1 0 3 : Int32).toNatClampNeg))) → (vp_in (w.1 1 0 3) 600 ∧ (((((x3 * (10 : Int32)) + (w.1 10 0 ((w.1 1 0 3 : Int32).toNatClampNeg))) - (48 : Int32)) ≤ 100000 → (∀ w1 : Wd, w1 = setI w 1 0 3 ((w.1 1 0 3) + (1 : Int32)) → Z M G 0 K X w1 15 [some (.ref (G.2.1 1 0)), some (.int x1), some (.int x2), some (.int (((x3 * (10 : Int32)) + (w.1 10 0 ((w.1 1 0 3 : Int32).toNatClampNeg))) - (48 : Int32)))] [])) ∧ (¬ ((((x3 * (10 : Int32)) + (w.1 10 0 ((w.1 1 0 3 : Int32).toNatClampNeg))) - (48 : Int32)) ≤ 100000) → (∀ w2 : Wd, w2 = setI w 1 0 3 ((w.1 1 0 3) + (1 : Int32)) → Z M G 0 K X w2 15 [some (.ref (G.2.1 1 0)), some (.int x1), some (.int x2), some (.int 100000)] []))))))))))))) :
    Z M G 0 K X w 15 [some (.ref (G.2.1 1 0)), some (.int x1), some (.int x2), some (.int x3)] [] := by
  refine z_aload_n F dX8_figure_15 rfl ?_
  refine z_getI F 3 rfl (by decide) (by decide) rfl lk_X8_25 dX8_figure_16 ?_
  refine z_aload_n F dX8_figure_19 rfl ?_
  refine z_getI F 5 rfl (by decide) (by decide) rfl lk_X8_22 dX8_figure_20 ?_
  refine z_icmp_ge F 98 dX8_figure_23 (by decide) ⟨fun hc => ?_, fun hc => ?_⟩
  · have h := h.1 hc
    exact h
  · have h := h.2 hc
    refine z_aload_n F dX8_figure_26 rfl ?_
    refine z_getR F 6 10 0 rfl (by decide) (by decide) rfl rfl rfl lk_X8_15 dX8_figure_27 ?_
    refine z_aload_n F dX8_figure_30 rfl ?_
    refine z_getI F 3 rfl (by decide) (by decide) rfl lk_X8_25 dX8_figure_31 ?_
    obtain ⟨hb, h⟩ := h
    refine z_baldK F ((w.1 1 0 3 : Int32).toNatClampNeg) rfl rfl (by decide) hb dX8_figure_34 ?_
    refine z_bipush F 48 dX8_figure_35 (by decide) ?_
    refine z_icmp_lt F 98 dX8_figure_37 (by decide) ⟨fun hc => ?_, fun hc => ?_⟩
    · have h := h.1 hc
      exact h
    · have h := h.2 hc
      refine z_aload_n F dX8_figure_40 rfl ?_
      refine z_getR F 6 10 0 rfl (by decide) (by decide) rfl rfl rfl lk_X8_15 dX8_figure_41 ?_
      refine z_aload_n F dX8_figure_44 rfl ?_
      refine z_getI F 3 rfl (by decide) (by decide) rfl lk_X8_25 dX8_figure_45 ?_
      obtain ⟨hb, h⟩ := h
      refine z_baldK F ((w.1 1 0 3 : Int32).toNatClampNeg) rfl rfl (by decide) hb dX8_figure_48 ?_
      refine z_bipush F 57 dX8_figure_49 (by decide) ?_
      refine z_icmp_gt F 98 dX8_figure_51 (by decide) ⟨fun hc => ?_, fun hc => ?_⟩
      · have h := h.1 hc
        exact h
      · have h := h.2 hc
        refine z_iload_n F dX8_figure_54 rfl ?_
        refine z_bipush F 10 dX8_figure_55 (by decide) ?_
        refine z_imul F dX8_figure_57 ?_
        refine z_aload_n F dX8_figure_58 rfl ?_
        refine z_getR F 6 10 0 rfl (by decide) (by decide) rfl rfl rfl lk_X8_15 dX8_figure_59 ?_
        refine z_aload_n F dX8_figure_62 rfl ?_
        refine z_getI F 3 rfl (by decide) (by decide) rfl lk_X8_25 dX8_figure_63 ?_
        obtain ⟨hb, h⟩ := h
        refine z_baldK F ((w.1 1 0 3 : Int32).toNatClampNeg) rfl rfl (by decide) hb dX8_figure_66 ?_
        refine z_iadd F dX8_figure_67 ?_
        refine z_bipush F 48 dX8_figure_68 (by decide) ?_
        refine z_isub F dX8_figure_70 ?_
        refine z_istore_n F dX8_figure_71 (Nat.le_of_ble_eq_true rfl) ?_
        refine z_iload_n F dX8_figure_72 rfl ?_
        refine z_ldc F 100000 dX8_figure_73 (GW_3 215 rfl rfl) ?_
        refine z_icmp_le F 83 dX8_figure_75 (by decide) ⟨fun hc => ?_, fun hc => ?_⟩
        · have h := h.1 hc
          refine z_iload_n F dX8_figure_83 rfl ?_
          refine z_istore_n F dX8_figure_84 (Nat.le_of_ble_eq_true rfl) ?_
          refine z_aload_n F dX8_figure_85 rfl ?_
          refine z_dup F dX8_figure_86 rfl ?_
          refine z_getI F 3 rfl (by decide) (by decide) rfl lk_X8_25 dX8_figure_87 ?_
          refine z_iconst F 1 dX8_figure_90 (by decide) ?_
          refine z_iadd F dX8_figure_91 ?_
          refine z_putIW F 3 rfl (by decide) (by decide) rfl lk_X8_25 dX8_figure_92 (fun w1 hw1 => ?_)
          have h := h w1 hw1
          refine z_goto F 15 dX8_figure_95 (by decide) ?_
          exact h
        · have h := h.2 hc
          refine z_ldc F 100000 dX8_figure_78 (GW_3 215 rfl rfl) ?_
          refine z_goto F 84 dX8_figure_80 (by decide) ?_
          refine z_istore_n F dX8_figure_84 (Nat.le_of_ble_eq_true rfl) ?_
          refine z_aload_n F dX8_figure_85 rfl ?_
          refine z_dup F dX8_figure_86 rfl ?_
          refine z_getI F 3 rfl (by decide) (by decide) rfl lk_X8_25 dX8_figure_87 ?_
          refine z_iconst F 1 dX8_figure_90 (by decide) ?_
          refine z_iadd F dX8_figure_91 ?_
          refine z_putIW F 3 rfl (by decide) (by decide) rfl lk_X8_25 dX8_figure_92 (fun w2 hw2 => ?_)
          have h := h w2 hw2
          refine z_goto F 15 dX8_figure_95 (by decide) ?_
          exact h
set_option maxRecDepth 20000 in
theorem b_X8_figure_98 {M : Mx} {G : Gx} {kk : Nat} {w : Wd}  {x1 : Int32} {x2 : Int32} {x3 : Int32} {K : Option Value → Wd → Prop} {X : String → Wd → Prop} (F : Fx M G RX8 cX8_figure 4 (some .int) kk 0) (hk : 2 ≤ kk)
    (h : ((¬ (w.1 1 0 3) = (w.1 1 0 4) → ((x3 < x1 → Z M G 0 K X w 131 [some (.ref (G.2.1 1 0)), some (.int x1), none, some (.int x3)] []) ∧ (¬ (x3 < x1) → ((x3 ≤ x2 → Z M G 0 K X w 140 [some (.ref (G.2.1 1 0)), some (.int x1), none, some (.int x3)] []) ∧ (¬ (x3 ≤ x2) → Z M G 0 K X w 131 [some (.ref (G.2.1 1 0)), some (.int x1), none, some (.int x3)] []))))) ∧ (¬ (¬ (w.1 1 0 3) = (w.1 1 0 4)) → Con (mL M) G 1 0 yX8_fail cX8_fail 3 none w [.ref (G.2.1 1 0), .int 1, .int (w.1 1 0 4)] (fun r w2 => r = none ∧ Z M G 0 K X w2 140 [some (.ref (G.2.1 1 0)), some (.int x1), none, some (.int x3)] []) X))) :
    Z M G 0 K X w 98 [some (.ref (G.2.1 1 0)), some (.int x1), some (.int x2), some (.int x3)] [] := by
  refine z_aload_n F dX8_figure_98 rfl ?_
  refine z_getI F 3 rfl (by decide) (by decide) rfl lk_X8_25 dX8_figure_99 ?_
  refine z_aload_n F dX8_figure_102 rfl ?_
  refine z_getI F 4 rfl (by decide) (by decide) rfl lk_X8_28 dX8_figure_103 ?_
  refine z_icmp_ne F 121 dX8_figure_106 (by decide) ⟨fun hc => ?_, fun hc => ?_⟩
  · have h := h.1 hc
    refine z_iload_n F dX8_figure_121 rfl ?_
    refine z_iload_n F dX8_figure_122 rfl ?_
    refine z_icmp_lt F 131 dX8_figure_123 (by decide) ⟨fun hc => ?_, fun hc => ?_⟩
    · have h := h.1 hc
      exact z_weak h (⟨rfl, ⟨rfl, ⟨rfl, trivial⟩⟩⟩)
    · have h := h.2 hc
      refine z_iload_n F dX8_figure_126 rfl ?_
      refine z_iload_n F dX8_figure_127 rfl ?_
      refine z_icmp_le F 140 dX8_figure_128 (by decide) ⟨fun hc => ?_, fun hc => ?_⟩
      · have h := h.1 hc
        exact z_weak h (⟨rfl, ⟨rfl, ⟨rfl, trivial⟩⟩⟩)
      · have h := h.2 hc
        exact z_weak h (⟨rfl, ⟨rfl, ⟨rfl, trivial⟩⟩⟩)
  · have h := h.2 hc
    refine z_aload_n F dX8_figure_109 rfl ?_
    refine z_iconst F 1 dX8_figure_110 (by decide) ?_
    refine z_aload_n F dX8_figure_111 rfl ?_
    refine z_getI F 4 rfl (by decide) (by decide) rfl lk_X8_28 dX8_figure_112 ?_
    refine z_callV F (k' := 1) (mc' := 0) [.int 1, .int (w.1 1 0 4)] [] dX8_figure_115 rfl rfl (by decide) rfl cl_X8_38 hy_X8_fail (by omega) (by decide) (by decide) (Nat.le_of_ble_eq_true rfl) rfl (con_mono h ?_ (fun _ _ h => h))
    rintro _ w2 ⟨rfl, h⟩
    show Z M G 0 K X w2 118 [some (.ref (G.2.1 1 0)), some (.int x1), some (.int x2), some (.int x3)] []
    refine z_goto F 140 dX8_figure_118 (by decide) ?_
    exact z_weak h (⟨rfl, ⟨rfl, ⟨rfl, trivial⟩⟩⟩)
set_option maxRecDepth 20000 in
theorem b_X8_figure_131 {M : Mx} {G : Gx} {kk : Nat} {w : Wd}  {x1 : Int32} {x3 : Int32} {K : Option Value → Wd → Prop} {X : String → Wd → Prop} (F : Fx M G RX8 cX8_figure 4 (some .int) kk 0) (hk : 2 ≤ kk)
    (h : Con (mL M) G 1 0 yX8_fail cX8_fail 3 none w [.ref (G.2.1 1 0), .int 2, .int (w.1 1 0 4)] (fun r w2 => r = none ∧ Z M G 0 K X w2 140 [some (.ref (G.2.1 1 0)), some (.int x1), none, some (.int x3)] []) X) :
    Z M G 0 K X w 131 [some (.ref (G.2.1 1 0)), some (.int x1), none, some (.int x3)] [] := by
  refine z_aload_n F dX8_figure_131 rfl ?_
  refine z_iconst F 2 dX8_figure_132 (by decide) ?_
  refine z_aload_n F dX8_figure_133 rfl ?_
  refine z_getI F 4 rfl (by decide) (by decide) rfl lk_X8_28 dX8_figure_134 ?_
  refine z_callV F (k' := 1) (mc' := 0) [.int 2, .int (w.1 1 0 4)] [] dX8_figure_137 rfl rfl (by decide) rfl cl_X8_38 hy_X8_fail (by omega) (by decide) (by decide) (Nat.le_of_ble_eq_true rfl) rfl (con_mono h ?_ (fun _ _ h => h))
  rintro _ w2 ⟨rfl, h⟩
  show Z M G 0 K X w2 140 [some (.ref (G.2.1 1 0)), some (.int x1), none, some (.int x3)] []
  exact h
set_option maxRecDepth 20000 in
theorem b_X8_figure_140 {M : Mx} {G : Gx} {kk : Nat} {w : Wd}  {x1 : Int32} {x3 : Int32} {K : Option Value → Wd → Prop} {X : String → Wd → Prop} (F : Fx M G RX8 cX8_figure 4 (some .int) kk 0) (hk : 2 ≤ kk)
    (h : ((¬ (w.1 1 0 1) = 0 → K (some (.int x1)) w) ∧ (¬ (¬ (w.1 1 0 1) = 0) → K (some (.int x3)) w))) :
    Z M G 0 K X w 140 [some (.ref (G.2.1 1 0)), some (.int x1), none, some (.int x3)] [] := by
  refine z_aload_n F dX8_figure_140 rfl ?_
  refine z_getI F 1 rfl (by decide) (by decide) rfl lk_X8_31 dX8_figure_141 ?_
  refine z_if_ne F 151 dX8_figure_144 (by decide) ⟨fun hc => ?_, fun hc => ?_⟩
  · have h := h.1 hc
    refine z_iload_n F dX8_figure_151 rfl ?_
    exact z_iret F dX8_figure_152 (by decide) h
  · have h := h.2 hc
    refine z_iload_n F dX8_figure_147 rfl ?_
    refine z_goto F 152 dX8_figure_148 (by decide) ?_
    exact z_iret F dX8_figure_152 (by decide) h
set_option maxRecDepth 20000 in
theorem e_J6_bitCount_0f7a4 {l : Launch} {G : Gx} {w : Wd} {p0 : Int32} {K : Option Value → Wd → Prop} {X : String → Wd → Prop} (hl : l.stackTraces = false)
    (h : ∀ (M : Mx) (kk : Nat), mL M = l → 1 ≤ kk → Fx M G RJ6 cJ6_bitCount_0f7a4 1 (some .int) kk 0 → K (some (.int ((((((((p0 - (((p0.toUInt32 >>> ((1 : Int32).toUInt32 &&& Int32.toUInt32 31)).toInt32) &&& (1431655765 : Int32))) &&& (858993459 : Int32)) + ((((p0 - (((p0.toUInt32 >>> ((1 : Int32).toUInt32 &&& Int32.toUInt32 31)).toInt32) &&& (1431655765 : Int32))).toUInt32 >>> ((2 : Int32).toUInt32 &&& Int32.toUInt32 31)).toInt32) &&& (858993459 : Int32))) + (((((p0 - (((p0.toUInt32 >>> ((1 : Int32).toUInt32 &&& Int32.toUInt32 31)).toInt32) &&& (1431655765 : Int32))) &&& (858993459 : Int32)) + ((((p0 - (((p0.toUInt32 >>> ((1 : Int32).toUInt32 &&& Int32.toUInt32 31)).toInt32) &&& (1431655765 : Int32))).toUInt32 >>> ((2 : Int32).toUInt32 &&& Int32.toUInt32 31)).toInt32) &&& (858993459 : Int32))).toUInt32 >>> ((4 : Int32).toUInt32 &&& Int32.toUInt32 31)).toInt32)) &&& (252645135 : Int32)) + (((((((p0 - (((p0.toUInt32 >>> ((1 : Int32).toUInt32 &&& Int32.toUInt32 31)).toInt32) &&& (1431655765 : Int32))) &&& (858993459 : Int32)) + ((((p0 - (((p0.toUInt32 >>> ((1 : Int32).toUInt32 &&& Int32.toUInt32 31)).toInt32) &&& (1431655765 : Int32))).toUInt32 >>> ((2 : Int32).toUInt32 &&& Int32.toUInt32 31)).toInt32) &&& (858993459 : Int32))) + (((((p0 - (((p0.toUInt32 >>> ((1 : Int32).toUInt32 &&& Int32.toUInt32 31)).toInt32) &&& (1431655765 : Int32))) &&& (858993459 : Int32)) + ((((p0 - (((p0.toUInt32 >>> ((1 : Int32).toUInt32 &&& Int32.toUInt32 31)).toInt32) &&& (1431655765 : Int32))).toUInt32 >>> ((2 : Int32).toUInt32 &&& Int32.toUInt32 31)).toInt32) &&& (858993459 : Int32))).toUInt32 >>> ((4 : Int32).toUInt32 &&& Int32.toUInt32 31)).toInt32)) &&& (252645135 : Int32)).toUInt32 >>> ((8 : Int32).toUInt32 &&& Int32.toUInt32 31)).toInt32)) + ((((((((p0 - (((p0.toUInt32 >>> ((1 : Int32).toUInt32 &&& Int32.toUInt32 31)).toInt32) &&& (1431655765 : Int32))) &&& (858993459 : Int32)) + ((((p0 - (((p0.toUInt32 >>> ((1 : Int32).toUInt32 &&& Int32.toUInt32 31)).toInt32) &&& (1431655765 : Int32))).toUInt32 >>> ((2 : Int32).toUInt32 &&& Int32.toUInt32 31)).toInt32) &&& (858993459 : Int32))) + (((((p0 - (((p0.toUInt32 >>> ((1 : Int32).toUInt32 &&& Int32.toUInt32 31)).toInt32) &&& (1431655765 : Int32))) &&& (858993459 : Int32)) + ((((p0 - (((p0.toUInt32 >>> ((1 : Int32).toUInt32 &&& Int32.toUInt32 31)).toInt32) &&& (1431655765 : Int32))).toUInt32 >>> ((2 : Int32).toUInt32 &&& Int32.toUInt32 31)).toInt32) &&& (858993459 : Int32))).toUInt32 >>> ((4 : Int32).toUInt32 &&& Int32.toUInt32 31)).toInt32)) &&& (252645135 : Int32)) + (((((((p0 - (((p0.toUInt32 >>> ((1 : Int32).toUInt32 &&& Int32.toUInt32 31)).toInt32) &&& (1431655765 : Int32))) &&& (858993459 : Int32)) + ((((p0 - (((p0.toUInt32 >>> ((1 : Int32).toUInt32 &&& Int32.toUInt32 31)).toInt32) &&& (1431655765 : Int32))).toUInt32 >>> ((2 : Int32).toUInt32 &&& Int32.toUInt32 31)).toInt32) &&& (858993459 : Int32))) + (((((p0 - (((p0.toUInt32 >>> ((1 : Int32).toUInt32 &&& Int32.toUInt32 31)).toInt32) &&& (1431655765 : Int32))) &&& (858993459 : Int32)) + ((((p0 - (((p0.toUInt32 >>> ((1 : Int32).toUInt32 &&& Int32.toUInt32 31)).toInt32) &&& (1431655765 : Int32))).toUInt32 >>> ((2 : Int32).toUInt32 &&& Int32.toUInt32 31)).toInt32) &&& (858993459 : Int32))).toUInt32 >>> ((4 : Int32).toUInt32 &&& Int32.toUInt32 31)).toInt32)) &&& (252645135 : Int32)).toUInt32 >>> ((8 : Int32).toUInt32 &&& Int32.toUInt32 31)).toInt32)).toUInt32 >>> ((16 : Int32).toUInt32 &&& Int32.toUInt32 31)).toInt32)) &&& (63 : Int32)))) w) :
    Con l G 1 0 yJ6_bitCount_0f7a4 cJ6_bitCount_0f7a4 1 (some .int) w [.int p0] K X := by
  refine con_intro hl (by decide +kernel) (Nat.le_of_ble_eq_true rfl) (Nat.le_of_ble_eq_true rfl) (fun M kk hM hk F => ?_)
  have h := h M kk hM hk F
  show Z M G 0 K X w 0 [some (.int p0)] []
  refine z_iload_n F dJ6_bitCount_0f7a4_0 rfl ?_
  refine z_iload_n F dJ6_bitCount_0f7a4_1 rfl ?_
  refine z_iconst F 1 dJ6_bitCount_0f7a4_2 (by decide) ?_
  refine z_iushr F dJ6_bitCount_0f7a4_3 ?_
  refine z_ldcw F 1431655765 dJ6_bitCount_0f7a4_4 (GW_2 170 rfl rfl) ?_
  refine z_iand F dJ6_bitCount_0f7a4_7 ?_
  refine z_isub F dJ6_bitCount_0f7a4_8 ?_
  refine z_istore_n F dJ6_bitCount_0f7a4_9 (Nat.le_of_ble_eq_true rfl) ?_
  refine z_iload_n F dJ6_bitCount_0f7a4_10 rfl ?_
  refine z_ldcw F 858993459 dJ6_bitCount_0f7a4_11 (GW_2 171 rfl rfl) ?_
  refine z_iand F dJ6_bitCount_0f7a4_14 ?_
  refine z_iload_n F dJ6_bitCount_0f7a4_15 rfl ?_
  refine z_iconst F 2 dJ6_bitCount_0f7a4_16 (by decide) ?_
  refine z_iushr F dJ6_bitCount_0f7a4_17 ?_
  refine z_ldcw F 858993459 dJ6_bitCount_0f7a4_18 (GW_2 171 rfl rfl) ?_
  refine z_iand F dJ6_bitCount_0f7a4_21 ?_
  refine z_iadd F dJ6_bitCount_0f7a4_22 ?_
  refine z_istore_n F dJ6_bitCount_0f7a4_23 (Nat.le_of_ble_eq_true rfl) ?_
  refine z_iload_n F dJ6_bitCount_0f7a4_24 rfl ?_
  refine z_iload_n F dJ6_bitCount_0f7a4_25 rfl ?_
  refine z_iconst F 4 dJ6_bitCount_0f7a4_26 (by decide) ?_
  refine z_iushr F dJ6_bitCount_0f7a4_27 ?_
  refine z_iadd F dJ6_bitCount_0f7a4_28 ?_
  refine z_ldcw F 252645135 dJ6_bitCount_0f7a4_29 (GW_2 172 rfl rfl) ?_
  refine z_iand F dJ6_bitCount_0f7a4_32 ?_
  refine z_istore_n F dJ6_bitCount_0f7a4_33 (Nat.le_of_ble_eq_true rfl) ?_
  refine z_iload_n F dJ6_bitCount_0f7a4_34 rfl ?_
  refine z_iload_n F dJ6_bitCount_0f7a4_35 rfl ?_
  refine z_bipush F 8 dJ6_bitCount_0f7a4_36 (by decide) ?_
  refine z_iushr F dJ6_bitCount_0f7a4_38 ?_
  refine z_iadd F dJ6_bitCount_0f7a4_39 ?_
  refine z_istore_n F dJ6_bitCount_0f7a4_40 (Nat.le_of_ble_eq_true rfl) ?_
  refine z_iload_n F dJ6_bitCount_0f7a4_41 rfl ?_
  refine z_iload_n F dJ6_bitCount_0f7a4_42 rfl ?_
  refine z_bipush F 16 dJ6_bitCount_0f7a4_43 (by decide) ?_
  refine z_iushr F dJ6_bitCount_0f7a4_45 ?_
  refine z_iadd F dJ6_bitCount_0f7a4_46 ?_
  refine z_istore_n F dJ6_bitCount_0f7a4_47 (Nat.le_of_ble_eq_true rfl) ?_
  refine z_iload_n F dJ6_bitCount_0f7a4_48 rfl ?_
  refine z_bipush F 63 dJ6_bitCount_0f7a4_49 (by decide) ?_
  refine z_iand F dJ6_bitCount_0f7a4_51 ?_
  exact z_iret F dJ6_bitCount_0f7a4_52 (by decide) h
