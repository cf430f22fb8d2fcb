/-! The constructor of VowelChoirModel. -/
set_option maxHeartbeats 4000000 in
theorem c_init10 {l : Launch} {G : Gx} {ad0 : Nat → Nat → Nat} {q : Nat} (hl : l.stackTraces = false) (h7 : G.2.2.1 7 = 0) : ConC l G 4 561 6489 yX10_init cX10_init 1 (ksC.map (cellK G ad0 w0) ++ [(q, .inr (kc 40, [.int 0, .int 0, .int 0, .int 0, .int 0, .int 0, .int 0, .int 0, .int 0, .null, .null, .null, .null, .null, .null, .null, .null, .null, .null, .int 0, .int 0, .null, .null, .null, .null, .null, .null, .null, .int 0, .null, .null, .null, .null, .int 0, .int 0, .int 0, .int 0, .int 0, .int 0, .int 0, .int 0, .null, .null, .int 0, .null, .int 0]))]) [.ref q]
    (fun ws' => ∃ (ad : Nat → Nat → Nat) (w : Wd), ad 0 0 = ad0 0 0 ∧ ad 40 0 = q ∧ ws' = LL (gA G ad) w ∧ PW w ∧ w.2.1 80 0 = (fun _ => 0) ∧ Iv w) := by
  refine conC_intro (by decide +kernel) rfl (Nat.le_of_ble_eq_true rfl) (Nat.le_of_ble_eq_true rfl) (fun M kk hM hk F => ?_)
  have hlM : (mL M).stackTraces = false := by rw [hM]; exact hl
  have hend := fun (ad : Nat → Nat → Nat) (h40 : ad 40 0 = q) (ha : ∀ a b, a < 40 → ad0 a b = ad a b) => model_end F hk hlM h7 h40 ha
  generalize (fun ws' => ∃ (ad : Nat → Nat → Nat) (w : Wd), ad 0 0 = ad0 0 0 ∧ ad 40 0 = q ∧ ws' = LL (gA G ad) w ∧ PW w ∧ w.2.1 80 0 = (fun _ => 0) ∧ Iv w) = Kc at hend ⊢
  generalize hX : ksC.map (cellK G ad0 w0) = X at hend ⊢
  show ZC M G 0 0 Kc (X ++ (q, .inr (kc 40, [.int 0, .int 0, .int 0, .int 0, .int 0, .int 0, .int 0, .int 0, .int 0, .null, .null, .null, .null, .null, .null, .null, .null, .null, .null, .int 0, .int 0, .null, .null, .null, .null, .null, .null, .null, .int 0, .null, .null, .null, .null, .int 0, .int 0, .int 0, .int 0, .int 0, .int 0, .int 0, .int 0, .null, .null, .int 0, .null, .int 0])) :: []) 0 [some (.ref q)] []
  refine y_aload_n F dX10_init_0 rfl ?_
  refine y_super F (GW_5 232 rfl rfl) oi_1 oi_2 (by omega) rfl (Nat.le_of_ble_eq_true rfl) dX10_init_1 ?_
  refine y_aload_n F dX10_init_4 rfl ?_
  refine y_iconst F (-1) dX10_init_5 (by decide) ?_
  refine x_put2 F (κ := 40) (ty := .int) rfl 3 (by decide) rfl (by decide +kernel) rfl rfl lk_X10_9 dX10_init_6 [.int 0, .int 0, .int 0, .int (-1), .int 0, .int 0, .int 0, .int 0, .int 0, .null, .null, .null, .null, .null, .null, .null, .null, .null, .null, .int 0, .int 0, .null, .null, .null, .null, .null, .null, .null, .int 0, .null, .null, .null, .null, .int 0, .int 0, .int 0, .int 0, .int 0, .int 0, .int 0, .int 0, .null, .null, .int 0, .null, .int 0] rfl ?_
  refine y_aload_n F dX10_init_9 rfl ?_
  refine y_sipush F (600) dX10_init_10 (by decide) ?_
  refine x_newi F 600 (by decide) rfl (by decide) (by decide) (by decide) dX10_init_13 (fun c13 => ?_)
  refine x_putF2 F (κ := 40) (ty := .array .int) rfl 9 (by decide) rfl rfl (by decide +kernel) rfl rfl lk_X10_13 dX10_init_15 [.int 0, .int 0, .int 0, .int (-1), .int 0, .int 0, .int 0, .int 0, .int 0, .ref c13, .null, .null, .null, .null, .null, .null, .null, .null, .null, .int 0, .int 0, .null, .null, .null, .null, .null, .null, .null, .int 0, .null, .null, .null, .null, .int 0, .int 0, .int 0, .int 0, .int 0, .int 0, .int 0, .int 0, .null, .null, .int 0, .null, .int 0] rfl ?_
  refine y_aload_n F dX10_init_18 rfl ?_
  refine y_iconst F (2) dX10_init_19 (by decide) ?_
  refine x_newi F 2 (by decide) rfl (by decide) (by decide) (by decide) dX10_init_20 (fun c20 => ?_)
  refine x_putF2 F (κ := 40) (ty := .array .int) rfl 10 (by decide) rfl rfl (by decide +kernel) rfl rfl lk_X10_17 dX10_init_22 [.int 0, .int 0, .int 0, .int (-1), .int 0, .int 0, .int 0, .int 0, .int 0, .ref c13, .ref c20, .null, .null, .null, .null, .null, .null, .null, .null, .int 0, .int 0, .null, .null, .null, .null, .null, .null, .null, .int 0, .null, .null, .null, .null, .int 0, .int 0, .int 0, .int 0, .int 0, .int 0, .int 0, .int 0, .null, .null, .int 0, .null, .int 0] rfl ?_
  refine y_aload_n F dX10_init_25 rfl ?_
  refine y_iconst F (4) dX10_init_26 (by decide) ?_
  refine x_newi F 4 (by decide) rfl (by decide) (by decide) (by decide) dX10_init_27 (fun c27 => ?_)
  refine x_putF2 F (κ := 40) (ty := .array .int) rfl 11 (by decide) rfl rfl (by decide +kernel) rfl rfl lk_X10_20 dX10_init_29 [.int 0, .int 0, .int 0, .int (-1), .int 0, .int 0, .int 0, .int 0, .int 0, .ref c13, .ref c20, .ref c27, .null, .null, .null, .null, .null, .null, .null, .int 0, .int 0, .null, .null, .null, .null, .null, .null, .null, .int 0, .null, .null, .null, .null, .int 0, .int 0, .int 0, .int 0, .int 0, .int 0, .int 0, .int 0, .null, .null, .int 0, .null, .int 0] rfl ?_
  refine y_aload_n F dX10_init_32 rfl ?_
  refine y_iconst F (4) dX10_init_33 (by decide) ?_
  refine x_newi F 4 (by decide) rfl (by decide) (by decide) (by decide) dX10_init_34 (fun c34 => ?_)
  refine x_putF2 F (κ := 40) (ty := .array .int) rfl 12 (by decide) rfl rfl (by decide +kernel) rfl rfl lk_X10_23 dX10_init_36 [.int 0, .int 0, .int 0, .int (-1), .int 0, .int 0, .int 0, .int 0, .int 0, .ref c13, .ref c20, .ref c27, .ref c34, .null, .null, .null, .null, .null, .null, .int 0, .int 0, .null, .null, .null, .null, .null, .null, .null, .int 0, .null, .null, .null, .null, .int 0, .int 0, .int 0, .int 0, .int 0, .int 0, .int 0, .int 0, .null, .null, .int 0, .null, .int 0] rfl ?_
  refine y_aload_n F dX10_init_39 rfl ?_
  refine y_bipush F (7) dX10_init_40 (by decide) ?_
  refine y_iconst F (3) dX10_init_42 (by decide) ?_
  refine x_grid F 7 3 (GW_5 233 rfl rfl) (by decide) (by decide) rfl rfl (by decide) (by decide) (by decide) (by decide) dX10_init_43 (fun g43 => ?_)
  refine x_putF2 F (κ := 40) (ty := .array (.array .int)) rfl 13 (by decide) rfl rfl (by decide +kernel) rfl rfl lk_X10_28 dX10_init_47 [.int 0, .int 0, .int 0, .int (-1), .int 0, .int 0, .int 0, .int 0, .int 0, .ref c13, .ref c20, .ref c27, .ref c34, .ref g43, .null, .null, .null, .null, .null, .int 0, .int 0, .null, .null, .null, .null, .null, .null, .null, .int 0, .null, .null, .null, .null, .int 0, .int 0, .int 0, .int 0, .int 0, .int 0, .int 0, .int 0, .null, .null, .int 0, .null, .int 0] rfl ?_
  refine y_aload_n F dX10_init_50 rfl ?_
  refine y_bipush F (7) dX10_init_51 (by decide) ?_
  refine y_iconst F (3) dX10_init_53 (by decide) ?_
  refine x_grid F 7 3 (GW_5 233 rfl rfl) (by decide) (by decide) rfl rfl (by decide) (by decide) (by decide) (by decide) dX10_init_54 (fun g54 => ?_)
  refine x_putF2 F (κ := 40) (ty := .array (.array .int)) rfl 14 (by decide) rfl rfl (by decide +kernel) rfl rfl lk_X10_31 dX10_init_58 [.int 0, .int 0, .int 0, .int (-1), .int 0, .int 0, .int 0, .int 0, .int 0, .ref c13, .ref c20, .ref c27, .ref c34, .ref g43, .ref g54, .null, .null, .null, .null, .int 0, .int 0, .null, .null, .null, .null, .null, .null, .null, .int 0, .null, .null, .null, .null, .int 0, .int 0, .int 0, .int 0, .int 0, .int 0, .int 0, .int 0, .null, .null, .int 0, .null, .int 0] rfl ?_
  refine y_aload_n F dX10_init_61 rfl ?_
  refine y_bipush F (20) dX10_init_62 (by decide) ?_
  refine y_iconst F (2) dX10_init_64 (by decide) ?_
  refine x_grid F 20 2 (GW_5 233 rfl rfl) (by decide) (by decide) rfl rfl (by decide) (by decide) (by decide) (by decide) dX10_init_65 (fun g65 => ?_)
  refine x_putF2 F (κ := 40) (ty := .array (.array .int)) rfl 15 (by decide) rfl rfl (by decide +kernel) rfl rfl lk_X10_34 dX10_init_69 [.int 0, .int 0, .int 0, .int (-1), .int 0, .int 0, .int 0, .int 0, .int 0, .ref c13, .ref c20, .ref c27, .ref c34, .ref g43, .ref g54, .ref g65, .null, .null, .null, .int 0, .int 0, .null, .null, .null, .null, .null, .null, .null, .int 0, .null, .null, .null, .null, .int 0, .int 0, .int 0, .int 0, .int 0, .int 0, .int 0, .int 0, .null, .null, .int 0, .null, .int 0] rfl ?_
  refine y_aload_n F dX10_init_72 rfl ?_
  refine y_bipush F (20) dX10_init_73 (by decide) ?_
  refine y_iconst F (2) dX10_init_75 (by decide) ?_
  refine x_grid F 20 2 (GW_5 233 rfl rfl) (by decide) (by decide) rfl rfl (by decide) (by decide) (by decide) (by decide) dX10_init_76 (fun g76 => ?_)
  refine x_putF2 F (κ := 40) (ty := .array (.array .int)) rfl 16 (by decide) rfl rfl (by decide +kernel) rfl rfl lk_X10_37 dX10_init_80 [.int 0, .int 0, .int 0, .int (-1), .int 0, .int 0, .int 0, .int 0, .int 0, .ref c13, .ref c20, .ref c27, .ref c34, .ref g43, .ref g54, .ref g65, .ref g76, .null, .null, .int 0, .int 0, .null, .null, .null, .null, .null, .null, .null, .int 0, .null, .null, .null, .null, .int 0, .int 0, .int 0, .int 0, .int 0, .int 0, .int 0, .int 0, .null, .null, .int 0, .null, .int 0] rfl ?_
  refine y_aload_n F dX10_init_83 rfl ?_
  refine y_bipush F (12) dX10_init_84 (by decide) ?_
  refine y_iconst F (2) dX10_init_86 (by decide) ?_
  refine x_grid F 12 2 (GW_5 233 rfl rfl) (by decide) (by decide) rfl rfl (by decide) (by decide) (by decide) (by decide) dX10_init_87 (fun g87 => ?_)
  refine x_putF2 F (κ := 40) (ty := .array (.array .int)) rfl 17 (by decide) rfl rfl (by decide +kernel) rfl rfl lk_X10_40 dX10_init_91 [.int 0, .int 0, .int 0, .int (-1), .int 0, .int 0, .int 0, .int 0, .int 0, .ref c13, .ref c20, .ref c27, .ref c34, .ref g43, .ref g54, .ref g65, .ref g76, .ref g87, .null, .int 0, .int 0, .null, .null, .null, .null, .null, .null, .null, .int 0, .null, .null, .null, .null, .int 0, .int 0, .int 0, .int 0, .int 0, .int 0, .int 0, .int 0, .null, .null, .int 0, .null, .int 0] rfl ?_
  refine y_aload_n F dX10_init_94 rfl ?_
  refine y_bipush F (12) dX10_init_95 (by decide) ?_
  refine y_iconst F (2) dX10_init_97 (by decide) ?_
  refine x_grid F 12 2 (GW_5 233 rfl rfl) (by decide) (by decide) rfl rfl (by decide) (by decide) (by decide) (by decide) dX10_init_98 (fun g98 => ?_)
  refine x_putF2 F (κ := 40) (ty := .array (.array .int)) rfl 18 (by decide) rfl rfl (by decide +kernel) rfl rfl lk_X10_43 dX10_init_102 [.int 0, .int 0, .int 0, .int (-1), .int 0, .int 0, .int 0, .int 0, .int 0, .ref c13, .ref c20, .ref c27, .ref c34, .ref g43, .ref g54, .ref g65, .ref g76, .ref g87, .ref g98, .int 0, .int 0, .null, .null, .null, .null, .null, .null, .null, .int 0, .null, .null, .null, .null, .int 0, .int 0, .int 0, .int 0, .int 0, .int 0, .int 0, .int 0, .null, .null, .int 0, .null, .int 0] rfl ?_
  refine y_aload_n F dX10_init_105 rfl ?_
  refine y_sipush F (160) dX10_init_106 (by decide) ?_
  refine y_iconst F (2) dX10_init_109 (by decide) ?_
  refine x_grid F 160 2 (GW_5 233 rfl rfl) (by decide) (by decide) rfl rfl (by decide) (by decide) (by decide) (by decide) dX10_init_110 (fun g110 => ?_)
  refine x_putF2 F (κ := 40) (ty := .array (.array .int)) rfl 21 (by decide) rfl rfl (by decide +kernel) rfl rfl lk_X10_46 dX10_init_114 [.int 0, .int 0, .int 0, .int (-1), .int 0, .int 0, .int 0, .int 0, .int 0, .ref c13, .ref c20, .ref c27, .ref c34, .ref g43, .ref g54, .ref g65, .ref g76, .ref g87, .ref g98, .int 0, .int 0, .ref g110, .null, .null, .null, .null, .null, .null, .int 0, .null, .null, .null, .null, .int 0, .int 0, .int 0, .int 0, .int 0, .int 0, .int 0, .int 0, .null, .null, .int 0, .null, .int 0] rfl ?_
  refine y_aload_n F dX10_init_117 rfl ?_
  refine y_sipush F (160) dX10_init_118 (by decide) ?_
  refine y_iconst F (2) dX10_init_121 (by decide) ?_
  refine x_grid F 160 2 (GW_5 233 rfl rfl) (by decide) (by decide) rfl rfl (by decide) (by decide) (by decide) (by decide) dX10_init_122 (fun g122 => ?_)
  refine x_putF2 F (κ := 40) (ty := .array (.array .int)) rfl 22 (by decide) rfl rfl (by decide +kernel) rfl rfl lk_X10_49 dX10_init_126 [.int 0, .int 0, .int 0, .int (-1), .int 0, .int 0, .int 0, .int 0, .int 0, .ref c13, .ref c20, .ref c27, .ref c34, .ref g43, .ref g54, .ref g65, .ref g76, .ref g87, .ref g98, .int 0, .int 0, .ref g110, .ref g122, .null, .null, .null, .null, .null, .int 0, .null, .null, .null, .null, .int 0, .int 0, .int 0, .int 0, .int 0, .int 0, .int 0, .int 0, .null, .null, .int 0, .null, .int 0] rfl ?_
  refine y_aload_n F dX10_init_129 rfl ?_
  refine y_bipush F (20) dX10_init_130 (by decide) ?_
  refine y_iconst F (2) dX10_init_132 (by decide) ?_
  refine x_grid F 20 2 (GW_5 233 rfl rfl) (by decide) (by decide) rfl rfl (by decide) (by decide) (by decide) (by decide) dX10_init_133 (fun g133 => ?_)
  refine x_putF2 F (κ := 40) (ty := .array (.array .int)) rfl 23 (by decide) rfl rfl (by decide +kernel) rfl rfl lk_X10_52 dX10_init_137 [.int 0, .int 0, .int 0, .int (-1), .int 0, .int 0, .int 0, .int 0, .int 0, .ref c13, .ref c20, .ref c27, .ref c34, .ref g43, .ref g54, .ref g65, .ref g76, .ref g87, .ref g98, .int 0, .int 0, .ref g110, .ref g122, .ref g133, .null, .null, .null, .null, .int 0, .null, .null, .null, .null, .int 0, .int 0, .int 0, .int 0, .int 0, .int 0, .int 0, .int 0, .null, .null, .int 0, .null, .int 0] rfl ?_
  refine y_aload_n F dX10_init_140 rfl ?_
  refine y_bipush F (20) dX10_init_141 (by decide) ?_
  refine y_iconst F (2) dX10_init_143 (by decide) ?_
  refine x_grid F 20 2 (GW_5 233 rfl rfl) (by decide) (by decide) rfl rfl (by decide) (by decide) (by decide) (by decide) dX10_init_144 (fun g144 => ?_)
  refine x_putF2 F (κ := 40) (ty := .array (.array .int)) rfl 24 (by decide) rfl rfl (by decide +kernel) rfl rfl lk_X10_55 dX10_init_148 [.int 0, .int 0, .int 0, .int (-1), .int 0, .int 0, .int 0, .int 0, .int 0, .ref c13, .ref c20, .ref c27, .ref c34, .ref g43, .ref g54, .ref g65, .ref g76, .ref g87, .ref g98, .int 0, .int 0, .ref g110, .ref g122, .ref g133, .ref g144, .null, .null, .null, .int 0, .null, .null, .null, .null, .int 0, .int 0, .int 0, .int 0, .int 0, .int 0, .int 0, .int 0, .null, .null, .int 0, .null, .int 0] rfl ?_
  refine y_aload_n F dX10_init_151 rfl ?_
  refine y_sipush F (160) dX10_init_152 (by decide) ?_
  refine x_newi F 160 (by decide) rfl (by decide) (by decide) (by decide) dX10_init_155 (fun c155 => ?_)
  refine x_putF2 F (κ := 40) (ty := .array .int) rfl 25 (by decide) rfl rfl (by decide +kernel) rfl rfl lk_X10_58 dX10_init_157 [.int 0, .int 0, .int 0, .int (-1), .int 0, .int 0, .int 0, .int 0, .int 0, .ref c13, .ref c20, .ref c27, .ref c34, .ref g43, .ref g54, .ref g65, .ref g76, .ref g87, .ref g98, .int 0, .int 0, .ref g110, .ref g122, .ref g133, .ref g144, .ref c155, .null, .null, .int 0, .null, .null, .null, .null, .int 0, .int 0, .int 0, .int 0, .int 0, .int 0, .int 0, .int 0, .null, .null, .int 0, .null, .int 0] rfl ?_
  refine y_aload_n F dX10_init_160 rfl ?_
  refine y_bipush F (8) dX10_init_161 (by decide) ?_
  refine x_newi F 8 (by decide) rfl (by decide) (by decide) (by decide) dX10_init_163 (fun c163 => ?_)
  refine x_putF2 F (κ := 40) (ty := .array .int) rfl 26 (by decide) rfl rfl (by decide +kernel) rfl rfl lk_X10_61 dX10_init_165 [.int 0, .int 0, .int 0, .int (-1), .int 0, .int 0, .int 0, .int 0, .int 0, .ref c13, .ref c20, .ref c27, .ref c34, .ref g43, .ref g54, .ref g65, .ref g76, .ref g87, .ref g98, .int 0, .int 0, .ref g110, .ref g122, .ref g133, .ref g144, .ref c155, .ref c163, .null, .int 0, .null, .null, .null, .null, .int 0, .int 0, .int 0, .int 0, .int 0, .int 0, .int 0, .int 0, .null, .null, .int 0, .null, .int 0] rfl ?_
  refine y_aload_n F dX10_init_168 rfl ?_
  refine y_bipush F (80) dX10_init_169 (by decide) ?_
  refine y_iconst F (4) dX10_init_171 (by decide) ?_
  refine x_grid F 80 4 (GW_5 233 rfl rfl) (by decide) (by decide) rfl rfl (by decide) (by decide) (by decide) (by decide) dX10_init_172 (fun g172 => ?_)
  refine x_putF2 F (κ := 40) (ty := .array (.array .int)) rfl 27 (by decide) rfl rfl (by decide +kernel) rfl rfl lk_X10_64 dX10_init_176 [.int 0, .int 0, .int 0, .int (-1), .int 0, .int 0, .int 0, .int 0, .int 0, .ref c13, .ref c20, .ref c27, .ref c34, .ref g43, .ref g54, .ref g65, .ref g76, .ref g87, .ref g98, .int 0, .int 0, .ref g110, .ref g122, .ref g133, .ref g144, .ref c155, .ref c163, .ref g172, .int 0, .null, .null, .null, .null, .int 0, .int 0, .int 0, .int 0, .int 0, .int 0, .int 0, .int 0, .null, .null, .int 0, .null, .int 0] rfl ?_
  refine y_aload_n F dX10_init_179 rfl ?_
  refine y_bipush F (57) dX10_init_180 (by decide) ?_
  refine x_newi F 57 (by decide) rfl (by decide) (by decide) (by decide) dX10_init_182 (fun c182 => ?_)
  refine x_putF2 F (κ := 40) (ty := .array .int) rfl 29 (by decide) rfl rfl (by decide +kernel) rfl rfl lk_X10_67 dX10_init_184 [.int 0, .int 0, .int 0, .int (-1), .int 0, .int 0, .int 0, .int 0, .int 0, .ref c13, .ref c20, .ref c27, .ref c34, .ref g43, .ref g54, .ref g65, .ref g76, .ref g87, .ref g98, .int 0, .int 0, .ref g110, .ref g122, .ref g133, .ref g144, .ref c155, .ref c163, .ref g172, .int 0, .ref c182, .null, .null, .null, .int 0, .int 0, .int 0, .int 0, .int 0, .int 0, .int 0, .int 0, .null, .null, .int 0, .null, .int 0] rfl ?_
  refine y_aload_n F dX10_init_187 rfl ?_
  refine y_bipush F (57) dX10_init_188 (by decide) ?_
  refine x_newi F 57 (by decide) rfl (by decide) (by decide) (by decide) dX10_init_190 (fun c190 => ?_)
  refine x_putF2 F (κ := 40) (ty := .array .int) rfl 30 (by decide) rfl rfl (by decide +kernel) rfl rfl lk_X10_70 dX10_init_192 [.int 0, .int 0, .int 0, .int (-1), .int 0, .int 0, .int 0, .int 0, .int 0, .ref c13, .ref c20, .ref c27, .ref c34, .ref g43, .ref g54, .ref g65, .ref g76, .ref g87, .ref g98, .int 0, .int 0, .ref g110, .ref g122, .ref g133, .ref g144, .ref c155, .ref c163, .ref g172, .int 0, .ref c182, .ref c190, .null, .null, .int 0, .int 0, .int 0, .int 0, .int 0, .int 0, .int 0, .int 0, .null, .null, .int 0, .null, .int 0] rfl ?_
  refine y_aload_n F dX10_init_195 rfl ?_
  refine y_bipush F (16) dX10_init_196 (by decide) ?_
  refine y_bipush F (57) dX10_init_198 (by decide) ?_
  refine x_grid F 16 57 (GW_5 233 rfl rfl) (by decide) (by decide) rfl rfl (by decide) (by decide) (by decide) (by decide) dX10_init_200 (fun g200 => ?_)
  refine x_putF2 F (κ := 40) (ty := .array (.array .int)) rfl 31 (by decide) rfl rfl (by decide +kernel) rfl rfl lk_X10_73 dX10_init_204 [.int 0, .int 0, .int 0, .int (-1), .int 0, .int 0, .int 0, .int 0, .int 0, .ref c13, .ref c20, .ref c27, .ref c34, .ref g43, .ref g54, .ref g65, .ref g76, .ref g87, .ref g98, .int 0, .int 0, .ref g110, .ref g122, .ref g133, .ref g144, .ref c155, .ref c163, .ref g172, .int 0, .ref c182, .ref c190, .ref g200, .null, .int 0, .int 0, .int 0, .int 0, .int 0, .int 0, .int 0, .int 0, .null, .null, .int 0, .null, .int 0] rfl ?_
  refine y_aload_n F dX10_init_207 rfl ?_
  refine y_iconst F (3) dX10_init_208 (by decide) ?_
  refine y_sipush F (970) dX10_init_209 (by decide) ?_
  refine x_grid F 3 970 (GW_5 233 rfl rfl) (by decide) (by decide) rfl rfl (by decide) (by decide) (by decide) (by decide) dX10_init_212 (fun g212 => ?_)
  refine x_putF2 F (κ := 40) (ty := .array (.array .int)) rfl 32 (by decide) rfl rfl (by decide +kernel) rfl rfl lk_X10_76 dX10_init_216 [.int 0, .int 0, .int 0, .int (-1), .int 0, .int 0, .int 0, .int 0, .int 0, .ref c13, .ref c20, .ref c27, .ref c34, .ref g43, .ref g54, .ref g65, .ref g76, .ref g87, .ref g98, .int 0, .int 0, .ref g110, .ref g122, .ref g133, .ref g144, .ref c155, .ref c163, .ref g172, .int 0, .ref c182, .ref c190, .ref g200, .ref g212, .int 0, .int 0, .int 0, .int 0, .int 0, .int 0, .int 0, .int 0, .null, .null, .int 0, .null, .int 0] rfl ?_
  refine y_aload_n F dX10_init_219 rfl ?_
  refine y_bipush F (7) dX10_init_220 (by decide) ?_
  refine x_newi F 7 (by decide) rfl (by decide) (by decide) (by decide) dX10_init_222 (fun c222 => ?_)
  refine x_putF2 F (κ := 40) (ty := .array .int) rfl 41 (by decide) rfl rfl (by decide +kernel) rfl rfl lk_X10_79 dX10_init_224 [.int 0, .int 0, .int 0, .int (-1), .int 0, .int 0, .int 0, .int 0, .int 0, .ref c13, .ref c20, .ref c27, .ref c34, .ref g43, .ref g54, .ref g65, .ref g76, .ref g87, .ref g98, .int 0, .int 0, .ref g110, .ref g122, .ref g133, .ref g144, .ref c155, .ref c163, .ref g172, .int 0, .ref c182, .ref c190, .ref g200, .ref g212, .int 0, .int 0, .int 0, .int 0, .int 0, .int 0, .int 0, .int 0, .ref c222, .null, .int 0, .null, .int 0] rfl ?_
  refine y_aload_n F dX10_init_227 rfl ?_
  refine y_bipush F (7) dX10_init_228 (by decide) ?_
  refine x_newi F 7 (by decide) rfl (by decide) (by decide) (by decide) dX10_init_230 (fun c230 => ?_)
  refine x_putF2 F (κ := 40) (ty := .array .int) rfl 42 (by decide) rfl rfl (by decide +kernel) rfl rfl lk_X10_82 dX10_init_232 [.int 0, .int 0, .int 0, .int (-1), .int 0, .int 0, .int 0, .int 0, .int 0, .ref c13, .ref c20, .ref c27, .ref c34, .ref g43, .ref g54, .ref g65, .ref g76, .ref g87, .ref g98, .int 0, .int 0, .ref g110, .ref g122, .ref g133, .ref g144, .ref c155, .ref c163, .ref g172, .int 0, .ref c182, .ref c190, .ref g200, .ref g212, .int 0, .int 0, .int 0, .int 0, .int 0, .int 0, .int 0, .int 0, .ref c222, .ref c230, .int 0, .null, .int 0] rfl ?_
  refine y_aload_n F dX10_init_235 rfl ?_
  refine y_bipush F (14) dX10_init_236 (by decide) ?_
  refine x_newl F 14 (by decide) rfl (by decide) (by decide) (by decide) dX10_init_238 (fun c238 => ?_)
  refine x_putF2 F (κ := 40) (ty := .array .long) rfl 44 (by decide) rfl rfl (by decide +kernel) rfl rfl lk_X10_85 dX10_init_240 [.int 0, .int 0, .int 0, .int (-1), .int 0, .int 0, .int 0, .int 0, .int 0, .ref c13, .ref c20, .ref c27, .ref c34, .ref g43, .ref g54, .ref g65, .ref g76, .ref g87, .ref g98, .int 0, .int 0, .ref g110, .ref g122, .ref g133, .ref g144, .ref c155, .ref c163, .ref g172, .int 0, .ref c182, .ref c190, .ref g200, .ref g212, .int 0, .int 0, .int 0, .int 0, .int 0, .int 0, .int 0, .int 0, .ref c222, .ref c230, .int 0, .ref c238, .int 0] rfl ?_
  exact y_eq (hend (adM ad0 c13 c20 c27 c34 g43 g54 g65 g76 g87 g98 g110 g122 g133 g144 c155 c163 g172 c182 c190 g200 g212 c222 c230 c238 q) rfl (fun a b h => (if_pos h).symm)) rfl rfl (congrArg (X ++ ·) (k_model (ad0 := ad0)))
