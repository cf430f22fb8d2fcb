/-! The constructors of Bench, Book, Law, Plan, Roll, Tape (written by program). -/
theorem ar_bytes : Cond.arrayClass .byte ∈ GW := GW_of (by decide +kernel) rfl
def bA (G : Gx) (N : Nat) : va_E := .inl (G.2.2.1 1, N, .inl (fun _ => 0))
section YB
variable {M : Mx} {G : Gx} {own : String} {cc : ByteArray} {nL : Nat} {kk mc ms : Nat} {n ns : Nat} {Kc : va_W → Prop} {X Y : va_W} {o : Nat × va_E} {pc : Nat} {l : List (Option Value)} {st : List Value}
theorem x_newb (F : FC M G own cc nL kk mc ms) {x : Int32} (N : Nat) (hx : ¬ x < 0) (hN : x.toNatClampNeg = N) (hb : N ≤ 100000) (hn : n + 1 ≤ mc) (hns : ns + N ≤ ms) (hd : decode cc pc = .ok (.newarray .byte, 2))
    (k : ∀ q, ZC M G (n + 1) (ns + N) Kc (X ++ o :: (Y ++ [(q, bA G N)])) (pc + 2) l (.ref q :: st)) : ZC M G n ns Kc (X ++ o :: Y) pc l (.int x :: st) := by
  intro H ls locs hP hD hl hS
  have hR : mR M = rc kk mc ms := F.2.2.2.2.2.2.2.2.1
  have hK := F.2.2.2.2.2.1.1
  refine va_newa (atype := .byte) (ty := .byte) (a0 := (N, .inl (fun _ => 0))) F.1 F.2.1 (F.2.2.2.2.1 _ ar_bytes) rfl hK hP hD hS (AA_new F.2.2.2.2.2.1) (fun cA => rfl) hx hN (by show N * 1 ≤ _; omega) (by rw [hR]; exact hn) (by rw [hR]; exact hns) hd (fun q cA H1 hK1 hP1 hD1 hS1 => ?_)
  have e0 := (hK.2 1 _ rfl).2
  have e1 := (hK1.2 6 (cA, .byte) rfl).2
  have e2 : G.2.2.1 1 = cA := Option.some.inj ((show (mS M).vm.findClass ("[" ++ FieldType.byte.toString) = some (G.2.2.1 1) from e0).symm.trans e1)
  rw [← e2, xo_app] at hP1 hD1
  exact k q H1 ls locs hP1 hD1 hl hS1
end YB
theorem c_init0 {l : Launch} {G : Gx} {X : va_W} {q : Nat} : ConC l G 1 2 945 yX0_init cX0_init 1 (X ++ [(q, .inr (kc 6, [.int 0, .null, .null]))]) [.ref q]
    (fun ws' => ∃ a0 a1 : Nat, ws' = X ++ (q, .inr (kc 6, [.int 0, .ref a0, .ref a1])) :: [(a0, iA G 49), (a1, iA G 896)]) := by
  refine conC_intro (by decide +kernel) rfl (Nat.le_of_ble_eq_true rfl) (Nat.le_of_ble_eq_true rfl) (fun M kk hM hk F => ?_)
  show ZC M G 0 0 _ (X ++ (q, .inr (kc 6, [.int 0, .null, .null])) :: []) 0 [some (.ref q)] []
  refine y_aload_n F dX0_init_0 rfl ?_
  refine y_super F (GW_2 49 rfl rfl) oi_1 oi_2 hk rfl (Nat.le_of_ble_eq_true rfl) dX0_init_1 ?_
  refine y_aload_n F dX0_init_4 rfl ?_
  refine y_bipush F (49) dX0_init_5 (by decide) ?_
  refine x_newi F 49 (by decide) rfl (by decide) (by decide) (by decide) dX0_init_7 (fun a0 => ?_)
  refine x_putF F (κ := 6) (ty := .array .int) rfl 1 (by decide) rfl rfl (by decide +kernel) rfl rfl lk_X0_9 dX0_init_9 ?_
  refine y_aload_n F dX0_init_12 rfl ?_
  refine y_sipush F (896) dX0_init_13 (by decide) ?_
  refine x_newi F 896 (by decide) rfl (by decide) (by decide) (by decide) dX0_init_16 (fun a1 => ?_)
  refine x_putF F (κ := 6) (ty := .array .int) rfl 2 (by decide) rfl rfl (by decide +kernel) rfl rfl lk_X0_15 dX0_init_18 ?_
  exact y_ret F dX0_init_21 (by decide) (by decide) ⟨a0, a1, rfl⟩
theorem c_init1 {l : Launch} {G : Gx} {X : va_W} {q : Nat} : ConC l G 1 0 0 yX1_init cX1_init 1 (X ++ [(q, .inr (kc 9, [.int 0, .int 0]))]) [.ref q]
    (fun ws' => ws' = X ++ (q, .inr (kc 9, [.int 0, .int 0])) :: []) := by
  refine conC_intro (by decide +kernel) rfl (Nat.le_of_ble_eq_true rfl) (Nat.le_of_ble_eq_true rfl) (fun M kk hM hk F => ?_)
  show ZC M G 0 0 _ (X ++ (q, .inr (kc 9, [.int 0, .int 0])) :: []) 0 [some (.ref q)] []
  refine y_aload_n F dX1_init_0 rfl ?_
  refine y_super F (GW_2 71 rfl rfl) oi_1 oi_2 hk rfl (Nat.le_of_ble_eq_true rfl) dX1_init_1 ?_
  exact y_ret F dX1_init_4 (by decide) (by decide) rfl
theorem c_init2 {l : Launch} {G : Gx} {X : va_W} {q : Nat} : ConC l G 1 5 608 yX2_init cX2_init 1 (X ++ [(q, .inr (kc 8, [.null, .null, .null, .null, .null, .int 0]))]) [.ref q]
    (fun ws' => ∃ a0 a1 a2 a3 a4 : Nat, ws' = X ++ (q, .inr (kc 8, [.ref a0, .ref a1, .ref a2, .ref a3, .ref a4, .int (1)])) :: [(a0, iA G 8), (a1, iA G 150), (a2, iA G 150), (a3, iA G 150), (a4, iA G 150)]) := by
  refine conC_intro (by decide +kernel) rfl (Nat.le_of_ble_eq_true rfl) (Nat.le_of_ble_eq_true rfl) (fun M kk hM hk F => ?_)
  show ZC M G 0 0 _ (X ++ (q, .inr (kc 8, [.null, .null, .null, .null, .null, .int 0])) :: []) 0 [some (.ref q)] []
  refine y_aload_n F dX2_init_0 rfl ?_
  refine y_super F (GW_1 149 rfl rfl) oi_1 oi_2 hk rfl (Nat.le_of_ble_eq_true rfl) dX2_init_1 ?_
  refine y_aload_n F dX2_init_4 rfl ?_
  refine y_bipush F (8) dX2_init_5 (by decide) ?_
  refine x_newi F 8 (by decide) rfl (by decide) (by decide) (by decide) dX2_init_7 (fun a0 => ?_)
  refine x_putF F (κ := 8) (ty := .array .int) rfl 0 (by decide) rfl rfl (by decide +kernel) rfl rfl lk_X2_11 dX2_init_9 ?_
  refine y_aload_n F dX2_init_12 rfl ?_
  refine y_sipush F (150) dX2_init_13 (by decide) ?_
  refine x_newi F 150 (by decide) rfl (by decide) (by decide) (by decide) dX2_init_16 (fun a1 => ?_)
  refine x_putF F (κ := 8) (ty := .array .int) rfl 1 (by decide) rfl rfl (by decide +kernel) rfl rfl lk_X2_15 dX2_init_18 ?_
  refine y_aload_n F dX2_init_21 rfl ?_
  refine y_sipush F (150) dX2_init_22 (by decide) ?_
  refine x_newi F 150 (by decide) rfl (by decide) (by decide) (by decide) dX2_init_25 (fun a2 => ?_)
  refine x_putF F (κ := 8) (ty := .array .int) rfl 2 (by decide) rfl rfl (by decide +kernel) rfl rfl lk_X2_18 dX2_init_27 ?_
  refine y_aload_n F dX2_init_30 rfl ?_
  refine y_sipush F (150) dX2_init_31 (by decide) ?_
  refine x_newi F 150 (by decide) rfl (by decide) (by decide) (by decide) dX2_init_34 (fun a3 => ?_)
  refine x_putF F (κ := 8) (ty := .array .int) rfl 3 (by decide) rfl rfl (by decide +kernel) rfl rfl lk_X2_21 dX2_init_36 ?_
  refine y_aload_n F dX2_init_39 rfl ?_
  refine y_sipush F (150) dX2_init_40 (by decide) ?_
  refine x_newi F 150 (by decide) rfl (by decide) (by decide) (by decide) dX2_init_43 (fun a4 => ?_)
  refine x_putF F (κ := 8) (ty := .array .int) rfl 4 (by decide) rfl rfl (by decide +kernel) rfl rfl lk_X2_24 dX2_init_45 ?_
  refine y_aload_n F dX2_init_48 rfl ?_
  refine y_iconst F (1) dX2_init_49 (by decide) ?_
  refine x_put F (κ := 8) (ty := .int) rfl 5 (by decide) rfl (by decide +kernel) rfl rfl lk_X2_27 dX2_init_50 ?_
  exact y_ret F dX2_init_53 (by decide) (by decide) ⟨a0, a1, a2, a3, a4, rfl⟩
theorem c_init4 {l : Launch} {G : Gx} {X : va_W} {q : Nat} : ConC l G 1 4 600 yX4_init cX4_init 1 (X ++ [(q, .inr (kc 3, [.int 0, .int 0, .int 0, .int 0, .null, .null, .null, .null]))]) [.ref q]
    (fun ws' => ∃ a0 a1 a2 a3 : Nat, ws' = X ++ (q, .inr (kc 3, [.int 0, .int 0, .int 0, .int 0, .ref a0, .ref a1, .ref a2, .ref a3])) :: [(a0, iA G 150), (a1, iA G 150), (a2, iA G 150), (a3, iA G 150)]) := by
  refine conC_intro (by decide +kernel) rfl (Nat.le_of_ble_eq_true rfl) (Nat.le_of_ble_eq_true rfl) (fun M kk hM hk F => ?_)
  show ZC M G 0 0 _ (X ++ (q, .inr (kc 3, [.int 0, .int 0, .int 0, .int 0, .null, .null, .null, .null])) :: []) 0 [some (.ref q)] []
  refine y_aload_n F dX4_init_0 rfl ?_
  refine y_super F (GW_1 185 rfl rfl) oi_1 oi_2 hk rfl (Nat.le_of_ble_eq_true rfl) dX4_init_1 ?_
  refine y_aload_n F dX4_init_4 rfl ?_
  refine y_sipush F (150) dX4_init_5 (by decide) ?_
  refine x_newi F 150 (by decide) rfl (by decide) (by decide) (by decide) dX4_init_8 (fun a0 => ?_)
  refine x_putF F (κ := 3) (ty := .array .int) rfl 4 (by decide) rfl rfl (by decide +kernel) rfl rfl lk_X4_9 dX4_init_10 ?_
  refine y_aload_n F dX4_init_13 rfl ?_
  refine y_sipush F (150) dX4_init_14 (by decide) ?_
  refine x_newi F 150 (by decide) rfl (by decide) (by decide) (by decide) dX4_init_17 (fun a1 => ?_)
  refine x_putF F (κ := 3) (ty := .array .int) rfl 5 (by decide) rfl rfl (by decide +kernel) rfl rfl lk_X4_15 dX4_init_19 ?_
  refine y_aload_n F dX4_init_22 rfl ?_
  refine y_sipush F (150) dX4_init_23 (by decide) ?_
  refine x_newi F 150 (by decide) rfl (by decide) (by decide) (by decide) dX4_init_26 (fun a2 => ?_)
  refine x_putF F (κ := 3) (ty := .array .int) rfl 6 (by decide) rfl rfl (by decide +kernel) rfl rfl lk_X4_18 dX4_init_28 ?_
  refine y_aload_n F dX4_init_31 rfl ?_
  refine y_sipush F (150) dX4_init_32 (by decide) ?_
  refine x_newi F 150 (by decide) rfl (by decide) (by decide) (by decide) dX4_init_35 (fun a3 => ?_)
  refine x_putF F (κ := 3) (ty := .array .int) rfl 7 (by decide) rfl rfl (by decide +kernel) rfl rfl lk_X4_21 dX4_init_37 ?_
  exact y_ret F dX4_init_40 (by decide) (by decide) ⟨a0, a1, a2, a3, rfl⟩
theorem c_init5 {l : Launch} {G : Gx} {X : va_W} {q : Nat} : ConC l G 1 8 105 yX5_init cX5_init 1 (X ++ [(q, .inr (kc 7, [.int 0, .int 0, .int 0, .int 0, .null, .null, .null, .null, .null, .null, .null, .null]))]) [.ref q]
    (fun ws' => ∃ a0 a1 a2 a3 a4 a5 a6 a7 : Nat, ws' = X ++ (q, .inr (kc 7, [.int 0, .int 0, .int 0, .int (5), .ref a0, .ref a1, .ref a2, .ref a3, .ref a4, .ref a5, .ref a6, .ref a7])) :: [(a0, iA G 7), (a1, iA G 7), (a2, iA G 7), (a3, iA G 20), (a4, iA G 20), (a5, iA G 20), (a6, iA G 12), (a7, iA G 12)]) := by
  refine conC_intro (by decide +kernel) rfl (Nat.le_of_ble_eq_true rfl) (Nat.le_of_ble_eq_true rfl) (fun M kk hM hk F => ?_)
  show ZC M G 0 0 _ (X ++ (q, .inr (kc 7, [.int 0, .int 0, .int 0, .int 0, .null, .null, .null, .null, .null, .null, .null, .null])) :: []) 0 [some (.ref q)] []
  refine y_aload_n F dX5_init_0 rfl ?_
  refine y_super F (GW_1 81 rfl rfl) oi_1 oi_2 hk rfl (Nat.le_of_ble_eq_true rfl) dX5_init_1 ?_
  refine y_aload_n F dX5_init_4 rfl ?_
  refine y_iconst F (5) dX5_init_5 (by decide) ?_
  refine x_put F (κ := 7) (ty := .int) rfl 3 (by decide) rfl (by decide +kernel) rfl rfl lk_X5_9 dX5_init_6 ?_
  refine y_aload_n F dX5_init_9 rfl ?_
  refine y_bipush F (7) dX5_init_10 (by decide) ?_
  refine x_newi F 7 (by decide) rfl (by decide) (by decide) (by decide) dX5_init_12 (fun a0 => ?_)
  refine x_putF F (κ := 7) (ty := .array .int) rfl 4 (by decide) rfl rfl (by decide +kernel) rfl rfl lk_X5_15 dX5_init_14 ?_
  refine y_aload_n F dX5_init_17 rfl ?_
  refine y_bipush F (7) dX5_init_18 (by decide) ?_
  refine x_newi F 7 (by decide) rfl (by decide) (by decide) (by decide) dX5_init_20 (fun a1 => ?_)
  refine x_putF F (κ := 7) (ty := .array .int) rfl 5 (by decide) rfl rfl (by decide +kernel) rfl rfl lk_X5_19 dX5_init_22 ?_
  refine y_aload_n F dX5_init_25 rfl ?_
  refine y_bipush F (7) dX5_init_26 (by decide) ?_
  refine x_newi F 7 (by decide) rfl (by decide) (by decide) (by decide) dX5_init_28 (fun a2 => ?_)
  refine x_putF F (κ := 7) (ty := .array .int) rfl 6 (by decide) rfl rfl (by decide +kernel) rfl rfl lk_X5_22 dX5_init_30 ?_
  refine y_aload_n F dX5_init_33 rfl ?_
  refine y_bipush F (20) dX5_init_34 (by decide) ?_
  refine x_newi F 20 (by decide) rfl (by decide) (by decide) (by decide) dX5_init_36 (fun a3 => ?_)
  refine x_putF F (κ := 7) (ty := .array .int) rfl 7 (by decide) rfl rfl (by decide +kernel) rfl rfl lk_X5_25 dX5_init_38 ?_
  refine y_aload_n F dX5_init_41 rfl ?_
  refine y_bipush F (20) dX5_init_42 (by decide) ?_
  refine x_newi F 20 (by decide) rfl (by decide) (by decide) (by decide) dX5_init_44 (fun a4 => ?_)
  refine x_putF F (κ := 7) (ty := .array .int) rfl 8 (by decide) rfl rfl (by decide +kernel) rfl rfl lk_X5_28 dX5_init_46 ?_
  refine y_aload_n F dX5_init_49 rfl ?_
  refine y_bipush F (20) dX5_init_50 (by decide) ?_
  refine x_newi F 20 (by decide) rfl (by decide) (by decide) (by decide) dX5_init_52 (fun a5 => ?_)
  refine x_putF F (κ := 7) (ty := .array .int) rfl 9 (by decide) rfl rfl (by decide +kernel) rfl rfl lk_X5_31 dX5_init_54 ?_
  refine y_aload_n F dX5_init_57 rfl ?_
  refine y_bipush F (12) dX5_init_58 (by decide) ?_
  refine x_newi F 12 (by decide) rfl (by decide) (by decide) (by decide) dX5_init_60 (fun a6 => ?_)
  refine x_putF F (κ := 7) (ty := .array .int) rfl 10 (by decide) rfl rfl (by decide +kernel) rfl rfl lk_X5_34 dX5_init_62 ?_
  refine y_aload_n F dX5_init_65 rfl ?_
  refine y_bipush F (12) dX5_init_66 (by decide) ?_
  refine x_newi F 12 (by decide) rfl (by decide) (by decide) (by decide) dX5_init_68 (fun a7 => ?_)
  refine x_putF F (κ := 7) (ty := .array .int) rfl 11 (by decide) rfl rfl (by decide +kernel) rfl rfl lk_X5_37 dX5_init_70 ?_
  exact y_ret F dX5_init_73 (by decide) (by decide) ⟨a0, a1, a2, a3, a4, a5, a6, a7, rfl⟩
theorem c_init8 {l : Launch} {G : Gx} {X : va_W} {q : Nat} : ConC l G 1 1 600 yX8_init cX8_init 1 (X ++ [(q, .inr (kc 1, [.int 0, .int 0, .int 0, .int 0, .int 0, .int 0, .null]))]) [.ref q]
    (fun ws' => ∃ a0 : Nat, ws' = X ++ (q, .inr (kc 1, [.int 0, .int 0, .int (-1), .int 0, .int 0, .int 0, .ref a0])) :: [(a0, bA G 600)]) := by
  refine conC_intro (by decide +kernel) rfl (Nat.le_of_ble_eq_true rfl) (Nat.le_of_ble_eq_true rfl) (fun M kk hM hk F => ?_)
  show ZC M G 0 0 _ (X ++ (q, .inr (kc 1, [.int 0, .int 0, .int 0, .int 0, .int 0, .int 0, .null])) :: []) 0 [some (.ref q)] []
  refine y_aload_n F dX8_init_0 rfl ?_
  refine y_super F (GW_1 37 rfl rfl) oi_1 oi_2 hk rfl (Nat.le_of_ble_eq_true rfl) dX8_init_1 ?_
  refine y_aload_n F dX8_init_4 rfl ?_
  refine y_iconst F (-1) dX8_init_5 (by decide) ?_
  refine x_put F (κ := 1) (ty := .int) rfl 2 (by decide) rfl (by decide +kernel) rfl rfl lk_X8_9 dX8_init_6 ?_
  refine y_aload_n F dX8_init_9 rfl ?_
  refine y_sipush F (600) dX8_init_10 (by decide) ?_
  refine x_newb F 600 (by decide) rfl (by decide) (by decide) (by decide) dX8_init_13 (fun a0 => ?_)
  refine x_putF F (κ := 1) (ty := .array .byte) rfl 6 (by decide) rfl rfl (by decide +kernel) rfl rfl lk_X8_15 dX8_init_15 ?_
  exact y_ret F dX8_init_18 (by decide) (by decide) ⟨a0, rfl⟩
