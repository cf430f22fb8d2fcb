/-! Constructors that make objects: the row for 'new', Stage. -/
section YN
variable {M : Mx} {G : Gx} {own : String} {cc : ByteArray} {nL : Nat} {kk mc ms : Nat} {n ns : Nat} {Kc : va_W → Prop} {X Y : va_W} {o : Nat × va_E} {pc : Nat} {l : List (Option Value)} {st : List Value}
theorem x_new (F : FC M G own cc nL kk mc ms) {i : Nat} (κ : Nat) (fs : List Value) (hfs : ∀ j, j < nf κ → defaultValue (vCty κ j) = vp_V fs j) (h1 : Cond.classLink own i (vC κ).1 ∈ GW) (h2 : Cond.instantiable (vC κ).1 (nf κ) ∈ GW) (h3 : Cond.initialized (vC κ).1 ∈ GW) (hn : n + 1 ≤ mc) (hns : ns + nf κ ≤ ms) (hd : decode cc pc = .ok (.new i, 3))
    (k : ∀ q, ZC M G (n + 1) (ns + nf κ) Kc ((X ++ o :: Y) ++ [(q, .inr (kc κ, fs))]) (pc + 3) l (.ref q :: st)) : ZC M G n ns Kc (X ++ o :: Y) pc l st := by
  intro H ls locs hP hD hl hS
  have hR : mR M = rc kk mc ms := F.2.2.2.2.2.2.2.2.1
  exact va_new (ci := kc κ) (C := (vC κ).1) (T := (vC κ).2.1) (N := nf κ) F.1 F.2.1 F.2.2.2.2.1 (vC_in κ) (vCty κ) (vC_ty κ) F.2.2.2.1 (F.2.2.2.2.1 _ h1) (F.2.2.2.2.1 _ h2) (F.2.2.2.2.1 _ h3) F.2.2.2.2.2.1.1 hP hD hS (AA_new F.2.2.2.2.2.1) (by rw [vC_at κ, ← vC_n κ]) hfs (by rw [hR]; exact hn) (by rw [hR]; exact hns) hd (fun q H1 hP1 hD1 hS1 => k q H1 ls locs hP1 hD1 hl hS1)
end YN
theorem c_init7 {l : Launch} {G : Gx} {X : va_W} {q : Nat} : ConC l G 2 15 731 yX7_init cX7_init 1 (X ++ [(q, .inr (kc 2, [.null, .null]))]) [.ref q]
    (fun ws' => ∃ r a0 a1 a2 a3 a4 a5 a6 a7 u b0 b1 b2 b3 b4 : Nat, ws' = X ++ (q, .inr (kc 2, [.ref r, .ref u])) :: [(r, .inr (kc 7, [.int 0, .int 0, .int 0, .int (5), .ref a0, .ref a1, .ref a2, .ref a3, .ref a4, .ref a5, .ref a6, .ref a7])), (a0, iA G 7), (a1, iA G 7), (a2, iA G 7), (a3, iA G 20), (a4, iA G 20), (a5, iA G 20), (a6, iA G 12), (a7, iA G 12),
      (u, .inr (kc 8, [.ref b0, .ref b1, .ref b2, .ref b3, .ref b4, .int (1)])), (b0, iA G 8), (b1, iA G 150), (b2, iA G 150), (b3, iA G 150), (b4, iA G 150)]) := by
  refine conC_intro (by decide +kernel) rfl (Nat.le_of_ble_eq_true rfl) (Nat.le_of_ble_eq_true rfl) (fun M kk hM hk F => ?_)
  show ZC M G 0 0 _ (X ++ (q, .inr (kc 2, [.null, .null])) :: []) 0 [some (.ref q)] []
  refine y_aload_n F dX7_init_0 rfl ?_
  refine y_super F (GW_1 75 rfl rfl) oi_1 oi_2 (by omega) rfl (Nat.le_of_ble_eq_true rfl) dX7_init_1 ?_
  refine y_aload_n F dX7_init_4 rfl ?_
  refine x_new F 7 [.int 0, .int 0, .int 0, .int 0, .null, .null, .null, .null, .null, .null, .null, .null] (by decide +kernel) (GW_1 76 rfl rfl) (GW_1 77 rfl rfl) (GW_1 4 rfl rfl) (by decide) (by decide) dX7_init_5 (fun r => ?_)
  refine y_dup F dX7_init_8 rfl ?_
  refine y_initN F (k' := 1) (mc' := 8) (ms' := 105) (y := yX5_init) [.ref r, .ref q] dX7_init_9 rfl (by decide) rfl ⟨GW_1 79 rfl rfl, GW_1 4 rfl rfl, GW_1 80 rfl rfl⟩ rfl (by decide +kernel) (by omega) (by decide) (by decide) (by decide) (Nat.le_of_ble_eq_true rfl) rfl (conC_mono c_init5 ?_)
  rintro ws' ⟨a0, a1, a2, a3, a4, a5, a6, a7, rfl⟩
  rw [List.append_assoc, List.cons_append, List.nil_append]
  refine x_put F (κ := 2) (ty := .object "VowelChoir$Roll") rfl 0 (by decide) rfl (by decide +kernel) rfl rfl lk_X7_12 dX7_init_12 ?_
  refine y_aload_n F dX7_init_15 rfl ?_
  refine x_new F 8 [.null, .null, .null, .null, .null, .int 0] (by decide +kernel) (GW_1 144 rfl rfl) (GW_1 145 rfl rfl) (GW_1 5 rfl rfl) (by decide) (by decide) dX7_init_16 (fun u => ?_)
  refine y_dup F dX7_init_19 rfl ?_
  refine y_initN F (k' := 1) (mc' := 5) (ms' := 608) (y := yX2_init) [.ref u, .ref q] dX7_init_20 rfl (by decide) rfl ⟨GW_1 147 rfl rfl, GW_1 5 rfl rfl, GW_1 148 rfl rfl⟩ rfl (by decide +kernel) (by omega) (by decide) (by decide) (by decide) (Nat.le_of_ble_eq_true rfl) rfl (conC_mono c_init2 ?_)
  rintro ws' ⟨b0, b1, b2, b3, b4, rfl⟩
  rw [List.append_assoc, List.cons_append]
  refine x_put F (κ := 2) (ty := .object "VowelChoir$Law") rfl 1 (by decide) rfl (by decide +kernel) rfl rfl lk_X7_21 dX7_init_23 ?_
  exact y_ret F dX7_init_26 (by decide) (by decide) ⟨r, a0, a1, a2, a3, a4, a5, a6, a7, u, b0, b1, b2, b3, b4, rfl⟩
