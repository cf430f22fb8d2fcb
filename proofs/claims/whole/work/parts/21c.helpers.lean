/-! The helpers of the law (written by program): each calls one method of the class; 0 and its answer in out[0], or the number of what was thrown. -/
theorem lk_L_13 : Cond.classLink RL 13 nIae ∈ GW := GW_3 44 rfl rfl
theorem lk_L_31 : Cond.classLink RL 31 nNse ∈ GW := GW_4 183 rfl rfl
theorem mN_RL : Cond.initialized RL ∈ GW := GW_1 0 rfl rfl
theorem kL_choir : Cond.methodLink RL 126 yL_choir ∈ GW ∧ Cond.static yL_choir ∈ GW ∧ Cond.initialized yL_choir.cls ∈ GW ∧ Cond.codeWith yL_choir cL_choir 4 (some .int) [(0, 9, 12, 13)] ∈ GW := ⟨GW_3 41 rfl rfl, GW_3 42 rfl rfl, mN_RL, GW_3 43 rfl rfl⟩
theorem kY_choir : yL_choir.cls ≠ "java/lang/invoke/MethodHandle" ∧ yL_choir.cls ≠ "java/lang/invoke/VarHandle" ∧ (parseMethodDescriptor yL_choir.desc).map (fun d => d.parameters.length) = some 3 := by decide +kernel
abbrev CH_choir (l : Launch) (G : Gx) := ConH l G 11 1 yL_choir cL_choir 4 (some .int) [(0, 9, 12, 13)]
theorem k_choir {l : Launch} {G : Gx} {w : Wd} {p0 : Int32} {K : Option Value → Wd → Prop} {X : String → Wd → Prop} (hl : l.stackTraces = false) (hf : G.2.2.1 7 ≠ 0) (h : C_X9_choir l G w [.ref (G.2.1 0 0), .int p0] K X) (hK : ∀ r w2, K r w2 → ∃ v, r = some (.int v)) (hX : ∀ E w2, X E w2 → E = nIae) :
    CH_choir l G w [.ref (G.2.1 0 0), .int p0, .ref (G.2.1 80 0)] (fun r w2 => (∃ (v : Int32) (w1 : Wd), K (some (.int v)) w1 ∧ r = some (.int 0) ∧ w2 = setL w1 80 0 0 v.toInt64) ∨ (X nIae w2 ∧ r = some (.int 1))) := by
  refine conH_intro hl (by decide +kernel) (Nat.le_of_ble_eq_true rfl) (Nat.le_of_ble_eq_true rfl) (fun M kk hM hk F => ?_)
  show Z M G 0 _ _ w 0 [some (.ref (G.2.1 0 0)), some (.int p0), some (.ref (G.2.1 80 0)), none] []
  rw [← hM] at h
  refine h_aload_n F dL_choir_0 rfl ?_
  refine h_iconst F 0 dL_choir_1 (by decide) ?_
  refine h_aload_n F dL_choir_2 rfl ?_
  refine h_iload_n F dL_choir_3 rfl ?_
  refine h_callV F (k' := 10) (mc' := 1) [.int p0] [.int 0, .ref (G.2.1 80 0)] dL_choir_4 rfl rfl (by decide) rfl cl_L_7 hy_X9_choir (by omega) (by decide) (by decide) (Nat.le_of_ble_eq_true rfl) rfl (con_mono h ?_ ?_)
  · intro r w1 hr
    obtain ⟨v, rfl⟩ := hK r w1 hr
    show Z M G (0 + 1) _ _ w1 7 [some (.ref (G.2.1 0 0)), some (.int p0), some (.ref (G.2.1 80 0)), none] [.int v, .int 0, .ref (G.2.1 80 0)]
    refine h_i2l F dL_choir_7 ?_
    refine h_out F hf dL_choir_8 ?_
    refine h_goto F 15 dL_choir_9 (by decide) ?_
    refine h_iconst F 0 dL_choir_15 (by decide) ?_
    exact h_iret F dL_choir_16 (by decide) (Or.inl ⟨v, w1, hr, rfl, rfl⟩)
  · intro E w1 hx
    cases hX E w1 hx
    refine ⟨12, ct_1 F (by decide) (by decide) lk_L_13 (by decide), fun q => ?_⟩
    refine h_astore_n F dL_choir_12 (by show 3 < 4; decide) ?_
    refine h_iconst F 1 dL_choir_13 (by decide) ?_
    exact h_iret F dL_choir_14 (by decide) (Or.inr ⟨hx, rfl⟩)
theorem kL_law : Cond.methodLink RL 136 yL_law ∈ GW ∧ Cond.static yL_law ∈ GW ∧ Cond.initialized yL_law.cls ∈ GW ∧ Cond.codeWith yL_law cL_law 4 (some .int) [(0, 9, 12, 13)] ∈ GW := ⟨GW_4 24 rfl rfl, GW_4 25 rfl rfl, mN_RL, GW_4 26 rfl rfl⟩
theorem kY_law : yL_law.cls ≠ "java/lang/invoke/MethodHandle" ∧ yL_law.cls ≠ "java/lang/invoke/VarHandle" ∧ (parseMethodDescriptor yL_law.desc).map (fun d => d.parameters.length) = some 3 := by decide +kernel
abbrev CH_law (l : Launch) (G : Gx) := ConH l G 52 1 yL_law cL_law 4 (some .int) [(0, 9, 12, 13)]
theorem k_law {l : Launch} {G : Gx} {w : Wd} {p0 : Int32} {K : Option Value → Wd → Prop} {X : String → Wd → Prop} (hl : l.stackTraces = false) (hf : G.2.2.1 7 ≠ 0) (h : C_X9_law l G w [.ref (G.2.1 0 0), .int p0] K X) (hK : ∀ r w2, K r w2 → ∃ v, r = some (.int v)) (hX : ∀ E w2, X E w2 → E = nIae) :
    CH_law l G w [.ref (G.2.1 0 0), .int p0, .ref (G.2.1 80 0)] (fun r w2 => (∃ (v : Int32) (w1 : Wd), K (some (.int v)) w1 ∧ r = some (.int 0) ∧ w2 = setL w1 80 0 0 v.toInt64) ∨ (X nIae w2 ∧ r = some (.int 1))) := by
  refine conH_intro hl (by decide +kernel) (Nat.le_of_ble_eq_true rfl) (Nat.le_of_ble_eq_true rfl) (fun M kk hM hk F => ?_)
  show Z M G 0 _ _ w 0 [some (.ref (G.2.1 0 0)), some (.int p0), some (.ref (G.2.1 80 0)), none] []
  rw [← hM] at h
  refine h_aload_n F dL_law_0 rfl ?_
  refine h_iconst F 0 dL_law_1 (by decide) ?_
  refine h_aload_n F dL_law_2 rfl ?_
  refine h_iload_n F dL_law_3 rfl ?_
  refine h_callV F (k' := 51) (mc' := 1) [.int p0] [.int 0, .ref (G.2.1 80 0)] dL_law_4 rfl rfl (by decide) rfl cl_L_15 hy_X9_law (by omega) (by decide) (by decide) (Nat.le_of_ble_eq_true rfl) rfl (con_mono h ?_ ?_)
  · intro r w1 hr
    obtain ⟨v, rfl⟩ := hK r w1 hr
    show Z M G (0 + 1) _ _ w1 7 [some (.ref (G.2.1 0 0)), some (.int p0), some (.ref (G.2.1 80 0)), none] [.int v, .int 0, .ref (G.2.1 80 0)]
    refine h_i2l F dL_law_7 ?_
    refine h_out F hf dL_law_8 ?_
    refine h_goto F 15 dL_law_9 (by decide) ?_
    refine h_iconst F 0 dL_law_15 (by decide) ?_
    exact h_iret F dL_law_16 (by decide) (Or.inl ⟨v, w1, hr, rfl, rfl⟩)
  · intro E w1 hx
    cases hX E w1 hx
    refine ⟨12, ct_1 F (by decide) (by decide) lk_L_13 (by decide), fun q => ?_⟩
    refine h_astore_n F dL_law_12 (by show 3 < 4; decide) ?_
    refine h_iconst F 1 dL_law_13 (by decide) ?_
    exact h_iret F dL_law_14 (by decide) (Or.inr ⟨hx, rfl⟩)
theorem kL_work : Cond.methodLink RL 139 yL_work ∈ GW ∧ Cond.static yL_work ∈ GW ∧ Cond.initialized yL_work.cls ∈ GW ∧ Cond.codeWith yL_work cL_work 4 (some .int) [(0, 9, 12, 13)] ∈ GW := ⟨GW_4 75 rfl rfl, GW_4 76 rfl rfl, mN_RL, GW_4 77 rfl rfl⟩
theorem kY_work : yL_work.cls ≠ "java/lang/invoke/MethodHandle" ∧ yL_work.cls ≠ "java/lang/invoke/VarHandle" ∧ (parseMethodDescriptor yL_work.desc).map (fun d => d.parameters.length) = some 3 := by decide +kernel
abbrev CH_work (l : Launch) (G : Gx) := ConH l G 52 1 yL_work cL_work 4 (some .int) [(0, 9, 12, 13)]
theorem k_work {l : Launch} {G : Gx} {w : Wd} {p0 : Int32} {K : Option Value → Wd → Prop} {X : String → Wd → Prop} (hl : l.stackTraces = false) (hf : G.2.2.1 7 ≠ 0) (h : C_X9_work l G w [.ref (G.2.1 0 0), .int p0] K X) (hK : ∀ r w2, K r w2 → ∃ v, r = some (.int v)) (hX : ∀ E w2, X E w2 → E = nIae) :
    CH_work l G w [.ref (G.2.1 0 0), .int p0, .ref (G.2.1 80 0)] (fun r w2 => (∃ (v : Int32) (w1 : Wd), K (some (.int v)) w1 ∧ r = some (.int 0) ∧ w2 = setL w1 80 0 0 v.toInt64) ∨ (X nIae w2 ∧ r = some (.int 1))) := by
  refine conH_intro hl (by decide +kernel) (Nat.le_of_ble_eq_true rfl) (Nat.le_of_ble_eq_true rfl) (fun M kk hM hk F => ?_)
  show Z M G 0 _ _ w 0 [some (.ref (G.2.1 0 0)), some (.int p0), some (.ref (G.2.1 80 0)), none] []
  rw [← hM] at h
  refine h_aload_n F dL_work_0 rfl ?_
  refine h_iconst F 0 dL_work_1 (by decide) ?_
  refine h_aload_n F dL_work_2 rfl ?_
  refine h_iload_n F dL_work_3 rfl ?_
  refine h_callV F (k' := 51) (mc' := 1) [.int p0] [.int 0, .ref (G.2.1 80 0)] dL_work_4 rfl rfl (by decide) rfl cl_L_18 hy_X9_work (by omega) (by decide) (by decide) (Nat.le_of_ble_eq_true rfl) rfl (con_mono h ?_ ?_)
  · intro r w1 hr
    obtain ⟨v, rfl⟩ := hK r w1 hr
    show Z M G (0 + 1) _ _ w1 7 [some (.ref (G.2.1 0 0)), some (.int p0), some (.ref (G.2.1 80 0)), none] [.int v, .int 0, .ref (G.2.1 80 0)]
    refine h_i2l F dL_work_7 ?_
    refine h_out F hf dL_work_8 ?_
    refine h_goto F 15 dL_work_9 (by decide) ?_
    refine h_iconst F 0 dL_work_15 (by decide) ?_
    exact h_iret F dL_work_16 (by decide) (Or.inl ⟨v, w1, hr, rfl, rfl⟩)
  · intro E w1 hx
    cases hX E w1 hx
    refine ⟨12, ct_1 F (by decide) (by decide) lk_L_13 (by decide), fun q => ?_⟩
    refine h_astore_n F dL_work_12 (by show 3 < 4; decide) ?_
    refine h_iconst F 1 dL_work_13 (by decide) ?_
    exact h_iret F dL_work_14 (by decide) (Or.inr ⟨hx, rfl⟩)
theorem kL_book : Cond.methodLink RL 142 yL_book ∈ GW ∧ Cond.static yL_book ∈ GW ∧ Cond.initialized yL_book.cls ∈ GW ∧ Cond.codeWith yL_book cL_book 4 (some .int) [(0, 9, 12, 13)] ∈ GW := ⟨GW_4 150 rfl rfl, GW_4 151 rfl rfl, mN_RL, GW_4 152 rfl rfl⟩
theorem kY_book : yL_book.cls ≠ "java/lang/invoke/MethodHandle" ∧ yL_book.cls ≠ "java/lang/invoke/VarHandle" ∧ (parseMethodDescriptor yL_book.desc).map (fun d => d.parameters.length) = some 3 := by decide +kernel
abbrev CH_book (l : Launch) (G : Gx) := ConH l G 9 1 yL_book cL_book 4 (some .int) [(0, 9, 12, 13)]
theorem k_book {l : Launch} {G : Gx} {w : Wd} {p0 : Int32} {K : Option Value → Wd → Prop} {X : String → Wd → Prop} (hl : l.stackTraces = false) (hf : G.2.2.1 7 ≠ 0) (h : C_X9_book l G w [.ref (G.2.1 0 0), .int p0] K X) (hK : ∀ r w2, K r w2 → ∃ v, r = some (.int v)) (hX : ∀ E w2, X E w2 → E = nIae) :
    CH_book l G w [.ref (G.2.1 0 0), .int p0, .ref (G.2.1 80 0)] (fun r w2 => (∃ (v : Int32) (w1 : Wd), K (some (.int v)) w1 ∧ r = some (.int 0) ∧ w2 = setL w1 80 0 0 v.toInt64) ∨ (X nIae w2 ∧ r = some (.int 1))) := by
  refine conH_intro hl (by decide +kernel) (Nat.le_of_ble_eq_true rfl) (Nat.le_of_ble_eq_true rfl) (fun M kk hM hk F => ?_)
  show Z M G 0 _ _ w 0 [some (.ref (G.2.1 0 0)), some (.int p0), some (.ref (G.2.1 80 0)), none] []
  rw [← hM] at h
  refine h_aload_n F dL_book_0 rfl ?_
  refine h_iconst F 0 dL_book_1 (by decide) ?_
  refine h_aload_n F dL_book_2 rfl ?_
  refine h_iload_n F dL_book_3 rfl ?_
  refine h_callV F (k' := 8) (mc' := 1) [.int p0] [.int 0, .ref (G.2.1 80 0)] dL_book_4 rfl rfl (by decide) rfl cl_L_21 hy_X9_book (by omega) (by decide) (by decide) (Nat.le_of_ble_eq_true rfl) rfl (con_mono h ?_ ?_)
  · intro r w1 hr
    obtain ⟨v, rfl⟩ := hK r w1 hr
    show Z M G (0 + 1) _ _ w1 7 [some (.ref (G.2.1 0 0)), some (.int p0), some (.ref (G.2.1 80 0)), none] [.int v, .int 0, .ref (G.2.1 80 0)]
    refine h_i2l F dL_book_7 ?_
    refine h_out F hf dL_book_8 ?_
    refine h_goto F 15 dL_book_9 (by decide) ?_
    refine h_iconst F 0 dL_book_15 (by decide) ?_
    exact h_iret F dL_book_16 (by decide) (Or.inl ⟨v, w1, hr, rfl, rfl⟩)
  · intro E w1 hx
    cases hX E w1 hx
    refine ⟨12, ct_1 F (by decide) (by decide) lk_L_13 (by decide), fun q => ?_⟩
    refine h_astore_n F dL_book_12 (by show 3 < 4; decide) ?_
    refine h_iconst F 1 dL_book_13 (by decide) ?_
    exact h_iret F dL_book_14 (by decide) (Or.inr ⟨hx, rfl⟩)
theorem kL_told : Cond.methodLink RL 153 yL_told ∈ GW ∧ Cond.static yL_told ∈ GW ∧ Cond.initialized yL_told.cls ∈ GW ∧ Cond.codeWith yL_told cL_told 4 (some .int) [(0, 9, 12, 13)] ∈ GW := ⟨GW_4 166 rfl rfl, GW_4 167 rfl rfl, mN_RL, GW_4 168 rfl rfl⟩
theorem kY_told : yL_told.cls ≠ "java/lang/invoke/MethodHandle" ∧ yL_told.cls ≠ "java/lang/invoke/VarHandle" ∧ (parseMethodDescriptor yL_told.desc).map (fun d => d.parameters.length) = some 3 := by decide +kernel
abbrev CH_told (l : Launch) (G : Gx) := ConH l G 8 1 yL_told cL_told 4 (some .int) [(0, 9, 12, 13)]
theorem k_told {l : Launch} {G : Gx} {w : Wd} {p0 : Int32} {K : Option Value → Wd → Prop} {X : String → Wd → Prop} (hl : l.stackTraces = false) (hf : G.2.2.1 7 ≠ 0) (h : C_X9_told l G w [.ref (G.2.1 0 0), .int p0] K X) (hK : ∀ r w2, K r w2 → ∃ v, r = some (.int v)) (hX : ∀ E w2, X E w2 → E = nIae) :
    CH_told l G w [.ref (G.2.1 0 0), .int p0, .ref (G.2.1 80 0)] (fun r w2 => (∃ (v : Int32) (w1 : Wd), K (some (.int v)) w1 ∧ r = some (.int 0) ∧ w2 = setL w1 80 0 0 v.toInt64) ∨ (X nIae w2 ∧ r = some (.int 1))) := by
  refine conH_intro hl (by decide +kernel) (Nat.le_of_ble_eq_true rfl) (Nat.le_of_ble_eq_true rfl) (fun M kk hM hk F => ?_)
  show Z M G 0 _ _ w 0 [some (.ref (G.2.1 0 0)), some (.int p0), some (.ref (G.2.1 80 0)), none] []
  rw [← hM] at h
  refine h_aload_n F dL_told_0 rfl ?_
  refine h_iconst F 0 dL_told_1 (by decide) ?_
  refine h_aload_n F dL_told_2 rfl ?_
  refine h_iload_n F dL_told_3 rfl ?_
  refine h_callV F (k' := 7) (mc' := 1) [.int p0] [.int 0, .ref (G.2.1 80 0)] dL_told_4 rfl rfl (by decide) rfl cl_L_24 hy_X9_told (by omega) (by decide) (by decide) (Nat.le_of_ble_eq_true rfl) rfl (con_mono h ?_ ?_)
  · intro r w1 hr
    obtain ⟨v, rfl⟩ := hK r w1 hr
    show Z M G (0 + 1) _ _ w1 7 [some (.ref (G.2.1 0 0)), some (.int p0), some (.ref (G.2.1 80 0)), none] [.int v, .int 0, .ref (G.2.1 80 0)]
    refine h_i2l F dL_told_7 ?_
    refine h_out F hf dL_told_8 ?_
    refine h_goto F 15 dL_told_9 (by decide) ?_
    refine h_iconst F 0 dL_told_15 (by decide) ?_
    exact h_iret F dL_told_16 (by decide) (Or.inl ⟨v, w1, hr, rfl, rfl⟩)
  · intro E w1 hx
    cases hX E w1 hx
    refine ⟨12, ct_1 F (by decide) (by decide) lk_L_13 (by decide), fun q => ?_⟩
    refine h_astore_n F dL_told_12 (by show 3 < 4; decide) ?_
    refine h_iconst F 1 dL_told_13 (by decide) ?_
    exact h_iret F dL_told_14 (by decide) (Or.inr ⟨hx, rfl⟩)
theorem kL_singer : Cond.methodLink RL 156 yL_singer ∈ GW ∧ Cond.static yL_singer ∈ GW ∧ Cond.initialized yL_singer.cls ∈ GW ∧ Cond.codeWith yL_singer cL_singer 5 (some .int) [(0, 10, 13, 31), (0, 10, 17, 13)] ∈ GW := ⟨GW_4 180 rfl rfl, GW_4 181 rfl rfl, mN_RL, GW_4 182 rfl rfl⟩
theorem kY_singer : yL_singer.cls ≠ "java/lang/invoke/MethodHandle" ∧ yL_singer.cls ≠ "java/lang/invoke/VarHandle" ∧ (parseMethodDescriptor yL_singer.desc).map (fun d => d.parameters.length) = some 4 := by decide +kernel
abbrev CH_singer (l : Launch) (G : Gx) := ConH l G 8 2 yL_singer cL_singer 5 (some .int) [(0, 10, 13, 31), (0, 10, 17, 13)]
theorem k_singer {l : Launch} {G : Gx} {w : Wd} {p0 p1 : Int32} {K : Option Value → Wd → Prop} {X : String → Wd → Prop} (hl : l.stackTraces = false) (hf : G.2.2.1 7 ≠ 0) (h : C_X9_singer l G w [.ref (G.2.1 0 0), .int p0, .int p1] K X) (hK : ∀ r w2, K r w2 → ∃ v, r = some (.int v)) (hX : ∀ E w2, X E w2 → E = nNse ∨ E = nIae) :
    CH_singer l G w [.ref (G.2.1 0 0), .int p0, .int p1, .ref (G.2.1 80 0)] (fun r w2 => (∃ (v : Int32) (w1 : Wd), K (some (.int v)) w1 ∧ r = some (.int 0) ∧ w2 = setL w1 80 0 0 v.toInt64) ∨ (X nNse w2 ∧ r = some (.int 1)) ∨ (X nIae w2 ∧ r = some (.int 2))) := by
  refine conH_intro hl (by decide +kernel) (Nat.le_of_ble_eq_true rfl) (Nat.le_of_ble_eq_true rfl) (fun M kk hM hk F => ?_)
  show Z M G 0 _ _ w 0 [some (.ref (G.2.1 0 0)), some (.int p0), some (.int p1), some (.ref (G.2.1 80 0)), none] []
  rw [← hM] at h
  refine h_aload_n F dL_singer_0 rfl ?_
  refine h_iconst F 0 dL_singer_1 (by decide) ?_
  refine h_aload_n F dL_singer_2 rfl ?_
  refine h_iload_n F dL_singer_3 rfl ?_
  refine h_iload_n F dL_singer_4 rfl ?_
  refine h_callV F (k' := 7) (mc' := 2) [.int p0, .int p1] [.int 0, .ref (G.2.1 80 0)] dL_singer_5 rfl rfl (by decide) rfl cl_L_27 hy_X9_singer (by omega) (by decide) (by decide) (Nat.le_of_ble_eq_true rfl) rfl (con_mono h ?_ ?_)
  · intro r w1 hr
    obtain ⟨v, rfl⟩ := hK r w1 hr
    show Z M G (0 + 2) _ _ w1 8 [some (.ref (G.2.1 0 0)), some (.int p0), some (.int p1), some (.ref (G.2.1 80 0)), none] [.int v, .int 0, .ref (G.2.1 80 0)]
    refine h_i2l F dL_singer_8 ?_
    refine h_out F hf dL_singer_9 ?_
    refine h_goto F 21 dL_singer_10 (by decide) ?_
    refine h_iconst F 0 dL_singer_21 (by decide) ?_
    exact h_iret F dL_singer_22 (by decide) (Or.inl ⟨v, w1, hr, rfl, rfl⟩)
  · intro E w1 hx
    rcases hX E w1 hx with e | e
    · subst e
      refine ⟨13, ct_21 F (by decide) (by decide) lk_L_31 (by decide), fun q => ?_⟩
      refine h_astore F dL_singer_13 (by show 4 < 5; decide) ?_
      refine h_iconst F 1 dL_singer_15 (by decide) ?_
      exact h_iret F dL_singer_16 (by decide) (Or.inr (Or.inl ⟨hx, rfl⟩))
    · subst e
      refine ⟨17, ct_22 F (by decide) lk_L_31 (by decide) lk_L_13 (by decide), fun q => ?_⟩
      refine h_astore F dL_singer_17 (by show 4 < 5; decide) ?_
      refine h_iconst F 2 dL_singer_19 (by decide) ?_
      exact h_iret F dL_singer_20 (by decide) (Or.inr (Or.inr ⟨hx, rfl⟩))
theorem kL_note : Cond.methodLink RL 160 yL_note ∈ GW ∧ Cond.static yL_note ∈ GW ∧ Cond.initialized yL_note.cls ∈ GW ∧ Cond.codeWith yL_note cL_note 5 (some .int) [(0, 10, 13, 31), (0, 10, 17, 13)] ∈ GW := ⟨GW_4 212 rfl rfl, GW_4 213 rfl rfl, mN_RL, GW_4 214 rfl rfl⟩
theorem kY_note : yL_note.cls ≠ "java/lang/invoke/MethodHandle" ∧ yL_note.cls ≠ "java/lang/invoke/VarHandle" ∧ (parseMethodDescriptor yL_note.desc).map (fun d => d.parameters.length) = some 4 := by decide +kernel
abbrev CH_note (l : Launch) (G : Gx) := ConH l G 8 2 yL_note cL_note 5 (some .int) [(0, 10, 13, 31), (0, 10, 17, 13)]
theorem k_note {l : Launch} {G : Gx} {w : Wd} {p0 p1 : Int32} {K : Option Value → Wd → Prop} {X : String → Wd → Prop} (hl : l.stackTraces = false) (hf : G.2.2.1 7 ≠ 0) (h : C_X9_note l G w [.ref (G.2.1 0 0), .int p0, .int p1] K X) (hK : ∀ r w2, K r w2 → ∃ v, r = some (.int v)) (hX : ∀ E w2, X E w2 → E = nNse ∨ E = nIae) :
    CH_note l G w [.ref (G.2.1 0 0), .int p0, .int p1, .ref (G.2.1 80 0)] (fun r w2 => (∃ (v : Int32) (w1 : Wd), K (some (.int v)) w1 ∧ r = some (.int 0) ∧ w2 = setL w1 80 0 0 v.toInt64) ∨ (X nNse w2 ∧ r = some (.int 1)) ∨ (X nIae w2 ∧ r = some (.int 2))) := by
  refine conH_intro hl (by decide +kernel) (Nat.le_of_ble_eq_true rfl) (Nat.le_of_ble_eq_true rfl) (fun M kk hM hk F => ?_)
  show Z M G 0 _ _ w 0 [some (.ref (G.2.1 0 0)), some (.int p0), some (.int p1), some (.ref (G.2.1 80 0)), none] []
  rw [← hM] at h
  refine h_aload_n F dL_note_0 rfl ?_
  refine h_iconst F 0 dL_note_1 (by decide) ?_
  refine h_aload_n F dL_note_2 rfl ?_
  refine h_iload_n F dL_note_3 rfl ?_
  refine h_iload_n F dL_note_4 rfl ?_
  refine h_callV F (k' := 7) (mc' := 2) [.int p0, .int p1] [.int 0, .ref (G.2.1 80 0)] dL_note_5 rfl rfl (by decide) rfl cl_L_33 hy_X9_note (by omega) (by decide) (by decide) (Nat.le_of_ble_eq_true rfl) rfl (con_mono h ?_ ?_)
  · intro r w1 hr
    obtain ⟨v, rfl⟩ := hK r w1 hr
    show Z M G (0 + 2) _ _ w1 8 [some (.ref (G.2.1 0 0)), some (.int p0), some (.int p1), some (.ref (G.2.1 80 0)), none] [.int v, .int 0, .ref (G.2.1 80 0)]
    refine h_i2l F dL_note_8 ?_
    refine h_out F hf dL_note_9 ?_
    refine h_goto F 21 dL_note_10 (by decide) ?_
    refine h_iconst F 0 dL_note_21 (by decide) ?_
    exact h_iret F dL_note_22 (by decide) (Or.inl ⟨v, w1, hr, rfl, rfl⟩)
  · intro E w1 hx
    rcases hX E w1 hx with e | e
    · subst e
      refine ⟨13, ct_21 F (by decide) (by decide) lk_L_31 (by decide), fun q => ?_⟩
      refine h_astore F dL_note_13 (by show 4 < 5; decide) ?_
      refine h_iconst F 1 dL_note_15 (by decide) ?_
      exact h_iret F dL_note_16 (by decide) (Or.inr (Or.inl ⟨hx, rfl⟩))
    · subst e
      refine ⟨17, ct_22 F (by decide) lk_L_31 (by decide) lk_L_13 (by decide), fun q => ?_⟩
      refine h_astore F dL_note_17 (by show 4 < 5; decide) ?_
      refine h_iconst F 2 dL_note_19 (by decide) ?_
      exact h_iret F dL_note_20 (by decide) (Or.inr (Or.inr ⟨hx, rfl⟩))
theorem kL_like : Cond.methodLink RL 163 yL_like ∈ GW ∧ Cond.static yL_like ∈ GW ∧ Cond.initialized yL_like.cls ∈ GW ∧ Cond.codeWith yL_like cL_like 5 (some .int) [(0, 10, 13, 31), (0, 10, 17, 13)] ∈ GW := ⟨GW_4 223 rfl rfl, GW_4 224 rfl rfl, mN_RL, GW_4 225 rfl rfl⟩
theorem kY_like : yL_like.cls ≠ "java/lang/invoke/MethodHandle" ∧ yL_like.cls ≠ "java/lang/invoke/VarHandle" ∧ (parseMethodDescriptor yL_like.desc).map (fun d => d.parameters.length) = some 4 := by decide +kernel
abbrev CH_like (l : Launch) (G : Gx) := ConH l G 8 2 yL_like cL_like 5 (some .int) [(0, 10, 13, 31), (0, 10, 17, 13)]
theorem k_like {l : Launch} {G : Gx} {w : Wd} {p0 p1 : Int32} {K : Option Value → Wd → Prop} {X : String → Wd → Prop} (hl : l.stackTraces = false) (hf : G.2.2.1 7 ≠ 0) (h : C_X9_like l G w [.ref (G.2.1 0 0), .int p0, .int p1] K X) (hK : ∀ r w2, K r w2 → ∃ v, r = some (.int v)) (hX : ∀ E w2, X E w2 → E = nNse ∨ E = nIae) :
    CH_like l G w [.ref (G.2.1 0 0), .int p0, .int p1, .ref (G.2.1 80 0)] (fun r w2 => (∃ (v : Int32) (w1 : Wd), K (some (.int v)) w1 ∧ r = some (.int 0) ∧ w2 = setL w1 80 0 0 v.toInt64) ∨ (X nNse w2 ∧ r = some (.int 1)) ∨ (X nIae w2 ∧ r = some (.int 2))) := by
  refine conH_intro hl (by decide +kernel) (Nat.le_of_ble_eq_true rfl) (Nat.le_of_ble_eq_true rfl) (fun M kk hM hk F => ?_)
  show Z M G 0 _ _ w 0 [some (.ref (G.2.1 0 0)), some (.int p0), some (.int p1), some (.ref (G.2.1 80 0)), none] []
  rw [← hM] at h
  refine h_aload_n F dL_like_0 rfl ?_
  refine h_iconst F 0 dL_like_1 (by decide) ?_
  refine h_aload_n F dL_like_2 rfl ?_
  refine h_iload_n F dL_like_3 rfl ?_
  refine h_iload_n F dL_like_4 rfl ?_
  refine h_callV F (k' := 7) (mc' := 2) [.int p0, .int p1] [.int 0, .ref (G.2.1 80 0)] dL_like_5 rfl rfl (by decide) rfl cl_L_36 hy_X9_like (by omega) (by decide) (by decide) (Nat.le_of_ble_eq_true rfl) rfl (con_mono h ?_ ?_)
  · intro r w1 hr
    obtain ⟨v, rfl⟩ := hK r w1 hr
    show Z M G (0 + 2) _ _ w1 8 [some (.ref (G.2.1 0 0)), some (.int p0), some (.int p1), some (.ref (G.2.1 80 0)), none] [.int v, .int 0, .ref (G.2.1 80 0)]
    refine h_i2l F dL_like_8 ?_
    refine h_out F hf dL_like_9 ?_
    refine h_goto F 21 dL_like_10 (by decide) ?_
    refine h_iconst F 0 dL_like_21 (by decide) ?_
    exact h_iret F dL_like_22 (by decide) (Or.inl ⟨v, w1, hr, rfl, rfl⟩)
  · intro E w1 hx
    rcases hX E w1 hx with e | e
    · subst e
      refine ⟨13, ct_21 F (by decide) (by decide) lk_L_31 (by decide), fun q => ?_⟩
      refine h_astore F dL_like_13 (by show 4 < 5; decide) ?_
      refine h_iconst F 1 dL_like_15 (by decide) ?_
      exact h_iret F dL_like_16 (by decide) (Or.inr (Or.inl ⟨hx, rfl⟩))
    · subst e
      refine ⟨17, ct_22 F (by decide) lk_L_31 (by decide) lk_L_13 (by decide), fun q => ?_⟩
      refine h_astore F dL_like_17 (by show 4 < 5; decide) ?_
      refine h_iconst F 2 dL_like_19 (by decide) ?_
      exact h_iret F dL_like_20 (by decide) (Or.inr (Or.inr ⟨hx, rfl⟩))
theorem kL_takes : Cond.methodLink RL 166 yL_takes ∈ GW ∧ Cond.static yL_takes ∈ GW ∧ Cond.initialized yL_takes.cls ∈ GW ∧ Cond.codeWith yL_takes cL_takes 5 (some .int) [(0, 10, 13, 31)] ∈ GW := ⟨GW_4 230 rfl rfl, GW_4 231 rfl rfl, mN_RL, GW_4 232 rfl rfl⟩
theorem kY_takes : yL_takes.cls ≠ "java/lang/invoke/MethodHandle" ∧ yL_takes.cls ≠ "java/lang/invoke/VarHandle" ∧ (parseMethodDescriptor yL_takes.desc).map (fun d => d.parameters.length) = some 4 := by decide +kernel
abbrev CH_takes (l : Launch) (G : Gx) := ConH l G 8 1 yL_takes cL_takes 5 (some .int) [(0, 10, 13, 31)]
theorem k_takes {l : Launch} {G : Gx} {w : Wd} {p0 p1 : Int32} {K : Option Value → Wd → Prop} {X : String → Wd → Prop} (hl : l.stackTraces = false) (hf : G.2.2.1 7 ≠ 0) (h : C_X9_takes l G w [.ref (G.2.1 0 0), .int p0, .int p1] K X) (hK : ∀ r w2, K r w2 → ∃ v, r = some (.int v)) (hX : ∀ E w2, X E w2 → E = nNse) :
    CH_takes l G w [.ref (G.2.1 0 0), .int p0, .int p1, .ref (G.2.1 80 0)] (fun r w2 => (∃ (v : Int32) (w1 : Wd), K (some (.int v)) w1 ∧ r = some (.int 0) ∧ w2 = setL w1 80 0 0 v.toInt64) ∨ (X nNse w2 ∧ r = some (.int 1))) := by
  refine conH_intro hl (by decide +kernel) (Nat.le_of_ble_eq_true rfl) (Nat.le_of_ble_eq_true rfl) (fun M kk hM hk F => ?_)
  show Z M G 0 _ _ w 0 [some (.ref (G.2.1 0 0)), some (.int p0), some (.int p1), some (.ref (G.2.1 80 0)), none] []
  rw [← hM] at h
  refine h_aload_n F dL_takes_0 rfl ?_
  refine h_iconst F 0 dL_takes_1 (by decide) ?_
  refine h_aload_n F dL_takes_2 rfl ?_
  refine h_iload_n F dL_takes_3 rfl ?_
  refine h_iload_n F dL_takes_4 rfl ?_
  refine h_callV F (k' := 7) (mc' := 1) [.int p0, .int p1] [.int 0, .ref (G.2.1 80 0)] dL_takes_5 rfl rfl (by decide) rfl cl_L_39 hy_X9_takes (by omega) (by decide) (by decide) (Nat.le_of_ble_eq_true rfl) rfl (con_mono h ?_ ?_)
  · intro r w1 hr
    obtain ⟨v, rfl⟩ := hK r w1 hr
    show Z M G (0 + 1) _ _ w1 8 [some (.ref (G.2.1 0 0)), some (.int p0), some (.int p1), some (.ref (G.2.1 80 0)), none] [.int v, .int 0, .ref (G.2.1 80 0)]
    refine h_i2l F dL_takes_8 ?_
    refine h_out F hf dL_takes_9 ?_
    refine h_goto F 17 dL_takes_10 (by decide) ?_
    refine h_iconst F 0 dL_takes_17 (by decide) ?_
    exact h_iret F dL_takes_18 (by decide) (Or.inl ⟨v, w1, hr, rfl, rfl⟩)
  · intro E w1 hx
    cases hX E w1 hx
    refine ⟨13, ct_1 F (by decide) (by decide) lk_L_31 (by decide), fun q => ?_⟩
    refine h_astore F dL_takes_13 (by show 4 < 5; decide) ?_
    refine h_iconst F 1 dL_takes_15 (by decide) ?_
    exact h_iret F dL_takes_16 (by decide) (Or.inr ⟨hx, rfl⟩)
theorem kL_would : Cond.methodLink RL 169 yL_would ∈ GW ∧ Cond.static yL_would ∈ GW ∧ Cond.initialized yL_would.cls ∈ GW ∧ Cond.codeWith yL_would cL_would 11 (some .int) [(0, 22, 25, 13)] ∈ GW := ⟨GW_4 238 rfl rfl, GW_4 239 rfl rfl, mN_RL, GW_5 0 rfl rfl⟩
theorem kY_would : yL_would.cls ≠ "java/lang/invoke/MethodHandle" ∧ yL_would.cls ≠ "java/lang/invoke/VarHandle" ∧ (parseMethodDescriptor yL_would.desc).map (fun d => d.parameters.length) = some 10 := by decide +kernel
abbrev CH_would (l : Launch) (G : Gx) := ConH l G 8 4 yL_would cL_would 11 (some .int) [(0, 22, 25, 13)]
theorem k_would {l : Launch} {G : Gx} {w : Wd} {p0 p1 p2 p3 p4 p5 p6 p7 : Int32} {K : Option Value → Wd → Prop} {X : String → Wd → Prop} (hl : l.stackTraces = false) (hf : G.2.2.1 7 ≠ 0) (h : C_X9_would l G w [.ref (G.2.1 0 0), .int p0, .int p1, .int p2, .int p3, .int p4, .int p5, .int p6, .int p7] K X) (hK : ∀ r w2, K r w2 → ∃ v, r = some (.int v)) (hX : ∀ E w2, X E w2 → E = nIae) :
    CH_would l G w [.ref (G.2.1 0 0), .int p0, .int p1, .int p2, .int p3, .int p4, .int p5, .int p6, .int p7, .ref (G.2.1 80 0)] (fun r w2 => (∃ (v : Int32) (w1 : Wd), K (some (.int v)) w1 ∧ r = some (.int 0) ∧ w2 = setL w1 80 0 0 v.toInt64) ∨ (X nIae w2 ∧ r = some (.int 1))) := by
  refine conH_intro hl (by decide +kernel) (Nat.le_of_ble_eq_true rfl) (Nat.le_of_ble_eq_true rfl) (fun M kk hM hk F => ?_)
  show Z M G 0 _ _ w 0 [some (.ref (G.2.1 0 0)), some (.int p0), some (.int p1), some (.int p2), some (.int p3), some (.int p4), some (.int p5), some (.int p6), some (.int p7), some (.ref (G.2.1 80 0)), none] []
  rw [← hM] at h
  refine h_aload F dL_would_0 rfl ?_
  refine h_iconst F 0 dL_would_2 (by decide) ?_
  refine h_aload_n F dL_would_3 rfl ?_
  refine h_iload_n F dL_would_4 rfl ?_
  refine h_iload_n F dL_would_5 rfl ?_
  refine h_iload_n F dL_would_6 rfl ?_
  refine h_iload F dL_would_7 rfl ?_
  refine h_iload F dL_would_9 rfl ?_
  refine h_iload F dL_would_11 rfl ?_
  refine h_iload F dL_would_13 rfl ?_
  refine h_iload F dL_would_15 rfl ?_
  refine h_callV F (k' := 7) (mc' := 4) [.int p0, .int p1, .int p2, .int p3, .int p4, .int p5, .int p6, .int p7] [.int 0, .ref (G.2.1 80 0)] dL_would_17 rfl rfl (by decide) rfl cl_L_42 hy_X9_would (by omega) (by decide) (by decide) (Nat.le_of_ble_eq_true rfl) rfl (con_mono h ?_ ?_)
  · intro r w1 hr
    obtain ⟨v, rfl⟩ := hK r w1 hr
    show Z M G (0 + 4) _ _ w1 20 [some (.ref (G.2.1 0 0)), some (.int p0), some (.int p1), some (.int p2), some (.int p3), some (.int p4), some (.int p5), some (.int p6), some (.int p7), some (.ref (G.2.1 80 0)), none] [.int v, .int 0, .ref (G.2.1 80 0)]
    refine h_i2l F dL_would_20 ?_
    refine h_out F hf dL_would_21 ?_
    refine h_goto F 29 dL_would_22 (by decide) ?_
    refine h_iconst F 0 dL_would_29 (by decide) ?_
    exact h_iret F dL_would_30 (by decide) (Or.inl ⟨v, w1, hr, rfl, rfl⟩)
  · intro E w1 hx
    cases hX E w1 hx
    refine ⟨25, ct_1 F (by decide) (by decide) lk_L_13 (by decide), fun q => ?_⟩
    refine h_astore F dL_would_25 (by show 10 < 11; decide) ?_
    refine h_iconst F 1 dL_would_27 (by decide) ?_
    exact h_iret F dL_would_28 (by decide) (Or.inr ⟨hx, rfl⟩)
theorem kL_ahead : Cond.methodLink RL 173 yL_ahead ∈ GW ∧ Cond.static yL_ahead ∈ GW ∧ Cond.initialized yL_ahead.cls ∈ GW ∧ Cond.codeWith yL_ahead cL_ahead 5 (some .int) [(0, 10, 13, 13)] ∈ GW := ⟨GW_5 9 rfl rfl, GW_5 10 rfl rfl, mN_RL, GW_5 11 rfl rfl⟩
theorem kY_ahead : yL_ahead.cls ≠ "java/lang/invoke/MethodHandle" ∧ yL_ahead.cls ≠ "java/lang/invoke/VarHandle" ∧ (parseMethodDescriptor yL_ahead.desc).map (fun d => d.parameters.length) = some 4 := by decide +kernel
abbrev CH_ahead (l : Launch) (G : Gx) := ConH l G 8 1 yL_ahead cL_ahead 5 (some .int) [(0, 10, 13, 13)]
theorem k_ahead {l : Launch} {G : Gx} {w : Wd} {p0 p1 : Int32} {K : Option Value → Wd → Prop} {X : String → Wd → Prop} (hl : l.stackTraces = false) (hf : G.2.2.1 7 ≠ 0) (h : C_X9_ahead l G w [.ref (G.2.1 0 0), .int p0, .int p1] K X) (hK : ∀ r w2, K r w2 → ∃ v, r = some (.int v)) (hX : ∀ E w2, X E w2 → E = nIae) :
    CH_ahead l G w [.ref (G.2.1 0 0), .int p0, .int p1, .ref (G.2.1 80 0)] (fun r w2 => (∃ (v : Int32) (w1 : Wd), K (some (.int v)) w1 ∧ r = some (.int 0) ∧ w2 = setL w1 80 0 0 v.toInt64) ∨ (X nIae w2 ∧ r = some (.int 1))) := by
  refine conH_intro hl (by decide +kernel) (Nat.le_of_ble_eq_true rfl) (Nat.le_of_ble_eq_true rfl) (fun M kk hM hk F => ?_)
  show Z M G 0 _ _ w 0 [some (.ref (G.2.1 0 0)), some (.int p0), some (.int p1), some (.ref (G.2.1 80 0)), none] []
  rw [← hM] at h
  refine h_aload_n F dL_ahead_0 rfl ?_
  refine h_iconst F 0 dL_ahead_1 (by decide) ?_
  refine h_aload_n F dL_ahead_2 rfl ?_
  refine h_iload_n F dL_ahead_3 rfl ?_
  refine h_iload_n F dL_ahead_4 rfl ?_
  refine h_callV F (k' := 7) (mc' := 1) [.int p0, .int p1] [.int 0, .ref (G.2.1 80 0)] dL_ahead_5 rfl rfl (by decide) rfl cl_L_46 hy_X9_ahead (by omega) (by decide) (by decide) (Nat.le_of_ble_eq_true rfl) rfl (con_mono h ?_ ?_)
  · intro r w1 hr
    obtain ⟨v, rfl⟩ := hK r w1 hr
    show Z M G (0 + 1) _ _ w1 8 [some (.ref (G.2.1 0 0)), some (.int p0), some (.int p1), some (.ref (G.2.1 80 0)), none] [.int v, .int 0, .ref (G.2.1 80 0)]
    refine h_i2l F dL_ahead_8 ?_
    refine h_out F hf dL_ahead_9 ?_
    refine h_goto F 17 dL_ahead_10 (by decide) ?_
    refine h_iconst F 0 dL_ahead_17 (by decide) ?_
    exact h_iret F dL_ahead_18 (by decide) (Or.inl ⟨v, w1, hr, rfl, rfl⟩)
  · intro E w1 hx
    cases hX E w1 hx
    refine ⟨13, ct_1 F (by decide) (by decide) lk_L_13 (by decide), fun q => ?_⟩
    refine h_astore F dL_ahead_13 (by show 4 < 5; decide) ?_
    refine h_iconst F 1 dL_ahead_15 (by decide) ?_
    exact h_iret F dL_ahead_16 (by decide) (Or.inr ⟨hx, rfl⟩)
theorem kL_handed : Cond.methodLink RL 180 yL_handed ∈ GW ∧ Cond.static yL_handed ∈ GW ∧ Cond.initialized yL_handed.cls ∈ GW ∧ Cond.codeWith yL_handed cL_handed 5 (some .int) [(0, 10, 13, 13)] ∈ GW := ⟨GW_5 23 rfl rfl, GW_5 24 rfl rfl, mN_RL, GW_5 25 rfl rfl⟩
theorem kY_handed : yL_handed.cls ≠ "java/lang/invoke/MethodHandle" ∧ yL_handed.cls ≠ "java/lang/invoke/VarHandle" ∧ (parseMethodDescriptor yL_handed.desc).map (fun d => d.parameters.length) = some 4 := by decide +kernel
abbrev CH_handed (l : Launch) (G : Gx) := ConH l G 8 1 yL_handed cL_handed 5 (some .int) [(0, 10, 13, 13)]
theorem k_handed {l : Launch} {G : Gx} {w : Wd} {p0 p1 : Int32} {K : Option Value → Wd → Prop} {X : String → Wd → Prop} (hl : l.stackTraces = false) (hf : G.2.2.1 7 ≠ 0) (h : C_X9_handed l G w [.ref (G.2.1 0 0), .int p0, .int p1] K X) (hK : ∀ r w2, K r w2 → ∃ v, r = some (.int v)) (hX : ∀ E w2, X E w2 → E = nIae) :
    CH_handed l G w [.ref (G.2.1 0 0), .int p0, .int p1, .ref (G.2.1 80 0)] (fun r w2 => (∃ (v : Int32) (w1 : Wd), K (some (.int v)) w1 ∧ r = some (.int 0) ∧ w2 = setL w1 80 0 0 v.toInt64) ∨ (X nIae w2 ∧ r = some (.int 1))) := by
  refine conH_intro hl (by decide +kernel) (Nat.le_of_ble_eq_true rfl) (Nat.le_of_ble_eq_true rfl) (fun M kk hM hk F => ?_)
  show Z M G 0 _ _ w 0 [some (.ref (G.2.1 0 0)), some (.int p0), some (.int p1), some (.ref (G.2.1 80 0)), none] []
  rw [← hM] at h
  refine h_aload_n F dL_handed_0 rfl ?_
  refine h_iconst F 0 dL_handed_1 (by decide) ?_
  refine h_aload_n F dL_handed_2 rfl ?_
  refine h_iload_n F dL_handed_3 rfl ?_
  refine h_iload_n F dL_handed_4 rfl ?_
  refine h_callV F (k' := 7) (mc' := 1) [.int p0, .int p1] [.int 0, .ref (G.2.1 80 0)] dL_handed_5 rfl rfl (by decide) rfl cl_L_49 hy_X9_handed (by omega) (by decide) (by decide) (Nat.le_of_ble_eq_true rfl) rfl (con_mono h ?_ ?_)
  · intro r w1 hr
    obtain ⟨v, rfl⟩ := hK r w1 hr
    show Z M G (0 + 1) _ _ w1 8 [some (.ref (G.2.1 0 0)), some (.int p0), some (.int p1), some (.ref (G.2.1 80 0)), none] [.int v, .int 0, .ref (G.2.1 80 0)]
    refine h_i2l F dL_handed_8 ?_
    refine h_out F hf dL_handed_9 ?_
    refine h_goto F 17 dL_handed_10 (by decide) ?_
    refine h_iconst F 0 dL_handed_17 (by decide) ?_
    exact h_iret F dL_handed_18 (by decide) (Or.inl ⟨v, w1, hr, rfl, rfl⟩)
  · intro E w1 hx
    cases hX E w1 hx
    refine ⟨13, ct_1 F (by decide) (by decide) lk_L_13 (by decide), fun q => ?_⟩
    refine h_astore F dL_handed_13 (by show 4 < 5; decide) ?_
    refine h_iconst F 1 dL_handed_15 (by decide) ?_
    exact h_iret F dL_handed_16 (by decide) (Or.inr ⟨hx, rfl⟩)
theorem kL_benched : Cond.methodLink RL 187 yL_benched ∈ GW ∧ Cond.static yL_benched ∈ GW ∧ Cond.initialized yL_benched.cls ∈ GW ∧ Cond.codeWith yL_benched cL_benched 4 (some .int) [(0, 9, 12, 13)] ∈ GW := ⟨GW_5 30 rfl rfl, GW_5 31 rfl rfl, mN_RL, GW_5 32 rfl rfl⟩
theorem kY_benched : yL_benched.cls ≠ "java/lang/invoke/MethodHandle" ∧ yL_benched.cls ≠ "java/lang/invoke/VarHandle" ∧ (parseMethodDescriptor yL_benched.desc).map (fun d => d.parameters.length) = some 3 := by decide +kernel
abbrev CH_benched (l : Launch) (G : Gx) := ConH l G 8 1 yL_benched cL_benched 4 (some .int) [(0, 9, 12, 13)]
theorem k_benched {l : Launch} {G : Gx} {w : Wd} {p0 : Int32} {K : Option Value → Wd → Prop} {X : String → Wd → Prop} (hl : l.stackTraces = false) (hf : G.2.2.1 7 ≠ 0) (h : C_X9_benched l G w [.ref (G.2.1 0 0), .int p0] K X) (hK : ∀ r w2, K r w2 → ∃ v, r = some (.int v)) (hX : ∀ E w2, X E w2 → E = nIae) :
    CH_benched l G w [.ref (G.2.1 0 0), .int p0, .ref (G.2.1 80 0)] (fun r w2 => (∃ (v : Int32) (w1 : Wd), K (some (.int v)) w1 ∧ r = some (.int 0) ∧ w2 = setL w1 80 0 0 v.toInt64) ∨ (X nIae w2 ∧ r = some (.int 1))) := by
  refine conH_intro hl (by decide +kernel) (Nat.le_of_ble_eq_true rfl) (Nat.le_of_ble_eq_true rfl) (fun M kk hM hk F => ?_)
  show Z M G 0 _ _ w 0 [some (.ref (G.2.1 0 0)), some (.int p0), some (.ref (G.2.1 80 0)), none] []
  rw [← hM] at h
  refine h_aload_n F dL_benched_0 rfl ?_
  refine h_iconst F 0 dL_benched_1 (by decide) ?_
  refine h_aload_n F dL_benched_2 rfl ?_
  refine h_iload_n F dL_benched_3 rfl ?_
  refine h_callV F (k' := 7) (mc' := 1) [.int p0] [.int 0, .ref (G.2.1 80 0)] dL_benched_4 rfl rfl (by decide) rfl cl_L_52 hy_X9_benched (by omega) (by decide) (by decide) (Nat.le_of_ble_eq_true rfl) rfl (con_mono h ?_ ?_)
  · intro r w1 hr
    obtain ⟨v, rfl⟩ := hK r w1 hr
    show Z M G (0 + 1) _ _ w1 7 [some (.ref (G.2.1 0 0)), some (.int p0), some (.ref (G.2.1 80 0)), none] [.int v, .int 0, .ref (G.2.1 80 0)]
    refine h_i2l F dL_benched_7 ?_
    refine h_out F hf dL_benched_8 ?_
    refine h_goto F 15 dL_benched_9 (by decide) ?_
    refine h_iconst F 0 dL_benched_15 (by decide) ?_
    exact h_iret F dL_benched_16 (by decide) (Or.inl ⟨v, w1, hr, rfl, rfl⟩)
  · intro E w1 hx
    cases hX E w1 hx
    refine ⟨12, ct_1 F (by decide) (by decide) lk_L_13 (by decide), fun q => ?_⟩
    refine h_astore_n F dL_benched_12 (by show 3 < 4; decide) ?_
    refine h_iconst F 1 dL_benched_13 (by decide) ?_
    exact h_iret F dL_benched_14 (by decide) (Or.inr ⟨hx, rfl⟩)
theorem kL_wordings : Cond.methodLink RL 194 yL_wordings ∈ GW ∧ Cond.static yL_wordings ∈ GW ∧ Cond.initialized yL_wordings.cls ∈ GW ∧ Cond.codeWith yL_wordings cL_wordings 4 (some .int) [(0, 8, 11, 13)] ∈ GW := ⟨GW_5 45 rfl rfl, GW_5 46 rfl rfl, mN_RL, GW_5 47 rfl rfl⟩
theorem kY_wordings : yL_wordings.cls ≠ "java/lang/invoke/MethodHandle" ∧ yL_wordings.cls ≠ "java/lang/invoke/VarHandle" ∧ (parseMethodDescriptor yL_wordings.desc).map (fun d => d.parameters.length) = some 3 := by decide +kernel
abbrev CH_wordings (l : Launch) (G : Gx) := ConH l G 8 1 yL_wordings cL_wordings 4 (some .int) [(0, 8, 11, 13)]
theorem k_wordings {l : Launch} {G : Gx} {w : Wd} {p0 : Int32} {K : Option Value → Wd → Prop} {X : String → Wd → Prop} (hl : l.stackTraces = false) (hf : G.2.2.1 7 ≠ 0) (h : C_X9_wordings l G w [.ref (G.2.1 0 0), .int p0] K X) (hK : ∀ r w2, K r w2 → ∃ v, r = some (.long v)) (hX : ∀ E w2, X E w2 → E = nIae) :
    CH_wordings l G w [.ref (G.2.1 0 0), .int p0, .ref (G.2.1 80 0)] (fun r w2 => (∃ (v : Int64) (w1 : Wd), K (some (.long v)) w1 ∧ r = some (.int 0) ∧ w2 = setL w1 80 0 0 v) ∨ (X nIae w2 ∧ r = some (.int 1))) := by
  refine conH_intro hl (by decide +kernel) (Nat.le_of_ble_eq_true rfl) (Nat.le_of_ble_eq_true rfl) (fun M kk hM hk F => ?_)
  show Z M G 0 _ _ w 0 [some (.ref (G.2.1 0 0)), some (.int p0), some (.ref (G.2.1 80 0)), none] []
  rw [← hM] at h
  refine h_aload_n F dL_wordings_0 rfl ?_
  refine h_iconst F 0 dL_wordings_1 (by decide) ?_
  refine h_aload_n F dL_wordings_2 rfl ?_
  refine h_iload_n F dL_wordings_3 rfl ?_
  refine h_callV F (k' := 7) (mc' := 1) [.int p0] [.int 0, .ref (G.2.1 80 0)] dL_wordings_4 rfl rfl (by decide) rfl cl_L_55 hy_X9_wordings (by omega) (by decide) (by decide) (Nat.le_of_ble_eq_true rfl) rfl (con_mono h ?_ ?_)
  · intro r w1 hr
    obtain ⟨v, rfl⟩ := hK r w1 hr
    show Z M G (0 + 1) _ _ w1 7 [some (.ref (G.2.1 0 0)), some (.int p0), some (.ref (G.2.1 80 0)), none] [.long v, .int 0, .ref (G.2.1 80 0)]
    refine h_out F hf dL_wordings_7 ?_
    refine h_goto F 14 dL_wordings_8 (by decide) ?_
    refine h_iconst F 0 dL_wordings_14 (by decide) ?_
    exact h_iret F dL_wordings_15 (by decide) (Or.inl ⟨v, w1, hr, rfl, rfl⟩)
  · intro E w1 hx
    cases hX E w1 hx
    refine ⟨11, ct_1 F (by decide) (by decide) lk_L_13 (by decide), fun q => ?_⟩
    refine h_astore_n F dL_wordings_11 (by show 3 < 4; decide) ?_
    refine h_iconst F 1 dL_wordings_12 (by decide) ?_
    exact h_iret F dL_wordings_13 (by decide) (Or.inr ⟨hx, rfl⟩)
theorem kL_who : Cond.methodLink RL 197 yL_who ∈ GW ∧ Cond.static yL_who ∈ GW ∧ Cond.initialized yL_who.cls ∈ GW ∧ Cond.codeWith yL_who cL_who 4 (some .int) [(0, 9, 12, 13)] ∈ GW := ⟨GW_5 52 rfl rfl, GW_5 53 rfl rfl, mN_RL, GW_5 54 rfl rfl⟩
theorem kY_who : yL_who.cls ≠ "java/lang/invoke/MethodHandle" ∧ yL_who.cls ≠ "java/lang/invoke/VarHandle" ∧ (parseMethodDescriptor yL_who.desc).map (fun d => d.parameters.length) = some 3 := by decide +kernel
abbrev CH_who (l : Launch) (G : Gx) := ConH l G 8 1 yL_who cL_who 4 (some .int) [(0, 9, 12, 13)]
theorem k_who {l : Launch} {G : Gx} {w : Wd} {p0 : Int32} {K : Option Value → Wd → Prop} {X : String → Wd → Prop} (hl : l.stackTraces = false) (hf : G.2.2.1 7 ≠ 0) (h : C_X9_who l G w [.ref (G.2.1 0 0), .int p0] K X) (hK : ∀ r w2, K r w2 → ∃ v, r = some (.int v)) (hX : ∀ E w2, X E w2 → E = nIae) :
    CH_who l G w [.ref (G.2.1 0 0), .int p0, .ref (G.2.1 80 0)] (fun r w2 => (∃ (v : Int32) (w1 : Wd), K (some (.int v)) w1 ∧ r = some (.int 0) ∧ w2 = setL w1 80 0 0 v.toInt64) ∨ (X nIae w2 ∧ r = some (.int 1))) := by
  refine conH_intro hl (by decide +kernel) (Nat.le_of_ble_eq_true rfl) (Nat.le_of_ble_eq_true rfl) (fun M kk hM hk F => ?_)
  show Z M G 0 _ _ w 0 [some (.ref (G.2.1 0 0)), some (.int p0), some (.ref (G.2.1 80 0)), none] []
  rw [← hM] at h
  refine h_aload_n F dL_who_0 rfl ?_
  refine h_iconst F 0 dL_who_1 (by decide) ?_
  refine h_aload_n F dL_who_2 rfl ?_
  refine h_iload_n F dL_who_3 rfl ?_
  refine h_callV F (k' := 7) (mc' := 1) [.int p0] [.int 0, .ref (G.2.1 80 0)] dL_who_4 rfl rfl (by decide) rfl cl_L_59 hy_X9_who (by omega) (by decide) (by decide) (Nat.le_of_ble_eq_true rfl) rfl (con_mono h ?_ ?_)
  · intro r w1 hr
    obtain ⟨v, rfl⟩ := hK r w1 hr
    show Z M G (0 + 1) _ _ w1 7 [some (.ref (G.2.1 0 0)), some (.int p0), some (.ref (G.2.1 80 0)), none] [.int v, .int 0, .ref (G.2.1 80 0)]
    refine h_i2l F dL_who_7 ?_
    refine h_out F hf dL_who_8 ?_
    refine h_goto F 15 dL_who_9 (by decide) ?_
    refine h_iconst F 0 dL_who_15 (by decide) ?_
    exact h_iret F dL_who_16 (by decide) (Or.inl ⟨v, w1, hr, rfl, rfl⟩)
  · intro E w1 hx
    cases hX E w1 hx
    refine ⟨12, ct_1 F (by decide) (by decide) lk_L_13 (by decide), fun q => ?_⟩
    refine h_astore_n F dL_who_12 (by show 3 < 4; decide) ?_
    refine h_iconst F 1 dL_who_13 (by decide) ?_
    exact h_iret F dL_who_14 (by decide) (Or.inr ⟨hx, rfl⟩)
theorem kL_listen : Cond.methodLink RL 200 yL_listen ∈ GW ∧ Cond.static yL_listen ∈ GW ∧ Cond.initialized yL_listen.cls ∈ GW ∧ Cond.codeWith yL_listen cL_listen 4 (some .int) [(0, 9, 12, 13)] ∈ GW := ⟨GW_5 67 rfl rfl, GW_5 68 rfl rfl, mN_RL, GW_5 69 rfl rfl⟩
theorem kY_listen : yL_listen.cls ≠ "java/lang/invoke/MethodHandle" ∧ yL_listen.cls ≠ "java/lang/invoke/VarHandle" ∧ (parseMethodDescriptor yL_listen.desc).map (fun d => d.parameters.length) = some 3 := by decide +kernel
abbrev CH_listen (l : Launch) (G : Gx) := ConH l G 9 1 yL_listen cL_listen 4 (some .int) [(0, 9, 12, 13)]
theorem k_listen {l : Launch} {G : Gx} {w : Wd} {p0 : Int32} {K : Option Value → Wd → Prop} {X : String → Wd → Prop} (hl : l.stackTraces = false) (hf : G.2.2.1 7 ≠ 0) (h : C_X9_listen l G w [.ref (G.2.1 0 0), .int p0] K X) (hK : ∀ r w2, K r w2 → ∃ v, r = some (.int v)) (hX : ∀ E w2, X E w2 → E = nIae) :
    CH_listen l G w [.ref (G.2.1 0 0), .int p0, .ref (G.2.1 80 0)] (fun r w2 => (∃ (v : Int32) (w1 : Wd), K (some (.int v)) w1 ∧ r = some (.int 0) ∧ w2 = setL w1 80 0 0 v.toInt64) ∨ (X nIae w2 ∧ r = some (.int 1))) := by
  refine conH_intro hl (by decide +kernel) (Nat.le_of_ble_eq_true rfl) (Nat.le_of_ble_eq_true rfl) (fun M kk hM hk F => ?_)
  show Z M G 0 _ _ w 0 [some (.ref (G.2.1 0 0)), some (.int p0), some (.ref (G.2.1 80 0)), none] []
  rw [← hM] at h
  refine h_aload_n F dL_listen_0 rfl ?_
  refine h_iconst F 0 dL_listen_1 (by decide) ?_
  refine h_aload_n F dL_listen_2 rfl ?_
  refine h_iload_n F dL_listen_3 rfl ?_
  refine h_callV F (k' := 8) (mc' := 1) [.int p0] [.int 0, .ref (G.2.1 80 0)] dL_listen_4 rfl rfl (by decide) rfl cl_L_62 hy_X9_listen (by omega) (by decide) (by decide) (Nat.le_of_ble_eq_true rfl) rfl (con_mono h ?_ ?_)
  · intro r w1 hr
    obtain ⟨v, rfl⟩ := hK r w1 hr
    show Z M G (0 + 1) _ _ w1 7 [some (.ref (G.2.1 0 0)), some (.int p0), some (.ref (G.2.1 80 0)), none] [.int v, .int 0, .ref (G.2.1 80 0)]
    refine h_i2l F dL_listen_7 ?_
    refine h_out F hf dL_listen_8 ?_
    refine h_goto F 15 dL_listen_9 (by decide) ?_
    refine h_iconst F 0 dL_listen_15 (by decide) ?_
    exact h_iret F dL_listen_16 (by decide) (Or.inl ⟨v, w1, hr, rfl, rfl⟩)
  · intro E w1 hx
    cases hX E w1 hx
    refine ⟨12, ct_1 F (by decide) (by decide) lk_L_13 (by decide), fun q => ?_⟩
    refine h_astore_n F dL_listen_12 (by show 3 < 4; decide) ?_
    refine h_iconst F 1 dL_listen_13 (by decide) ?_
    exact h_iret F dL_listen_14 (by decide) (Or.inr ⟨hx, rfl⟩)
theorem kL_duty : Cond.methodLink RL 203 yL_duty ∈ GW ∧ Cond.static yL_duty ∈ GW ∧ Cond.initialized yL_duty.cls ∈ GW ∧ Cond.codeWith yL_duty cL_duty 4 (some .int) [(0, 9, 12, 31)] ∈ GW := ⟨GW_5 79 rfl rfl, GW_5 80 rfl rfl, mN_RL, GW_5 81 rfl rfl⟩
theorem kY_duty : yL_duty.cls ≠ "java/lang/invoke/MethodHandle" ∧ yL_duty.cls ≠ "java/lang/invoke/VarHandle" ∧ (parseMethodDescriptor yL_duty.desc).map (fun d => d.parameters.length) = some 3 := by decide +kernel
abbrev CH_duty (l : Launch) (G : Gx) := ConH l G 8 1 yL_duty cL_duty 4 (some .int) [(0, 9, 12, 31)]
theorem k_duty {l : Launch} {G : Gx} {w : Wd} {p0 : Int32} {K : Option Value → Wd → Prop} {X : String → Wd → Prop} (hl : l.stackTraces = false) (hf : G.2.2.1 7 ≠ 0) (h : C_X9_duty l G w [.ref (G.2.1 0 0), .int p0] K X) (hK : ∀ r w2, K r w2 → ∃ v, r = some (.int v)) (hX : ∀ E w2, X E w2 → E = nNse) :
    CH_duty l G w [.ref (G.2.1 0 0), .int p0, .ref (G.2.1 80 0)] (fun r w2 => (∃ (v : Int32) (w1 : Wd), K (some (.int v)) w1 ∧ r = some (.int 0) ∧ w2 = setL w1 80 0 0 v.toInt64) ∨ (X nNse w2 ∧ r = some (.int 1))) := by
  refine conH_intro hl (by decide +kernel) (Nat.le_of_ble_eq_true rfl) (Nat.le_of_ble_eq_true rfl) (fun M kk hM hk F => ?_)
  show Z M G 0 _ _ w 0 [some (.ref (G.2.1 0 0)), some (.int p0), some (.ref (G.2.1 80 0)), none] []
  rw [← hM] at h
  refine h_aload_n F dL_duty_0 rfl ?_
  refine h_iconst F 0 dL_duty_1 (by decide) ?_
  refine h_aload_n F dL_duty_2 rfl ?_
  refine h_iload_n F dL_duty_3 rfl ?_
  refine h_callV F (k' := 7) (mc' := 1) [.int p0] [.int 0, .ref (G.2.1 80 0)] dL_duty_4 rfl rfl (by decide) rfl cl_L_65 hy_X9_duty (by omega) (by decide) (by decide) (Nat.le_of_ble_eq_true rfl) rfl (con_mono h ?_ ?_)
  · intro r w1 hr
    obtain ⟨v, rfl⟩ := hK r w1 hr
    show Z M G (0 + 1) _ _ w1 7 [some (.ref (G.2.1 0 0)), some (.int p0), some (.ref (G.2.1 80 0)), none] [.int v, .int 0, .ref (G.2.1 80 0)]
    refine h_i2l F dL_duty_7 ?_
    refine h_out F hf dL_duty_8 ?_
    refine h_goto F 15 dL_duty_9 (by decide) ?_
    refine h_iconst F 0 dL_duty_15 (by decide) ?_
    exact h_iret F dL_duty_16 (by decide) (Or.inl ⟨v, w1, hr, rfl, rfl⟩)
  · intro E w1 hx
    cases hX E w1 hx
    refine ⟨12, ct_1 F (by decide) (by decide) lk_L_31 (by decide), fun q => ?_⟩
    refine h_astore_n F dL_duty_12 (by show 3 < 4; decide) ?_
    refine h_iconst F 1 dL_duty_13 (by decide) ?_
    exact h_iret F dL_duty_14 (by decide) (Or.inr ⟨hx, rfl⟩)
theorem kL_range : Cond.methodLink RL 206 yL_range ∈ GW ∧ Cond.static yL_range ∈ GW ∧ Cond.initialized yL_range.cls ∈ GW ∧ Cond.codeWith yL_range cL_range 4 (some .int) [(0, 9, 12, 31)] ∈ GW := ⟨GW_5 90 rfl rfl, GW_5 91 rfl rfl, mN_RL, GW_5 92 rfl rfl⟩
theorem kY_range : yL_range.cls ≠ "java/lang/invoke/MethodHandle" ∧ yL_range.cls ≠ "java/lang/invoke/VarHandle" ∧ (parseMethodDescriptor yL_range.desc).map (fun d => d.parameters.length) = some 3 := by decide +kernel
abbrev CH_range (l : Launch) (G : Gx) := ConH l G 8 1 yL_range cL_range 4 (some .int) [(0, 9, 12, 31)]
theorem k_range {l : Launch} {G : Gx} {w : Wd} {p0 : Int32} {K : Option Value → Wd → Prop} {X : String → Wd → Prop} (hl : l.stackTraces = false) (hf : G.2.2.1 7 ≠ 0) (h : C_X9_range l G w [.ref (G.2.1 0 0), .int p0] K X) (hK : ∀ r w2, K r w2 → ∃ v, r = some (.int v)) (hX : ∀ E w2, X E w2 → E = nNse) :
    CH_range l G w [.ref (G.2.1 0 0), .int p0, .ref (G.2.1 80 0)] (fun r w2 => (∃ (v : Int32) (w1 : Wd), K (some (.int v)) w1 ∧ r = some (.int 0) ∧ w2 = setL w1 80 0 0 v.toInt64) ∨ (X nNse w2 ∧ r = some (.int 1))) := by
  refine conH_intro hl (by decide +kernel) (Nat.le_of_ble_eq_true rfl) (Nat.le_of_ble_eq_true rfl) (fun M kk hM hk F => ?_)
  show Z M G 0 _ _ w 0 [some (.ref (G.2.1 0 0)), some (.int p0), some (.ref (G.2.1 80 0)), none] []
  rw [← hM] at h
  refine h_aload_n F dL_range_0 rfl ?_
  refine h_iconst F 0 dL_range_1 (by decide) ?_
  refine h_aload_n F dL_range_2 rfl ?_
  refine h_iload_n F dL_range_3 rfl ?_
  refine h_callV F (k' := 7) (mc' := 1) [.int p0] [.int 0, .ref (G.2.1 80 0)] dL_range_4 rfl rfl (by decide) rfl cl_L_68 hy_X9_range (by omega) (by decide) (by decide) (Nat.le_of_ble_eq_true rfl) rfl (con_mono h ?_ ?_)
  · intro r w1 hr
    obtain ⟨v, rfl⟩ := hK r w1 hr
    show Z M G (0 + 1) _ _ w1 7 [some (.ref (G.2.1 0 0)), some (.int p0), some (.ref (G.2.1 80 0)), none] [.int v, .int 0, .ref (G.2.1 80 0)]
    refine h_i2l F dL_range_7 ?_
    refine h_out F hf dL_range_8 ?_
    refine h_goto F 15 dL_range_9 (by decide) ?_
    refine h_iconst F 0 dL_range_15 (by decide) ?_
    exact h_iret F dL_range_16 (by decide) (Or.inl ⟨v, w1, hr, rfl, rfl⟩)
  · intro E w1 hx
    cases hX E w1 hx
    refine ⟨12, ct_1 F (by decide) (by decide) lk_L_31 (by decide), fun q => ?_⟩
    refine h_astore_n F dL_range_12 (by show 3 < 4; decide) ?_
    refine h_iconst F 1 dL_range_13 (by decide) ?_
    exact h_iret F dL_range_14 (by decide) (Or.inr ⟨hx, rfl⟩)
theorem kL_quarrel : Cond.methodLink RL 209 yL_quarrel ∈ GW ∧ Cond.static yL_quarrel ∈ GW ∧ Cond.initialized yL_quarrel.cls ∈ GW ∧ Cond.codeWith yL_quarrel cL_quarrel 6 (some .int) [(0, 12, 15, 13)] ∈ GW := ⟨GW_5 97 rfl rfl, GW_5 98 rfl rfl, mN_RL, GW_5 99 rfl rfl⟩
theorem kY_quarrel : yL_quarrel.cls ≠ "java/lang/invoke/MethodHandle" ∧ yL_quarrel.cls ≠ "java/lang/invoke/VarHandle" ∧ (parseMethodDescriptor yL_quarrel.desc).map (fun d => d.parameters.length) = some 5 := by decide +kernel
abbrev CH_quarrel (l : Launch) (G : Gx) := ConH l G 8 1 yL_quarrel cL_quarrel 6 (some .int) [(0, 12, 15, 13)]
theorem k_quarrel {l : Launch} {G : Gx} {w : Wd} {p0 p1 p2 : Int32} {K : Option Value → Wd → Prop} {X : String → Wd → Prop} (hl : l.stackTraces = false) (hf : G.2.2.1 7 ≠ 0) (h : C_X9_quarrel l G w [.ref (G.2.1 0 0), .int p0, .int p1, .int p2] K X) (hK : ∀ r w2, K r w2 → ∃ v, r = some (.int v)) (hX : ∀ E w2, X E w2 → E = nIae) :
    CH_quarrel l G w [.ref (G.2.1 0 0), .int p0, .int p1, .int p2, .ref (G.2.1 80 0)] (fun r w2 => (∃ (v : Int32) (w1 : Wd), K (some (.int v)) w1 ∧ r = some (.int 0) ∧ w2 = setL w1 80 0 0 v.toInt64) ∨ (X nIae w2 ∧ r = some (.int 1))) := by
  refine conH_intro hl (by decide +kernel) (Nat.le_of_ble_eq_true rfl) (Nat.le_of_ble_eq_true rfl) (fun M kk hM hk F => ?_)
  show Z M G 0 _ _ w 0 [some (.ref (G.2.1 0 0)), some (.int p0), some (.int p1), some (.int p2), some (.ref (G.2.1 80 0)), none] []
  rw [← hM] at h
  refine h_aload F dL_quarrel_0 rfl ?_
  refine h_iconst F 0 dL_quarrel_2 (by decide) ?_
  refine h_aload_n F dL_quarrel_3 rfl ?_
  refine h_iload_n F dL_quarrel_4 rfl ?_
  refine h_iload_n F dL_quarrel_5 rfl ?_
  refine h_iload_n F dL_quarrel_6 rfl ?_
  refine h_callV F (k' := 7) (mc' := 1) [.int p0, .int p1, .int p2] [.int 0, .ref (G.2.1 80 0)] dL_quarrel_7 rfl rfl (by decide) rfl cl_L_71 hy_X9_quarrel (by omega) (by decide) (by decide) (Nat.le_of_ble_eq_true rfl) rfl (con_mono h ?_ ?_)
  · intro r w1 hr
    obtain ⟨v, rfl⟩ := hK r w1 hr
    show Z M G (0 + 1) _ _ w1 10 [some (.ref (G.2.1 0 0)), some (.int p0), some (.int p1), some (.int p2), some (.ref (G.2.1 80 0)), none] [.int v, .int 0, .ref (G.2.1 80 0)]
    refine h_i2l F dL_quarrel_10 ?_
    refine h_out F hf dL_quarrel_11 ?_
    refine h_goto F 19 dL_quarrel_12 (by decide) ?_
    refine h_iconst F 0 dL_quarrel_19 (by decide) ?_
    exact h_iret F dL_quarrel_20 (by decide) (Or.inl ⟨v, w1, hr, rfl, rfl⟩)
  · intro E w1 hx
    cases hX E w1 hx
    refine ⟨15, ct_1 F (by decide) (by decide) lk_L_13 (by decide), fun q => ?_⟩
    refine h_astore F dL_quarrel_15 (by show 5 < 6; decide) ?_
    refine h_iconst F 1 dL_quarrel_17 (by decide) ?_
    exact h_iret F dL_quarrel_18 (by decide) (Or.inr ⟨hx, rfl⟩)
theorem kL_enough : Cond.methodLink RL 213 yL_enough ∈ GW ∧ Cond.static yL_enough ∈ GW ∧ Cond.initialized yL_enough.cls ∈ GW ∧ Cond.codeWith yL_enough cL_enough 7 (some .int) [(0, 13, 16, 13)] ∈ GW := ⟨GW_5 107 rfl rfl, GW_5 108 rfl rfl, mN_RL, GW_5 109 rfl rfl⟩
theorem kY_enough : yL_enough.cls ≠ "java/lang/invoke/MethodHandle" ∧ yL_enough.cls ≠ "java/lang/invoke/VarHandle" ∧ (parseMethodDescriptor yL_enough.desc).map (fun d => d.parameters.length) = some 6 := by decide +kernel
abbrev CH_enough (l : Launch) (G : Gx) := ConH l G 8 1 yL_enough cL_enough 7 (some .int) [(0, 13, 16, 13)]
theorem k_enough {l : Launch} {G : Gx} {w : Wd} {p0 p1 p2 p3 : Int32} {K : Option Value → Wd → Prop} {X : String → Wd → Prop} (hl : l.stackTraces = false) (hf : G.2.2.1 7 ≠ 0) (h : C_X9_enough l G w [.ref (G.2.1 0 0), .int p0, .int p1, .int p2, .int p3] K X) (hK : ∀ r w2, K r w2 → ∃ v, r = some (.long v)) (hX : ∀ E w2, X E w2 → E = nIae) :
    CH_enough l G w [.ref (G.2.1 0 0), .int p0, .int p1, .int p2, .int p3, .ref (G.2.1 80 0)] (fun r w2 => (∃ (v : Int64) (w1 : Wd), K (some (.long v)) w1 ∧ r = some (.int 0) ∧ w2 = setL w1 80 0 0 v) ∨ (X nIae w2 ∧ r = some (.int 1))) := by
  refine conH_intro hl (by decide +kernel) (Nat.le_of_ble_eq_true rfl) (Nat.le_of_ble_eq_true rfl) (fun M kk hM hk F => ?_)
  show Z M G 0 _ _ w 0 [some (.ref (G.2.1 0 0)), some (.int p0), some (.int p1), some (.int p2), some (.int p3), some (.ref (G.2.1 80 0)), none] []
  rw [← hM] at h
  refine h_aload F dL_enough_0 rfl ?_
  refine h_iconst F 0 dL_enough_2 (by decide) ?_
  refine h_aload_n F dL_enough_3 rfl ?_
  refine h_iload_n F dL_enough_4 rfl ?_
  refine h_iload_n F dL_enough_5 rfl ?_
  refine h_iload_n F dL_enough_6 rfl ?_
  refine h_iload F dL_enough_7 rfl ?_
  refine h_callV F (k' := 7) (mc' := 1) [.int p0, .int p1, .int p2, .int p3] [.int 0, .ref (G.2.1 80 0)] dL_enough_9 rfl rfl (by decide) rfl cl_L_75 hy_X9_enough (by omega) (by decide) (by decide) (Nat.le_of_ble_eq_true rfl) rfl (con_mono h ?_ ?_)
  · intro r w1 hr
    obtain ⟨v, rfl⟩ := hK r w1 hr
    show Z M G (0 + 1) _ _ w1 12 [some (.ref (G.2.1 0 0)), some (.int p0), some (.int p1), some (.int p2), some (.int p3), some (.ref (G.2.1 80 0)), none] [.long v, .int 0, .ref (G.2.1 80 0)]
    refine h_out F hf dL_enough_12 ?_
    refine h_goto F 20 dL_enough_13 (by decide) ?_
    refine h_iconst F 0 dL_enough_20 (by decide) ?_
    exact h_iret F dL_enough_21 (by decide) (Or.inl ⟨v, w1, hr, rfl, rfl⟩)
  · intro E w1 hx
    cases hX E w1 hx
    refine ⟨16, ct_1 F (by decide) (by decide) lk_L_13 (by decide), fun q => ?_⟩
    refine h_astore F dL_enough_16 (by show 6 < 7; decide) ?_
    refine h_iconst F 1 dL_enough_18 (by decide) ?_
    exact h_iret F dL_enough_19 (by decide) (Or.inr ⟨hx, rfl⟩)
theorem kL_rent : Cond.methodLink RL 217 yL_rent ∈ GW ∧ Cond.static yL_rent ∈ GW ∧ Cond.initialized yL_rent.cls ∈ GW ∧ Cond.codeWith yL_rent cL_rent 6 (some .int) [(0, 12, 15, 31), (0, 12, 19, 13)] ∈ GW := ⟨GW_5 120 rfl rfl, GW_5 121 rfl rfl, mN_RL, GW_5 122 rfl rfl⟩
theorem kY_rent : yL_rent.cls ≠ "java/lang/invoke/MethodHandle" ∧ yL_rent.cls ≠ "java/lang/invoke/VarHandle" ∧ (parseMethodDescriptor yL_rent.desc).map (fun d => d.parameters.length) = some 5 := by decide +kernel
abbrev CH_rent (l : Launch) (G : Gx) := ConH l G 8 2 yL_rent cL_rent 6 (some .int) [(0, 12, 15, 31), (0, 12, 19, 13)]
theorem k_rent {l : Launch} {G : Gx} {w : Wd} {p0 p1 p2 : Int32} {K : Option Value → Wd → Prop} {X : String → Wd → Prop} (hl : l.stackTraces = false) (hf : G.2.2.1 7 ≠ 0) (h : C_X9_rent l G w [.ref (G.2.1 0 0), .int p0, .int p1, .int p2] K X) (hK : ∀ r w2, K r w2 → ∃ v, r = some (.int v)) (hX : ∀ E w2, X E w2 → E = nNse ∨ E = nIae) :
    CH_rent l G w [.ref (G.2.1 0 0), .int p0, .int p1, .int p2, .ref (G.2.1 80 0)] (fun r w2 => (∃ (v : Int32) (w1 : Wd), K (some (.int v)) w1 ∧ r = some (.int 0) ∧ w2 = setL w1 80 0 0 v.toInt64) ∨ (X nNse w2 ∧ r = some (.int 1)) ∨ (X nIae w2 ∧ r = some (.int 2))) := by
  refine conH_intro hl (by decide +kernel) (Nat.le_of_ble_eq_true rfl) (Nat.le_of_ble_eq_true rfl) (fun M kk hM hk F => ?_)
  show Z M G 0 _ _ w 0 [some (.ref (G.2.1 0 0)), some (.int p0), some (.int p1), some (.int p2), some (.ref (G.2.1 80 0)), none] []
  rw [← hM] at h
  refine h_aload F dL_rent_0 rfl ?_
  refine h_iconst F 0 dL_rent_2 (by decide) ?_
  refine h_aload_n F dL_rent_3 rfl ?_
  refine h_iload_n F dL_rent_4 rfl ?_
  refine h_iload_n F dL_rent_5 rfl ?_
  refine h_iload_n F dL_rent_6 rfl ?_
  refine h_callV F (k' := 7) (mc' := 2) [.int p0, .int p1, .int p2] [.int 0, .ref (G.2.1 80 0)] dL_rent_7 rfl rfl (by decide) rfl cl_L_79 hy_X9_rent (by omega) (by decide) (by decide) (Nat.le_of_ble_eq_true rfl) rfl (con_mono h ?_ ?_)
  · intro r w1 hr
    obtain ⟨v, rfl⟩ := hK r w1 hr
    show Z M G (0 + 2) _ _ w1 10 [some (.ref (G.2.1 0 0)), some (.int p0), some (.int p1), some (.int p2), some (.ref (G.2.1 80 0)), none] [.int v, .int 0, .ref (G.2.1 80 0)]
    refine h_i2l F dL_rent_10 ?_
    refine h_out F hf dL_rent_11 ?_
    refine h_goto F 23 dL_rent_12 (by decide) ?_
    refine h_iconst F 0 dL_rent_23 (by decide) ?_
    exact h_iret F dL_rent_24 (by decide) (Or.inl ⟨v, w1, hr, rfl, rfl⟩)
  · intro E w1 hx
    rcases hX E w1 hx with e | e
    · subst e
      refine ⟨15, ct_21 F (by decide) (by decide) lk_L_31 (by decide), fun q => ?_⟩
      refine h_astore F dL_rent_15 (by show 5 < 6; decide) ?_
      refine h_iconst F 1 dL_rent_17 (by decide) ?_
      exact h_iret F dL_rent_18 (by decide) (Or.inr (Or.inl ⟨hx, rfl⟩))
    · subst e
      refine ⟨19, ct_22 F (by decide) lk_L_31 (by decide) lk_L_13 (by decide), fun q => ?_⟩
      refine h_astore F dL_rent_19 (by show 5 < 6; decide) ?_
      refine h_iconst F 2 dL_rent_21 (by decide) ?_
      exact h_iret F dL_rent_22 (by decide) (Or.inr (Or.inr ⟨hx, rfl⟩))
theorem kL_dearest : Cond.methodLink RL 220 yL_dearest ∈ GW ∧ Cond.static yL_dearest ∈ GW ∧ Cond.initialized yL_dearest.cls ∈ GW ∧ Cond.codeWith yL_dearest cL_dearest 4 (some .int) [(0, 9, 12, 13)] ∈ GW := ⟨GW_5 136 rfl rfl, GW_5 137 rfl rfl, mN_RL, GW_5 138 rfl rfl⟩
theorem kY_dearest : yL_dearest.cls ≠ "java/lang/invoke/MethodHandle" ∧ yL_dearest.cls ≠ "java/lang/invoke/VarHandle" ∧ (parseMethodDescriptor yL_dearest.desc).map (fun d => d.parameters.length) = some 3 := by decide +kernel
abbrev CH_dearest (l : Launch) (G : Gx) := ConH l G 8 1 yL_dearest cL_dearest 4 (some .int) [(0, 9, 12, 13)]
theorem k_dearest {l : Launch} {G : Gx} {w : Wd} {p0 : Int32} {K : Option Value → Wd → Prop} {X : String → Wd → Prop} (hl : l.stackTraces = false) (hf : G.2.2.1 7 ≠ 0) (h : C_X9_dearest l G w [.ref (G.2.1 0 0), .int p0] K X) (hK : ∀ r w2, K r w2 → ∃ v, r = some (.int v)) (hX : ∀ E w2, X E w2 → E = nIae) :
    CH_dearest l G w [.ref (G.2.1 0 0), .int p0, .ref (G.2.1 80 0)] (fun r w2 => (∃ (v : Int32) (w1 : Wd), K (some (.int v)) w1 ∧ r = some (.int 0) ∧ w2 = setL w1 80 0 0 v.toInt64) ∨ (X nIae w2 ∧ r = some (.int 1))) := by
  refine conH_intro hl (by decide +kernel) (Nat.le_of_ble_eq_true rfl) (Nat.le_of_ble_eq_true rfl) (fun M kk hM hk F => ?_)
  show Z M G 0 _ _ w 0 [some (.ref (G.2.1 0 0)), some (.int p0), some (.ref (G.2.1 80 0)), none] []
  rw [← hM] at h
  refine h_aload_n F dL_dearest_0 rfl ?_
  refine h_iconst F 0 dL_dearest_1 (by decide) ?_
  refine h_aload_n F dL_dearest_2 rfl ?_
  refine h_iload_n F dL_dearest_3 rfl ?_
  refine h_callV F (k' := 7) (mc' := 1) [.int p0] [.int 0, .ref (G.2.1 80 0)] dL_dearest_4 rfl rfl (by decide) rfl cl_L_82 hy_X9_dearest (by omega) (by decide) (by decide) (Nat.le_of_ble_eq_true rfl) rfl (con_mono h ?_ ?_)
  · intro r w1 hr
    obtain ⟨v, rfl⟩ := hK r w1 hr
    show Z M G (0 + 1) _ _ w1 7 [some (.ref (G.2.1 0 0)), some (.int p0), some (.ref (G.2.1 80 0)), none] [.int v, .int 0, .ref (G.2.1 80 0)]
    refine h_i2l F dL_dearest_7 ?_
    refine h_out F hf dL_dearest_8 ?_
    refine h_goto F 15 dL_dearest_9 (by decide) ?_
    refine h_iconst F 0 dL_dearest_15 (by decide) ?_
    exact h_iret F dL_dearest_16 (by decide) (Or.inl ⟨v, w1, hr, rfl, rfl⟩)
  · intro E w1 hx
    cases hX E w1 hx
    refine ⟨12, ct_1 F (by decide) (by decide) lk_L_13 (by decide), fun q => ?_⟩
    refine h_astore_n F dL_dearest_12 (by show 3 < 4; decide) ?_
    refine h_iconst F 1 dL_dearest_13 (by decide) ?_
    exact h_iret F dL_dearest_14 (by decide) (Or.inr ⟨hx, rfl⟩)
theorem kL_voices : Cond.methodLink RL 223 yL_voices ∈ GW ∧ Cond.static yL_voices ∈ GW ∧ Cond.initialized yL_voices.cls ∈ GW ∧ Cond.codeWith yL_voices cL_voices 4 (some .int) [(0, 9, 12, 13)] ∈ GW := ⟨GW_5 146 rfl rfl, GW_5 147 rfl rfl, mN_RL, GW_5 148 rfl rfl⟩
theorem kY_voices : yL_voices.cls ≠ "java/lang/invoke/MethodHandle" ∧ yL_voices.cls ≠ "java/lang/invoke/VarHandle" ∧ (parseMethodDescriptor yL_voices.desc).map (fun d => d.parameters.length) = some 3 := by decide +kernel
abbrev CH_voices (l : Launch) (G : Gx) := ConH l G 8 1 yL_voices cL_voices 4 (some .int) [(0, 9, 12, 13)]
theorem k_voices {l : Launch} {G : Gx} {w : Wd} {p0 : Int32} {K : Option Value → Wd → Prop} {X : String → Wd → Prop} (hl : l.stackTraces = false) (hf : G.2.2.1 7 ≠ 0) (h : C_X9_voices l G w [.ref (G.2.1 0 0), .int p0] K X) (hK : ∀ r w2, K r w2 → ∃ v, r = some (.int v)) (hX : ∀ E w2, X E w2 → E = nIae) :
    CH_voices l G w [.ref (G.2.1 0 0), .int p0, .ref (G.2.1 80 0)] (fun r w2 => (∃ (v : Int32) (w1 : Wd), K (some (.int v)) w1 ∧ r = some (.int 0) ∧ w2 = setL w1 80 0 0 v.toInt64) ∨ (X nIae w2 ∧ r = some (.int 1))) := by
  refine conH_intro hl (by decide +kernel) (Nat.le_of_ble_eq_true rfl) (Nat.le_of_ble_eq_true rfl) (fun M kk hM hk F => ?_)
  show Z M G 0 _ _ w 0 [some (.ref (G.2.1 0 0)), some (.int p0), some (.ref (G.2.1 80 0)), none] []
  rw [← hM] at h
  refine h_aload_n F dL_voices_0 rfl ?_
  refine h_iconst F 0 dL_voices_1 (by decide) ?_
  refine h_aload_n F dL_voices_2 rfl ?_
  refine h_iload_n F dL_voices_3 rfl ?_
  refine h_callV F (k' := 7) (mc' := 1) [.int p0] [.int 0, .ref (G.2.1 80 0)] dL_voices_4 rfl rfl (by decide) rfl cl_L_85 hy_X9_voices (by omega) (by decide) (by decide) (Nat.le_of_ble_eq_true rfl) rfl (con_mono h ?_ ?_)
  · intro r w1 hr
    obtain ⟨v, rfl⟩ := hK r w1 hr
    show Z M G (0 + 1) _ _ w1 7 [some (.ref (G.2.1 0 0)), some (.int p0), some (.ref (G.2.1 80 0)), none] [.int v, .int 0, .ref (G.2.1 80 0)]
    refine h_i2l F dL_voices_7 ?_
    refine h_out F hf dL_voices_8 ?_
    refine h_goto F 15 dL_voices_9 (by decide) ?_
    refine h_iconst F 0 dL_voices_15 (by decide) ?_
    exact h_iret F dL_voices_16 (by decide) (Or.inl ⟨v, w1, hr, rfl, rfl⟩)
  · intro E w1 hx
    cases hX E w1 hx
    refine ⟨12, ct_1 F (by decide) (by decide) lk_L_13 (by decide), fun q => ?_⟩
    refine h_astore_n F dL_voices_12 (by show 3 < 4; decide) ?_
    refine h_iconst F 1 dL_voices_13 (by decide) ?_
    exact h_iret F dL_voices_14 (by decide) (Or.inr ⟨hx, rfl⟩)
theorem kL_sounds : Cond.methodLink RL 226 yL_sounds ∈ GW ∧ Cond.static yL_sounds ∈ GW ∧ Cond.initialized yL_sounds.cls ∈ GW ∧ Cond.codeWith yL_sounds cL_sounds 4 (some .int) [(0, 9, 12, 13)] ∈ GW := ⟨GW_5 153 rfl rfl, GW_5 154 rfl rfl, mN_RL, GW_5 155 rfl rfl⟩
theorem kY_sounds : yL_sounds.cls ≠ "java/lang/invoke/MethodHandle" ∧ yL_sounds.cls ≠ "java/lang/invoke/VarHandle" ∧ (parseMethodDescriptor yL_sounds.desc).map (fun d => d.parameters.length) = some 3 := by decide +kernel
abbrev CH_sounds (l : Launch) (G : Gx) := ConH l G 8 1 yL_sounds cL_sounds 4 (some .int) [(0, 9, 12, 13)]
theorem k_sounds {l : Launch} {G : Gx} {w : Wd} {p0 : Int32} {K : Option Value → Wd → Prop} {X : String → Wd → Prop} (hl : l.stackTraces = false) (hf : G.2.2.1 7 ≠ 0) (h : C_X9_sounds l G w [.ref (G.2.1 0 0), .int p0] K X) (hK : ∀ r w2, K r w2 → ∃ v, r = some (.int v)) (hX : ∀ E w2, X E w2 → E = nIae) :
    CH_sounds l G w [.ref (G.2.1 0 0), .int p0, .ref (G.2.1 80 0)] (fun r w2 => (∃ (v : Int32) (w1 : Wd), K (some (.int v)) w1 ∧ r = some (.int 0) ∧ w2 = setL w1 80 0 0 v.toInt64) ∨ (X nIae w2 ∧ r = some (.int 1))) := by
  refine conH_intro hl (by decide +kernel) (Nat.le_of_ble_eq_true rfl) (Nat.le_of_ble_eq_true rfl) (fun M kk hM hk F => ?_)
  show Z M G 0 _ _ w 0 [some (.ref (G.2.1 0 0)), some (.int p0), some (.ref (G.2.1 80 0)), none] []
  rw [← hM] at h
  refine h_aload_n F dL_sounds_0 rfl ?_
  refine h_iconst F 0 dL_sounds_1 (by decide) ?_
  refine h_aload_n F dL_sounds_2 rfl ?_
  refine h_iload_n F dL_sounds_3 rfl ?_
  refine h_callV F (k' := 7) (mc' := 1) [.int p0] [.int 0, .ref (G.2.1 80 0)] dL_sounds_4 rfl rfl (by decide) rfl cl_L_88 hy_X9_sounds (by omega) (by decide) (by decide) (Nat.le_of_ble_eq_true rfl) rfl (con_mono h ?_ ?_)
  · intro r w1 hr
    obtain ⟨v, rfl⟩ := hK r w1 hr
    show Z M G (0 + 1) _ _ w1 7 [some (.ref (G.2.1 0 0)), some (.int p0), some (.ref (G.2.1 80 0)), none] [.int v, .int 0, .ref (G.2.1 80 0)]
    refine h_i2l F dL_sounds_7 ?_
    refine h_out F hf dL_sounds_8 ?_
    refine h_goto F 15 dL_sounds_9 (by decide) ?_
    refine h_iconst F 0 dL_sounds_15 (by decide) ?_
    exact h_iret F dL_sounds_16 (by decide) (Or.inl ⟨v, w1, hr, rfl, rfl⟩)
  · intro E w1 hx
    cases hX E w1 hx
    refine ⟨12, ct_1 F (by decide) (by decide) lk_L_13 (by decide), fun q => ?_⟩
    refine h_astore_n F dL_sounds_12 (by show 3 < 4; decide) ?_
    refine h_iconst F 1 dL_sounds_13 (by decide) ?_
    exact h_iret F dL_sounds_14 (by decide) (Or.inr ⟨hx, rfl⟩)
theorem kL_beats : Cond.methodLink RL 229 yL_beats ∈ GW ∧ Cond.static yL_beats ∈ GW ∧ Cond.initialized yL_beats.cls ∈ GW ∧ Cond.codeWith yL_beats cL_beats 4 (some .int) [(0, 9, 12, 13)] ∈ GW := ⟨GW_5 160 rfl rfl, GW_5 161 rfl rfl, mN_RL, GW_5 162 rfl rfl⟩
theorem kY_beats : yL_beats.cls ≠ "java/lang/invoke/MethodHandle" ∧ yL_beats.cls ≠ "java/lang/invoke/VarHandle" ∧ (parseMethodDescriptor yL_beats.desc).map (fun d => d.parameters.length) = some 3 := by decide +kernel
abbrev CH_beats (l : Launch) (G : Gx) := ConH l G 8 1 yL_beats cL_beats 4 (some .int) [(0, 9, 12, 13)]
theorem k_beats {l : Launch} {G : Gx} {w : Wd} {p0 : Int32} {K : Option Value → Wd → Prop} {X : String → Wd → Prop} (hl : l.stackTraces = false) (hf : G.2.2.1 7 ≠ 0) (h : C_X9_beats l G w [.ref (G.2.1 0 0), .int p0] K X) (hK : ∀ r w2, K r w2 → ∃ v, r = some (.int v)) (hX : ∀ E w2, X E w2 → E = nIae) :
    CH_beats l G w [.ref (G.2.1 0 0), .int p0, .ref (G.2.1 80 0)] (fun r w2 => (∃ (v : Int32) (w1 : Wd), K (some (.int v)) w1 ∧ r = some (.int 0) ∧ w2 = setL w1 80 0 0 v.toInt64) ∨ (X nIae w2 ∧ r = some (.int 1))) := by
  refine conH_intro hl (by decide +kernel) (Nat.le_of_ble_eq_true rfl) (Nat.le_of_ble_eq_true rfl) (fun M kk hM hk F => ?_)
  show Z M G 0 _ _ w 0 [some (.ref (G.2.1 0 0)), some (.int p0), some (.ref (G.2.1 80 0)), none] []
  rw [← hM] at h
  refine h_aload_n F dL_beats_0 rfl ?_
  refine h_iconst F 0 dL_beats_1 (by decide) ?_
  refine h_aload_n F dL_beats_2 rfl ?_
  refine h_iload_n F dL_beats_3 rfl ?_
  refine h_callV F (k' := 7) (mc' := 1) [.int p0] [.int 0, .ref (G.2.1 80 0)] dL_beats_4 rfl rfl (by decide) rfl cl_L_91 hy_X9_beats (by omega) (by decide) (by decide) (Nat.le_of_ble_eq_true rfl) rfl (con_mono h ?_ ?_)
  · intro r w1 hr
    obtain ⟨v, rfl⟩ := hK r w1 hr
    show Z M G (0 + 1) _ _ w1 7 [some (.ref (G.2.1 0 0)), some (.int p0), some (.ref (G.2.1 80 0)), none] [.int v, .int 0, .ref (G.2.1 80 0)]
    refine h_i2l F dL_beats_7 ?_
    refine h_out F hf dL_beats_8 ?_
    refine h_goto F 15 dL_beats_9 (by decide) ?_
    refine h_iconst F 0 dL_beats_15 (by decide) ?_
    exact h_iret F dL_beats_16 (by decide) (Or.inl ⟨v, w1, hr, rfl, rfl⟩)
  · intro E w1 hx
    cases hX E w1 hx
    refine ⟨12, ct_1 F (by decide) (by decide) lk_L_13 (by decide), fun q => ?_⟩
    refine h_astore_n F dL_beats_12 (by show 3 < 4; decide) ?_
    refine h_iconst F 1 dL_beats_13 (by decide) ?_
    exact h_iret F dL_beats_14 (by decide) (Or.inr ⟨hx, rfl⟩)
theorem kL_words : Cond.methodLink RL 232 yL_words ∈ GW ∧ Cond.static yL_words ∈ GW ∧ Cond.initialized yL_words.cls ∈ GW ∧ Cond.codeWith yL_words cL_words 4 (some .int) [(0, 9, 12, 31)] ∈ GW := ⟨GW_5 167 rfl rfl, GW_5 168 rfl rfl, mN_RL, GW_5 169 rfl rfl⟩
theorem kY_words : yL_words.cls ≠ "java/lang/invoke/MethodHandle" ∧ yL_words.cls ≠ "java/lang/invoke/VarHandle" ∧ (parseMethodDescriptor yL_words.desc).map (fun d => d.parameters.length) = some 3 := by decide +kernel
abbrev CH_words (l : Launch) (G : Gx) := ConH l G 8 1 yL_words cL_words 4 (some .int) [(0, 9, 12, 31)]
theorem k_words {l : Launch} {G : Gx} {w : Wd} {p0 : Int32} {K : Option Value → Wd → Prop} {X : String → Wd → Prop} (hl : l.stackTraces = false) (hf : G.2.2.1 7 ≠ 0) (h : C_X9_words l G w [.ref (G.2.1 0 0), .int p0] K X) (hK : ∀ r w2, K r w2 → ∃ v, r = some (.int v)) (hX : ∀ E w2, X E w2 → E = nNse) :
    CH_words l G w [.ref (G.2.1 0 0), .int p0, .ref (G.2.1 80 0)] (fun r w2 => (∃ (v : Int32) (w1 : Wd), K (some (.int v)) w1 ∧ r = some (.int 0) ∧ w2 = setL w1 80 0 0 v.toInt64) ∨ (X nNse w2 ∧ r = some (.int 1))) := by
  refine conH_intro hl (by decide +kernel) (Nat.le_of_ble_eq_true rfl) (Nat.le_of_ble_eq_true rfl) (fun M kk hM hk F => ?_)
  show Z M G 0 _ _ w 0 [some (.ref (G.2.1 0 0)), some (.int p0), some (.ref (G.2.1 80 0)), none] []
  rw [← hM] at h
  refine h_aload_n F dL_words_0 rfl ?_
  refine h_iconst F 0 dL_words_1 (by decide) ?_
  refine h_aload_n F dL_words_2 rfl ?_
  refine h_iload_n F dL_words_3 rfl ?_
  refine h_callV F (k' := 7) (mc' := 1) [.int p0] [.int 0, .ref (G.2.1 80 0)] dL_words_4 rfl rfl (by decide) rfl cl_L_94 hy_X9_words (by omega) (by decide) (by decide) (Nat.le_of_ble_eq_true rfl) rfl (con_mono h ?_ ?_)
  · intro r w1 hr
    obtain ⟨v, rfl⟩ := hK r w1 hr
    show Z M G (0 + 1) _ _ w1 7 [some (.ref (G.2.1 0 0)), some (.int p0), some (.ref (G.2.1 80 0)), none] [.int v, .int 0, .ref (G.2.1 80 0)]
    refine h_i2l F dL_words_7 ?_
    refine h_out F hf dL_words_8 ?_
    refine h_goto F 15 dL_words_9 (by decide) ?_
    refine h_iconst F 0 dL_words_15 (by decide) ?_
    exact h_iret F dL_words_16 (by decide) (Or.inl ⟨v, w1, hr, rfl, rfl⟩)
  · intro E w1 hx
    cases hX E w1 hx
    refine ⟨12, ct_1 F (by decide) (by decide) lk_L_31 (by decide), fun q => ?_⟩
    refine h_astore_n F dL_words_12 (by show 3 < 4; decide) ?_
    refine h_iconst F 1 dL_words_13 (by decide) ?_
    exact h_iret F dL_words_14 (by decide) (Or.inr ⟨hx, rfl⟩)
theorem kL_alone : Cond.methodLink RL 243 yL_alone ∈ GW ∧ Cond.static yL_alone ∈ GW ∧ Cond.initialized yL_alone.cls ∈ GW ∧ Cond.codeWith yL_alone cL_alone 4 (some .int) [(0, 9, 12, 13)] ∈ GW := ⟨GW_5 174 rfl rfl, GW_5 175 rfl rfl, mN_RL, GW_5 176 rfl rfl⟩
theorem kY_alone : yL_alone.cls ≠ "java/lang/invoke/MethodHandle" ∧ yL_alone.cls ≠ "java/lang/invoke/VarHandle" ∧ (parseMethodDescriptor yL_alone.desc).map (fun d => d.parameters.length) = some 3 := by decide +kernel
abbrev CH_alone (l : Launch) (G : Gx) := ConH l G 8 1 yL_alone cL_alone 4 (some .int) [(0, 9, 12, 13)]
theorem k_alone {l : Launch} {G : Gx} {w : Wd} {p0 : Int32} {K : Option Value → Wd → Prop} {X : String → Wd → Prop} (hl : l.stackTraces = false) (hf : G.2.2.1 7 ≠ 0) (h : C_X9_alone l G w [.ref (G.2.1 0 0), .int p0] K X) (hK : ∀ r w2, K r w2 → ∃ v, r = some (.int v)) (hX : ∀ E w2, X E w2 → E = nIae) :
    CH_alone l G w [.ref (G.2.1 0 0), .int p0, .ref (G.2.1 80 0)] (fun r w2 => (∃ (v : Int32) (w1 : Wd), K (some (.int v)) w1 ∧ r = some (.int 0) ∧ w2 = setL w1 80 0 0 v.toInt64) ∨ (X nIae w2 ∧ r = some (.int 1))) := by
  refine conH_intro hl (by decide +kernel) (Nat.le_of_ble_eq_true rfl) (Nat.le_of_ble_eq_true rfl) (fun M kk hM hk F => ?_)
  show Z M G 0 _ _ w 0 [some (.ref (G.2.1 0 0)), some (.int p0), some (.ref (G.2.1 80 0)), none] []
  rw [← hM] at h
  refine h_aload_n F dL_alone_0 rfl ?_
  refine h_iconst F 0 dL_alone_1 (by decide) ?_
  refine h_aload_n F dL_alone_2 rfl ?_
  refine h_iload_n F dL_alone_3 rfl ?_
  refine h_callV F (k' := 7) (mc' := 1) [.int p0] [.int 0, .ref (G.2.1 80 0)] dL_alone_4 rfl rfl (by decide) rfl cl_L_97 hy_X9_alone (by omega) (by decide) (by decide) (Nat.le_of_ble_eq_true rfl) rfl (con_mono h ?_ ?_)
  · intro r w1 hr
    obtain ⟨v, rfl⟩ := hK r w1 hr
    show Z M G (0 + 1) _ _ w1 7 [some (.ref (G.2.1 0 0)), some (.int p0), some (.ref (G.2.1 80 0)), none] [.int v, .int 0, .ref (G.2.1 80 0)]
    refine h_i2l F dL_alone_7 ?_
    refine h_out F hf dL_alone_8 ?_
    refine h_goto F 15 dL_alone_9 (by decide) ?_
    refine h_iconst F 0 dL_alone_15 (by decide) ?_
    exact h_iret F dL_alone_16 (by decide) (Or.inl ⟨v, w1, hr, rfl, rfl⟩)
  · intro E w1 hx
    cases hX E w1 hx
    refine ⟨12, ct_1 F (by decide) (by decide) lk_L_13 (by decide), fun q => ?_⟩
    refine h_astore_n F dL_alone_12 (by show 3 < 4; decide) ?_
    refine h_iconst F 1 dL_alone_13 (by decide) ?_
    exact h_iret F dL_alone_14 (by decide) (Or.inr ⟨hx, rfl⟩)
theorem kL_longest : Cond.methodLink RL 246 yL_longest ∈ GW ∧ Cond.static yL_longest ∈ GW ∧ Cond.initialized yL_longest.cls ∈ GW ∧ Cond.codeWith yL_longest cL_longest 4 (some .int) [(0, 9, 12, 13)] ∈ GW := ⟨GW_5 181 rfl rfl, GW_5 182 rfl rfl, mN_RL, GW_5 183 rfl rfl⟩
theorem kY_longest : yL_longest.cls ≠ "java/lang/invoke/MethodHandle" ∧ yL_longest.cls ≠ "java/lang/invoke/VarHandle" ∧ (parseMethodDescriptor yL_longest.desc).map (fun d => d.parameters.length) = some 3 := by decide +kernel
abbrev CH_longest (l : Launch) (G : Gx) := ConH l G 8 1 yL_longest cL_longest 4 (some .int) [(0, 9, 12, 13)]
theorem k_longest {l : Launch} {G : Gx} {w : Wd} {p0 : Int32} {K : Option Value → Wd → Prop} {X : String → Wd → Prop} (hl : l.stackTraces = false) (hf : G.2.2.1 7 ≠ 0) (h : C_X9_longest l G w [.ref (G.2.1 0 0), .int p0] K X) (hK : ∀ r w2, K r w2 → ∃ v, r = some (.int v)) (hX : ∀ E w2, X E w2 → E = nIae) :
    CH_longest l G w [.ref (G.2.1 0 0), .int p0, .ref (G.2.1 80 0)] (fun r w2 => (∃ (v : Int32) (w1 : Wd), K (some (.int v)) w1 ∧ r = some (.int 0) ∧ w2 = setL w1 80 0 0 v.toInt64) ∨ (X nIae w2 ∧ r = some (.int 1))) := by
  refine conH_intro hl (by decide +kernel) (Nat.le_of_ble_eq_true rfl) (Nat.le_of_ble_eq_true rfl) (fun M kk hM hk F => ?_)
  show Z M G 0 _ _ w 0 [some (.ref (G.2.1 0 0)), some (.int p0), some (.ref (G.2.1 80 0)), none] []
  rw [← hM] at h
  refine h_aload_n F dL_longest_0 rfl ?_
  refine h_iconst F 0 dL_longest_1 (by decide) ?_
  refine h_aload_n F dL_longest_2 rfl ?_
  refine h_iload_n F dL_longest_3 rfl ?_
  refine h_callV F (k' := 7) (mc' := 1) [.int p0] [.int 0, .ref (G.2.1 80 0)] dL_longest_4 rfl rfl (by decide) rfl cl_L_100 hy_X9_longest (by omega) (by decide) (by decide) (Nat.le_of_ble_eq_true rfl) rfl (con_mono h ?_ ?_)
  · intro r w1 hr
    obtain ⟨v, rfl⟩ := hK r w1 hr
    show Z M G (0 + 1) _ _ w1 7 [some (.ref (G.2.1 0 0)), some (.int p0), some (.ref (G.2.1 80 0)), none] [.int v, .int 0, .ref (G.2.1 80 0)]
    refine h_i2l F dL_longest_7 ?_
    refine h_out F hf dL_longest_8 ?_
    refine h_goto F 15 dL_longest_9 (by decide) ?_
    refine h_iconst F 0 dL_longest_15 (by decide) ?_
    exact h_iret F dL_longest_16 (by decide) (Or.inl ⟨v, w1, hr, rfl, rfl⟩)
  · intro E w1 hx
    cases hX E w1 hx
    refine ⟨12, ct_1 F (by decide) (by decide) lk_L_13 (by decide), fun q => ?_⟩
    refine h_astore_n F dL_longest_12 (by show 3 < 4; decide) ?_
    refine h_iconst F 1 dL_longest_13 (by decide) ?_
    exact h_iret F dL_longest_14 (by decide) (Or.inr ⟨hx, rfl⟩)
theorem kL_chorus : Cond.methodLink RL 249 yL_chorus ∈ GW ∧ Cond.static yL_chorus ∈ GW ∧ Cond.initialized yL_chorus.cls ∈ GW ∧ Cond.codeWith yL_chorus cL_chorus 4 (some .int) [(0, 9, 12, 13)] ∈ GW := ⟨GW_5 188 rfl rfl, GW_5 189 rfl rfl, mN_RL, GW_5 190 rfl rfl⟩
theorem kY_chorus : yL_chorus.cls ≠ "java/lang/invoke/MethodHandle" ∧ yL_chorus.cls ≠ "java/lang/invoke/VarHandle" ∧ (parseMethodDescriptor yL_chorus.desc).map (fun d => d.parameters.length) = some 3 := by decide +kernel
abbrev CH_chorus (l : Launch) (G : Gx) := ConH l G 8 1 yL_chorus cL_chorus 4 (some .int) [(0, 9, 12, 13)]
theorem k_chorus {l : Launch} {G : Gx} {w : Wd} {p0 : Int32} {K : Option Value → Wd → Prop} {X : String → Wd → Prop} (hl : l.stackTraces = false) (hf : G.2.2.1 7 ≠ 0) (h : C_X9_chorus l G w [.ref (G.2.1 0 0), .int p0] K X) (hK : ∀ r w2, K r w2 → ∃ v, r = some (.int v)) (hX : ∀ E w2, X E w2 → E = nIae) :
    CH_chorus l G w [.ref (G.2.1 0 0), .int p0, .ref (G.2.1 80 0)] (fun r w2 => (∃ (v : Int32) (w1 : Wd), K (some (.int v)) w1 ∧ r = some (.int 0) ∧ w2 = setL w1 80 0 0 v.toInt64) ∨ (X nIae w2 ∧ r = some (.int 1))) := by
  refine conH_intro hl (by decide +kernel) (Nat.le_of_ble_eq_true rfl) (Nat.le_of_ble_eq_true rfl) (fun M kk hM hk F => ?_)
  show Z M G 0 _ _ w 0 [some (.ref (G.2.1 0 0)), some (.int p0), some (.ref (G.2.1 80 0)), none] []
  rw [← hM] at h
  refine h_aload_n F dL_chorus_0 rfl ?_
  refine h_iconst F 0 dL_chorus_1 (by decide) ?_
  refine h_aload_n F dL_chorus_2 rfl ?_
  refine h_iload_n F dL_chorus_3 rfl ?_
  refine h_callV F (k' := 7) (mc' := 1) [.int p0] [.int 0, .ref (G.2.1 80 0)] dL_chorus_4 rfl rfl (by decide) rfl cl_L_103 hy_X9_chorus (by omega) (by decide) (by decide) (Nat.le_of_ble_eq_true rfl) rfl (con_mono h ?_ ?_)
  · intro r w1 hr
    obtain ⟨v, rfl⟩ := hK r w1 hr
    show Z M G (0 + 1) _ _ w1 7 [some (.ref (G.2.1 0 0)), some (.int p0), some (.ref (G.2.1 80 0)), none] [.int v, .int 0, .ref (G.2.1 80 0)]
    refine h_i2l F dL_chorus_7 ?_
    refine h_out F hf dL_chorus_8 ?_
    refine h_goto F 15 dL_chorus_9 (by decide) ?_
    refine h_iconst F 0 dL_chorus_15 (by decide) ?_
    exact h_iret F dL_chorus_16 (by decide) (Or.inl ⟨v, w1, hr, rfl, rfl⟩)
  · intro E w1 hx
    cases hX E w1 hx
    refine ⟨12, ct_1 F (by decide) (by decide) lk_L_13 (by decide), fun q => ?_⟩
    refine h_astore_n F dL_chorus_12 (by show 3 < 4; decide) ?_
    refine h_iconst F 1 dL_chorus_13 (by decide) ?_
    exact h_iret F dL_chorus_14 (by decide) (Or.inr ⟨hx, rfl⟩)
theorem kL_spare : Cond.methodLink RL 252 yL_spare ∈ GW ∧ Cond.static yL_spare ∈ GW ∧ Cond.initialized yL_spare.cls ∈ GW ∧ Cond.codeWith yL_spare cL_spare 4 (some .int) [(0, 9, 12, 13)] ∈ GW := ⟨GW_5 195 rfl rfl, GW_5 196 rfl rfl, mN_RL, GW_5 197 rfl rfl⟩
theorem kY_spare : yL_spare.cls ≠ "java/lang/invoke/MethodHandle" ∧ yL_spare.cls ≠ "java/lang/invoke/VarHandle" ∧ (parseMethodDescriptor yL_spare.desc).map (fun d => d.parameters.length) = some 3 := by decide +kernel
abbrev CH_spare (l : Launch) (G : Gx) := ConH l G 8 1 yL_spare cL_spare 4 (some .int) [(0, 9, 12, 13)]
theorem k_spare {l : Launch} {G : Gx} {w : Wd} {p0 : Int32} {K : Option Value → Wd → Prop} {X : String → Wd → Prop} (hl : l.stackTraces = false) (hf : G.2.2.1 7 ≠ 0) (h : C_X9_spare l G w [.ref (G.2.1 0 0), .int p0] K X) (hK : ∀ r w2, K r w2 → ∃ v, r = some (.int v)) (hX : ∀ E w2, X E w2 → E = nIae) :
    CH_spare l G w [.ref (G.2.1 0 0), .int p0, .ref (G.2.1 80 0)] (fun r w2 => (∃ (v : Int32) (w1 : Wd), K (some (.int v)) w1 ∧ r = some (.int 0) ∧ w2 = setL w1 80 0 0 v.toInt64) ∨ (X nIae w2 ∧ r = some (.int 1))) := by
  refine conH_intro hl (by decide +kernel) (Nat.le_of_ble_eq_true rfl) (Nat.le_of_ble_eq_true rfl) (fun M kk hM hk F => ?_)
  show Z M G 0 _ _ w 0 [some (.ref (G.2.1 0 0)), some (.int p0), some (.ref (G.2.1 80 0)), none] []
  rw [← hM] at h
  refine h_aload_n F dL_spare_0 rfl ?_
  refine h_iconst F 0 dL_spare_1 (by decide) ?_
  refine h_aload_n F dL_spare_2 rfl ?_
  refine h_iload_n F dL_spare_3 rfl ?_
  refine h_callV F (k' := 7) (mc' := 1) [.int p0] [.int 0, .ref (G.2.1 80 0)] dL_spare_4 rfl rfl (by decide) rfl cl_L_106 hy_X9_spare (by omega) (by decide) (by decide) (Nat.le_of_ble_eq_true rfl) rfl (con_mono h ?_ ?_)
  · intro r w1 hr
    obtain ⟨v, rfl⟩ := hK r w1 hr
    show Z M G (0 + 1) _ _ w1 7 [some (.ref (G.2.1 0 0)), some (.int p0), some (.ref (G.2.1 80 0)), none] [.int v, .int 0, .ref (G.2.1 80 0)]
    refine h_i2l F dL_spare_7 ?_
    refine h_out F hf dL_spare_8 ?_
    refine h_goto F 15 dL_spare_9 (by decide) ?_
    refine h_iconst F 0 dL_spare_15 (by decide) ?_
    exact h_iret F dL_spare_16 (by decide) (Or.inl ⟨v, w1, hr, rfl, rfl⟩)
  · intro E w1 hx
    cases hX E w1 hx
    refine ⟨12, ct_1 F (by decide) (by decide) lk_L_13 (by decide), fun q => ?_⟩
    refine h_astore_n F dL_spare_12 (by show 3 < 4; decide) ?_
    refine h_iconst F 1 dL_spare_13 (by decide) ?_
    exact h_iret F dL_spare_14 (by decide) (Or.inr ⟨hx, rfl⟩)
theorem kL_sunday : Cond.methodLink RL 255 yL_sunday ∈ GW ∧ Cond.static yL_sunday ∈ GW ∧ Cond.initialized yL_sunday.cls ∈ GW ∧ Cond.codeWith yL_sunday cL_sunday 7 (some .int) [(0, 14, 17, 13)] ∈ GW := ⟨GW_5 202 rfl rfl, GW_5 203 rfl rfl, mN_RL, GW_5 204 rfl rfl⟩
theorem kY_sunday : yL_sunday.cls ≠ "java/lang/invoke/MethodHandle" ∧ yL_sunday.cls ≠ "java/lang/invoke/VarHandle" ∧ (parseMethodDescriptor yL_sunday.desc).map (fun d => d.parameters.length) = some 6 := by decide +kernel
abbrev CH_sunday (l : Launch) (G : Gx) := ConH l G 8 1 yL_sunday cL_sunday 7 (some .int) [(0, 14, 17, 13)]
theorem k_sunday {l : Launch} {G : Gx} {w : Wd} {p0 p1 p2 p3 : Int32} {K : Option Value → Wd → Prop} {X : String → Wd → Prop} (hl : l.stackTraces = false) (hf : G.2.2.1 7 ≠ 0) (h : C_X9_sunday l G w [.ref (G.2.1 0 0), .int p0, .int p1, .int p2, .int p3] K X) (hK : ∀ r w2, K r w2 → ∃ v, r = some (.int v)) (hX : ∀ E w2, X E w2 → E = nIae) :
    CH_sunday l G w [.ref (G.2.1 0 0), .int p0, .int p1, .int p2, .int p3, .ref (G.2.1 80 0)] (fun r w2 => (∃ (v : Int32) (w1 : Wd), K (some (.int v)) w1 ∧ r = some (.int 0) ∧ w2 = setL w1 80 0 0 v.toInt64) ∨ (X nIae w2 ∧ r = some (.int 1))) := by
  refine conH_intro hl (by decide +kernel) (Nat.le_of_ble_eq_true rfl) (Nat.le_of_ble_eq_true rfl) (fun M kk hM hk F => ?_)
  show Z M G 0 _ _ w 0 [some (.ref (G.2.1 0 0)), some (.int p0), some (.int p1), some (.int p2), some (.int p3), some (.ref (G.2.1 80 0)), none] []
  rw [← hM] at h
  refine h_aload F dL_sunday_0 rfl ?_
  refine h_iconst F 0 dL_sunday_2 (by decide) ?_
  refine h_aload_n F dL_sunday_3 rfl ?_
  refine h_iload_n F dL_sunday_4 rfl ?_
  refine h_iload_n F dL_sunday_5 rfl ?_
  refine h_iload_n F dL_sunday_6 rfl ?_
  refine h_iload F dL_sunday_7 rfl ?_
  refine h_callV F (k' := 7) (mc' := 1) [.int p0, .int p1, .int p2, .int p3] [.int 0, .ref (G.2.1 80 0)] dL_sunday_9 rfl rfl (by decide) rfl cl_L_109 hy_X9_sunday (by omega) (by decide) (by decide) (Nat.le_of_ble_eq_true rfl) rfl (con_mono h ?_ ?_)
  · intro r w1 hr
    obtain ⟨v, rfl⟩ := hK r w1 hr
    show Z M G (0 + 1) _ _ w1 12 [some (.ref (G.2.1 0 0)), some (.int p0), some (.int p1), some (.int p2), some (.int p3), some (.ref (G.2.1 80 0)), none] [.int v, .int 0, .ref (G.2.1 80 0)]
    refine h_i2l F dL_sunday_12 ?_
    refine h_out F hf dL_sunday_13 ?_
    refine h_goto F 21 dL_sunday_14 (by decide) ?_
    refine h_iconst F 0 dL_sunday_21 (by decide) ?_
    exact h_iret F dL_sunday_22 (by decide) (Or.inl ⟨v, w1, hr, rfl, rfl⟩)
  · intro E w1 hx
    cases hX E w1 hx
    refine ⟨17, ct_1 F (by decide) (by decide) lk_L_13 (by decide), fun q => ?_⟩
    refine h_astore F dL_sunday_17 (by show 6 < 7; decide) ?_
    refine h_iconst F 1 dL_sunday_19 (by decide) ?_
    exact h_iret F dL_sunday_20 (by decide) (Or.inr ⟨hx, rfl⟩)
theorem kL_span : Cond.methodLink RL 258 yL_span ∈ GW ∧ Cond.static yL_span ∈ GW ∧ Cond.initialized yL_span.cls ∈ GW ∧ Cond.codeWith yL_span cL_span 9 (some .int) [(0, 18, 21, 13)] ∈ GW := ⟨GW_5 220 rfl rfl, GW_5 221 rfl rfl, mN_RL, GW_5 222 rfl rfl⟩
theorem kY_span : yL_span.cls ≠ "java/lang/invoke/MethodHandle" ∧ yL_span.cls ≠ "java/lang/invoke/VarHandle" ∧ (parseMethodDescriptor yL_span.desc).map (fun d => d.parameters.length) = some 8 := by decide +kernel
abbrev CH_span (l : Launch) (G : Gx) := ConH l G 8 2 yL_span cL_span 9 (some .int) [(0, 18, 21, 13)]
theorem k_span {l : Launch} {G : Gx} {w : Wd} {p0 p1 p2 p3 p4 p5 : Int32} {K : Option Value → Wd → Prop} {X : String → Wd → Prop} (hl : l.stackTraces = false) (hf : G.2.2.1 7 ≠ 0) (h : C_X9_span l G w [.ref (G.2.1 0 0), .int p0, .int p1, .int p2, .int p3, .int p4, .int p5] K X) (hK : ∀ r w2, K r w2 → ∃ v, r = some (.int v)) (hX : ∀ E w2, X E w2 → E = nIae) :
    CH_span l G w [.ref (G.2.1 0 0), .int p0, .int p1, .int p2, .int p3, .int p4, .int p5, .ref (G.2.1 80 0)] (fun r w2 => (∃ (v : Int32) (w1 : Wd), K (some (.int v)) w1 ∧ r = some (.int 0) ∧ w2 = setL w1 80 0 0 v.toInt64) ∨ (X nIae w2 ∧ r = some (.int 1))) := by
  refine conH_intro hl (by decide +kernel) (Nat.le_of_ble_eq_true rfl) (Nat.le_of_ble_eq_true rfl) (fun M kk hM hk F => ?_)
  show Z M G 0 _ _ w 0 [some (.ref (G.2.1 0 0)), some (.int p0), some (.int p1), some (.int p2), some (.int p3), some (.int p4), some (.int p5), some (.ref (G.2.1 80 0)), none] []
  rw [← hM] at h
  refine h_aload F dL_span_0 rfl ?_
  refine h_iconst F 0 dL_span_2 (by decide) ?_
  refine h_aload_n F dL_span_3 rfl ?_
  refine h_iload_n F dL_span_4 rfl ?_
  refine h_iload_n F dL_span_5 rfl ?_
  refine h_iload_n F dL_span_6 rfl ?_
  refine h_iload F dL_span_7 rfl ?_
  refine h_iload F dL_span_9 rfl ?_
  refine h_iload F dL_span_11 rfl ?_
  refine h_callV F (k' := 7) (mc' := 2) [.int p0, .int p1, .int p2, .int p3, .int p4, .int p5] [.int 0, .ref (G.2.1 80 0)] dL_span_13 rfl rfl (by decide) rfl cl_L_113 hy_X9_span (by omega) (by decide) (by decide) (Nat.le_of_ble_eq_true rfl) rfl (con_mono h ?_ ?_)
  · intro r w1 hr
    obtain ⟨v, rfl⟩ := hK r w1 hr
    show Z M G (0 + 2) _ _ w1 16 [some (.ref (G.2.1 0 0)), some (.int p0), some (.int p1), some (.int p2), some (.int p3), some (.int p4), some (.int p5), some (.ref (G.2.1 80 0)), none] [.int v, .int 0, .ref (G.2.1 80 0)]
    refine h_i2l F dL_span_16 ?_
    refine h_out F hf dL_span_17 ?_
    refine h_goto F 25 dL_span_18 (by decide) ?_
    refine h_iconst F 0 dL_span_25 (by decide) ?_
    exact h_iret F dL_span_26 (by decide) (Or.inl ⟨v, w1, hr, rfl, rfl⟩)
  · intro E w1 hx
    cases hX E w1 hx
    refine ⟨21, ct_1 F (by decide) (by decide) lk_L_13 (by decide), fun q => ?_⟩
    refine h_astore F dL_span_21 (by show 8 < 9; decide) ?_
    refine h_iconst F 1 dL_span_23 (by decide) ?_
    exact h_iret F dL_span_24 (by decide) (Or.inr ⟨hx, rfl⟩)
