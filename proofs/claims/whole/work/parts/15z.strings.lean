/-! The texts: length() and charAt(). -/
section SR
variable {M : Mx} {G : Gx} {own : String} {cc : ByteArray} {nL : Nat} {rt : Option FieldType} {kk mc : Nat} {n : Nat} {K : Option Value → Wd → Prop} {X : String → Wd → Prop} {w : Wd} {pc : Nat} {l : List (Option Value)} {st : List Value}
theorem z_sval (F : Fx M G own cc nL rt kk mc) {t i : Nat} (ht : t < 20) (hlink : Cond.fieldLink own i "java/lang/String" "value" "[B" ∈ GW) (hd : decode cc pc = .ok (.getfield i, 3))
    (kx : Z M G n K X w (pc + 3) l (.ref (G.2.2.2.2.2 t) :: st)) : Z M G n K X w pc l (.ref (G.2.2.2.2.1 t) :: st) := fun H ls locs hP hl hS =>
  vk_getf F.1 F.2.1 (F.2.2.2.2.2.1.2.2.2.2.1.1 t ht).2.2.1 hS F.2.2.2.1 (F.2.2.2.2.1 _ hlink) (fun _ h => h) hd (kx H ls locs hP hl hS)
theorem z_scod (F : Fx M G own cc nL rt kk mc) {t i : Nat} (ht : t < 20) (hlink : Cond.fieldLink own i "java/lang/String" "coder" "B" ∈ GW) (hd : decode cc pc = .ok (.getfield i, 3))
    (kx : Z M G n K X w (pc + 3) l (.int 0 :: st)) : Z M G n K X w pc l (.ref (G.2.2.2.2.1 t) :: st) := fun H ls locs hP hl hS =>
  vk_getf F.1 F.2.1 (F.2.2.2.2.2.1.2.2.2.2.1.1 t ht).2.1 hS F.2.2.2.1 (F.2.2.2.2.1 _ hlink) (fun _ h => h) hd (kx H ls locs hP hl hS)
theorem z_slen (F : Fx M G own cc nL rt kk mc) {t : Nat} (ht : t < 20) (hd : decode cc pc = .ok (.arraylength, 1))
    (kx : Z M G n K X w (pc + 1) l (.int (nI (sLen.getD t 0)) :: st)) : Z M G n K X w pc l (.ref (G.2.2.2.2.2 t) :: st) := fun H ls locs hP hl hS =>
  va_tlen F.1 F.2.1 (F.2.2.2.2.2.1.2.2.2.2.1.1 t ht).2.2.2 hS rfl hd (kx H ls locs hP hl hS)
theorem z_sbyt (F : Fx M G own cc nL rt kk mc) {t k : Nat} (ht : t < 20) (hk31 : k < 2 ^ 31) (hk : vp_in (nI k) (sLen.getD t 0)) (hd : decode cc pc = .ok (.baload, 1))
    (kx : Z M G n K X w (pc + 1) l (.int ((sByt.getD t []).getD k 0) :: st)) : Z M G n K X w pc l (.int (nI k) :: .ref (G.2.2.2.2.2 t) :: st) := fun H ls locs hP hl hS =>
  va_tb F.1 F.2.1 (F.2.2.2.2.2.1.2.2.2.2.1.1 t ht).2.2.2 hS hk (by rw [nI_clamp hk31]) hd (kx H ls locs hP hl hS)
theorem z_scmp (F : Fx M G own cc nL rt kk mc) {i : Nat} (hlink : Cond.fieldLink own i "java/lang/String" "COMPACT_STRINGS" "Z" ∈ GW) (hd : decode cc pc = .ok (.getstatic i, 3))
    (kx : Z M G n K X w (pc + 3) l (.int 1 :: st)) : Z M G n K X w pc l st := fun H ls locs hP hl hS =>
  va_gets F.1 F.2.1 F.2.2.2.2.2.1.2.2.2.2.2.2.2.2.1 hS F.2.2.2.1 (F.2.2.2.2.1 _ hlink) (fun _ h => h) hd (kx H ls locs hP hl hS)
theorem z_sfmt (F : Fx M G own cc nL rt kk mc) {i : Nat} (hlink : Cond.fieldLink own i "jdk/internal/util/Preconditions" "SIOOBE_FORMATTER" "Ljava/util/function/BiFunction;" ∈ GW) (hd : decode cc pc = .ok (.getstatic i, 3))
    (kx : ∀ v : Value, v.category = 1 → Z M G n K X w (pc + 3) l (v :: st)) : Z M G n K X w pc l st := fun H ls locs hP hl hS => by
  rcases F.2.2.2.2.2.1.2.2.2.2.2.2.2.2.2 with h | ⟨t, h⟩
  · exact va_gets F.1 F.2.1 h hS F.2.2.2.1 (F.2.2.2.2.1 _ hlink) (fun _ h => h) hd (kx _ rfl H ls locs hP hl hS)
  · exact va_gets F.1 F.2.1 h hS F.2.2.2.1 (F.2.2.2.2.1 _ hlink) (fun _ h => h) hd (kx _ rfl H ls locs hP hl hS)
end SR
theorem mN_J1 : Cond.initialized yJ1_charAt_3b067.cls ∈ GW := GW_1 17 rfl rfl
theorem mN_J3 : Cond.initialized yJ3_checkIndex_8e157.cls ∈ GW := GW_1 18 rfl rfl
theorem cl_J0_335 : Cond.methodLink RJ0 335 yJ0_coder_7d493 ∈ GW ∧ Cond.instanceMethod yJ0_coder_7d493 ∈ GW ∧ Cond.selects yJ0_coder_7d493.cls yJ0_coder_7d493 yJ0_coder_7d493 ∈ GW ∧ Cond.initialized yJ0_coder_7d493.cls ∈ GW ∧ Cond.code yJ0_coder_7d493 cJ0_coder_7d493 1 (some .byte) ∈ GW := ⟨GW_3 159 rfl rfl, GW_3 160 rfl rfl, GW_3 161 rfl rfl, mN_J0, GW_3 162 rfl rfl⟩
theorem hy_J0_coder : yJ0_coder_7d493.cls = yJ0_coder_7d493.cls ∧ yJ0_coder_7d493.cls ≠ "java/lang/invoke/MethodHandle" ∧ yJ0_coder_7d493.cls ≠ "java/lang/invoke/VarHandle" ∧ (parseMethodDescriptor yJ0_coder_7d493.desc).map (fun d => d.parameters.length) = some 0 := by decide +kernel
theorem cl_J0_492 : Cond.methodLink RJ0 492 yJ0_isLatin1_aae02 ∈ GW ∧ Cond.instanceMethod yJ0_isLatin1_aae02 ∈ GW ∧ Cond.selects yJ0_isLatin1_aae02.cls yJ0_isLatin1_aae02 yJ0_isLatin1_aae02 ∈ GW ∧ Cond.initialized yJ0_isLatin1_aae02.cls ∈ GW ∧ Cond.code yJ0_isLatin1_aae02 cJ0_isLatin1_aae02 1 (some .boolean) ∈ GW := ⟨GW_3 169 rfl rfl, GW_3 170 rfl rfl, GW_3 171 rfl rfl, mN_J0, GW_3 172 rfl rfl⟩
theorem hy_J0_isLatin1 : yJ0_isLatin1_aae02.cls = yJ0_isLatin1_aae02.cls ∧ yJ0_isLatin1_aae02.cls ≠ "java/lang/invoke/MethodHandle" ∧ yJ0_isLatin1_aae02.cls ≠ "java/lang/invoke/VarHandle" ∧ (parseMethodDescriptor yJ0_isLatin1_aae02.desc).map (fun d => d.parameters.length) = some 0 := by decide +kernel
theorem cl_J0_495 : Cond.methodLink RJ0 495 yJ1_charAt_3b067 ∈ GW ∧ Cond.static yJ1_charAt_3b067 ∈ GW ∧ Cond.initialized yJ1_charAt_3b067.cls ∈ GW ∧ Cond.code yJ1_charAt_3b067 cJ1_charAt_3b067 2 (some .char) ∈ GW := ⟨GW_3 173 rfl rfl, GW_3 174 rfl rfl, mN_J1, GW_3 175 rfl rfl⟩
theorem hy_J1_charAt : yJ1_charAt_3b067.cls ≠ "java/lang/invoke/MethodHandle" ∧ yJ1_charAt_3b067.cls ≠ "java/lang/invoke/VarHandle" ∧ (parseMethodDescriptor yJ1_charAt_3b067.desc).map (fun d => d.parameters.length) = some 2 := by decide +kernel
theorem cl_J1_9 : Cond.methodLink RJ1 9 yJ0_checkIndex_df160 ∈ GW ∧ Cond.static yJ0_checkIndex_df160 ∈ GW ∧ Cond.initialized yJ0_checkIndex_df160.cls ∈ GW ∧ Cond.code yJ0_checkIndex_df160 cJ0_checkIndex_df160 2 none ∈ GW := ⟨GW_3 176 rfl rfl, GW_3 177 rfl rfl, mN_J0, GW_3 178 rfl rfl⟩
theorem hy_J0_checkIndex : yJ0_checkIndex_df160.cls ≠ "java/lang/invoke/MethodHandle" ∧ yJ0_checkIndex_df160.cls ≠ "java/lang/invoke/VarHandle" ∧ (parseMethodDescriptor yJ0_checkIndex_df160.desc).map (fun d => d.parameters.length) = some 2 := by decide +kernel
theorem cl_J0_1059 : Cond.methodLink RJ0 1059 yJ3_checkIndex_8e157 ∈ GW ∧ Cond.static yJ3_checkIndex_8e157 ∈ GW ∧ Cond.initialized yJ3_checkIndex_8e157.cls ∈ GW ∧ Cond.code yJ3_checkIndex_8e157 cJ3_checkIndex_8e157 3 (some .int) ∈ GW := ⟨GW_3 181 rfl rfl, GW_3 182 rfl rfl, mN_J3, GW_3 183 rfl rfl⟩
theorem hy_J3_checkIndex : yJ3_checkIndex_8e157.cls ≠ "java/lang/invoke/MethodHandle" ∧ yJ3_checkIndex_8e157.cls ≠ "java/lang/invoke/VarHandle" ∧ (parseMethodDescriptor yJ3_checkIndex_8e157.desc).map (fun d => d.parameters.length) = some 3 := by decide +kernel
theorem sLen_ok : ∀ t, t < 20 → sLen.getD t 0 = (sByt.getD t []).length ∧ (sByt.getD t []).length < 100 ∧ ∀ v ∈ sByt.getD t [], ((v &&& 255).toUInt32 % 65536).toInt32 = v ∧ narrow .char (.int v) = .int v := by decide +kernel
theorem getD_mem {L : List Int32} {i : Nat} (h : i < L.length) : L.getD i 0 ∈ L := by
  rw [List.getD_eq_getElem?_getD, List.getElem?_eq_getElem h]
  exact List.getElem_mem h
section SC
variable {l : Launch} {G : Gx} {w : Wd}
theorem j_coder (hl : l.stackTraces = false) {t : Nat} (ht : t < 20) : Con l G 1 0 yJ0_coder_7d493 cJ0_coder_7d493 1 (some .byte) w [.ref (G.2.2.2.2.1 t)] (fun r w' => r = some (.int 0) ∧ w' = w) noX := by
  refine con_intro hl (by decide +kernel) (Nat.le_of_ble_eq_true rfl) (Nat.le_of_ble_eq_true rfl) (fun M kk hM hk F => ?_)
  show Z M G 0 _ _ w 0 [some (.ref (G.2.2.2.2.1 t))] []
  refine z_scmp F (GW_3 163 rfl rfl) dJ0_coder_7d493_0 ?_
  refine z_if_eq F 13 dJ0_coder_7d493_3 rfl ⟨fun h => absurd h (by decide), fun _ => ?_⟩
  refine z_aload_n F dJ0_coder_7d493_6 rfl ?_
  refine z_scod F ht (GW_8 125 rfl rfl) dJ0_coder_7d493_7 ?_
  refine z_goto F 14 dJ0_coder_7d493_10 rfl ?_
  exact z_bret F dJ0_coder_7d493_14 (by decide) (by decide) ⟨rfl, rfl⟩
theorem j_isLatin1 (hl : l.stackTraces = false) {t : Nat} (ht : t < 20) : Con l G 1 0 yJ0_isLatin1_aae02 cJ0_isLatin1_aae02 1 (some .boolean) w [.ref (G.2.2.2.2.1 t)] (fun r w' => r = some (.int 1) ∧ w' = w) noX := by
  refine con_intro hl (by decide +kernel) (Nat.le_of_ble_eq_true rfl) (Nat.le_of_ble_eq_true rfl) (fun M kk hM hk F => ?_)
  show Z M G 0 _ _ w 0 [some (.ref (G.2.2.2.2.1 t))] []
  refine z_scmp F (GW_3 163 rfl rfl) dJ0_isLatin1_aae02_0 ?_
  refine z_if_eq F 17 dJ0_isLatin1_aae02_3 rfl ⟨fun h => absurd h (by decide), fun _ => ?_⟩
  refine z_aload_n F dJ0_isLatin1_aae02_6 rfl ?_
  refine z_scod F ht (GW_8 125 rfl rfl) dJ0_isLatin1_aae02_7 ?_
  refine z_if_ne F 17 dJ0_isLatin1_aae02_10 rfl ⟨fun h => absurd rfl h, fun _ => ?_⟩
  refine z_iconst F 1 dJ0_isLatin1_aae02_13 (by decide) ?_
  refine z_goto F 18 dJ0_isLatin1_aae02_14 rfl ?_
  exact z_zret F dJ0_isLatin1_aae02_18 (by decide) (by decide) ⟨rfl, rfl⟩
theorem j_pre (hl : l.stackTraces = false) {i m : Nat} {v : Value} (hv : v.category = 1) (hi : i < m) (hm : m < 2 ^ 31) : Con l G 1 0 yJ3_checkIndex_8e157 cJ3_checkIndex_8e157 3 (some .int) w [.int (nI i), .int (nI m), v] (fun r w' => r = some (.int (nI i)) ∧ w' = w) noX := by
  have e1 : lent [.int (nI i), .int (nI m), v] = [some (.int (nI i)), some (.int (nI m)), some v] := by
    cases v <;> first | rfl | exact absurd hv (show ¬ (2 : Nat) = 1 by decide)
  refine con_intro hl (by decide +kernel) ?_ ?_ (fun M kk hM hk F => ?_)
  · show (lg_sl [.int (nI i), .int (nI m), v]).length ≤ 3
    cases v <;> first | exact Nat.le_of_ble_eq_true rfl | exact absurd hv (show ¬ (2 : Nat) = 1 by decide)
  · rw [e1]
    exact Nat.le_of_ble_eq_true rfl
  rw [e1]
  show Z M G 0 _ _ w 0 [some (.int (nI i)), some (.int (nI m)), some v] []
  refine z_iload_n F dJ3_checkIndex_8e157_0 rfl ?_
  refine z_if_lt F 9 dJ3_checkIndex_8e157_1 rfl ⟨fun h => absurd h (nI_pos (by omega)), fun _ => ?_⟩
  refine z_iload_n F dJ3_checkIndex_8e157_4 rfl ?_
  refine z_iload_n F dJ3_checkIndex_8e157_5 rfl ?_
  refine z_icmp_lt F 16 dJ3_checkIndex_8e157_6 rfl ⟨fun _ => ?_, fun h => absurd (nI_lt hi hm) h⟩
  refine z_iload_n F dJ3_checkIndex_8e157_16 rfl ?_
  exact z_iret F dJ3_checkIndex_8e157_17 (by decide) ⟨rfl, rfl⟩
theorem j_check (hl : l.stackTraces = false) {i m : Nat} (hi : i < m) (hm : m < 2 ^ 31) : Con l G 2 0 yJ0_checkIndex_df160 cJ0_checkIndex_df160 2 none w [.int (nI i), .int (nI m)] (fun r w' => r = none ∧ w' = w) noX := by
  refine con_intro hl (by decide +kernel) (Nat.le_of_ble_eq_true rfl) (Nat.le_of_ble_eq_true rfl) (fun M kk hM hk F => ?_)
  show Z M G 0 _ _ w 0 [some (.int (nI i)), some (.int (nI m))] []
  refine z_iload_n F dJ0_checkIndex_df160_0 rfl ?_
  refine z_iload_n F dJ0_checkIndex_df160_1 rfl ?_
  refine z_sfmt F (GW_3 179 rfl rfl) dJ0_checkIndex_df160_2 (fun v hv => ?_)
  subst hM
  refine z_callS F (k' := 1) (mc' := 0) [.int (nI i), .int (nI m), v] [] dJ0_checkIndex_df160_5 rfl cl_J0_1059 hy_J3_checkIndex (by omega) (by decide) (by decide) (Nat.le_of_ble_eq_true rfl) rfl (con_mono (j_pre hl hv hi hm) ?_ (fun _ _ h => h.elim))
  rintro _ w2 ⟨rfl, rfl⟩
  show Z M G 0 _ _ w2 8 [some (.int (nI i)), some (.int (nI m))] [.int (nI i)]
  refine z_pop F dJ0_checkIndex_df160_8 rfl ?_
  exact z_vret F dJ0_checkIndex_df160_9 (by decide) ⟨rfl, rfl⟩
theorem j_lchar (hl : l.stackTraces = false) {t i : Nat} (ht : t < 20) (hi : i < sLen.getD t 0) : Con l G 3 0 yJ1_charAt_3b067 cJ1_charAt_3b067 2 (some .char) w [.ref (G.2.2.2.2.2 t), .int (nI i)] (fun r w' => r = some (.int ((sByt.getD t []).getD i 0)) ∧ w' = w) noX := by
  obtain ⟨h1, h2, h3⟩ := sLen_ok t ht
  have hmem : (sByt.getD t []).getD i 0 ∈ sByt.getD t [] := by
    exact getD_mem (by omega)
  obtain ⟨h4, h5⟩ := h3 _ hmem
  refine con_intro hl (by decide +kernel) (Nat.le_of_ble_eq_true rfl) (Nat.le_of_ble_eq_true rfl) (fun M kk hM hk F => ?_)
  show Z M G 0 _ _ w 0 [some (.ref (G.2.2.2.2.2 t)), some (.int (nI i))] []
  refine z_iload_n F dJ1_charAt_3b067_0 rfl ?_
  refine z_aload_n F dJ1_charAt_3b067_1 rfl ?_
  refine z_slen F ht dJ1_charAt_3b067_2 ?_
  subst hM
  refine z_callS F (k' := 2) (mc' := 0) [.int (nI i), .int (nI (sLen.getD t 0))] [] dJ1_charAt_3b067_3 rfl cl_J1_9 hy_J0_checkIndex (by omega) (by decide) (by decide) (Nat.le_of_ble_eq_true rfl) rfl (con_mono (j_check hl hi (by omega)) ?_ (fun _ _ h => h.elim))
  rintro _ w2 ⟨rfl, rfl⟩
  show Z M G 0 _ _ w2 6 [some (.ref (G.2.2.2.2.2 t)), some (.int (nI i))] []
  refine z_aload_n F dJ1_charAt_3b067_6 rfl ?_
  refine z_iload_n F dJ1_charAt_3b067_7 rfl ?_
  refine z_sbyt F ht (by omega) (vp_in_nI hi (by omega)) dJ1_charAt_3b067_8 ?_
  refine z_sipush F 255 dJ1_charAt_3b067_9 (by decide) ?_
  refine z_iand F dJ1_charAt_3b067_12 ?_
  refine z_i2c F dJ1_charAt_3b067_13 ?_
  rw [h4]
  exact z_cret F dJ1_charAt_3b067_14 (by decide) h5 ⟨rfl, rfl⟩
theorem c_charAt (hl : l.stackTraces = false) {t i : Nat} (ht : t < 20) (hi : i < sLen.getD t 0) : C_J0_charAt_5068e l G w [.ref (G.2.2.2.2.1 t), .int (nI i)] (fun r w' => r = some (.int ((sByt.getD t []).getD i 0)) ∧ w' = w) noX := by
  obtain ⟨h1, h2, h3⟩ := sLen_ok t ht
  have hmem : (sByt.getD t []).getD i 0 ∈ sByt.getD t [] := by
    exact getD_mem (by omega)
  obtain ⟨h4, h5⟩ := h3 _ hmem
  refine con_intro hl (by decide +kernel) (Nat.le_of_ble_eq_true rfl) (Nat.le_of_ble_eq_true rfl) (fun M kk hM hk F => ?_)
  show Z M G 0 _ _ w 0 [some (.ref (G.2.2.2.2.1 t)), some (.int (nI i))] []
  subst hM
  refine z_aload_n F dJ0_charAt_5068e_0 rfl ?_
  refine z_callT F (k' := 1) (mc' := 0) [] [] dJ0_charAt_5068e_1 rfl ht rfl cl_J0_492 hy_J0_isLatin1 (by omega) (by decide) (by decide) (Nat.le_of_ble_eq_true rfl) rfl (con_mono (j_isLatin1 hl ht) ?_ (fun _ _ h => h.elim))
  rintro _ w2 ⟨rfl, rfl⟩
  show Z M G 0 _ _ w2 4 [some (.ref (G.2.2.2.2.1 t)), some (.int (nI i))] [.int 1]
  refine z_if_eq F 16 dJ0_charAt_5068e_4 rfl ⟨fun h => absurd h (by decide), fun _ => ?_⟩
  refine z_aload_n F dJ0_charAt_5068e_7 rfl ?_
  refine z_sval F ht (GW_8 124 rfl rfl) dJ0_charAt_5068e_8 ?_
  refine z_iload_n F dJ0_charAt_5068e_11 rfl ?_
  refine z_callS F (k' := 3) (mc' := 0) [.ref (G.2.2.2.2.2 t), .int (nI i)] [] dJ0_charAt_5068e_12 rfl cl_J0_495 hy_J1_charAt (by omega) (by decide) (by decide) (Nat.le_of_ble_eq_true rfl) rfl (con_mono (j_lchar hl ht hi) ?_ (fun _ _ h => h.elim))
  rintro _ w3 ⟨rfl, rfl⟩
  show Z M G 0 _ _ w3 15 [some (.ref (G.2.2.2.2.1 t)), some (.int (nI i))] [.int ((sByt.getD t []).getD i 0)]
  exact z_cret F dJ0_charAt_5068e_15 (by decide) h5 ⟨rfl, rfl⟩
theorem c_length (hl : l.stackTraces = false) {t : Nat} (ht : t < 20) : C_J0_length_8abf5 l G w [.ref (G.2.2.2.2.1 t)] (fun r w' => r = some (.int (nI (sLen.getD t 0))) ∧ w' = w) noX := by
  refine con_intro hl (by decide +kernel) (Nat.le_of_ble_eq_true rfl) (Nat.le_of_ble_eq_true rfl) (fun M kk hM hk F => ?_)
  show Z M G 0 _ _ w 0 [some (.ref (G.2.2.2.2.1 t))] []
  subst hM
  refine z_aload_n F dJ0_length_8abf5_0 rfl ?_
  refine z_sval F ht (GW_8 124 rfl rfl) dJ0_length_8abf5_1 ?_
  refine z_slen F ht dJ0_length_8abf5_4 ?_
  refine z_aload_n F dJ0_length_8abf5_5 rfl ?_
  refine z_callT F (k' := 1) (mc' := 0) [] [.int (nI (sLen.getD t 0))] dJ0_length_8abf5_6 rfl ht rfl cl_J0_335 hy_J0_coder (by omega) (by decide) (by decide) (Nat.le_of_ble_eq_true rfl) rfl (con_mono (j_coder hl ht) ?_ (fun _ _ h => h.elim))
  rintro _ w2 ⟨rfl, rfl⟩
  show Z M G 0 _ _ w2 9 [some (.ref (G.2.2.2.2.1 t))] [.int 0, .int (nI (sLen.getD t 0))]
  refine z_ishr F dJ0_length_8abf5_9 ?_
  have e : nI (sLen.getD t 0) >>> ((0 : Int32) &&& 31) = nI (sLen.getD t 0) := by
    have : ∀ t, t < 20 → nI (sLen.getD t 0) >>> ((0 : Int32) &&& 31) = nI (sLen.getD t 0) := by decide +kernel
    exact this t ht
  rw [e]
  exact z_iret F dJ0_length_8abf5_10 (by decide) ⟨rfl, rfl⟩
end SC
