/-! The law's own body: ZL, its rows, its calls. -/
/-- what is known of the law's body that runs: b holds the script of L ints xs -/
def FL (M : Mx) (G : Gx) (b L : Nat) (xs : Nat → Int32) : Prop :=
  (mP M).tables.exec = Jvm.exec ∧ (mC M).code = cL_law_ ∧ (mC M).maxLocals = 8 ∧ (mS M).vm.findClass RL = some (mM M).cls ∧ (∀ w ∈ GW, w.before (mA M) (mS M) = true) ∧
  Bs G (mS M) ∧ (mT M).locks = false ∧ (mT M).sig.returnType = some .boolean ∧ (mL M).stackTraces = false ∧ mR M = room_1 ∧ va_X b L xs (mS M) (mS M).heap ∧ b < (mS M).heap.size ∧ ¬ AA G b ∧ G.2.2.1 7 ≠ 0
def ZL (M : Mx) (G : Gx) (Qp : State → Prop) (n ns : Nat) (w : Wd) (pc : Nat) (l : List (Option Value)) (st : List Value) : Prop :=
  ∀ (H : Heap) (ls : Array Slot) (locs : List Loc), Hp G w H → lhas ls l → va_S (AA G) (mS M).heap H locs →
    W (mP M) (mL M) (mE M) (mR M) (mS M) (mM M) (mA M) (mB M) (mT M) (mC M) H locs n ns Qp (F0 (mM M) pc ls st)
section LR
variable {M : Mx} {G : Gx} {b L : Nat} {xs : Nat → Int32} {Qp : State → Prop} {n ns : Nat} {w : Wd} {pc : Nat} {l l' : List (Option Value)} {st : List Value}
theorem l_weak (h : ZL M G Qp n ns w pc l' st) (hle : lle l' l) : ZL M G Qp n ns w pc l st := fun H ls locs hP hl hS => h H ls locs hP ⟨hl.1.trans (lle_len l' l hle).symm, hl.2.1, fun i v hv => hl.2.2 i v (lle_at l' l i v hle hv)⟩ hS
theorem l_widen {n' ns' : Nat} (h : ZL M G Qp n' ns' w pc l st) (h1 : n ≤ n') (h2 : ns ≤ ns') : ZL M G Qp n ns w pc l st := fun H ls locs hP hl hS => W.widen h1 h2 (h H ls locs hP hl hS)
theorem l_iload (F : FL M G b L xs) {i : Nat} {x : Int32} (hd : decode cL_law_ pc = .ok (.iload i, 2)) (hg : lg l i = some (.int x)) (k : ZL M G Qp n ns w (pc + 2) l (.int x :: st)) : ZL M G Qp n ns w pc l st := fun H ls locs hP hl hS => lv_iload F.1 F.2.1 hd (hl.2.2 _ _ hg) (k H ls locs hP hl hS)
theorem l_aload_n (F : FL M G b L xs) {i : Fin 4} {x : Nat} (hd : decode cL_law_ pc = .ok (.aload_n i, 1)) (hg : lg l (i : Nat) = some (.ref x)) (k : ZL M G Qp n ns w (pc + 1) l (.ref x :: st)) : ZL M G Qp n ns w pc l st := fun H ls locs hP hl hS => lv_aload_n F.1 F.2.1 hd rfl (hl.2.2 _ _ hg) (k H ls locs hP hl hS)
theorem l_astore_n (F : FL M G b L xs) {i : Fin 4} {x : Nat} (hd : decode cL_law_ pc = .ok (.astore_n i, 1)) (hi : (i : Nat) < l.length) (k : ZL M G Qp n ns w (pc + 1) (lput l i (.ref x)) st) : ZL M G Qp n ns w pc l (.ref x :: st) := fun H ls locs hP hl hS => lv_astore_n F.1 F.2.1 hd rfl (lhas_lv hl) hi rfl (fun ls' h' => k H ls' locs hP (lhas_put h') hS)
theorem l_istore (F : FL M G b L xs) {i : Nat} {x : Int32} (hd : decode cL_law_ pc = .ok (.istore i, 2)) (hi : i < l.length) (k : ZL M G Qp n ns w (pc + 2) (lput l i (.int x)) st) : ZL M G Qp n ns w pc l (.int x :: st) := fun H ls locs hP hl hS => lv_istore F.1 F.2.1 hd (lhas_lv hl) hi rfl (fun ls' h' => k H ls' locs hP (lhas_put h') hS)
theorem l_lstore (F : FL M G b L xs) {i : Nat} {x : Int64} (hd : decode cL_law_ pc = .ok (.lstore i, 2)) (hi : i + 1 < l.length) (k : ZL M G Qp n ns w (pc + 2) (lput2 l i (.long x)) st) : ZL M G Qp n ns w pc l (.long x :: st) := fun H ls locs hP hl hS => lv_lstore F.1 F.2.1 hd (lhas_lv hl) hi rfl (fun ls' h' => k H ls' locs hP (lhas_put2 h') hS)
theorem l_lload (F : FL M G b L xs) {i : Nat} {x : Int64} (hd : decode cL_law_ pc = .ok (.lload i, 2)) (hg : lg l i = some (.long x)) (k : ZL M G Qp n ns w (pc + 2) l (.long x :: st)) : ZL M G Qp n ns w pc l st := fun H ls locs hP hl hS => lv_lload F.1 F.2.1 hd (hl.2.2 _ _ hg) (k H ls locs hP hl hS)
theorem l_iconst (F : FL M G b L xs) {i : Int} (v : Int32) (hd : decode cL_law_ pc = .ok (.iconst i, 1)) (hv : Int32.ofInt i = v) (k : ZL M G Qp n ns w (pc + 1) l (.int v :: st)) : ZL M G Qp n ns w pc l st := fun H ls locs hP hl hS => lv_iconst F.1 F.2.1 hd hv (k H ls locs hP hl hS)
theorem l_bipush (F : FL M G b L xs) {i : Int} (v : Int32) (hd : decode cL_law_ pc = .ok (.bipush i, 2)) (hv : (Int8.ofInt i).toInt32 = v) (k : ZL M G Qp n ns w (pc + 2) l (.int v :: st)) : ZL M G Qp n ns w pc l st := fun H ls locs hP hl hS => lv_bipush F.1 F.2.1 hd hv (k H ls locs hP hl hS)
theorem l_i2l (F : FL M G b L xs) {x : Int32} (hd : decode cL_law_ pc = .ok (.i2l, 1)) (k : ZL M G Qp n ns w (pc + 1) l (.long x.toInt64 :: st)) : ZL M G Qp n ns w pc l (.int x :: st) := fun H ls locs hP hl hS => lv_i2l F.1 F.2.1 hd rfl (k H ls locs hP hl hS)
theorem l_goto (F : FL M G b L xs) {off : Int} (tgt : Nat) (hd : decode cL_law_ pc = .ok (.goto off, 3)) (ht : (pc : Int) + off = (tgt : Int)) (k : ZL M G Qp n ns w tgt l st) : ZL M G Qp n ns w pc l st := fun H ls locs hP hl hS => lv_goto F.1 F.2.1 hd ht (k H ls locs hP hl hS)
theorem l_iadd (F : FL M G b L xs) {x y : Int32} (hd : decode cL_law_ pc = .ok (.iadd, 1)) (k : ZL M G Qp n ns w (pc + 1) l (.int (x + y) :: st)) : ZL M G Qp n ns w pc l (.int y :: .int x :: st) := fun H ls locs hP hl hS => lv_iadd F.1 F.2.1 hd (k H ls locs hP hl hS)
theorem l_isub (F : FL M G b L xs) {x y : Int32} (hd : decode cL_law_ pc = .ok (.isub, 1)) (k : ZL M G Qp n ns w (pc + 1) l (.int (x - y) :: st)) : ZL M G Qp n ns w pc l (.int y :: .int x :: st) := fun H ls locs hP hl hS => lv_isub F.1 F.2.1 hd (k H ls locs hP hl hS)
theorem l_iand (F : FL M G b L xs) {x y : Int32} (hd : decode cL_law_ pc = .ok (.iand, 1)) (k : ZL M G Qp n ns w (pc + 1) l (.int (x &&& y) :: st)) : ZL M G Qp n ns w pc l (.int y :: .int x :: st) := fun H ls locs hP hl hS => lv_iand F.1 F.2.1 hd (k H ls locs hP hl hS)
theorem l_lcmp (F : FL M G b L xs) {x y : Int64} (hd : decode cL_law_ pc = .ok (.lcmp, 1)) (k : ZL M G Qp n ns w (pc + 1) l (.int (lg_cmp x y) :: st)) : ZL M G Qp n ns w pc l (.long y :: .long x :: st) := fun H ls locs hP hl hS => W.lcmp F.1 F.2.1 hd (k H ls locs hP hl hS)
theorem l_if_eq (F : FL M G b L xs) {x : Int32} {off : Int} (tgt : Nat) (hd : decode cL_law_ pc = .ok (.ifCond .eq off, 3)) (ht : (pc : Int) + off = (tgt : Int)) (k : (x = 0 → ZL M G Qp n ns w tgt l st) ∧ (¬ (x = 0) → ZL M G Qp n ns w (pc + 3) l st)) : ZL M G Qp n ns w pc l (.int x :: st) := fun H ls locs hP hl hS => lv_if_eq F.1 F.2.1 hd ht (fun q => k.1 (by first | exact q | simpa using q) H ls locs hP hl hS) (fun q => k.2 (by first | exact q | simpa using q) H ls locs hP hl hS)
theorem l_if_ne (F : FL M G b L xs) {x : Int32} {off : Int} (tgt : Nat) (hd : decode cL_law_ pc = .ok (.ifCond .ne off, 3)) (ht : (pc : Int) + off = (tgt : Int)) (k : (¬ x = 0 → ZL M G Qp n ns w tgt l st) ∧ (¬ (¬ x = 0) → ZL M G Qp n ns w (pc + 3) l st)) : ZL M G Qp n ns w pc l (.int x :: st) := fun H ls locs hP hl hS => lv_if_ne F.1 F.2.1 hd ht (fun q => k.1 (by first | exact q | simpa using q) H ls locs hP hl hS) (fun q => k.2 (by first | exact q | simpa using q) H ls locs hP hl hS)
theorem l_icmp_eq (F : FL M G b L xs) {x y : Int32} {off : Int} (tgt : Nat) (hd : decode cL_law_ pc = .ok (.if_icmp .eq off, 3)) (ht : (pc : Int) + off = (tgt : Int)) (k : (x = y → ZL M G Qp n ns w tgt l st) ∧ (¬ (x = y) → ZL M G Qp n ns w (pc + 3) l st)) : ZL M G Qp n ns w pc l (.int y :: .int x :: st) := fun H ls locs hP hl hS => lv_icmp_eq F.1 F.2.1 hd ht (fun q => k.1 (by first | exact q | simpa using q) H ls locs hP hl hS) (fun q => k.2 (by first | exact q | simpa using q) H ls locs hP hl hS)
theorem l_icmp_gt (F : FL M G b L xs) {x y : Int32} {off : Int} (tgt : Nat) (hd : decode cL_law_ pc = .ok (.if_icmp .gt off, 3)) (ht : (pc : Int) + off = (tgt : Int)) (k : (y < x → ZL M G Qp n ns w tgt l st) ∧ (¬ (y < x) → ZL M G Qp n ns w (pc + 3) l st)) : ZL M G Qp n ns w pc l (.int y :: .int x :: st) := fun H ls locs hP hl hS => lv_icmp_gt F.1 F.2.1 hd ht (fun q => k.1 (by first | exact q | simpa using q) H ls locs hP hl hS) (fun q => k.2 (by first | exact q | simpa using q) H ls locs hP hl hS)
theorem l_iinc (F : FL M G b L xs) {i : Nat} {d : Int} {x : Int32} (v : Int32) (hd : decode cL_law_ pc = .ok (.iinc i d, 3)) (hg : lg l i = some (.int x)) (hv : x + Int32.ofInt d = v) (hi : i < l.length) (k : ZL M G Qp n ns w (pc + 3) (lput l i (.int v)) st) : ZL M G Qp n ns w pc l st := by
  intro H ls locs hP hl hS
  obtain ⟨q, hq⟩ := List.getElem?_of_mem ((lasc_mem l 0 i (.int x)).mpr ⟨Nat.zero_le _, hg⟩)
  exact lv_iinc F.1 F.2.1 hd (lhas_lv hl) hq hv hi rfl (fun ls' h' => k H ls' locs hP (lhas_put h') hS)
theorem l_tabIn (F : FL M G b L xs) {dflt lo hi : Int} {offs : Array Int} {len : Nat} {x : Int32} {off : Int} (tgt : Nat) (hd : decode cL_law_ pc = .ok (.tableswitch dflt lo hi offs, len)) (h1 : ¬ x.toInt < lo) (h2 : ¬ hi < x.toInt) (ho : offs[(x.toInt - lo).toNat]? = some off) (ht : (pc : Int) + off = (tgt : Int)) (k : ZL M G Qp n ns w tgt l st) : ZL M G Qp n ns w pc l (.int x :: st) :=
  fun H ls locs hP hl hS => lv_tableIn F.1 F.2.1 hd h1 h2 ho ht (k H ls locs hP hl hS)
theorem l_tabOut (F : FL M G b L xs) {dflt lo hi : Int} {offs : Array Int} {len : Nat} {x : Int32} (tgt : Nat) (hd : decode cL_law_ pc = .ok (.tableswitch dflt lo hi offs, len)) (h : x.toInt < lo ∨ hi < x.toInt) (ht : (pc : Int) + dflt = (tgt : Int)) (k : ZL M G Qp n ns w tgt l st) : ZL M G Qp n ns w pc l (.int x :: st) :=
  fun H ls locs hP hl hS => lv_tableOut F.1 F.2.1 hd h ht (k H ls locs hP hl hS)
theorem l_sld (F : FL M G b L xs) {i : Int32} (k : Nat) (hik : i.toNatClampNeg = k) (h0 : ¬ i < 0) (hk : k < L) (hd : decode cL_law_ pc = .ok (.iaload, 1)) (kx : ZL M G Qp n ns w (pc + 1) l (.int (xs k) :: st)) : ZL M G Qp n ns w pc l (.int i :: .ref b :: st) := by
  intro H ls locs hP hl hS
  subst hik
  have F0' := F
  obtain ⟨-, -, -, -, -, -, -, -, -, -, f1, f2, f3, -⟩ := F0'
  exact va_sld F.1 F.2.1 f1 f2 f3 hS (fun q => by rcases q with q | q; exact h0 q; omega) hd (kx H ls locs hP hl hS)
theorem l_slen (F : FL M G b L xs) (hd : decode cL_law_ pc = .ok (.arraylength, 1)) (kx : ZL M G Qp n ns w (pc + 1) l (.int (nI L) :: st)) : ZL M G Qp n ns w pc l (.ref b :: st) := by
  intro H ls locs hP hl hS
  have F0' := F
  obtain ⟨-, -, -, -, -, -, -, -, -, -, f1, f2, f3, -⟩ := F0'
  exact va_slen F.1 F.2.1 f1 f2 f3 hS hd (kx H ls locs hP hl hS)
theorem l_out (F : FL M G b L xs) (hd : decode cL_law_ pc = .ok (.laload, 1)) (kx : ZL M G Qp n ns w (pc + 1) l (.long (w.2.1 80 0 0) :: st)) : ZL M G Qp n ns w pc l (.int 0 :: .ref (G.2.1 80 0) :: st) := by
  intro H ls locs hP hl hS
  have hf : G.2.2.1 7 ≠ 0 := F.2.2.2.2.2.2.2.2.2.2.2.2.2
  have he := LL_80 (w := w) hf
  rw [ent_long (show ka 80 = some (2, 1) from rfl)] at he
  exact va_lald (tys := tysG G) F.1 F.2.1 F.2.2.2.2.2.1.1 hP.1 prs.length 2 he rfl (show ¬ ((0 : Int32) < 0 ∨ 1 ≤ (0 : Int32).toNatClampNeg) by decide) hd (kx H ls locs hP hl hS)
theorem l_pre (F : FL M G b L xs) {H : Heap} {locs : List Loc} {as : List Value} (hP : Hp G w H) (hS : va_S (AA G) (mS M).heap H locs) : ∀ U : State, U.heap = H → (mS M).WarmedH U.vm → va_Pc as (fun U => Bs G U ∧ Hp G w U.heap) as.toArray U := by
  intro U hU hW
  exact ⟨rfl, Bs_move hW F.2.2.2.2.2.1 (by rw [hU]; exact hS.1) (fun q h1 h2 => by rw [hU]; exact hS.2.1 q h1 h2), by rw [hU]; exact hP⟩
theorem l_callV (F : FL M G b L xs) {κ j i k' mc' nL' : Nat} {y : MethodName} {cc' : ByteArray} {rt' : Option FieldType} (As rest : List Value) (hd : decode cL_law_ pc = .ok (.invokevirtual i, 3)) (hst : st = As.reverse ++ .ref (G.2.1 κ j) :: rest)
    (hq : ka κ = none) (hj : j < cnt κ) (hC : (vC κ).1 = y.cls) (hlk : Cond.methodLink RL i y ∈ GW ∧ Cond.instanceMethod y ∈ GW ∧ Cond.selects y.cls y y ∈ GW ∧ Cond.initialized y.cls ∈ GW ∧ Cond.code y cc' nL' rt' ∈ GW)
    (hy : y.cls = y.cls ∧ y.cls ≠ "java/lang/invoke/MethodHandle" ∧ y.cls ≠ "java/lang/invoke/VarHandle" ∧ (parseMethodDescriptor y.desc).map (fun d => d.parameters.length) = some As.length) (hk : k' ≤ 2047) (hn : n + mc' ≤ 600128) (hns : ns + 6 * mc' ≤ 7301098) (hL : nL' ≤ 21) (hr : (rest.map fun v => v.category).sum ≤ 8) (hsz : l.length = 8)
    (hcon : Con (mL M) G k' mc' y cc' nL' rt' w (.ref (G.2.1 κ j) :: As) (fun r w' => ZL M G Qp (n + mc') (ns + 6 * mc') w' (pc + 3) l (r.toList ++ rest)) noX) : ZL M G Qp n ns w pc l st := by
  intro H ls locs hP hl hS
  have hR : mR M = room_1 := F.2.2.2.2.2.2.2.2.2.1
  obtain ⟨p, hp⟩ := prs_at hj
  have he := LL_at (G := G) (w := w) hp
  rw [ent_obj hq] at he
  have hM := hcon 2047 hk
  have hrec := va_recv F.2.2.2.2.2.1.1 hP.1 (vC_at κ) he
  rw [hC] at hrec
  have hcw : CallW (mR M) (mS M) (mA M) RL y.cls i y cc' nL' rt' (wsU y cc' nL' rt') (rl 2047 mc') mc' (6 * mc') As.length := by
    rw [hR]
    exact cwV As.length F.2.2.2.2.1 (wsV_good hlk) rfl rfl rfl hy ⟨by show 2047 + 1 ≤ 2048; omega, by show 8 + (nL' + 11) + 40 * 2047 ≤ 84000; omega⟩
  have hrun := vx_runV (As := As) (rest := rest) (g := F0 (mM M) pc ls st) (p := mP M) (l := mL M) (e := mE M) (R := mR M) (s := mS M) (m := mM M) (args := mA M) (below := mB M) (meth := mT M) (c := mC M) (H := H) (locs := locs) (cells := n) (slots := ns) (C := y.cls) (Ts := GW) ⟨F.1, F.2.1, F.2.2.1, F.2.2.2.1, F.2.2.2.2.1⟩ hM hcw ⟨Pc_blind, hrec, l_pre F hP hS⟩ rfl rfl (by show ls.size = 8; rw [hl.1.trans hsz]) (by exact hst) (lv_room hr) hd (by rw [hR]; exact ⟨hn, hns⟩)
  intro T hT X'
  rcases hrun T hT X' with ⟨v, st₀, t, T', L, h0, X', hL, e1, e2, ⟨r, w', hv, hz, hp, hF⟩, go⟩ | ⟨q, st₀, t, T', L, E, ce, h0, X', hL, e1, e2, ⟨w', hx, hp, hF⟩, hce, hcv, hcl, go⟩
  · cases hv
    obtain ⟨k1, k2, k3⟩ := vx_keep (A1 := AA G) h0 e1 hS (fun _ _ h => h) (fun _ h => h) hL hF
    obtain ⟨t2, a1, b1⟩ := hz T'.heap ls (locs ++ L) (by rw [e1]; exact hp) hl k3 T' rfl X'
    exact ⟨t2, go t2 a1, b1⟩
  · exact hx.elim
theorem wsHS_good {o : String} {i : Nat} {y : MethodName} {cc' : ByteArray} {nL' : Nat} {rt' : Option FieldType} {hh : List (Nat × Nat × Nat × Nat)} (h : Cond.methodLink o i y ∈ GW ∧ Cond.static y ∈ GW ∧ Cond.initialized y.cls ∈ GW ∧ Cond.codeWith y cc' nL' rt' hh ∈ GW) : GoodIn GW (va_wsS o i y (wsH y cc' nL' rt' hh)) := by
  obtain ⟨h1, h2, h3, h4⟩ := h
  intro w hw
  have hm : w ∈ GW := by
    rcases List.mem_append.mp hw with h | h
    · simp only [List.mem_cons, List.not_mem_nil, or_false] at h
      rcases h with rfl | rfl | rfl
      · exact h1
      · exact h2
      · exact h3
    · rcases List.mem_cons.mp h with rfl | h
      · exact h4
      · exact h
  exact ⟨hm, good_of_word (GW_good hm)⟩
theorem l_callH (F : FL M G b L xs) {i k' mc' nL' : Nat} {y : MethodName} {cc' : ByteArray} {rt' : Option FieldType} {hh : List (Nat × Nat × Nat × Nat)} (As rest : List Value) (hd : decode cL_law_ pc = .ok (.invokestatic i, 3)) (hst : st = As.reverse ++ rest)
    (hlk : Cond.methodLink RL i y ∈ GW ∧ Cond.static y ∈ GW ∧ Cond.initialized y.cls ∈ GW ∧ Cond.codeWith y cc' nL' rt' hh ∈ GW)
    (hy : y.cls ≠ "java/lang/invoke/MethodHandle" ∧ y.cls ≠ "java/lang/invoke/VarHandle" ∧ (parseMethodDescriptor y.desc).map (fun d => d.parameters.length) = some As.length) (hk : k' ≤ 2047) (hn : n + mc' ≤ 600128) (hns : ns + 6 * mc' ≤ 7301098) (hL : nL' ≤ 21) (hr : (rest.map fun v => v.category).sum ≤ 8) (hsz : l.length = 8)
    (hcon : ConH (mL M) G k' mc' y cc' nL' rt' hh w As (fun r w' => ZL M G Qp (n + mc') (ns + 6 * mc') w' (pc + 3) l (r.toList ++ rest))) : ZL M G Qp n ns w pc l st := by
  intro H ls locs hP hl hS
  have hR : mR M = room_1 := F.2.2.2.2.2.2.2.2.2.1
  have hM := hcon 2047 hk
  have hcw : vx_CSW (mR M) (mS M) (mA M) RL i y cc' nL' rt' hh (wsH y cc' nL' rt' hh) (rl 2047 mc') mc' (6 * mc') As.length := by
    rw [hR]
    exact vx_cwSW As.length F.2.2.2.2.1 (wsHS_good hlk) rfl rfl rfl hy ⟨by show 2047 + 1 ≤ 2048; omega, by show 8 + (nL' + 11) + 40 * 2047 ≤ 84000; omega⟩
  have hrun := vx_runSW (As := As) (rest := rest) (g := F0 (mM M) pc ls st) (p := mP M) (l := mL M) (e := mE M) (R := mR M) (s := mS M) (m := mM M) (args := mA M) (below := mB M) (meth := mT M) (c := mC M) (H := H) (locs := locs) (cells := n) (slots := ns) (Ts := GW) ⟨F.1, F.2.1, F.2.2.1, F.2.2.2.1, F.2.2.2.2.1⟩ hM hcw ⟨Pc_blind, l_pre F hP hS⟩ rfl rfl (by show ls.size = 8; rw [hl.1.trans hsz]) (by exact hst) (lv_room hr) hd (by rw [hR]; exact ⟨hn, hns⟩)
  intro T hT X'
  obtain ⟨v, st₀, t, T', L, h0, X', hL, e1, e2, ⟨r, w', hv, hz, hp, hF⟩, go⟩ := hrun T hT X'
  cases hv
  obtain ⟨k1, k2, k3⟩ := vx_keep (A1 := AA G) h0 e1 hS (fun _ _ h => h) (fun _ h => h) hL hF
  obtain ⟨t2, a1, b1⟩ := hz T'.heap ls (locs ++ L) (by rw [e1]; exact hp) hl k3 T' rfl X'
  exact ⟨t2, go t2 a1, b1⟩
end LR
