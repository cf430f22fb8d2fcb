/-! Bodies with handlers: the law's helpers, one call each, out[0] = its answer, or the number of what it threw. -/
theorem LB_80 {G : Gx} {w : Wd} {v : Int64} : LB G (setL w 80 0 0 v) = LB G w := by
  unfold LB
  apply List.map_congr_left
  rintro ⟨κ, j⟩ hq
  obtain ⟨p, hp⟩ := List.getElem?_of_mem hq
  show (G.2.1 κ j, ent G.2.1 G.2.2.1 (setL w 80 0 0 v) κ j) = (G.2.1 κ j, ent G.2.1 G.2.2.1 w κ j)
  rw [setL_ent (fun q => prs_80 hp (Prod.mk.inj q).1)]
theorem LL_80 {G : Gx} {w : Wd} (h : G.2.2.1 7 ≠ 0) : (LL G w)[prs.length]? = some (G.2.1 80 0, ent G.2.1 G.2.2.1 w 80 0) := by
  unfold LL LT
  rw [if_neg h, List.getElem?_append_right (by rw [LB_len]; exact Nat.le_refl _), LB_len, Nat.sub_self]
  rfl
theorem LL_set80 {G : Gx} {w : Wd} {v : Int64} (h : G.2.2.1 7 ≠ 0) : (LL G w).set prs.length (G.2.1 80 0, ent G.2.1 G.2.2.1 (setL w 80 0 0 v) 80 0) = LL G (setL w 80 0 0 v) := by
  unfold LL LT
  rw [if_neg h, if_neg h, List.set_append_right _ _ (by rw [LB_len]; exact Nat.le_refl _), LB_len, Nat.sub_self, LB_80]
  rfl
def FH (M : Mx) (G : Gx) (own : String) (cc : ByteArray) (nL : Nat) (rt : Option FieldType) (kk mc : Nat) (hh : List (Nat × Nat × Nat × Nat)) : Prop :=
  (mP M).tables.exec = Jvm.exec ∧ (mC M).code = cc ∧ (mC M).maxLocals = nL ∧ (mS M).vm.findClass own = some (mM M).cls ∧ (∀ w ∈ GW, w.before (mA M) (mS M) = true) ∧
  Bs G (mS M) ∧ (mT M).locks = false ∧ (mT M).sig.returnType = rt ∧ (mC M).exceptionTable.toList = tableOf hh ∧ (mL M).stackTraces = false ∧ mR M = rl kk mc
def wsH (y : MethodName) (cc : ByteArray) (nL : Nat) (rt : Option FieldType) (hh : List (Nat × Nat × Nat × Nat)) : List Cond := Cond.codeWith y cc nL rt hh :: GW
/-- the contract of a method with handlers: it returns -/
def ConH (l : Launch) (G : Gx) (k mc : Nat) (y : MethodName) (cc : ByteArray) (nL : Nat) (rt : Option FieldType) (hh : List (Nat × Nat × Nat × Nat)) (w : Wd) (as : List Value) (K : Option Value → Wd → Prop) : Prop :=
  ∀ k' : Nat, k ≤ k' → Met l y (wsH y cc nL rt hh) (rl k' mc) (va_Pc as (fun U => Bs G U ∧ Hp G w U.heap)) (QK G K) mc (6 * mc) (AA G)
theorem conH_intro {l : Launch} {G : Gx} {k mc : Nat} {y : MethodName} {cc : ByteArray} {nL : Nat} {rt : Option FieldType} {hh : List (Nat × Nat × Nat × Nat)} {w : Wd} {as : List Value} {K : Option Value → Wd → Prop}
    (hl : l.stackTraces = false) (hy : plainName y.cls = true) (h1 : (lg_sl as).length ≤ nL) (h2 : (lent as).length ≤ nL)
    (body : ∀ (M : Mx) (kk : Nat), mL M = l → k ≤ kk → FH M G y.cls cc nL rt kk mc hh → Z M G 0 K noX w 0 (lent as ++ List.replicate (nL - (lent as).length) none) []) : ConH l G k mc y cc nL rt hh w as K := by
  intro k' hk'
  have hv : vx_Met l y (wsH y cc nL rt hh) (rl k' mc) (va_Pc as (fun U => Bs G U ∧ Hp G w U.heap)) (QK G K) (XK G noX) mc (6 * mc) (AA G) := by
    refine vx_ofWH (cc := cc) (maxL := nL) (ret := rt) (hh := hh) hy rfl ?_
    intro p e s m args below meth c s₁ B hml hv
    obtain ⟨rfl, hB, hP⟩ := hv
    have hts := atoms_spec (ws := wsH y cc nL rt hh) B.pre
    have htb := vx_table (x := y) B (hts _ List.mem_cons_self)
    have hz := body (p, l, e, (rl k' mc), s, m, as.toArray, below, meth, c) k' rfl hk' ⟨B.exec, B.bytes, hml, findClass_of_methodNamed B.named, fun w hw => hts w (List.mem_cons_of_mem _ hw), hB, B.notSynchronized, B.returns, htb, hl, rfl⟩
    have he := lv_entry as (n := nL) h1
    rw [lg_entry_eq]
    refine hz s.heap _ [] hP ⟨?_, he.2.1, fun i v hv => ?_⟩ va_S.rf
    · rw [he.1, List.length_append, List.length_replicate]
      omega
    · have h3 := lent_at as 0 i v (lg_rep _ _ _ _ hv)
      rw [Nat.zero_add] at h3
      exact he.2.2 (i, v) h3
  refine MetFree.mono hv (fun _ _ h => h) (fun _ _ _ _ _ h => h) ?_
  rintro a s o t - (h | ⟨q, h1, E, ce, L, ⟨w', h2, h3⟩, h4⟩)
  · exact h
  · exact h2.elim
theorem conH_mono {l : Launch} {G : Gx} {k mc : Nat} {y : MethodName} {cc : ByteArray} {nL : Nat} {rt : Option FieldType} {hh : List (Nat × Nat × Nat × Nat)} {w : Wd} {as : List Value} {K K' : Option Value → Wd → Prop}
    (h : ConH l G k mc y cc nL rt hh w as K) (hK : ∀ r w', K r w' → K' r w') : ConH l G k mc y cc nL rt hh w as K' := by
  intro k' hk'
  refine MetFree.mono (h k' hk') (fun _ _ h => h) (fun _ _ _ _ _ h => h) ?_
  rintro a s o t - ⟨⟨r, w', h1, h2, h3⟩, h4⟩
  exact ⟨⟨r, w', h1, hK r w' h2, h3⟩, h4⟩
section HR
variable {M : Mx} {G : Gx} {own : String} {cc : ByteArray} {nL : Nat} {rt : Option FieldType} {kk mc : Nat} {hh : List (Nat × Nat × Nat × Nat)} {n : Nat} {K : Option Value → Wd → Prop} {X : String → Wd → Prop} {w : Wd} {pc : Nat} {l : List (Option Value)} {st : List Value}
theorem h_iload_n (F : FH M G own cc nL rt kk mc hh) {i : Fin 4} {x : Int32} (hd : decode cc pc = .ok (.iload_n i, 1)) (hg : lg l (i : Nat) = some (.int x)) (k : Z M G n K X w (pc + 1) l (.int x :: st)) : Z M G n K X w pc l st := fun H ls locs hP hl hS => lv_iload_n F.1 F.2.1 hd rfl (hl.2.2 _ _ hg) (k H ls locs hP hl hS)
theorem h_iload (F : FH M G own cc nL rt kk mc hh) {i : Nat} {x : Int32} (hd : decode cc pc = .ok (.iload i, 2)) (hg : lg l i = some (.int x)) (k : Z M G n K X w (pc + 2) l (.int x :: st)) : Z M G n K X w pc l st := fun H ls locs hP hl hS => lv_iload F.1 F.2.1 hd (hl.2.2 _ _ hg) (k H ls locs hP hl hS)
theorem h_aload_n (F : FH M G own cc nL rt kk mc hh) {i : Fin 4} {x : Nat} (hd : decode cc pc = .ok (.aload_n i, 1)) (hg : lg l (i : Nat) = some (.ref x)) (k : Z M G n K X w (pc + 1) l (.ref x :: st)) : Z M G n K X w pc l st := fun H ls locs hP hl hS => lv_aload_n F.1 F.2.1 hd rfl (hl.2.2 _ _ hg) (k H ls locs hP hl hS)
theorem h_aload (F : FH M G own cc nL rt kk mc hh) {i : Nat} {x : Nat} (hd : decode cc pc = .ok (.aload i, 2)) (hg : lg l i = some (.ref x)) (k : Z M G n K X w (pc + 2) l (.ref x :: st)) : Z M G n K X w pc l st := fun H ls locs hP hl hS => lv_aload F.1 F.2.1 hd (hl.2.2 _ _ hg) (k H ls locs hP hl hS)
theorem h_astore_n (F : FH M G own cc nL rt kk mc hh) {i : Fin 4} {x : Nat} (hd : decode cc pc = .ok (.astore_n i, 1)) (hi : (i : Nat) < l.length) (k : Z M G n K X w (pc + 1) (lput l i (.ref x)) st) : Z M G n K X w pc l (.ref x :: st) := fun H ls locs hP hl hS => lv_astore_n F.1 F.2.1 hd rfl (lhas_lv hl) hi rfl (fun ls' h' => k H ls' locs hP (lhas_put h') hS)
theorem h_astore (F : FH M G own cc nL rt kk mc hh) {i : Nat} {x : Nat} (hd : decode cc pc = .ok (.astore i, 2)) (hi : i < l.length) (k : Z M G n K X w (pc + 2) (lput l i (.ref x)) st) : Z M G n K X w pc l (.ref x :: st) := fun H ls locs hP hl hS => lv_astore F.1 F.2.1 hd (lhas_lv hl) hi rfl (fun ls' h' => k H ls' locs hP (lhas_put h') hS)
theorem h_iconst (F : FH M G own cc nL rt kk mc hh) {i : Int} (v : Int32) (hd : decode cc pc = .ok (.iconst i, 1)) (hv : Int32.ofInt i = v) (k : Z M G n K X w (pc + 1) l (.int v :: st)) : Z M G n K X w pc l st := fun H ls locs hP hl hS => lv_iconst F.1 F.2.1 hd hv (k H ls locs hP hl hS)
theorem h_i2l (F : FH M G own cc nL rt kk mc hh) {x : Int32} (hd : decode cc pc = .ok (.i2l, 1)) (k : Z M G n K X w (pc + 1) l (.long x.toInt64 :: st)) : Z M G n K X w pc l (.int x :: st) := fun H ls locs hP hl hS => lv_i2l F.1 F.2.1 hd rfl (k H ls locs hP hl hS)
theorem h_goto (F : FH M G own cc nL rt kk mc hh) {off : Int} (tgt : Nat) (hd : decode cc pc = .ok (.goto off, 3)) (ht : (pc : Int) + off = (tgt : Int)) (k : Z M G n K X w tgt l st) : Z M G n K X w pc l st := fun H ls locs hP hl hS => lv_goto F.1 F.2.1 hd ht (k H ls locs hP hl hS)
theorem h_iret (F : FH M G own cc nL (some .int) kk mc hh) {v : Int32} (hd : decode cc pc = .ok (.ireturn, 1)) (hn : n ≤ mc) (k : K (some (.int v)) w) : Z M G n K X w pc l [.int v] := by
  intro H ls locs hP hl hS
  have hR := F.2.2.2.2.2.2.2.2.2.2
  have hlocks : (mT M).locks = false := F.2.2.2.2.2.2.1
  refine W.widen (k := (mR M).cells) (n := (mR M).slots) (by rw [hR]; exact hn) (by rw [hR]; show 6 * n ≤ 6 * mc; omega) (vx_ret ?_)
  exact W.iret F.1 F.2.1 F.2.2.2.2.2.2.2.1 (fun t ht hW => ⟨_, w, rfl, k, by rw [ht]; exact hP, hS.F ht⟩) hS.2.2 hd
theorem h_out (F : FH M G own cc nL rt kk mc hh) (hf : G.2.2.1 7 ≠ 0) {x : Int64} (hd : decode cc pc = .ok (.lastore, 1)) (kx : Z M G n K X (setL w 80 0 0 x) (pc + 1) l st) : Z M G n K X w pc l (.long x :: .int 0 :: .ref (G.2.1 80 0) :: st) := by
  intro H ls locs hP hl hS
  have he := LL_80 (w := w) hf
  have hq : ka 80 = some (2, 1) := rfl
  rw [ent_long hq] at he
  refine va_last (tys := tysG G) F.1 F.2.1 F.2.2.2.2.2.1.1 hP.1 hP.2.1 hS prs.length 2 he rfl (show ¬ ((0 : Int32) < 0 ∨ 1 ≤ (0 : Int32).toNatClampNeg) by decide) hd (fun H1 locs1 hP1 hD1 hS1 => ?_)
  have e0 : (0 : Int32).toNatClampNeg = 0 := rfl
  rw [e0, ← setL_same, ← ent_long (ad := G.2.1) (cA := G.2.2.1) hq, LL_set80 hf] at hP1 hD1
  exact kx H1 ls locs1 ⟨hP1, hD1, hP.2.2⟩ hl hS1
/-- thrown at pc, an E goes to tgt -/
def ct (M : Mx) (own : String) (hh : List (Nat × Nat × Nat × Nat)) (pc : Nat) (E : String) (tgt : Nat) : Prop :=
  ∃ (pre : List ExceptionTableEntry) (x : ExceptionTableEntry) (suf : List ExceptionTableEntry) (name : String), tableOf hh = pre ++ x :: suf ∧ (∀ z ∈ pre, covers z pc = false ∨ (z.catchType ≠ 0 ∧ ∃ nm : String, (Cond.classLink own z.catchType nm).before (mA M) (mS M) = true ∧ va_Nc E nm (mS M))) ∧
    covers x pc = true ∧ x.catchType ≠ 0 ∧ (Cond.classLink own x.catchType name).before (mA M) (mS M) = true ∧ (Cond.castable E name).before (mA M) (mS M) = true ∧ x.handlerPc = tgt
theorem h_callV (F : FH M G own cc nL rt kk mc hh) {κ j i k' mc' nL' : Nat} {y : MethodName} {cc' : ByteArray} {rt' : Option FieldType} (As rest : List Value) (hd : decode cc pc = .ok (.invokevirtual i, 3)) (hst : st = As.reverse ++ .ref (G.2.1 κ j) :: rest)
    (hq : ka κ = none) (hj : j < cnt κ) (hC : (vC κ).1 = y.cls) (hlk : Cond.methodLink own i y ∈ GW ∧ Cond.instanceMethod y ∈ GW ∧ Cond.selects y.cls y y ∈ GW ∧ Cond.initialized y.cls ∈ GW ∧ Cond.code y cc' nL' rt' ∈ GW)
    (hy : y.cls = y.cls ∧ y.cls ≠ "java/lang/invoke/MethodHandle" ∧ y.cls ≠ "java/lang/invoke/VarHandle" ∧ (parseMethodDescriptor y.desc).map (fun d => d.parameters.length) = some As.length) (hk : k' + 1 ≤ kk) (hn : n + mc' ≤ mc) (hL : nL' ≤ 21) (hr : (rest.map fun v => v.category).sum ≤ 8) (hsz : l.length = nL)
    (hcon : Con (mL M) G k' mc' y cc' nL' rt' w (.ref (G.2.1 κ j) :: As) (fun r w' => Z M G (n + mc') K X w' (pc + 3) l (r.toList ++ rest)) (fun E w' => ∃ tgt, ct M own hh pc E tgt ∧ ∀ q, Z M G (n + mc') K X w' tgt l [.ref q])) : Z M G n K X w pc l st := by
  intro H ls locs hP hl hS
  have hR := F.2.2.2.2.2.2.2.2.2.2
  obtain ⟨p, hp⟩ := prs_at hj
  have he := LL_at (G := G) (w := w) hp
  rw [ent_obj hq] at he
  have hM := hcon (kk - 1) (by omega)
  have hrec := va_recv F.2.2.2.2.2.1.1 hP.1 (vC_at κ) he
  rw [hC] at hrec
  have hcw : CallW (mR M) (mS M) (mA M) own y.cls i y cc' nL' rt' (wsU y cc' nL' rt') (rl (kk - 1) mc') mc' (6 * mc') As.length := by
    rw [hR]
    exact cwV As.length F.2.2.2.2.1 (wsV_good hlk) rfl rfl rfl hy ⟨by show kk - 1 + 1 ≤ kk; omega, by show 8 + (nL' + 11) + 40 * (kk - 1) ≤ 40 * kk; omega⟩
  have hpre : ∀ U : State, U.heap = H → (mS M).WarmedH U.vm → va_Pc (.ref (G.2.1 κ j) :: As) (fun U => Bs G U ∧ Hp G w U.heap) (Value.ref (G.2.1 κ j) :: As).toArray U := by
    intro U hU hW
    exact ⟨rfl, Bs_move hW F.2.2.2.2.2.1 (by rw [hU]; exact hS.1) (fun q h1 h2 => by rw [hU]; exact hS.2.1 q h1 h2), by rw [hU]; exact hP⟩
  have hrun := vx_runV (As := As) (rest := rest) (g := F0 (mM M) pc ls st) (p := mP M) (l := mL M) (e := mE M) (R := mR M) (s := mS M) (m := mM M) (args := mA M) (below := mB M) (meth := mT M) (c := mC M) (H := H) (locs := locs) (cells := n) (slots := 6 * n) (C := y.cls) (Ts := GW) ⟨F.1, F.2.1, F.2.2.1, F.2.2.2.1, F.2.2.2.2.1⟩ hM hcw ⟨Pc_blind, hrec, hpre⟩ rfl rfl (by show ls.size = nL; rw [hl.1.trans hsz]) (by exact hst) (lv_room hr) hd (by rw [hR]; exact ⟨hn, by show 6 * n + 6 * mc' ≤ 6 * mc; omega⟩)
  intro T hT X'
  have h6 : 6 * n + 6 * mc' = 6 * (n + mc') := by omega
  rcases hrun T hT X' with ⟨v, st₀, t, T', L, h0, X', hL, e1, e2, ⟨r, w', hv, hz, hp, hF⟩, go⟩ | ⟨q, st₀, t, T', L, E, ce, h0, X', hL, e1, e2, ⟨w', ⟨tgt, ⟨pre, x, suf, name, c1, c2, c3, c4, c5, c6, rfl⟩, hx⟩, hp, hF⟩, hce, hcv, hcl, go⟩
  · cases hv
    obtain ⟨k1, k2, k3⟩ := vx_keep (A1 := AA G) h0 e1 hS (fun _ _ h => h) (fun _ h => h) hL hF
    rw [h6] at X'
    obtain ⟨t2, a1, b1⟩ := hz T'.heap ls (locs ++ L) (by rw [e1]; exact hp) hl k3 T' rfl X'
    exact ⟨t2, go t2 a1, b1⟩
  · obtain ⟨k1, k2, k3⟩ := vx_keep (A1 := AA G) h0 e1 hS (fun _ _ h => h) (fun _ h => h) hL hF
    have hvx : vx_W (mP M) (mL M) (mE M) (mR M) (mS M) (mM M) (mA M) (mB M) (mT M) (mC M) T'.heap (locs ++ L) (n + mc') (6 * (n + mc')) (vx_MQ (mB M) (QK G K) (XK G X) (mA M) (mS M) (mR M).cells (mR M).slots (AA G)) (F0 (mM M) pc ls rest) q :=
      vx_catch (E := E) (ce := ce) F.2.2.2.1 pre x suf (F.2.2.2.2.2.2.2.2.1.trans c1) c2 c3 c4 c5 c6 (by rw [e1]; exact hce) hcv hcl (hx q T'.heap ls (locs ++ L) (by rw [e1]; exact hp) hl k3)
    rw [h6] at X'
    obtain ⟨t2, a1, b1⟩ := hvx T' rfl X'
    exact ⟨t2, go.trans a1, b1⟩
variable {a b t ci a' b' t' ci' : Nat}
/-- what is known of E's class: it is what it is; nIae is no nNse -/
theorem ct_1 (F : FH M G own cc nL rt kk mc [(a, b, t, ci)]) {E : String} (hE : Cond.castable E E ∈ exW) (hci : ci ≠ 0) (hl : Cond.classLink own ci E ∈ GW) (hc : covers ⟨a, b, t, ci⟩ pc = true) : ct M own [(a, b, t, ci)] pc E t :=
  ⟨[], ⟨a, b, t, ci⟩, [], E, rfl, (fun z hz => by cases hz), hc, hci, F.2.2.2.2.1 _ hl, va_tabs rfl rfl (F.2.2.2.2.2.1.2.2.2.2.2.2.1 _ hE), rfl⟩
theorem ct_21 (F : FH M G own cc nL rt kk mc [(a, b, t, ci), (a', b', t', ci')]) {E : String} (hE : Cond.castable E E ∈ exW) (hci : ci ≠ 0) (hl : Cond.classLink own ci E ∈ GW) (hc : covers ⟨a, b, t, ci⟩ pc = true) : ct M own [(a, b, t, ci), (a', b', t', ci')] pc E t :=
  ⟨[], ⟨a, b, t, ci⟩, [⟨a', b', t', ci'⟩], E, rfl, (fun z hz => by cases hz), hc, hci, F.2.2.2.2.1 _ hl, va_tabs rfl rfl (F.2.2.2.2.2.1.2.2.2.2.2.2.1 _ hE), rfl⟩
theorem ct_22 (F : FH M G own cc nL rt kk mc [(a, b, t, ci), (a', b', t', ci')]) (hci : ci ≠ 0) (hl : Cond.classLink own ci nNse ∈ GW) (hci' : ci' ≠ 0) (hl' : Cond.classLink own ci' nIae ∈ GW) (hc : covers ⟨a', b', t', ci'⟩ pc = true) : ct M own [(a, b, t, ci), (a', b', t', ci')] pc nIae t' :=
  ⟨[⟨a, b, t, ci⟩], ⟨a', b', t', ci'⟩, [], nIae, rfl, (fun z hz => by
    rw [List.mem_singleton] at hz
    subst hz
    exact Or.inr ⟨hci, nNse, F.2.2.2.2.1 _ hl, F.2.2.2.2.2.1.2.2.2.2.2.2.2.1⟩), hc, hci', F.2.2.2.2.1 _ hl', va_tabs rfl rfl (F.2.2.2.2.2.1.2.2.2.2.2.2.1 _ (by decide)), rfl⟩
end HR
