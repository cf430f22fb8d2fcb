/-! Constructors: a calculus over lists of cells. -/
/-- private constructors of nested classes: where they are linked -/
def nsD : List (String × Nat × String) := [("VowelChoir", 9, "VowelChoir$Tape"), ("VowelChoir", 18, "VowelChoir$Stage"), ("VowelChoir$Stage", 11, "VowelChoir$Roll"), ("VowelChoir$Stage", 20, "VowelChoir$Law"), ("VowelChoir", 25, "VowelChoir$Plan"), ("VowelChoir$Life", 11, "VowelChoir$Scene"), ("VowelChoir", 43, "VowelChoir$Scene"), ("VowelChoir", 50, "VowelChoir$Bench"), ("VowelChoir", 61, "VowelChoir$Roll"), ("VowelChoir", 68, "VowelChoir$Law"), ("VowelChoir", 75, "VowelChoir$Book")]
/-- rows of references: their classes; nests -/
def Bx (U : State) : Prop := va_AO "VowelChoir$Scene" U ∧ va_AO "VowelChoir$Life" U ∧ va_Nw (.arrayOver (.array .int)) U ∧ ∀ q ∈ nsD, va_Nw (.methodLinkNest q.1 q.2.1 ⟨q.2.2, "<init>", "()V"⟩ "VowelChoir") U
theorem vAA_mv {s U : State} (hW : s.vm.Alike U.vm) (h : va_Nw (.arrayOver (.array .int)) s) : va_Nw (.arrayOver (.array .int)) U := by
  have h1 : (Cond.arrayOver (.array .int)).before #[] (s.setVm U.vm) = true := (Cond.arrayOver_setVmC hW (.array .int)).trans h
  simp only [va_Nw, Cond.before, Cond.holds, Cond.value] at h1 ⊢
  exact h1
theorem Bx.mv {s U : State} (hW : s.WarmedH U.vm) (h : Bx s) : Bx U := ⟨va_AO.moved hW.alike h.1, va_AO.moved hW.alike h.2.1, vAA_mv hW.alike h.2.2.1, fun q hq => va_Nw.warmM hW (h.2.2.2 q hq)⟩
def rc (k mc ms : Nat) : Room := { frames := k, cells := mc, slots := ms, locals := 40 * k }
def QC (G : Gx) (Kc : va_W → Prop) : Array Value → State → Outcome → State → Prop := fun _ st o t => ∃ ws' : va_W, o = .returned none ∧ Kc ws' ∧ va_P G.1 vwCl ws' t.heap ∧ va_D (AA G) ws' ∧ va_F (AA G) st t
/-- the contract of a constructor, from the cells ws -/
def ConC (l : Launch) (G : Gx) (k mc ms : Nat) (y : MethodName) (cc : ByteArray) (nL : Nat) (ws : va_W) (as : List Value) (Kc : va_W → Prop) : Prop :=
  ∀ k' : Nat, k ≤ k' → Met l y (wsU y cc nL none) (rc k' mc ms) (va_Pc as (fun U => (Bs G U ∧ Bx U) ∧ va_P G.1 vwCl ws U.heap ∧ va_D (AA G) ws)) (QC G Kc) mc ms (AA G)
def FC (M : Mx) (G : Gx) (own : String) (cc : ByteArray) (nL : Nat) (kk mc ms : Nat) : Prop :=
  (mP M).tables.exec = Jvm.exec ∧ (mC M).code = cc ∧ (mC M).maxLocals = nL ∧ (mS M).vm.findClass own = some (mM M).cls ∧ (∀ w ∈ GW, w.before (mA M) (mS M) = true) ∧
  Bs G (mS M) ∧ (mT M).locks = false ∧ (mT M).sig.returnType = none ∧ mR M = rc kk mc ms ∧ (mT M).name = "<init>" ∧ Bx (mS M)
def ZC (M : Mx) (G : Gx) (n ns : Nat) (Kc : va_W → Prop) (ws : va_W) (pc : Nat) (l : List (Option Value)) (st : List Value) : Prop :=
  ∀ (H : Heap) (ls : Array Slot) (locs : List Loc), va_P G.1 vwCl ws H → va_D (AA G) ws → lhas ls l → va_S (AA G) (mS M).heap H locs →
    W (mP M) (mL M) (mE M) (mR M) (mS M) (mM M) (mA M) (mB M) (mT M) (mC M) H locs n ns (MQ (mB M) (QC G Kc) (mA M) (mS M) (mR M).cells (mR M).slots (AA G)) (F0 (mM M) pc ls st)
theorem conC_intro {l : Launch} {G : Gx} {k mc ms : Nat} {y : MethodName} {cc : ByteArray} {nL : Nat} {ws : va_W} {as : List Value} {Kc : va_W → Prop}
    (hy : plainName y.cls = true) (hi : y.name = "<init>") (h1 : (lg_sl as).length ≤ nL) (h2 : (lent as).length ≤ nL)
    (body : ∀ (M : Mx) (kk : Nat), mL M = l → k ≤ kk → FC M G y.cls cc nL kk mc ms → ZC M G 0 0 Kc ws 0 (lent as ++ List.replicate (nL - (lent as).length) none) []) : ConC l G k mc ms y cc nL ws as Kc := by
  intro k' hk'
  have hv : vx_Met l y (wsU y cc nL none) (rc k' mc ms) (va_Pc as (fun U => (Bs G U ∧ Bx U) ∧ va_P G.1 vwCl ws U.heap ∧ va_D (AA G) ws)) (QC G Kc) (fun _ _ _ => False) mc ms (AA G) := by
    refine vx_ofW (cc := cc) (maxL := nL) (ret := none) hy rfl ?_
    intro p e s m args below meth c s₁ B hml htab hv
    obtain ⟨rfl, ⟨hB, hBx⟩, hP, hD⟩ := hv
    have hts := atoms_spec (ws := wsU y cc nL none) B.pre
    have hz := body (p, l, e, (rc k' mc ms), s, m, as.toArray, below, meth, c) k' rfl hk' ⟨B.exec, B.bytes, hml, findClass_of_methodNamed B.named, fun w hw => hts w (List.mem_cons_of_mem _ hw), hB, B.notSynchronized, B.returns, rfl, (name_of_methodNamed B.named B.method).1.trans hi, hBx⟩
    have he := lv_entry as (n := nL) h1
    rw [lg_entry_eq]
    refine vx_ret (hz s.heap _ [] hP hD ⟨?_, he.2.1, fun i v hv => ?_⟩ va_S.rf)
    · rw [he.1, List.length_append, List.length_replicate]
      omega
    · have h3 := lent_at as 0 i v (lg_rep _ _ _ _ hv)
      rw [Nat.zero_add] at h3
      exact he.2.2 (i, v) h3
  refine MetFree.mono hv (fun _ _ h => h) (fun _ _ _ _ _ h => h) ?_
  rintro a s o t - (h | ⟨q, h1, E, ce, L, h2, h4⟩)
  · exact h
  · exact h2.elim
theorem conC_mono {l : Launch} {G : Gx} {k mc ms : Nat} {y : MethodName} {cc : ByteArray} {nL : Nat} {ws : va_W} {as : List Value} {Kc Kc' : va_W → Prop} (h : ConC l G k mc ms y cc nL ws as Kc) (hK : ∀ ws', Kc ws' → Kc' ws') : ConC l G k mc ms y cc nL ws as Kc' := by
  intro k' hk'
  refine MetFree.mono (h k' hk') (fun _ _ h => h) (fun _ _ _ _ _ h => h) ?_
  rintro a s o t - ⟨⟨w', h1, h2, h3⟩, h4⟩
  exact ⟨⟨w', h1, hK w' h2, h3⟩, h4⟩
section YR
variable {M : Mx} {G : Gx} {own : String} {cc : ByteArray} {nL : Nat} {kk mc ms : Nat} {n ns : Nat} {Kc : va_W → Prop} {ws : va_W} {pc : Nat} {l : List (Option Value)} {st : List Value}
theorem y_iload_n (F : FC M G own cc nL kk mc ms) {i : Fin 4} {x : Int32} (hd : decode cc pc = .ok (.iload_n i, 1)) (hg : lg l (i : Nat) = some (.int x)) (k : ZC M G n ns Kc ws (pc + 1) l (.int x :: st)) : ZC M G n ns Kc ws pc l st := fun H ls locs hP hD hl hS => lv_iload_n F.1 F.2.1 hd rfl (hl.2.2 _ _ hg) (k H ls locs hP hD hl hS)
theorem y_aload_n (F : FC M G own cc nL kk mc ms) {i : Fin 4} {x : Nat} (hd : decode cc pc = .ok (.aload_n i, 1)) (hg : lg l (i : Nat) = some (.ref x)) (k : ZC M G n ns Kc ws (pc + 1) l (.ref x :: st)) : ZC M G n ns Kc ws pc l st := fun H ls locs hP hD hl hS => lv_aload_n F.1 F.2.1 hd rfl (hl.2.2 _ _ hg) (k H ls locs hP hD hl hS)
theorem y_istore_n (F : FC M G own cc nL kk mc ms) {i : Fin 4} {x : Int32} (hd : decode cc pc = .ok (.istore_n i, 1)) (hi : (i : Nat) < l.length) (k : ZC M G n ns Kc ws (pc + 1) (lput l i (.int x)) st) : ZC M G n ns Kc ws pc l (.int x :: st) := fun H ls locs hP hD hl hS => lv_istore_n F.1 F.2.1 hd rfl (lhas_lv hl) hi rfl (fun ls' h' => k H ls' locs hP hD (lhas_put h') hS)
theorem y_iconst (F : FC M G own cc nL kk mc ms) {i : Int} (v : Int32) (hd : decode cc pc = .ok (.iconst i, 1)) (hv : Int32.ofInt i = v) (k : ZC M G n ns Kc ws (pc + 1) l (.int v :: st)) : ZC M G n ns Kc ws pc l st := fun H ls locs hP hD hl hS => lv_iconst F.1 F.2.1 hd hv (k H ls locs hP hD hl hS)
theorem y_bipush (F : FC M G own cc nL kk mc ms) {i : Int} (v : Int32) (hd : decode cc pc = .ok (.bipush i, 2)) (hv : (Int8.ofInt i).toInt32 = v) (k : ZC M G n ns Kc ws (pc + 2) l (.int v :: st)) : ZC M G n ns Kc ws pc l st := fun H ls locs hP hD hl hS => lv_bipush F.1 F.2.1 hd hv (k H ls locs hP hD hl hS)
theorem y_sipush (F : FC M G own cc nL kk mc ms) {i : Int} (v : Int32) (hd : decode cc pc = .ok (.sipush i, 3)) (hv : (Int16.ofInt i).toInt32 = v) (k : ZC M G n ns Kc ws (pc + 3) l (.int v :: st)) : ZC M G n ns Kc ws pc l st := fun H ls locs hP hD hl hS => lv_sipush F.1 F.2.1 hd hv (k H ls locs hP hD hl hS)
theorem y_goto (F : FC M G own cc nL kk mc ms) {off : Int} (tgt : Nat) (hd : decode cc pc = .ok (.goto off, 3)) (ht : (pc : Int) + off = (tgt : Int)) (k : ZC M G n ns Kc ws tgt l st) : ZC M G n ns Kc ws pc l st := fun H ls locs hP hD hl hS => lv_goto F.1 F.2.1 hd ht (k H ls locs hP hD hl hS)
theorem y_dup (F : FC M G own cc nL kk mc ms) {v : Value} (hd : decode cc pc = .ok (.dup, 1)) (hc : v.category = 1) (k : ZC M G n ns Kc ws (pc + 1) l (v :: v :: st)) : ZC M G n ns Kc ws pc l (v :: st) := fun H ls locs hP hD hl hS => lv_dup F.1 F.2.1 hd hc (k H ls locs hP hD hl hS)
theorem y_icmp_ge (F : FC M G own cc nL kk mc ms) {x y : Int32} {off : Int} (tgt : Nat) (hd : decode cc pc = .ok (.if_icmp .ge off, 3)) (ht : (pc : Int) + off = (tgt : Int)) (k : (y ≤ x → ZC M G n ns Kc ws tgt l st) ∧ (¬ (y ≤ x) → ZC M G n ns Kc ws (pc + 3) l st)) : ZC M G n ns Kc ws pc l (.int y :: .int x :: st) := fun H ls locs hP hD hl hS => lv_icmp_ge F.1 F.2.1 hd ht (fun q => k.1 (by first | exact q | simpa using q) H ls locs hP hD hl hS) (fun q => k.2 (by first | exact q | simpa using q) H ls locs hP hD hl hS)
theorem y_iinc (F : FC M G own cc nL kk mc ms) {i : Nat} {d : Int} {x : Int32} (v : Int32) (hd : decode cc pc = .ok (.iinc i d, 3)) (hg : lg l i = some (.int x)) (hv : x + Int32.ofInt d = v) (hi : i < l.length) (k : ZC M G n ns Kc ws (pc + 3) (lput l i (.int v)) st) : ZC M G n ns Kc ws pc l st := by
  intro H ls locs hP hD hl hS
  obtain ⟨q, hq⟩ := List.getElem?_of_mem ((lasc_mem l 0 i (.int x)).mpr ⟨Nat.zero_le _, hg⟩)
  exact lv_iinc F.1 F.2.1 hd (lhas_lv hl) hq hv hi rfl (fun ls' h' => k H ls' locs hP hD (lhas_put h') hS)
theorem y_ret (F : FC M G own cc nL kk mc ms) (hd : decode cc pc = .ok (.return_, 1)) (hn : n ≤ mc) (hns : ns ≤ ms) (k : Kc ws) : ZC M G n ns Kc ws pc l [] := by
  intro H ls locs hP hD hl hS
  have hR : mR M = rc kk mc ms := F.2.2.2.2.2.2.2.2.1
  have hlocks : (mT M).locks = false := F.2.2.2.2.2.2.1
  refine W.widen (k := (mR M).cells) (n := (mR M).slots) (by rw [hR]; exact hn) (by rw [hR]; exact hns) ?_
  exact W.vret F.1 F.2.1 F.2.2.2.2.2.2.2.1 (fun t ht hW => ⟨ws, rfl, k, by rw [ht]; exact hP, hD, hS.F ht⟩) hS.2.2 hd
theorem AA_new {G : Gx} {s : State} (h : Bs G s) : ∀ q, s.heap.size ≤ q → AA G q := fun q hq => Nat.le_trans h.2.1 hq
/-- a new row of ints -/
theorem y_newi (F : FC M G own cc nL kk mc ms) {x : Int32} (N : Nat) (hx : ¬ x < 0) (hN : x.toNatClampNeg = N) (hb : N ≤ 100000) (har : Cond.arrayClass .int ∈ GW) (hn : n + 1 ≤ mc) (hns : ns + N ≤ ms) (hd : decode cc pc = .ok (.newarray .int, 2))
    (k : ∀ q, ZC M G (n + 1) (ns + N) Kc (ws ++ [(q, .inl (G.2.2.1 0, N, .inl (fun _ => 0)))]) (pc + 2) l (.ref q :: st)) : ZC M G n ns Kc ws pc l (.int x :: st) := by
  intro H ls locs hP hD hl hS
  have hR : mR M = rc kk mc ms := F.2.2.2.2.2.2.2.2.1
  have hK := F.2.2.2.2.2.1.1
  refine va_newa (atype := .int) (ty := .int) (a0 := (N, .inl (fun _ => 0))) F.1 F.2.1 (F.2.2.2.2.1 _ har) rfl hK hP hD hS (AA_new F.2.2.2.2.2.1) (fun cA => rfl) hx hN (by show N * 4 ≤ _; omega) (by rw [hR]; exact hn) (by rw [hR]; exact hns) hd (fun q cA H1 hK1 hP1 hD1 hS1 => ?_)
  have e0 := (hK.2 0 _ rfl).2
  have e1 := (hK1.2 6 (cA, .int) rfl).2
  have e2 : G.2.2.1 0 = cA := Option.some.inj ((show (mS M).vm.findClass ("[" ++ FieldType.int.toString) = some (G.2.2.1 0) from e0).symm.trans e1)
  rw [← e2] at hP1 hD1
  exact k q H1 ls locs hP1 hD1 hl hS1
/-- the superclass's constructor: nothing -/
theorem y_super (F : FC M G own cc nL kk mc ms) {i q : Nat} (h1 : Cond.methodLink own i Lib.objectInit ∈ GW) (h2 : Cond.instanceMethod Lib.objectInit ∈ GW) (h3 : Cond.code Lib.objectInit ⟨#[0xb1]⟩ 1 none ∈ GW) (hk : 1 ≤ kk) (hsz : l.length = nL) (hr : (st.map fun v => v.category).sum ≤ 8) (hd : decode cc pc = .ok (.invokespecial i, 3))
    (k : ZC M G n ns Kc ws (pc + 3) l st) : ZC M G n ns Kc ws pc l (.ref q :: st) := by
  intro H ls locs hP hD hl hS
  have hR : mR M = rc kk mc ms := F.2.2.2.2.2.2.2.2.1
  refine W.objInit F.1 F.2.1 F.2.2.2.1 (F.2.2.2.2.1 _ h1) (F.2.2.2.2.1 _ h2) (F.2.2.2.2.1 _ h3) (g := F0 (mM M) pc ls (.ref q :: st)) rfl (by show ls.size = _; rw [hl.1.trans hsz, F.2.2.1]) rfl hd (by rw [hR]; exact hk) ?_ (k H ls locs hP hD hl hS)
  rw [hR]
  show 2 * 0 + (st.map fun v => v.category).sum + 12 ≤ 40 * kk
  omega
/-- a field of a cell of the list: ordinary -/
theorem y_put (F : FC M G own cc nL kk mc ms) {κ i a : Nat} {v : Value} {ty : FieldType} {fs : List Value} (p : Nat) (he : ws[p]? = some (a, .inr (kc κ, fs))) (hfs : fs.length = nf κ) (k : Nat) (hk : k < nf κ) (hfin : ((vC κ).2.1 k).2.2.2 = false) (hty : parseFieldDescriptor ((vC κ).2.1 k).2.2.1 = some ty) (hnr : narrow ty v = v) (hft : fits ty v = true)
    (hlink : Cond.fieldLink own i ((vC κ).2.1 k).1 ((vC κ).2.1 k).2.1 ((vC κ).2.1 k).2.2.1 ∈ GW) (hd : decode cc pc = .ok (.putfield i, 3)) (kx : ZC M G n ns Kc (ws.set p (a, .inr (kc κ, fs.set k v))) (pc + 3) l st) : ZC M G n ns Kc ws pc l (v :: .ref a :: st) := by
  intro H ls locs hP hD hl hS
  exact va_put (D := G.1) (C := (vC κ).1) (T := (vC κ).2.1) (N := nf κ) F.1 F.2.1 F.2.2.2.2.1 (vC_in κ) (vCty κ) (vC_ty κ) (vC_nm κ) F.2.2.2.1 F.2.2.2.2.2.1.1 hP hD hS p he (by rw [vC_at κ, ← vC_n κ]) k hk (F.2.2.2.2.1 _ hlink) (fun _ h => h) hfin (ty := ty) hty hnr hft (by rw [hfs]; exact hk) hd (fun H1 locs1 hP1 hD1 hS1 => kx H1 ls locs1 hP1 hD1 hl hS1)
/-- a final one -/
theorem y_putF (F : FC M G own cc nL kk mc ms) {κ i a : Nat} {v : Value} {ty : FieldType} {fs : List Value} (p : Nat) (he : ws[p]? = some (a, .inr (kc κ, fs))) (hfs : fs.length = nf κ) (k : Nat) (hk : k < nf κ) (hfin : ((vC κ).2.1 k).2.2.2 = true) (hown : ((vC κ).2.1 k).1 = own) (hty : parseFieldDescriptor ((vC κ).2.1 k).2.2.1 = some ty) (hnr : narrow ty v = v) (hft : fits ty v = true)
    (hlink : Cond.fieldLink own i ((vC κ).2.1 k).1 ((vC κ).2.1 k).2.1 ((vC κ).2.1 k).2.2.1 ∈ GW) (hd : decode cc pc = .ok (.putfield i, 3)) (kx : ZC M G n ns Kc (ws.set p (a, .inr (kc κ, fs.set k v))) (pc + 3) l st) : ZC M G n ns Kc ws pc l (v :: .ref a :: st) := by
  intro H ls locs hP hD hl hS
  exact va_putF (D := G.1) (C := (vC κ).1) (T := (vC κ).2.1) (N := nf κ) F.1 F.2.1 F.2.2.2.2.1 (vC_in κ) (vCty κ) (vC_ty κ) (vC_nm κ) F.2.2.2.1 F.2.2.2.2.2.1.1 hP hD hS p he (by rw [vC_at κ, ← vC_n κ]) k hk (F.2.2.2.2.1 _ hlink) (fun _ h => h) hfin F.2.2.2.2.2.2.2.2.2.1 hown (ty := ty) hty hnr hft (by rw [hfs]; exact hk) hd (fun H1 locs1 hP1 hD1 hS1 => kx H1 ls locs1 hP1 hD1 hl hS1)
/-- a constructor called -/
theorem y_init (F : FC M G own cc nL kk mc ms) {i k' mc' ms' nL' q : Nat} {y : MethodName} {cc' : ByteArray} (rest : List Value) (hd : decode cc pc = .ok (.invokespecial i, 3)) (hst : st = .ref q :: rest)
    (hlk : Cond.methodLink own i y ∈ GW ∧ Cond.instanceMethod y ∈ GW ∧ Cond.initialized y.cls ∈ GW ∧ Cond.code y cc' nL' none ∈ GW) (hy1 : y.name = "<init>")
    (hy : y.cls ≠ "java/lang/invoke/MethodHandle" ∧ y.cls ≠ "java/lang/invoke/VarHandle" ∧ (parseMethodDescriptor y.desc).map (fun d => d.parameters.length) = some 0) (hk : k' + 1 ≤ kk) (hn : n + mc' ≤ mc) (hns : ns + ms' ≤ ms) (hL : nL' ≤ 21) (hr : (rest.map fun v => v.category).sum ≤ 8) (hsz : l.length = nL)
    (hcon : ConC (mL M) G k' mc' ms' y cc' nL' ws [.ref q] (fun ws' => ZC M G (n + mc') (ns + ms') Kc ws' (pc + 3) l rest)) : ZC M G n ns Kc ws pc l st := by
  intro H ls locs hP hD hl hS
  have hR : mR M = rc kk mc ms := F.2.2.2.2.2.2.2.2.1
  have hM := hcon (kk - 1) (by omega)
  have hG : GoodIn GW (wsU y cc' nL' none) := fun w hw => by
    rcases List.mem_cons.mp hw with rfl | h
    · exact ⟨hlk.2.2.2, good_of_word (GW_good hlk.2.2.2)⟩
    · exact ⟨h, good_of_word (GW_good h)⟩
  have hcw : CallB (mR M) (mS M) (mA M) own i y cc' nL' none (wsU y cc' nL' none) (rc (kk - 1) mc' ms') mc' ms' 0 ∧ y.name = "<init>" ∧ (Cond.instanceMethod y).before (mA M) (mS M) = true := by
    rw [hR]
    exact cwI 0 F.2.2.2.2.1 hG rfl rfl rfl (F.2.2.2.2.1 _ hlk.2.2.1) (F.2.2.2.2.1 _ hlk.1) (F.2.2.2.2.1 _ hlk.2.1) hy1 hy ⟨by show kk - 1 + 1 ≤ kk; omega, by show 8 + (nL' + 11) + 40 * (kk - 1) ≤ 40 * kk; omega⟩
  have hpre : ∀ U : State, U.heap = H → (mS M).WarmedH U.vm → va_Pc [.ref q] (fun U => (Bs G U ∧ Bx U) ∧ va_P G.1 vwCl ws U.heap ∧ va_D (AA G) ws) ([Value.ref q]).toArray U := by
    intro U hU hW
    exact ⟨rfl, ⟨Bs_move hW F.2.2.2.2.2.1 (by rw [hU]; exact hS.1) (fun q h1 h2 => by rw [hU]; exact hS.2.1 q h1 h2), F.2.2.2.2.2.2.2.2.2.2.mv hW⟩, by rw [hU]; exact hP, hD⟩
  have hblind : FrameBlind (va_Pc [.ref q] (fun U => (Bs G U ∧ Bx U) ∧ va_P G.1 vwCl ws U.heap ∧ va_D (AA G) ws)) := fun a U g mk h => ⟨h.1, ⟨Bs_call h.2.1.1, h.2.1.2.mv (U := U.calling g mk a) (State.WarmedH.refl U)⟩, h.2.2⟩
  have hrun := va_runI (b := q) (As := []) (rest := rest) (g := F0 (mM M) pc ls st) (p := mP M) (l := mL M) (e := mE M) (R := mR M) (s := mS M) (m := mM M) (args := mA M) (below := mB M) (meth := mT M) (c := mC M) (H := H) (locs := locs) (cells := n) (slots := ns) (Ts := GW) ⟨F.1, F.2.1, F.2.2.1, F.2.2.2.1, F.2.2.2.2.1⟩ hM hcw ⟨hblind, hpre⟩ rfl rfl (by show ls.size = nL; rw [hl.1.trans hsz]) (by exact hst) (lv_room hr) hd (by rw [hR]; exact ⟨hn, hns⟩)
  intro T hT X'
  obtain ⟨v, st₀, t, T', L, h0, X', hL, e1, e2, ⟨ws', hv, hz, hp, hd', hF⟩, go⟩ := hrun T hT X'
  cases hv
  obtain ⟨k1, k2, k3⟩ := vx_keep (A1 := AA G) h0 e1 hS (fun _ _ h => h) (fun _ h => h) hL hF
  obtain ⟨t2, a1, b1⟩ := hz T'.heap ls (locs ++ L) (by rw [e1]; exact hp) hd' hl k3 T' rfl X'
  exact ⟨t2, go t2 a1, b1⟩
/-- a private constructor of a nested class called -/
theorem y_initN (F : FC M G own cc nL kk mc ms) {i k' mc' ms' nL' q : Nat} {y : MethodName} {cc' : ByteArray} (rest : List Value) (hd : decode cc pc = .ok (.invokespecial i, 3)) (hst : st = .ref q :: rest)
    (hns' : (own, i, y.cls) ∈ nsD) (hy0 : y = ⟨y.cls, "<init>", "()V"⟩) (hlk : Cond.instanceMethod y ∈ GW ∧ Cond.initialized y.cls ∈ GW ∧ Cond.code y cc' nL' none ∈ GW) (hy1 : y.name = "<init>")
    (hy : y.cls ≠ "java/lang/invoke/MethodHandle" ∧ y.cls ≠ "java/lang/invoke/VarHandle" ∧ (parseMethodDescriptor y.desc).map (fun d => d.parameters.length) = some 0) (hk : k' + 1 ≤ kk) (hn : n + mc' ≤ mc) (hns : ns + ms' ≤ ms) (hL : nL' ≤ 21) (hr : (rest.map fun v => v.category).sum ≤ 8) (hsz : l.length = nL)
    (hcon : ConC (mL M) G k' mc' ms' y cc' nL' ws [.ref q] (fun ws' => ZC M G (n + mc') (ns + ms') Kc ws' (pc + 3) l rest)) : ZC M G n ns Kc ws pc l st := by
  intro H ls locs hP hD hl hS
  have hR : mR M = rc kk mc ms := F.2.2.2.2.2.2.2.2.1
  have hM := hcon (kk - 1) (by omega)
  have hG : GoodIn GW (wsU y cc' nL' none) := fun w hw => by
    rcases List.mem_cons.mp hw with rfl | h
    · exact ⟨hlk.2.2, good_of_word (GW_good hlk.2.2)⟩
    · exact ⟨h, good_of_word (GW_good h)⟩
  have hnl : va_Nw (.methodLinkNest own i y "VowelChoir") (mS M) := by
    have h9 := F.2.2.2.2.2.2.2.2.2.2.2.2.2 _ hns'
    rw [hy0]
    exact h9
  have hcw : va_CN (mR M) (mS M) (mA M) own i y "VowelChoir" cc' nL' none (wsU y cc' nL' none) (rc (kk - 1) mc' ms') mc' ms' 0 := by
    rw [hR]
    exact va_cnB 0 F.2.2.2.2.1 hG rfl rfl rfl hnl (F.2.2.2.2.1 _ hlk.2.1) hy ⟨by show kk - 1 + 1 ≤ kk; omega, by show 8 + (nL' + 11) + 40 * (kk - 1) ≤ 40 * kk; omega⟩
  have hpre : ∀ U : State, U.heap = H → (mS M).WarmedH U.vm → va_Pc [.ref q] (fun U => (Bs G U ∧ Bx U) ∧ va_P G.1 vwCl ws U.heap ∧ va_D (AA G) ws) ([Value.ref q]).toArray U := by
    intro U hU hW
    exact ⟨rfl, ⟨Bs_move hW F.2.2.2.2.2.1 (by rw [hU]; exact hS.1) (fun q h1 h2 => by rw [hU]; exact hS.2.1 q h1 h2), F.2.2.2.2.2.2.2.2.2.2.mv hW⟩, by rw [hU]; exact hP, hD⟩
  have hblind : FrameBlind (va_Pc [.ref q] (fun U => (Bs G U ∧ Bx U) ∧ va_P G.1 vwCl ws U.heap ∧ va_D (AA G) ws)) := fun a U g mk h => ⟨h.1, ⟨Bs_call h.2.1.1, h.2.1.2.mv (U := U.calling g mk a) (State.WarmedH.refl U)⟩, h.2.2⟩
  have hrun := va_runIN (b := q) (As := []) (rest := rest) (g := F0 (mM M) pc ls st) (p := mP M) (l := mL M) (e := mE M) (R := mR M) (s := mS M) (m := mM M) (args := mA M) (below := mB M) (meth := mT M) (c := mC M) (H := H) (locs := locs) (cells := n) (slots := ns) (Ts := GW) ⟨F.1, F.2.1, F.2.2.1, F.2.2.2.1, F.2.2.2.2.1⟩ hM ⟨hcw, hy1, F.2.2.2.2.1 _ hlk.1⟩ ⟨hblind, hpre⟩ rfl rfl (by show ls.size = nL; rw [hl.1.trans hsz]) (by exact hst) (lv_room hr) hd (by rw [hR]; exact ⟨hn, hns⟩)
  intro T hT X'
  obtain ⟨v, st₀, t, T', L, h0, X', hL, e1, e2, ⟨ws', hv, hz, hp, hd', hF⟩, go⟩ := hrun T hT X'
  cases hv
  obtain ⟨k1, k2, k3⟩ := vx_keep (A1 := AA G) h0 e1 hS (fun _ _ h => h) (fun _ h => h) hL hF
  obtain ⟨t2, a1, b1⟩ := hz T'.heap ls (locs ++ L) (by rw [e1]; exact hp) hd' hl k3 T' rfl X'
  exact ⟨t2, go t2 a1, b1⟩
end YR
