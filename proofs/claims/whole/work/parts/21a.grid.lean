/-! 'new int[n][m]': one instruction makes the outer row and all inner ones. The state behind i inner rows is grS .. i; the machine stands there (gr_J), and the model's loop comes there (gq_run). -/
section GR
variable {p : Program} {l : Launch} {e : Env} {R : Room} {s : State} {m : MethodId} {args : Array Value} {below : List Frame} {meth : Method} {c : Code} {T : State} {H : Heap} {locs : List Loc} {cells slots : Nat} {Q : State → Prop}
def grO (cA : ClassId) (N a i : Nat) : Cell := arrV cA N (fun j => if j < i then .ref (a + 1 + j) else .null)
def grI (cI : ClassId) (M : Nat) : Cell := arrV cI M (fun _ => .int 0)
def grS (T : State) (cA cI : ClassId) (N M : Nat) : Nat → State
  | 0 => T.pushCell (grO cA N T.heap.size 0)
  | i + 1 => ((grS T cA cI N M i).pushCell (grI cI M)).setCell T.heap.size (grO cA N T.heap.size (i + 1))
theorem grO_succ (cA : ClassId) (N a i : Nat) : (grO cA N a i).setSlot i (.ref (a + 1 + i)) = grO cA N a (i + 1) := by
  unfold grO
  rw [arrV_store]
  refine congrArg (arrV cA N) (funext fun j => ?_)
  unfold updV
  by_cases e1 : j = i
  · rw [if_pos e1, if_pos (by omega), e1]
  · rw [if_neg e1]
    show (if j < i then Value.ref (a + 1 + j) else Value.null) = _
    by_cases e2 : j < i
    · rw [if_pos e2, if_pos (by omega)]
    · rw [if_neg e2, if_neg (by omega)]
/-- what the heap and the room are behind i inner rows -/
def grF (T : State) (cA cI : ClassId) (N M i : Nat) (U : State) : Prop :=
  U.heap.size = T.heap.size + 1 + i ∧ (∀ x, x < T.heap.size → U.heap[x]? = T.heap[x]?) ∧ U.heap[T.heap.size]? = some (grO cA N T.heap.size i) ∧ (∀ j, j < i → U.heap[T.heap.size + 1 + j]? = some (grI cI M)) ∧ U.vm = T.vm ∧ U.slotsUsed = T.slotsUsed + N + i * M
theorem gr_F (T : State) (cA cI : ClassId) (N M : Nat) : ∀ i, grF T cA cI N M i (grS T cA cI N M i)
  | 0 => by
    refine ⟨by simp [grS], fun x hx => State.heap_pushCell_of_lt _ _ hx, State.heap_pushCell_size _ _, fun j hj => absurd hj (Nat.not_lt_zero _), rfl, ?_⟩
    show T.slotsUsed + (grO cA N T.heap.size 0).slots.size = _
    unfold grO
    rw [arrV_size]
    omega
  | i + 1 => by
    obtain ⟨h1, h2, h3, h4, h5, h6⟩ := gr_F T cA cI N M i
    generalize hU : grS T cA cI N M i = U at *
    have hp : ∀ x, x < U.heap.size → (U.pushCell (grI cI M)).heap[x]? = U.heap[x]? := fun x hx => State.heap_pushCell_of_lt _ _ hx
    have h7 : (U.pushCell (grI cI M)).heap[T.heap.size]? = some (grO cA N T.heap.size i) := (hp _ (by omega)).trans h3
    refine ⟨?_, fun x hx => ?_, ?_, fun j hj => ?_, ?_, ?_⟩
    · simp [grS, hU, State.setCell, h1]
      omega
    · rw [grS, hU, State.heap_setCell_other (show T.heap.size ≠ x by omega), hp _ (by omega)]
      exact h2 x hx
    · rw [grS, hU]
      exact State.heap_setCell_self h7
    · rw [grS, hU, State.heap_setCell_other (show T.heap.size ≠ T.heap.size + 1 + j by omega)]
      by_cases e1 : j < i
      · rw [hp _ (by omega)]
        exact h4 j e1
      · rw [show T.heap.size + 1 + j = U.heap.size by omega]
        exact State.heap_pushCell_size _ _
    · rw [grS, hU]
      exact h5
    · rw [grS, hU]
      show U.slotsUsed + (grI cI M).slots.size = _
      unfold grI
      rw [arrV_size, h6, Nat.succ_mul]
      omega
theorem gr_J (X : Stand p l e R s m args below meth c T locs cells slots) (cA cI : ClassId) (N M : Nat) : ∀ i, Stand p l e R s m args below meth c (grS T cA cI N M i) locs (cells + 1 + i) (slots + N + i * M)
  | 0 => by
    have h := X.pushed (grO cA N T.heap.size 0)
    have e1 : (grO cA N T.heap.size 0).slots.size = N := arrV_size _ _ _
    rw [e1] at h
    simpa [grS] using h
  | i + 1 => by
    have Xi := gr_J X cA cI N M i
    obtain ⟨h1, h2, h3, h4, h5, h6⟩ := gr_F T cA cI N M i
    have h7 : ((grS T cA cI N M i).pushCell (grI cI M)).heap[T.heap.size]? = some (grO cA N T.heap.size i) := (State.heap_pushCell_of_lt _ _ (show T.heap.size < (grS T cA cI N M i).heap.size by omega)).trans h3
    have h := (Xi.pushed (grI cI M)).stored h7 i (.ref (T.heap.size + 1 + i))
    have e1 : (grI cI M).slots.size = M := arrV_size _ _ _
    rw [e1, grO_succ] at h
    have h' := Stand.dropFresh h (fun x hx => by
      rw [List.mem_singleton] at hx
      subst hx
      exact X.heapGrown)
    rw [show slots + N + (i + 1) * M = slots + N + i * M + M by rw [Nat.succ_mul]; omega]
    exact h'
theorem gr_top (T : State) (f : JFrame) (cA cI : ClassId) (N M : Nat) : ∀ i, grS (T.setTop f) cA cI N M i = (grS T cA cI N M i).setTop f
  | 0 => rfl
  | i + 1 => by
    rw [grS, gr_top T f cA cI N M i]
    rfl
section
variable {E : CtlPost} {d : Bool} {acts : List Action}
theorem gq_new {cl comp : ClassId} {k : Class} {ty : FieldType} {len : Nat} {v : Value} (hk : s.vm.classes[cl]? = some k) (hkind : k.kind = .array comp ty) (hlim : len ≤ e.platform.arrayLengthLimit) (hby : len * componentBytes ty ≤ e.platform.maxHeapBytes) (hf : fits ty v = true) (hv : v.isDefault = true)
    (h1 : s.heap.size < e.platform.maxCells) (h2 : s.slotsUsed + len ≤ e.platform.maxSlots) {Q : Addr → Pre} (hq : Q s.heap.size d acts (s.pushCell (arrV cl len (fun _ => v)))) : wp (Jvm.newArray cl len v) Q E e d acts s := by
  have a1 : ¬ len > e.platform.arrayLengthLimit := by omega
  have a2 : ¬ len * componentBytes ty > e.platform.maxHeapBytes := by omega
  have a3 : ∀ (i : Nat) (u : Value), (Array.replicate len v)[i]? = some u → s.fitsSlot cl .none i u = true := by
    intro i u hu
    rw [Array.getElem?_replicate] at hu
    split at hu
    · cases hu
      simp [State.fitsSlot, State.slotType?, hk, hkind, hf]
    · cases hu
  have a4 : ((Array.replicate len v).all (fun x => x.isDefault)) = true := by
    rw [Array.all_replicate]
    split
    · rfl
    · exact hv
  have a5 : allocActs (Array.replicate len v) s.heap.size acts = acts := by
    unfold allocActs
    exact if_pos a4
  rw [← arrV_new] at hq
  simp only [Jvm.newArray, Jvm.arrayFits, wp_bind', Jvm.W.ask, Jvm.W.ite, a1, if_false, wp_pure', Jvm.W.theClass, hk, hkind, a2, Jvm.W.alloc, Jvm.W.stop, Option.some.injEq, exists_eq_left', Array.size_replicate, a5]
  rw [if_neg (by omega)]
  exact ⟨h1, h2, a3, hq⟩
theorem gq_run {cA cI cc : ClassId} {kA kI : Class} {n k : Int32} {N M : Nat} (hA : s.vm.classes[cA]? = some kA) (hkA : kA.kind = .array cI (.array .int)) (hI : s.vm.classes[cI]? = some kI) (hkI : kI.kind = .array cc .int) (hn : ¬ n < 0) (hk : ¬ k < 0) (eN : n.toNatClampNeg = N) (eM : k.toNatClampNeg = M)
    (hl1 : N ≤ e.platform.arrayLengthLimit) (hb1 : N * 4 ≤ e.platform.maxHeapBytes) (hl2 : M ≤ e.platform.arrayLengthLimit) (hb2 : M * 4 ≤ e.platform.maxHeapBytes) (hc : s.heap.size + (1 + N) ≤ e.platform.maxCells) (hs : s.slotsUsed + (N + N * M) ≤ e.platform.maxSlots)
    {Q : Addr → Pre} (hq : ∀ d' acts', Q s.heap.size d' acts' (grS s cA cI N M N)) : wp (multianewarray.make cA [n, k]) Q E e d acts s := by
  have hfind : ([k].find? (· < 0)) = none := by simp [hk]
  rw [multianewarray.make]
  simp only [wp_bind', Jvm.W.ite, hn, if_false, wp_pure', Jvm.W.theClass, hA, hkA, Option.some.injEq, exists_eq_left', eN]
  refine gq_new hA hkA hl1 hb1 rfl rfl (by omega) (by omega) ?_
  simp only [hfind]
  rw [ite_self, wp_bind', Std.Legacy.Range.forIn_eq_forIn_range']
  have hsz : ([:N] : Std.Legacy.Range).size = N := by simp [Std.Legacy.Range.size]
  rw [hsz]
  have e0 : s.pushCell (arrV cA N (fun _ => .null)) = grS s cA cI N M 0 := by
    rw [grS, grO]
    refine congrArg (fun f => s.pushCell (arrV cA N f)) (funext fun j => ?_)
    rw [if_neg (Nat.not_lt_zero _)]
  rw [e0]
  refine wp_forIn_inv (fun r U => ∃ i, i ≤ N ∧ r = List.range' i (N - i) ∧ U = grS s cA cI N M i) _ _ ⟨0, Nat.zero_le _, rfl, rfl⟩ ?_ ?_
  · rintro x r U d' acts' Q' ⟨i, hi, hr, rfl⟩ hnext
    have hlt : i < N := by
      by_cases h : i < N
      · exact h
      · rw [show N - i = 0 by omega] at hr
        simp at hr
    rw [show N - i = (N - (i + 1)) + 1 by omega, List.range'_succ] at hr
    obtain ⟨rfl, hr⟩ := List.cons.inj hr
    obtain ⟨h1, h2, h3, h4, h5, h6⟩ := gr_F s cA cI N M x
    have hmul : x * M + M ≤ N * M := by
      have := Nat.mul_le_mul_right M (show x + 1 ≤ N from hlt)
      rw [Nat.succ_mul] at this
      exact this
    rw [wp_bind', multianewarray.make]
    simp only [wp_bind', Jvm.W.ite, hk, if_false, wp_pure', Jvm.W.theClass, h5, hI, hkI, Option.some.injEq, exists_eq_left', eM]
    refine gq_new (by rw [h5]; exact hI) hkI hl2 hb2 rfl rfl (by omega) (by omega) ?_
    simp only [wp_bind', Jvm.W.writeLoc, wp_pure']
    refine ⟨grO cA N s.heap.size x, (State.heap_pushCell_of_lt _ _ (show s.heap.size < (grS s cA cI N M x).heap.size by omega)).trans h3, (fun q => by cases q), (by rw [show (grO cA N s.heap.size x).slots.size = N from arrV_size _ _ _]; exact hlt), ?_, hnext _ _ _ ⟨x + 1, hlt, hr, ?_⟩⟩
    · show (State.fitsSlot _ cA .none x _) = true
      simp [State.fitsSlot, State.slotType?, h5, hA, hkA, fits]
    · rw [h1, grO_succ]
      rfl
  · rintro U d' acts' ⟨i, hi, hr, rfl⟩
    have hiN : i = N := by
      by_cases h : i < N
      · rw [show N - i = (N - (i + 1)) + 1 by omega, List.range'_succ] at hr
        cases hr
      · omega
    subst hiN
    simp only [wp_pure']
    exact hq _ _
end
variable {cc : ByteArray} {pc : Nat} {ls : Array Slot} {rest : List Value}
theorem w_grid (hexec : p.tables.exec = Jvm.exec) (hb : c.code = cc) {own : String} {index : Nat} (hown : s.vm.findClass own = some m.cls) (hclink : (Cond.classLink own index "[[I").before args s = true) (hover : (Cond.arrayOver (.array .int)).before args s = true) (harr : (Cond.arrayClass .int).before args s = true)
    {n k : Int32} (N M : Nat) (hn : ¬ n < 0) (hk : ¬ k < 0) (eN : n.toNatClampNeg = N) (eM : k.toNatClampNeg = M) (hN : N ≤ 1000) (hM : M ≤ 1000) (hcells : cells + (1 + N) ≤ R.cells) (hslots : slots + (N + N * M) ≤ R.slots) (hdg : decode cc pc = .ok (.multianewarray index 2, 4))
    (kk : ∀ (cA cI : ClassId) (kA kI : Class) (cc' : ClassId) (H1 : Heap), s.vm.findClass "[[I" = some cA → s.vm.findClass "[I" = some cI → s.vm.classes[cA]? = some kA → kA.kind = .array cI (.array .int) → s.vm.classes[cI]? = some kI → kI.kind = .array cc' .int →
      H1.size = H.size + 1 + N → (∀ x, x < H.size → H1[x]? = H[x]?) → H1[H.size]? = some (grO cA N H.size N) → (∀ j, j < N → H1[H.size + 1 + j]? = some (grI cI M)) →
      W p l e R s m args below meth c H1 locs (cells + 1 + N) (slots + N + N * M) Q (F0 m (pc + 4) ls (.ref H.size :: rest))) :
    W p l e R s m args below meth c H locs cells slots Q (F0 m pc ls (.int k :: .int n :: rest)) := by
  intro T hT X
  subst hT; subst hb
  have hpl : e.platform.magicAccessors = ({} : Platform).magicAccessors := by rw [X.admits.platform]
  obtain ⟨cI, cA, kA, hcI, -, hkA, hkindA, hcA⟩ := arrayOverA_spec hover
  obtain ⟨cI', kI, cE, hcI', hkI, hkindI⟩ := Cond.arrayClass_spec harr
  cases hcI'.symm.trans hcI
  obtain ⟨c0, hfc0, hcl⟩ := Cond.classLink_spec hown hclink e.platform hpl
  cases (show s.vm.findClass "[[I" = some cA from hcA).symm.trans hfc0
  obtain ⟨hg₁, hwarm, hready⟩ := State.classEntry (e := e) X.warmed hcl
  generalize T.vm.noted m.cls index (.cls cA) = vm₁ at hg₁ hwarm hready
  obtain ⟨kA₁, hkA₁, heA⟩ := hwarm.alike.2.2 _ _ hkA
  obtain ⟨kI₁, hkI₁, heI⟩ := hwarm.alike.2.2 _ _ hkI
  have X1 := X.noted hwarm
  obtain ⟨hr1, hr2⟩ := X.roomAbove hcells hslots
  obtain ⟨f1, f2, f3, f4, f5, f6⟩ := gr_F (T.setVm vm₁) cA cI N M N
  have XF := gr_J X1 cA cI N M N
  obtain ⟨t, a1, b1⟩ := kk cA cI kA kI cE (grS (T.setVm vm₁) cA cI N M N).heap hcA hcI hkA hkindA hkI hkindI f1 f2 f3 f4 _ rfl XF
  refine ⟨t, ?_, b1⟩
  have hl : e.platform.arrayLengthLimit = _ := Launch.admits_arrayLengthLimit X.admits
  have hh : e.platform.maxHeapBytes = _ := Launch.admits_maxHeapBytes X.admits
  jvm_step X.here [hexec, hdg]
  simp only [multianewarray.sem, wp_bind', Jvm.W.resolveClassAt_links (State.method?_setTop (F0 m pc ls (.int k :: .int n :: rest)) X.here.top) hg₁]
  rw [Jvm.W.popN, if_neg (by decide)]
  refine ⟨F0 m pc ls (.int k :: .int n :: rest), State.topJava?_setTop' (s := T.setVm vm₁) _ X.here.top, [.int n, .int k], rest, rfl, rfl, ?_⟩
  simp only [List.mapM_cons, List.mapM_nil, wp_bind', wp_pure']
  refine gq_run (N := N) (M := M) (cI := cI) (cc := cE) (kA := kA₁) (kI := kI₁) hkA₁ (by rw [heA]; exact hkindA) hkI₁ (by rw [heI]; exact hkindI) hn hk eN eM (by omega) (by omega) (by omega) (by omega) (by show T.heap.size + _ ≤ _; omega) (by show T.slotsUsed + _ ≤ _; omega) (fun d' acts' => ?_)
  have eS : ((T.setTop (F0 m pc ls (.int k :: .int n :: rest))).setVm vm₁).setTop { F0 m pc ls (.int k :: .int n :: rest) with stack := rest } = (T.setVm vm₁).setTop { F0 m pc ls (.int k :: .int n :: rest) with stack := rest } := by
    show ((T.setVm vm₁).setTop _).setTop _ = _
    rw [State.setTop_setTop]
  rw [eS, gr_top]
  simp only [wp_bind', Jvm.W.mark, Jvm.W.pushRef, State.topJava?_setTop' _ XF.here.top, Option.some.injEq, exists_eq_left', State.setTop_setTop, State.heap_setTop]
  intro acts
  simp [jvm, XF.here.top]
  exact a1
end GR
