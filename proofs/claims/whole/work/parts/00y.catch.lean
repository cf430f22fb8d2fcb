/-! Own rows: an exception on its way is caught in the method that is walked, behind rows of its table that don't take it. Each catch type is found by its link, noted before or not. They stand on ThrowLaws, Cold, ColdWords, ColdKeeps and Stand of the library. -/
section VYC
variable {e : Env} {f : JFrame} {q : Addr}
/-- a row that covers the place: its class is looked up and noted; then the object is taken there, or the search goes on -/
theorem vy_row {S : State} {r : ExceptionTableEntry} {k : ClassId} {ce : Cell} (hr : covers r f.pc = true) (h0 : r.catchType ≠ 0) (hl : S.vm.ClassLinks e.platform f.method.cls r.catchType k) (hce : S.heap[q]? = some ce) (hv : ce.vm = .none)
    (h1 : ∃ x, S.vm.classes[ce.cls]? = some x) (h2 : ∃ x, S.vm.classes[k]? = some x) (t : List ExceptionTableEntry) (Q : Handler → Pre) (E : CtlPost) (d : Bool) (acts : List Action) :
    wp (findHandler.go f q (r :: t)) Q E e d acts S ↔
      (bif S.vm.assignable ce.cls k then Q (.found r.handlerPc) d acts (S.setVm (S.vm.noted f.method.cls r.catchType (.cls k))) else wp (findHandler.go f q t) Q E e d acts (S.setVm (S.vm.noted f.method.cls r.catchType (.cls k)))) := by
  have like : S.vm.Alike (S.vm.noted f.method.cls r.catchType (.cls k)) := (Vm.Alike.refl S.vm).noted _ _ _
  obtain ⟨o1, o2⟩ := (resolveClass_links e.toSetting hl).op (op := VmOp.resolveClass f.method.cls r.catchType) rfl
  obtain ⟨x1, e1⟩ := h1
  obtain ⟨y1, f1, -⟩ := like.2.2 _ _ e1
  obtain ⟨x2, e2⟩ := h2
  obtain ⟨y2, f2, -⟩ := like.2.2 _ _ e2
  have same := like.assignable ce.cls k
  have obj : ∀ j, ce.vm ≠ .statics j := fun j h => by rw [hv] at h; cases h
  simp only [covers] at hr
  cases yes : S.vm.assignable ce.cls k <;> rw [yes] at same <;> simp [findHandler.go, hr, h0, o1, o2, hce, obj, f1, f2, same, VmOp.dirties, VmOp.acts]
/-- what the search through a table comes to: the handler, and the tables as it leaves them -/
def vy_Goes (e : Env) (f : JFrame) (q : Addr) (rows : List ExceptionTableEntry) (S : State) (h : Handler) (N : Vm) : Prop :=
  ∀ (Q : Handler → Pre) (E : CtlPost) (d : Bool) (acts : List Action), wp (findHandler.go f q rows) Q E e d acts S ↔ Q h d acts (S.setVm N)
/-- a link of the first state: in the state as it is now, the class is there, may be noted, and takes what it took -/
theorem vy_link {s S : State} {pl : Platform} {d i k c0 : Nat} (hW : s.WarmedH S.vm) (hl : s.vm.ClassLinks pl d i k) :
    S.vm.ClassLinks pl d i k ∧ (∃ x, S.vm.classes[k]? = some x) ∧ s.WarmedH (S.vm.noted d i (.cls k)) ∧ S.vm.assignable c0 k = s.vm.assignable c0 k := by
  obtain ⟨dk, _, _, kt, hd, _, _, _, _, hkt, _, hopen⟩ := hl.here
  obtain ⟨y, hy, -⟩ := hW.alike.2.2 _ _ hkt
  exact ⟨hW.classLinks hl, ⟨y, hy⟩, hW.noted hd hopen (State.rightAt_cls hl), hW.alike.assignable _ _⟩
theorem vy_walk {s : State} {ce : Cell} (hv : ce.vm = .none) (hk : ∃ x, s.vm.classes[ce.cls]? = some x) (r : ExceptionTableEntry) (suf : List ExceptionTableEntry) (hr : covers r f.pc = true) (h0 : r.catchType ≠ 0) {k : ClassId}
    (hl : s.vm.ClassLinks e.platform f.method.cls r.catchType k) (hyes : s.vm.assignable ce.cls k = true) : ∀ (pre : List ExceptionTableEntry) (S : State), s.WarmedH S.vm → S.heap[q]? = some ce →
      (∀ z ∈ pre, covers z f.pc = false ∨ (z.catchType ≠ 0 ∧ ∃ j, s.vm.ClassLinks e.platform f.method.cls z.catchType j ∧ s.vm.assignable ce.cls j = false)) →
      ∃ N, s.WarmedH N ∧ vy_Goes e f q (pre ++ r :: suf) S (.found r.handlerPc) N
  | [], S, hW, hce, _ => by
    obtain ⟨x, hx⟩ := hk
    obtain ⟨y, hy, -⟩ := hW.alike.2.2 _ _ hx
    obtain ⟨a1, a2, a3, a4⟩ := vy_link (c0 := ce.cls) hW hl
    refine ⟨_, a3, fun Q E d acts => ?_⟩
    have h := vy_row hr h0 a1 hce hv ⟨y, hy⟩ a2 suf Q E d acts
    rw [a4, hyes] at h
    exact h
  | z :: pre, S, hW, hce, hp => by
    have hp' := fun y hy => hp y (List.mem_cons_of_mem z hy)
    cases hc : covers z f.pc with
    | false =>
      obtain ⟨N, b1, b2⟩ := vy_walk hv hk r suf hr h0 hl hyes pre S hW hce hp'
      exact ⟨N, b1, fun Q E d acts => (Jvm.W.findHandler_go_skip hc).trans (b2 Q E d acts)⟩
    | true =>
      rcases hp z (List.mem_cons_self ..) with h | ⟨z0, j, hj, hno⟩
      · rw [hc] at h; cases h
      · obtain ⟨x, hx⟩ := hk
        obtain ⟨y, hy, -⟩ := hW.alike.2.2 _ _ hx
        obtain ⟨a1, a2, a3, a4⟩ := vy_link (c0 := ce.cls) hW hj
        obtain ⟨N, b1, b2⟩ := vy_walk hv ⟨x, hx⟩ r suf hr h0 hl hyes pre (S.setVm (S.vm.noted f.method.cls z.catchType (.cls j))) a3 hce hp'
        refine ⟨N, b1, fun Q E d acts => ?_⟩
        have h := vy_row hc z0 a1 hce hv ⟨y, hy⟩ a2 (pre ++ r :: suf) Q E d acts
        rw [a4, hno] at h
        exact h.trans (b2 Q E d acts)
/-- one step of the machine: into the handler -/
theorem vy_enter {S : State} {F : List Frame} {pc : Nat} {N : Vm} (h : ∀ (Q : Handler → Pre) (E : CtlPost) (d : Bool) (acts : List Action), wp (findHandler f q) Q E e d acts S ↔ Q (.found pc) d acts (S.setVm N)) :
    (stepThrowing e S q (.java f :: F)).1 = (S.setVm N).setFrames (.java { f with pc := pc, stack := [.ref q] } :: F) := by
  simp only [stepThrowing, searchFrame, vmDo]
  generalize run : Sem.go _ e false [] S = res
  obtain ⟨as, rfl, -⟩ := Sem.eq_ok_of run (a := Handler.found pc) (s' := S.setVm N) (acts' := []) (by simp [h _ _ _ _])
  rfl
/-- caught in the walked method -/
theorem vy_caught {p : Program} {l : Launch} {R : Room} {s : State} {m : MethodId} {args : Array Value} {below : List Frame} {meth : Method} {c : Code} {T : State} {locs : List Loc} {cells slots : Nat} (X : Stand p l e R s m args below meth c T locs cells slots) (hm : f.method = m)
    {ce : Cell} (hce : T.heap[q]? = some ce) (hv : ce.vm = .none) (hk : ∃ x, s.vm.classes[ce.cls]? = some x) (pre : List ExceptionTableEntry) (r : ExceptionTableEntry) (suf : List ExceptionTableEntry) (hsplit : c.exceptionTable.toList = pre ++ r :: suf)
    (hp : ∀ z ∈ pre, covers z f.pc = false ∨ (z.catchType ≠ 0 ∧ ∃ j, s.vm.ClassLinks e.platform m.cls z.catchType j ∧ s.vm.assignable ce.cls j = false)) (hr : covers r f.pc = true) (h0 : r.catchType ≠ 0) {k : ClassId}
    (hl : s.vm.ClassLinks e.platform m.cls r.catchType k) (hyes : s.vm.assignable ce.cls k = true) :
    ∃ N, Stand p l e R s m args below meth c (T.setVm N) locs cells slots ∧ Steps p.tables e below ((T.setTop f).pushFrame (.throwing q)) ((T.setVm N).setTop { f with pc := r.handlerPc, stack := [.ref q] }) := by
  subst hm
  obtain ⟨N, b1, b2⟩ := vy_walk (q := q) (S := (T.setTop f).pushFrame (.throwing q)) hv hk r suf hr h0 hl hyes pre X.warmed hce hp
  obtain ⟨go, within⟩ := X.here.throwing q (g := f)
  obtain ⟨g0, hfr⟩ := X.frames_eq
  have found : ∀ (Q : Handler → Pre) (E : CtlPost) (d : Bool) (acts : List Action), wp (findHandler f q) Q E e d acts ((T.setTop f).pushFrame (.throwing q)) ↔ Q (.found r.handlerPc) d acts (((T.setTop f).pushFrame (.throwing q)).setVm N) := fun Q E d acts => by
    have h := Jvm.W.findHandler_eq (Q := Q) (E := E) (e := e) (d := d) (acts := acts) (s := (T.setTop f).pushFrame (.throwing q)) (f := f) (a := q) (meth := meth) (code := c) X.method' X.code
    rw [hsplit] at h
    exact h.trans (b2 Q E d acts)
  refine ⟨N, X.noted b1, Steps.head go within ?_⟩
  have hN : (T.setVm N).frames = .java g0 :: below := hfr
  have last : (((T.setTop f).pushFrame (.throwing q)).setVm N).setFrames (.java { f with pc := r.handlerPc, stack := [.ref q] } :: below) = (T.setVm N).setTop { f with pc := r.handlerPc, stack := [.ref q] } := by
    rw [State.setTop_of_frames _ hN, State.setTop_of_frames _ hfr]
    show (((T.setVm N).setFrames _).setFrames _).setFrames _ = _
    rw [State.setFrames_setFrames, State.setFrames_setFrames]
  rw [stepThread_throwing (frames_entered X.here.top _), hfr, List.tail_cons, vy_enter found, last]
  exact Steps.refl _
end VYC
