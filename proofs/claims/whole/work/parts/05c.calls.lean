/-! Entry, returns, calls, throws, copies of rows. -/
theorem lg_rep : ∀ (a : List (Option Value)) (m k : Nat) (v : Value), lg (a ++ List.replicate m none) k = some v → lg a k = some v
  | [], m, k, v, h => by
    exfalso
    have key : ∀ (n k : Nat), lg (List.replicate n none) k = none := by
      intro n
      induction n with
      | zero => intro k; cases k <;> rfl
      | succ n ih => intro k; cases k with
        | zero => rfl
        | succ k => exact ih k
    rw [List.nil_append, key] at h
    cases h
  | x :: a, m, 0, v, h => h
  | x :: a, m, k + 1, v, h => lg_rep a m k v h
theorem Bs_move {G : Gx} {s U : State} (hW : s.WarmedH U.vm) (h : Bs G s) (h1 : s.heap.size ≤ U.heap.size) (h2 : ∀ q : Nat, q < s.heap.size → ¬ AA G q → U.heap[q]? = s.heap[q]?) : Bs G U := by
  obtain ⟨a, b, c, d, e, f, g1, g3, g4, g5⟩ := h
  exact ⟨va_K.moved hW.alike a, Nat.le_trans b h1, (vx_Zq.moved hW.alike c).kept h2, (vx_Zq.moved hW.alike d).kept h2, (vk_S.moved hW.alike e).kept h2, fun q hq => (f q hq).warm hW, fun c hc => exW_move hW hc (g1 c hc), va_Nc.moved hW.alike g3, (va_Z.moved hW.alike g4).kept h2, (va_Zq.moved hW.alike g5).kept h2⟩
theorem Bs_call {G : Gx} {U : State} {g : JFrame} {mk : MethodId} {a : Array Value} (h : Bs G U) : Bs G (U.calling g mk a) := by
  obtain ⟨a1, b, c, d, e, f, g1, g3, g4, g5⟩ := h
  have hv : U.vm.Alike (U.calling g mk a).vm := Vm.Alike.refl U.vm
  exact ⟨va_K.moved hv a1, b, vx_Zq.moved hv c, vx_Zq.moved hv d, vk_S.moved hv e, fun q hq => vk_R.same rfl (f q hq), fun c hc => exW_move (s := U) (U := U.calling g mk a) (State.WarmedH.refl U) hc (g1 c hc), va_Nc.moved hv g3, va_Z.moved hv g4, va_Zq.moved hv g5⟩
theorem Pc_blind {G : Gx} {w : Wd} {as : List Value} : FrameBlind (va_Pc as (fun U => Bs G U ∧ Hp G w U.heap)) := by
  intro a U g mk h
  exact ⟨h.1, Bs_call h.2.1, h.2.2⟩
theorem con_mono {l : Launch} {G : Gx} {k mc : Nat} {y : MethodName} {cc : ByteArray} {nL : Nat} {rt : Option FieldType} {w : Wd} {as : List Value} {K K' : Option Value → Wd → Prop} {X X' : String → Wd → Prop}
    (h : Con l G k mc y cc nL rt w as K X) (hK : ∀ r w', K r w' → K' r w') (hX : ∀ E w', X E w' → X' E w') : Con l G k mc y cc nL rt w as K' X' := by
  intro k' hk'
  have h1 := h k' hk'
  refine MetFree.mono h1 (fun _ _ h => h) (fun _ _ _ _ _ h => h) ?_
  rintro a s o t - (⟨⟨r, w', h1, h2, h3⟩, h4⟩ | ⟨q, h1, E, ce, L, ⟨w', h2, h3⟩, h4⟩)
  · exact Or.inl ⟨⟨r, w', h1, hK r w' h2, h3⟩, h4⟩
  · exact Or.inr ⟨q, h1, E, ce, L, ⟨w', hX E w' h2, h3⟩, h4⟩
theorem con_intro {l : Launch} {G : Gx} {k mc : Nat} {y : MethodName} {cc : ByteArray} {nL : Nat} {rt : Option FieldType} {w : Wd} {as : List Value} {K : Option Value → Wd → Prop} {X : String → Wd → Prop}
    (hl : l.stackTraces = false) (hy : plainName y.cls = true) (h1 : (lg_sl as).length ≤ nL) (h2 : (lent as).length ≤ nL)
    (body : ∀ (M : Mx) (kk : Nat), mL M = l → k ≤ kk → Fx M G y.cls cc nL rt kk mc → Z M G 0 K X w 0 (lent as ++ List.replicate (nL - (lent as).length) none) []) : Con l G k mc y cc nL rt w as K X := by
  intro k' hk'
  refine vx_ofW (cc := cc) (maxL := nL) (ret := rt) hy rfl ?_
  intro p e s m args below meth c s₁ B hml htab hv
  obtain ⟨rfl, hB, hP⟩ := hv
  have hts := atoms_spec (ws := wsU y cc nL rt) B.pre
  have hz := body (p, l, e, (rl k' mc), s, m, as.toArray, below, meth, c) k' rfl hk' ⟨B.exec, B.bytes, hml, findClass_of_methodNamed B.named, fun w hw => hts w (List.mem_cons_of_mem _ hw), hB, B.notSynchronized, B.returns, htab, hl, rfl⟩
  have he := lv_entry as (n := nL) h1
  rw [lg_entry_eq]
  refine hz s.heap _ [] hP ⟨?_, he.2.1, fun i v hv => ?_⟩ va_S.rf
  · rw [he.1, List.length_append, List.length_replicate]
    omega
  · have h3 := lent_at as 0 i v (lg_rep _ _ _ _ hv)
    rw [Nat.zero_add] at h3
    exact he.2.2 (i, v) h3
section ZC
variable {M : Mx} {G : Gx} {own : String} {cc : ByteArray} {nL : Nat} {rt : Option FieldType} {kk mc : Nat} {n : Nat} {K : Option Value → Wd → Prop} {X : String → Wd → Prop} {w : Wd} {pc : Nat} {l : List (Option Value)} {st : List Value}
theorem z_iret (F : Fx M G own cc nL (some .int) kk mc) {v : Int32} (hd : decode cc pc = .ok (.ireturn, 1)) (hn : n ≤ mc) (k : K (some (.int v)) w) : Z M G n K X w pc l [.int v] := by
  intro H ls locs hP hl hS
  have hR := F.2.2.2.2.2.2.2.2.2.2
  have hlocks : (mT M).locks = false := F.2.2.2.2.2.2.1
  refine W.widen (k := (mR M).cells) (n := (mR M).slots) (by rw [hR]; exact hn) (by rw [hR]; show 6 * n ≤ 6 * mc; omega) (vx_ret ?_)
  exact W.iret F.1 F.2.1 F.2.2.2.2.2.2.2.1 (fun t ht hW => ⟨_, w, rfl, k, by rw [ht]; exact hP, hS.F ht⟩) hS.2.2 hd
theorem z_zret (F : Fx M G own cc nL (some .boolean) kk mc) {v : Int32} (hd : decode cc pc = .ok (.ireturn, 1)) (hn : n ≤ mc) (hb : narrow .boolean (.int v) = .int v) (k : K (some (.int v)) w) : Z M G n K X w pc l [.int v] := by
  intro H ls locs hP hl hS
  have hR := F.2.2.2.2.2.2.2.2.2.2
  have hlocks : (mT M).locks = false := F.2.2.2.2.2.2.1
  refine W.widen (k := (mR M).cells) (n := (mR M).slots) (by rw [hR]; exact hn) (by rw [hR]; show 6 * n ≤ 6 * mc; omega) (vx_ret ?_)
  exact W.zret F.1 F.2.1 F.2.2.2.2.2.2.2.1 hb (fun t ht hW => ⟨_, w, rfl, k, by rw [ht]; exact hP, hS.F ht⟩) hS.2.2 hd
theorem z_cret (F : Fx M G own cc nL (some .char) kk mc) {v : Int32} (hd : decode cc pc = .ok (.ireturn, 1)) (hn : n ≤ mc) (hb : narrow .char (.int v) = .int v) (k : K (some (.int v)) w) : Z M G n K X w pc l [.int v] := by
  intro H ls locs hP hl hS
  have hR := F.2.2.2.2.2.2.2.2.2.2
  have hlocks : (mT M).locks = false := F.2.2.2.2.2.2.1
  refine W.widen (k := (mR M).cells) (n := (mR M).slots) (by rw [hR]; exact hn) (by rw [hR]; show 6 * n ≤ 6 * mc; omega) (vx_ret ?_)
  exact W.zret F.1 F.2.1 F.2.2.2.2.2.2.2.1 hb (fun t ht hW => ⟨_, w, rfl, k, by rw [ht]; exact hP, hS.F ht⟩) hS.2.2 hd
theorem z_bret (F : Fx M G own cc nL (some .byte) kk mc) {v : Int32} (hd : decode cc pc = .ok (.ireturn, 1)) (hn : n ≤ mc) (hb : narrow .byte (.int v) = .int v) (k : K (some (.int v)) w) : Z M G n K X w pc l [.int v] := by
  intro H ls locs hP hl hS
  have hR := F.2.2.2.2.2.2.2.2.2.2
  have hlocks : (mT M).locks = false := F.2.2.2.2.2.2.1
  refine W.widen (k := (mR M).cells) (n := (mR M).slots) (by rw [hR]; exact hn) (by rw [hR]; show 6 * n ≤ 6 * mc; omega) (vx_ret ?_)
  exact W.zret F.1 F.2.1 F.2.2.2.2.2.2.2.1 hb (fun t ht hW => ⟨_, w, rfl, k, by rw [ht]; exact hP, hS.F ht⟩) hS.2.2 hd
theorem z_lret (F : Fx M G own cc nL (some .long) kk mc) {v : Int64} (hd : decode cc pc = .ok (.lreturn, 1)) (hn : n ≤ mc) (k : K (some (.long v)) w) : Z M G n K X w pc l [.long v] := by
  intro H ls locs hP hl hS
  have hR := F.2.2.2.2.2.2.2.2.2.2
  have hlocks : (mT M).locks = false := F.2.2.2.2.2.2.1
  refine W.widen (k := (mR M).cells) (n := (mR M).slots) (by rw [hR]; exact hn) (by rw [hR]; show 6 * n ≤ 6 * mc; omega) (vx_ret ?_)
  exact W.lret F.1 F.2.1 F.2.2.2.2.2.2.2.1 (fun t ht hW => ⟨_, w, rfl, k, by rw [ht]; exact hP, hS.F ht⟩) hS.2.2 hd
theorem z_vret (F : Fx M G own cc nL none kk mc) (hd : decode cc pc = .ok (.return_, 1)) (hn : n ≤ mc) (k : K none w) : Z M G n K X w pc l [] := by
  intro H ls locs hP hl hS
  have hR := F.2.2.2.2.2.2.2.2.2.2
  have hlocks : (mT M).locks = false := F.2.2.2.2.2.2.1
  refine W.widen (k := (mR M).cells) (n := (mR M).slots) (by rw [hR]; exact hn) (by rw [hR]; show 6 * n ≤ 6 * mc; omega) (vx_ret ?_)
  exact W.vret F.1 F.2.1 F.2.2.2.2.2.2.2.1 (fun t ht hW => ⟨_, w, rfl, k, by rw [ht]; exact hP, hS.F ht⟩) hS.2.2 hd
/-- behind a call -/
theorem z_after (F : Fx M G own cc nL rt kk mc) {H : Heap} {ls : Array Slot} {locs : List Loc} {mc' : Nat} {rest : List Value} {a : Array Value} {st0 : List Value} (hl : lhas ls l) (hS : va_S (AA G) (mS M).heap H locs) (hn : n + mc' ≤ mc)
    (hr : vx_Run (mP M) (mL M) (mE M) (mR M) (mS M) (mM M) (mA M) (mB M) (mT M) (mC M) H locs n (6 * n) mc' (6 * mc') (F0 (mM M) pc ls st0) rest (QK G (fun r w' => Z M G (n + mc') K X w' (pc + 3) l (r.toList ++ rest)) a) (XK G X) (AA G)) :
    W (mP M) (mL M) (mE M) (mR M) (mS M) (mM M) (mA M) (mB M) (mT M) (mC M) H locs n (6 * n) (vx_MQ (mB M) (QK G K) (XK G X) (mA M) (mS M) (mR M).cells (mR M).slots (AA G)) (F0 (mM M) pc ls st0) := by
  intro T hT X'
  have hR := F.2.2.2.2.2.2.2.2.2.2
  have h6 : 6 * n + 6 * mc' = 6 * (n + mc') := by omega
  rcases hr T hT X' with ⟨v, st₀, t, T', L, h0, X', hL, e1, e2, ⟨r, w', hv, hz, hp, hF⟩, go⟩ | ⟨q, st₀, t, T', L, E, ce, h0, X', hL, e1, e2, ⟨w', hx, hp, hF⟩, hce, hcv, hcl, go⟩
  · cases hv
    obtain ⟨k1, k2, k3⟩ := vx_keep (A1 := AA G) h0 e1 hS (fun _ _ h => h) (fun _ h => h) hL hF
    rw [h6] at X'
    obtain ⟨t2, a1, b1⟩ := hz T'.heap ls (locs ++ L) (by rw [e1]; exact hp) hl k3 T' rfl X'
    exact ⟨t2, go t2 a1, b1⟩
  · obtain ⟨k1, k2, k3⟩ := vx_keep (A1 := AA G) h0 e1 hS (fun _ _ h => h) (fun _ h => h) hL hF
    have hvx : vx_W (mP M) (mL M) (mE M) (mR M) (mS M) (mM M) (mA M) (mB M) (mT M) (mC M) T'.heap (locs ++ L) (n + mc') (6 * n + 6 * mc') (vx_MQ (mB M) (QK G K) (XK G X) (mA M) (mS M) (mR M).cells (mR M).slots (AA G)) (F0 (mM M) pc ls rest) q := by
      refine vx_out (E := E) (ce := ce) (fun x hx => (F.2.2.2.2.2.2.2.2.1 x hx).elim) F.2.2.2.2.2.2.1 (by rw [e1]; exact hce) hcv hcl (fun t9 ht9 _ => ⟨w', hx, by rw [ht9, e1]; exact hp, k3.F ht9⟩) k3.2.2 (by rw [hR]; exact hn) (by rw [hR]; show 6 * n + 6 * mc' ≤ 6 * mc; omega)
    obtain ⟨t2, a1, b1⟩ := hvx T' rfl X'
    exact ⟨t2, go.trans a1, b1⟩
theorem z_pre (F : Fx M G own cc nL rt kk mc) {H : Heap} {locs : List Loc} {as : List Value} (hP : Hp G w H) (hS : va_S (AA G) (mS M).heap H locs) : ∀ U : State, U.heap = H → (mS M).WarmedH U.vm → va_Pc as (fun U => Bs G U ∧ Hp G w U.heap) as.toArray U := by
  intro U hU hW
  refine ⟨rfl, Bs_move hW F.2.2.2.2.2.1 (by rw [hU]; exact hS.1) (fun q h1 h2 => by rw [hU]; exact hS.2.1 q h1 h2), by rw [hU]; exact hP⟩
theorem wsV_good {o : String} {i : Nat} {y : MethodName} {cc' : ByteArray} {nL' : Nat} {rt' : Option FieldType} (h : Cond.methodLink o i y ∈ GW ∧ Cond.instanceMethod y ∈ GW ∧ Cond.selects y.cls y y ∈ GW ∧ Cond.initialized y.cls ∈ GW ∧ Cond.code y cc' nL' rt' ∈ GW) : GoodIn GW (wsV o i y.cls y (wsU y cc' nL' rt')) := by
  obtain ⟨h1, h2, h3, h4, h5⟩ := h
  intro w hw
  have hm : w ∈ GW := by
    rcases List.mem_append.mp hw with h | h
    · simp only [List.mem_cons, List.not_mem_nil, or_false] at h
      rcases h with rfl | rfl | rfl | rfl
      · exact h1
      · exact h2
      · exact h3
      · exact h4
    · rcases List.mem_cons.mp h with rfl | h
      · exact h5
      · exact h
  exact ⟨hm, good_of_word (GW_good hm)⟩
theorem wsS_good {o : String} {i : Nat} {y : MethodName} {cc' : ByteArray} {nL' : Nat} {rt' : Option FieldType} (h : Cond.methodLink o i y ∈ GW ∧ Cond.static y ∈ GW ∧ Cond.initialized y.cls ∈ GW ∧ Cond.code y cc' nL' rt' ∈ GW) : GoodIn GW (va_wsS o i y (wsU y cc' nL' rt')) := by
  obtain ⟨h1, h2, h3, h4⟩ := h
  intro w hw
  have hm : w ∈ GW := by
    rcases List.mem_append.mp hw with h | h
    · simp only [List.mem_cons, List.not_mem_nil, or_false] at h
      rcases h with rfl | rfl | rfl
      · exact h1
      · exact h2
      · exact h3
    · rcases List.mem_cons.mp h with rfl | h
      · exact h4
      · exact h
  exact ⟨hm, good_of_word (GW_good hm)⟩
theorem z_callV (F : Fx M G own cc nL rt kk mc) {κ j i k' mc' nL' : Nat} {y : MethodName} {cc' : ByteArray} {rt' : Option FieldType} (As rest : List Value) (hd : decode cc pc = .ok (.invokevirtual i, 3)) (hst : st = As.reverse ++ .ref (G.2.1 κ j) :: rest)
    (hq : ka κ = none) (hj : j < cnt κ) (hC : (vC κ).1 = y.cls) (hlk : Cond.methodLink own i y ∈ GW ∧ Cond.instanceMethod y ∈ GW ∧ Cond.selects y.cls y y ∈ GW ∧ Cond.initialized y.cls ∈ GW ∧ Cond.code y cc' nL' rt' ∈ GW)
    (hy : y.cls = y.cls ∧ y.cls ≠ "java/lang/invoke/MethodHandle" ∧ y.cls ≠ "java/lang/invoke/VarHandle" ∧ (parseMethodDescriptor y.desc).map (fun d => d.parameters.length) = some As.length) (hk : k' + 1 ≤ kk) (hn : n + mc' ≤ mc) (hL : nL' ≤ 21) (hr : (rest.map fun v => v.category).sum ≤ 8) (hsz : l.length = nL)
    (hcon : Con (mL M) G k' mc' y cc' nL' rt' w (.ref (G.2.1 κ j) :: As) (fun r w' => Z M G (n + mc') K X w' (pc + 3) l (r.toList ++ rest)) X) : Z M G n K X w pc l st := by
  intro H ls locs hP hl hS
  have hR := F.2.2.2.2.2.2.2.2.2.2
  obtain ⟨p, hp⟩ := prs_at hj
  have he := LL_at (G := G) (w := w) hp
  rw [ent_obj hq] at he
  have hM := hcon (kk - 1) (by omega)
  have hrec := va_recv F.2.2.2.2.2.1.1 hP.1 (vC_at κ) he
  rw [hC] at hrec
  have hcw : CallW (mR M) (mS M) (mA M) own y.cls i y cc' nL' rt' (wsU y cc' nL' rt') (rl (kk - 1) mc') mc' (6 * mc') As.length := by
    rw [hR]
    exact cwV As.length F.2.2.2.2.1 (wsV_good hlk) rfl rfl rfl hy ⟨by show kk - 1 + 1 ≤ kk; omega, by show 8 + (nL' + 11) + 40 * (kk - 1) ≤ 40 * kk; omega⟩
  refine z_after F hl hS hn (a := (Value.ref (G.2.1 κ j) :: As).toArray) (rest := rest) (vx_runV (As := As) (C := y.cls) (Ts := GW) ⟨F.1, F.2.1, F.2.2.1, F.2.2.2.1, F.2.2.2.2.1⟩ hM hcw ⟨Pc_blind, hrec, z_pre F hP hS⟩ rfl rfl (by rw [hl.1.trans hsz]) (by exact hst) (lv_room hr) hd ?_)
  rw [hR]
  exact ⟨hn, by show 6 * n + 6 * mc' ≤ 6 * mc; omega⟩
theorem z_callS (F : Fx M G own cc nL rt kk mc) {i k' mc' nL' : Nat} {y : MethodName} {cc' : ByteArray} {rt' : Option FieldType} (As rest : List Value) (hd : decode cc pc = .ok (.invokestatic i, 3)) (hst : st = As.reverse ++ rest)
    (hlk : Cond.methodLink own i y ∈ GW ∧ Cond.static y ∈ GW ∧ Cond.initialized y.cls ∈ GW ∧ Cond.code y cc' nL' rt' ∈ GW)
    (hy : y.cls ≠ "java/lang/invoke/MethodHandle" ∧ y.cls ≠ "java/lang/invoke/VarHandle" ∧ (parseMethodDescriptor y.desc).map (fun d => d.parameters.length) = some As.length) (hk : k' + 1 ≤ kk) (hn : n + mc' ≤ mc) (hL : nL' ≤ 21) (hr : (rest.map fun v => v.category).sum ≤ 8) (hsz : l.length = nL)
    (hcon : Con (mL M) G k' mc' y cc' nL' rt' w As (fun r w' => Z M G (n + mc') K X w' (pc + 3) l (r.toList ++ rest)) X) : Z M G n K X w pc l st := by
  intro H ls locs hP hl hS
  have hR := F.2.2.2.2.2.2.2.2.2.2
  have hM := hcon (kk - 1) (by omega)
  have hcw : CallB (mR M) (mS M) (mA M) own i y cc' nL' rt' (wsU y cc' nL' rt') (rl (kk - 1) mc') mc' (6 * mc') As.length ∧ (Cond.static y).before (mA M) (mS M) = true := by
    rw [hR]
    exact va_cwS As.length F.2.2.2.2.1 (wsS_good hlk) rfl rfl rfl hy ⟨by show kk - 1 + 1 ≤ kk; omega, by show 8 + (nL' + 11) + 40 * (kk - 1) ≤ 40 * kk; omega⟩
  refine z_after F hl hS hn (a := As.toArray) (rest := rest) (vx_runS (As := As) (Ts := GW) ⟨F.1, F.2.1, F.2.2.1, F.2.2.2.1, F.2.2.2.2.1⟩ hM hcw ⟨Pc_blind, z_pre F hP hS⟩ rfl rfl (by rw [hl.1.trans hsz]) (by exact hst) (lv_room hr) hd ?_)
  rw [hR]
  exact ⟨hn, by show 6 * n + 6 * mc' ≤ 6 * mc; omega⟩
end ZC
