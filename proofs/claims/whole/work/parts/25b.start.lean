/-! The law's first steps: both objects, the row of one long. -/
def FE (M : Mx) (G : Gx) : Prop :=
  (mP M).tables.exec = Jvm.exec ∧ (mC M).code = cL_law_ ∧ (mC M).maxLocals = 8 ∧ (mS M).vm.findClass RL = some (mM M).cls ∧ (∀ w ∈ GW, w.before (mA M) (mS M) = true) ∧ Bs G (mS M) ∧ Bx (mS M) ∧ mR M = room_1
def ZE (M : Mx) (G : Gx) (Qp : State → Prop) (n ns : Nat) (ws : va_W) (pc : Nat) (l : List (Option Value)) (st : List Value) : Prop :=
  ∀ (H : Heap) (ls : Array Slot) (locs : List Loc), va_P G.1 vwCl ws H → va_D (AA G) ws → lhas ls l → va_S (AA G) (mS M).heap H locs →
    W (mP M) (mL M) (mE M) (mR M) (mS M) (mM M) (mA M) (mB M) (mT M) (mC M) H locs n ns Qp (F0 (mM M) pc ls st)
section ER
variable {M : Mx} {G : Gx} {Qp : State → Prop} {n ns : Nat} {ws : va_W} {pc : Nat} {l : List (Option Value)} {st : List Value}
theorem e_new (F : FE M G) {i : Nat} (κ : Nat) (fs : List Value) (hfs : ∀ j, j < nf κ → defaultValue (vCty κ j) = vp_V fs j) (h1 : Cond.classLink RL i (vC κ).1 ∈ GW) (h2 : Cond.instantiable (vC κ).1 (nf κ) ∈ GW) (h3 : Cond.initialized (vC κ).1 ∈ GW) (hn : n + 1 ≤ 600128) (hns : ns + nf κ ≤ 7301098) (hd : decode cL_law_ pc = .ok (.new i, 3))
    (k : ∀ q, ZE M G Qp (n + 1) (ns + nf κ) (ws ++ [(q, .inr (kc κ, fs))]) (pc + 3) l (.ref q :: st)) : ZE M G Qp n ns ws pc l st := by
  intro H ls locs hP hD hl hS
  have hR : mR M = room_1 := F.2.2.2.2.2.2.2
  exact va_new (ci := kc κ) (C := (vC κ).1) (T := (vC κ).2.1) (N := nf κ) F.1 F.2.1 F.2.2.2.2.1 (vC_in κ) (vCty κ) (vC_ty κ) F.2.2.2.1 (F.2.2.2.2.1 _ h1) (F.2.2.2.2.1 _ h2) (F.2.2.2.2.1 _ h3) F.2.2.2.2.2.1.1 hP hD hS (AA_new F.2.2.2.2.2.1) (by rw [vC_at κ, ← vC_n κ]) hfs (by rw [hR]; exact hn) (by rw [hR]; exact hns) hd (fun q H1 hP1 hD1 hS1 => k q H1 ls locs hP1 hD1 hl hS1)
theorem e_dup (F : FE M G) {v : Value} (hd : decode cL_law_ pc = .ok (.dup, 1)) (hc : v.category = 1) (k : ZE M G Qp n ns ws (pc + 1) l (v :: v :: st)) : ZE M G Qp n ns ws pc l (v :: st) := fun H ls locs hP hD hl hS => lv_dup F.1 F.2.1 hd hc (k H ls locs hP hD hl hS)
theorem e_astore_n (F : FE M G) {i : Fin 4} {x : Nat} (hd : decode cL_law_ pc = .ok (.astore_n i, 1)) (hi : (i : Nat) < l.length) (k : ZE M G Qp n ns ws (pc + 1) (lput l i (.ref x)) st) : ZE M G Qp n ns ws pc l (.ref x :: st) := fun H ls locs hP hD hl hS => lv_astore_n F.1 F.2.1 hd rfl (lhas_lv hl) hi rfl (fun ls' h' => k H ls' locs hP hD (lhas_put h') hS)
theorem e_istore (F : FE M G) {i : Nat} {x : Int32} (hd : decode cL_law_ pc = .ok (.istore i, 2)) (hi : i < l.length) (k : ZE M G Qp n ns ws (pc + 2) (lput l i (.int x)) st) : ZE M G Qp n ns ws pc l (.int x :: st) := fun H ls locs hP hD hl hS => lv_istore F.1 F.2.1 hd (lhas_lv hl) hi rfl (fun ls' h' => k H ls' locs hP hD (lhas_put h') hS)
theorem e_iconst (F : FE M G) {i : Int} (v : Int32) (hd : decode cL_law_ pc = .ok (.iconst i, 1)) (hv : Int32.ofInt i = v) (k : ZE M G Qp n ns ws (pc + 1) l (.int v :: st)) : ZE M G Qp n ns ws pc l st := fun H ls locs hP hD hl hS => lv_iconst F.1 F.2.1 hd hv (k H ls locs hP hD hl hS)
theorem e_newl (F : FE M G) {x : Int32} (N : Nat) (hx : ¬ x < 0) (hN : x.toNatClampNeg = N) (hb : N ≤ 100000) (hn : n + 1 ≤ 600128) (hns : ns + N ≤ 7301098) (hd : decode cL_law_ pc = .ok (.newarray .long, 2))
    (k : ∀ q, ZE M G Qp (n + 1) (ns + N) (ws ++ [(q, lA G N)]) (pc + 2) l (.ref q :: st)) : ZE M G Qp n ns ws pc l (.int x :: st) := by
  intro H ls locs hP hD hl hS
  have hR : mR M = room_1 := F.2.2.2.2.2.2.2
  have hK := F.2.2.2.2.2.1.1
  refine va_newa (atype := .long) (ty := .long) (a0 := (N, .inr (.inl (fun _ => 0)))) F.1 F.2.1 (F.2.2.2.2.1 _ ar_long) rfl hK hP hD hS (AA_new F.2.2.2.2.2.1) (fun cA => rfl) hx hN (by show N * 8 ≤ _; omega) (by rw [hR]; exact hn) (by rw [hR]; exact hns) hd (fun q cA H1 hK1 hP1 hD1 hS1 => ?_)
  have e0 := (hK.2 2 _ rfl).2
  have e1 := (hK1.2 6 (cA, .long) rfl).2
  have e2 : G.2.2.1 2 = cA := Option.some.inj ((show (mS M).vm.findClass ("[" ++ FieldType.long.toString) = some (G.2.2.1 2) from e0).symm.trans e1)
  rw [← e2] at hP1 hD1
  exact k q H1 ls locs hP1 hD1 hl hS1
theorem e_init (F : FE M G) {i k' mc' ms' nL' q : Nat} {y : MethodName} {cc' : ByteArray} (rest : List Value) (hd : decode cL_law_ pc = .ok (.invokespecial i, 3)) (hst : st = .ref q :: rest)
    (hlk : Cond.methodLink RL i y ∈ GW ∧ Cond.instanceMethod y ∈ GW ∧ Cond.initialized y.cls ∈ GW ∧ Cond.code y cc' nL' none ∈ GW) (hy1 : y.name = "<init>")
    (hy : y.cls ≠ "java/lang/invoke/MethodHandle" ∧ y.cls ≠ "java/lang/invoke/VarHandle" ∧ (parseMethodDescriptor y.desc).map (fun d => d.parameters.length) = some 0) (hk : k' ≤ 2000) (hn : n + mc' ≤ 600128) (hns : ns + ms' ≤ 7301098) (hL : nL' ≤ 21) (hr : (rest.map fun v => v.category).sum ≤ 8) (hsz : l.length = 8)
    (hcon : ConC (mL M) G k' mc' ms' y cc' nL' ws [.ref q] (fun ws' => ZE M G Qp (n + mc') (ns + ms') ws' (pc + 3) l rest)) : ZE M G Qp n ns ws pc l st := by
  intro H ls locs hP hD hl hS
  have hR : mR M = room_1 := F.2.2.2.2.2.2.2
  have hM := hcon k' (Nat.le_refl _)
  have hG : GoodIn GW (wsU y cc' nL' none) := fun w hw => by
    rcases List.mem_cons.mp hw with rfl | h
    · exact ⟨hlk.2.2.2, good_of_word (GW_good hlk.2.2.2)⟩
    · exact ⟨h, good_of_word (GW_good h)⟩
  have hcw : CallB (mR M) (mS M) (mA M) RL i y cc' nL' none (wsU y cc' nL' none) (rc k' mc' ms') mc' ms' 0 ∧ y.name = "<init>" ∧ (Cond.instanceMethod y).before (mA M) (mS M) = true := by
    rw [hR]
    exact cwI 0 F.2.2.2.2.1 hG rfl rfl rfl (F.2.2.2.2.1 _ hlk.2.2.1) (F.2.2.2.2.1 _ hlk.1) (F.2.2.2.2.1 _ hlk.2.1) hy1 hy ⟨by show k' + 1 ≤ 2048; omega, by show 8 + (nL' + 11) + 40 * k' ≤ 84000; omega⟩
  have hpre : ∀ U : State, U.heap = H → (mS M).WarmedH U.vm → va_Pc [.ref q] (fun U => (Bs G U ∧ Bx U) ∧ va_P G.1 vwCl ws U.heap ∧ va_D (AA G) ws) ([Value.ref q]).toArray U := by
    intro U hU hW
    exact ⟨rfl, ⟨Bs_move hW F.2.2.2.2.2.1 (by rw [hU]; exact hS.1) (fun q h1 h2 => by rw [hU]; exact hS.2.1 q h1 h2), F.2.2.2.2.2.2.1.mv hW⟩, by rw [hU]; exact hP, hD⟩
  have hblind : FrameBlind (va_Pc [.ref q] (fun U => (Bs G U ∧ Bx U) ∧ va_P G.1 vwCl ws U.heap ∧ va_D (AA G) ws)) := fun a U g mk h => ⟨h.1, ⟨Bs_call h.2.1.1, h.2.1.2.mv (U := U.calling g mk a) (State.WarmedH.refl U)⟩, h.2.2⟩
  have hrun := va_runI (b := q) (As := []) (rest := rest) (g := F0 (mM M) pc ls st) (p := mP M) (l := mL M) (e := mE M) (R := mR M) (s := mS M) (m := mM M) (args := mA M) (below := mB M) (meth := mT M) (c := mC M) (H := H) (locs := locs) (cells := n) (slots := ns) (Ts := GW) ⟨F.1, F.2.1, F.2.2.1, F.2.2.2.1, F.2.2.2.2.1⟩ hM hcw ⟨hblind, hpre⟩ rfl rfl (by show ls.size = 8; rw [hl.1.trans hsz]) (by exact hst) (lv_room hr) hd (by rw [hR]; exact ⟨hn, hns⟩)
  intro T hT X'
  obtain ⟨v, st₀, t, T', L, h0, X', hL, e1, e2, ⟨ws', hv, hz, hp, hd', hF⟩, go⟩ := hrun T hT X'
  cases hv
  obtain ⟨k1, k2, k3⟩ := vx_keep (A1 := AA G) h0 e1 hS (fun _ _ h => h) (fun _ h => h) hL hF
  obtain ⟨t2, a1, b1⟩ := hz T'.heap ls (locs ++ L) (by rw [e1]; exact hp) hd' hl k3 T' rfl X'
  exact ⟨t2, go t2 a1, b1⟩
end ER
/-- with the row of one long -/
def gZ (G : Gx) (ad : Nat → Nat → Nat) (z : Nat) : Gx := (G.1, fun κ j => if κ = 80 then z else ad κ j, fun t => if t = 7 then 1 else G.2.2.1 t, G.2.2.2)
theorem z_80 : ∀ κ, κ < 81 → 0 < cnt κ → (ka κ = none → ∀ x ∈ frL.getD κ frM, x ≠ 80) ∧ er κ ≠ 80 ∧ (∀ q, ka κ = some q → q.1 ≠ 7) := by
  intro κ hκ hc
  have h1 : ∀ κ, κ < 81 → 0 < cnt κ → (ka κ = none → ∀ x ∈ frL.getD κ frM, x ≠ 80) ∧ er κ ≠ 80 ∧ ((ka κ).getD (0, 0)).1 ≠ 7 := by decide +kernel
  obtain ⟨a, b, c⟩ := h1 κ hκ hc
  exact ⟨a, b, fun q hq => by rw [hq] at c; exact c⟩
theorem LL_z {G : Gx} {ad : Nat → Nat → Nat} {z : Nat} {w : Wd} (h7 : G.2.2.1 7 = 0) (hw : w.2.1 80 0 = fun _ => 0) : LL (gA G ad) w ++ [(z, lA G 1)] = LL (gZ G ad z) w := by
  rw [LL_cells h7]
  unfold LL LT LB
  rw [if_neg (show ¬ (gZ G ad z).2.2.1 7 = 0 from Nat.one_ne_zero)]
  have e1 : [((gZ G ad z).2.1 80 0, ent (gZ G ad z).2.1 (gZ G ad z).2.2.1 w 80 0)] = [(z, lA G 1)] := by
    rw [ent_long (show ka 80 = some (2, 1) from rfl), hw]
    rfl
  rw [e1]
  refine congrArg (· ++ [(z, lA G 1)]) (List.map_congr_left (fun q hq => ?_))
  obtain ⟨κ, j⟩ := q
  have hm := prs_mem.mp hq
  obtain ⟨a, b, c⟩ := z_80 κ hm.1 (by omega)
  have hne : κ ≠ 80 := fun h => by
    have h2 := hm.2
    rw [h] at h2
    exact absurd h2 (Nat.not_lt_zero _)
  have ha : ∀ a b, a ≠ 80 → ad a b = (gZ G ad z).2.1 a b := fun a b h => (if_neg h).symm
  show (ad κ j, ent ad G.2.2.1 w κ j) = ((gZ G ad z).2.1 κ j, ent (gZ G ad z).2.1 (gZ G ad z).2.2.1 w κ j)
  rw [ha κ j hne, ent_ad (ad := (gZ G ad z).2.1) (cA := (gZ G ad z).2.2.1) (fun a => a ≠ 80) ha (fun hk => fr_all (a hk) (by decide)) b (fun t n hk => ⟨(if_neg (c (t, n) hk)).symm, rfl⟩)]
/-- from the entry, for every script of at most 576 ints, the law comes to its end with true -/
theorem whole_start {p : Program} {e : Env} {s : State} {m : MethodId} {below : List Frame} {meth : Method} {c : Code} (l : Launch) (hl : l.stackTraces = false) {b L : Nat} {xs : Nat → Int32} (hL : L ≤ 576) (C0 : lw_At p s m meth c b L xs) : W p l e room_1 s m #[Value.ref b] below meth c s.heap [] 0 0 (lw_Z below #[Value.ref b] s) (entryFrame m ([Value.ref b] : List Value).toArray 8) := by
  obtain ⟨G, hG, h7, hB, hX⟩ := bs_start C0
  obtain ⟨c1, c2, c3, c4, c5, hts, c7, c8, c9, c10⟩ := C0
  have F : FE (p, l, e, room_1, s, m, #[Value.ref b], below, meth, c) G := ⟨c1, c2, c4, c5, fun w hw => hts w (List.mem_filter.mp hw).1, hB, hX, rfl⟩
  have hz : ZE (p, l, e, room_1, s, m, #[Value.ref b], below, meth, c) G (lw_Z below #[Value.ref b] s) 0 0 [] 0 [some (.ref b), none, none, none, none, none, none, none] [] := by
    refine e_new F 0 [.null, .null, .null, .null, .null, .null, .null, .null, .null, .null, .null, .null, .int 0, .int 0, .int 0, .int 0, .int 0] (by decide +kernel) (GW_1 24 rfl rfl) (GW_1 25 rfl rfl) (GW_1 1 rfl rfl) (by decide) (by decide) dL_law__0 (fun q0 => ?_)
    refine e_dup F dL_law__3 rfl ?_
    refine e_init F (k' := 3) (mc' := 467) (ms' := 7594) (y := yX9_init) [.ref q0] dL_law__4 rfl ⟨GW_1 26 rfl rfl, GW_1 27 rfl rfl, GW_1 1 rfl rfl, GW_1 28 rfl rfl⟩ rfl (by decide +kernel) (by decide) (by decide) (by decide) (by decide) (show (1 : Nat) ≤ 8 from by decide) rfl (conC_mono c_init9 ?_)
    rintro ws' ⟨ad0, h0, rfl⟩
    rw [List.nil_append]
    refine e_astore_n F dL_law__7 (by show 1 < 8; decide) ?_
    refine e_new F 40 [.int 0, .int 0, .int 0, .int 0, .int 0, .int 0, .int 0, .int 0, .int 0, .null, .null, .null, .null, .null, .null, .null, .null, .null, .null, .int 0, .int 0, .null, .null, .null, .null, .null, .null, .null, .int 0, .null, .null, .null, .null, .int 0, .int 0, .int 0, .int 0, .int 0, .int 0, .int 0, .int 0, .null, .null, .int 0, .null, .int 0] (by decide +kernel) (GW_5 227 rfl rfl) (GW_5 228 rfl rfl) (GW_1 11 rfl rfl) (by decide) (by decide) dL_law__8 (fun q1 => ?_)
    refine e_dup F dL_law__11 rfl ?_
    refine e_init F (k' := 4) (mc' := 561) (ms' := 6489) (y := yX10_init) [.ref q1] dL_law__12 rfl ⟨GW_5 229 rfl rfl, GW_5 230 rfl rfl, GW_1 11 rfl rfl, GW_5 231 rfl rfl⟩ rfl (by decide +kernel) (by decide) (by decide) (by decide) (by decide) (show (1 : Nat) ≤ 8 from by decide) rfl (conC_mono (c_init10 hl h7) ?_)
    rintro ws' ⟨ad, w, h1, h2, rfl, hPW, h80, hI⟩
    refine e_astore_n F dL_law__15 (by show 2 < 8; decide) ?_
    refine e_iconst F 1 dL_law__16 (by decide) ?_
    refine e_newl F 1 (by decide) rfl (by decide) (by decide) (by decide) dL_law__17 (fun z => ?_)
    refine e_astore_n F dL_law__19 (by show 3 < 8; decide) ?_
    refine e_iconst F (nI 0) dL_law__20 (by decide) ?_
    refine e_istore F dL_law__21 (by show 4 < 8; decide) ?_
    rw [LL_z h7 h80]
    have FLz : FL (p, l, e, room_1, s, m, #[Value.ref b], below, meth, c) (gZ G ad z) b L xs := ⟨c1, c2, c4, c5, F.2.2.2.2.1, hB, c9, c3, hl, rfl, c7, c8, fun h => by
      have h3 : G.2.2.2.1 ≤ b := h
      have h4 : b < s.heap.size := c8
      omega, Nat.one_ne_zero⟩
    have hr := r_loop FLz hL (r_end FLz rfl hG) 64 0 1031 14147 w (by omega) (by decide) (by decide) (by decide) hI
    intro H ls locs hP hD hls hS
    refine hr H ls locs ⟨hP, hD, hPW⟩ ?_ hS
    have eB : lB (gZ G ad z) b 0 = [some (.ref b), some (.ref (ad 0 0)), some (.ref (ad 40 0)), some (.ref z), some (.int (nI 0)), none, none, none] := rfl
    rw [eB, h1, h2, h0]
    exact hls
  have he := lv_entry ([Value.ref b] : List Value) (n := 8) (show (1 : Nat) ≤ 8 from by decide)
  rw [lg_entry_eq]
  have hP0 : va_P G.1 vwCl [] s.heap := fun k q hk => by simp at hk
  have hD0 : va_D (AA G) [] := ⟨fun i j p q hp => by simp at hp, fun k q hk => by simp at hk⟩
  refine hz s.heap _ [] hP0 hD0 ⟨he.1, he.2.1, fun i v hv => ?_⟩ va_S.rf
  have h3 := lent_at [Value.ref b] 0 i v (lg_rep [some (.ref b)] 7 i v hv)
  rw [Nat.zero_add] at h3
  exact he.2.2 (i, v) h3
