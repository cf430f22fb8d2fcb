/-! Constructors: new int[n][m], new long[n]; a list in another order; a call of an ordinary method. -/
def grd (G : Gx) (g N K : Nat) : va_W := (g, qA G 5 N (fun i => some (g + 1 + i))) :: (List.range N).map (fun i => (g + 1 + i, iA G K))
def lA (G : Gx) (N : Nat) : va_E := .inl (G.2.2.1 2, N, .inr (.inl (fun _ => 0)))
theorem ar_long : Cond.arrayClass .long ∈ GW := GW_of (by decide +kernel) rfl
theorem grd_D {A : Nat → Prop} {G : Gx} {g N K : Nat} (hA : ∀ q, g ≤ q → A q) : va_D A (grd G g N K) := by
  have key : ∀ (k : Nat) (q : Nat × va_E), (grd G g N K)[k]? = some q → q.1 = g + k := by
    intro k q hk
    cases k with
    | zero => cases hk; rfl
    | succ k =>
      unfold grd at hk
      rw [List.getElem?_cons_succ, List.getElem?_map] at hk
      cases hr : (List.range N)[k]? with
      | none => rw [hr] at hk; cases hk
      | some j =>
        rw [hr] at hk
        have hj : j = k := by
          obtain ⟨h1, h2⟩ := List.getElem?_eq_some_iff.mp hr
          rw [List.getElem_range] at h2
          exact h2.symm
        cases hk
        show g + 1 + j = g + (k + 1)
        omega
  refine ⟨fun i j p q hp hq he => ?_, fun k q hk => hA _ (by rw [key k q hk]; omega)⟩
  have a1 := key i p hp
  have a2 := key j q hq
  omega
section YG
variable {M : Mx} {G : Gx} {own : String} {cc : ByteArray} {nL : Nat} {kk mc ms : Nat} {n ns : Nat} {Kc : va_W → Prop} {X Y ws ws' : va_W} {o : Nat × va_E} {pc : Nat} {l : List (Option Value)} {st : List Value}
theorem x_newl (F : FC M G own cc nL kk mc ms) {x : Int32} (N : Nat) (hx : ¬ x < 0) (hN : x.toNatClampNeg = N) (hb : N ≤ 100000) (hn : n + 1 ≤ mc) (hns : ns + N ≤ ms) (hd : decode cc pc = .ok (.newarray .long, 2))
    (k : ∀ q, ZC M G (n + 1) (ns + N) Kc (X ++ o :: (Y ++ [(q, lA G N)])) (pc + 2) l (.ref q :: st)) : ZC M G n ns Kc (X ++ o :: Y) pc l (.int x :: st) := by
  intro H ls locs hP hD hl hS
  have hR : mR M = rc kk mc ms := F.2.2.2.2.2.2.2.2.1
  have hK := F.2.2.2.2.2.1.1
  refine va_newa (atype := .long) (ty := .long) (a0 := (N, .inr (.inl (fun _ => 0)))) F.1 F.2.1 (F.2.2.2.2.1 _ ar_long) rfl hK hP hD hS (AA_new F.2.2.2.2.2.1) (fun cA => rfl) hx hN (by show N * 8 ≤ _; omega) (by rw [hR]; exact hn) (by rw [hR]; exact hns) hd (fun q cA H1 hK1 hP1 hD1 hS1 => ?_)
  have e0 := (hK.2 2 _ rfl).2
  have e1 := (hK1.2 6 (cA, .long) rfl).2
  have e2 : G.2.2.1 2 = cA := Option.some.inj ((show (mS M).vm.findClass ("[" ++ FieldType.long.toString) = some (G.2.2.1 2) from e0).symm.trans e1)
  rw [← e2, xo_app] at hP1 hD1
  exact k q H1 ls locs hP1 hD1 hl hS1
theorem x_grid (F : FC M G own cc nL kk mc ms) {x y : Int32} {i : Nat} (N K : Nat) (h1 : Cond.classLink own i "[[I" ∈ GW) (hx : ¬ x < 0) (hy : ¬ y < 0) (eN : x.toNatClampNeg = N) (eK : y.toNatClampNeg = K) (hN : N ≤ 1000) (hK : K ≤ 1000) (hn : n + (1 + N) ≤ mc) (hns : ns + (N + N * K) ≤ ms) (hd : decode cc pc = .ok (.multianewarray i 2, 4))
    (k : ∀ q, ZC M G (n + 1 + N) (ns + N + N * K) Kc (X ++ o :: (Y ++ grd G q N K)) (pc + 4) l (.ref q :: st)) : ZC M G n ns Kc (X ++ o :: Y) pc l (.int y :: .int x :: st) := by
  intro H ls locs hP hD hl hS
  have hR : mR M = rc kk mc ms := F.2.2.2.2.2.2.2.2.1
  have hKn := F.2.2.2.2.2.1.1
  refine w_grid F.1 F.2.1 F.2.2.2.1 (F.2.2.2.2.1 _ h1) F.2.2.2.2.2.2.2.2.2.2.2.2.1 (F.2.2.2.2.1 _ ar_int) N K hx hy eN eK hN hK (by rw [hR]; exact hn) (by rw [hR]; exact hns) hd (fun cA cI kA kI cc' H1 hcA hcI _ _ _ _ hsz hold hout hin => ?_)
  have e5 := (hKn.2 5 _ rfl).2
  have a5 : G.2.2.1 5 = cA := Option.some.inj ((show (mS M).vm.findClass "[[I" = some (G.2.2.1 5) from e5).symm.trans hcA)
  have e0 := (hKn.2 0 _ rfl).2
  have a0 : G.2.2.1 0 = cI := Option.some.inj ((show (mS M).vm.findClass "[I" = some (G.2.2.1 0) from e0).symm.trans hcI)
  have hk : ∀ (k : Nat) (x : Nat × va_E), (X ++ o :: Y)[k]? = some x → H1[x.1]? = H[x.1]? := fun k x hx => hold x.1 ((hP k x hx).lt)
  have hA : ∀ q, H.size ≤ q → AA G q := fun q hq => AA_new F.2.2.2.2.2.1 q (Nat.le_trans hS.1 hq)
  have hP2 : va_P G.1 vwCl (grd G H.size N K) H1 := by
    intro z q hz
    rcases List.mem_cons.mp (List.mem_of_getElem? hz) with e | e
    · rw [e]
      show H1[H.size]? = some (vp_cell (G.2.2.1 5) (N, .inr (.inr (.inr (.inr (fun i => some (H.size + 1 + i)))))))
      rw [hout, a5]
      refine congrArg some ?_
      show arrV cA N (fun j => if j < N then .ref (H.size + 1 + j) else .null) = arrV cA N (fun j => va_rf (some (H.size + 1 + j)))
      unfold arrV
      have e9 : (fun j : Fin N => (if j.val < N then Value.ref (H.size + 1 + j.val) else Value.null)) = (fun j : Fin N => va_rf (some (H.size + 1 + j.val))) := funext fun j => if_pos j.isLt
      rw [e9]
    · obtain ⟨j, hj, e⟩ := List.mem_map.mp e
      rw [← e]
      show H1[H.size + 1 + j]? = some (vp_cell (G.2.2.1 0) (K, .inl (fun _ => 0)))
      rw [hin j (List.mem_range.mp hj), a0]
      rfl
  have hD2 : va_D (AA G) (grd G H.size N K) := grd_D hA
  have e9 : X ++ o :: (Y ++ grd G H.size N K) = (X ++ o :: Y) ++ grd G H.size N K := xo_ap.symm
  refine k H.size H1 ls locs ?_ ?_ hl ⟨Nat.le_trans hS.1 (by omega), fun x h1 h2 => (hold x (Nat.lt_of_lt_of_le h1 hS.1)).trans (hS.2.1 x h1 h2), hS.2.2⟩
  · rw [e9]
    exact (hP.kept hk).app hP2
  · rw [e9]
    refine hD.app hD2 (fun i j p q hp hq => ?_)
    have b1 := (hP i p hp).lt
    have b2 : H.size ≤ q.1 := by
      rcases List.mem_cons.mp (List.mem_of_getElem? hq) with e | e
      · rw [e]; exact Nat.le_refl _
      · obtain ⟨j, hj, e⟩ := List.mem_map.mp e
        rw [← e]
        show H.size ≤ H.size + 1 + j
        omega
    omega
/-- the cells of the keys ks, told by fewer keys in another order -/
theorem vaPD_keys {D : va_G} {A : Nat → Prop} {cl : List vw_C} {ks ps : List (Nat × Nat)} {c : Nat × Nat → Nat × va_E} {H : Heap} (hP : va_P D cl (ks.map c) H) (hD : va_D A (ks.map c)) (hs : ∀ q ∈ ps, q ∈ ks) (hn : ps.Nodup) : va_P D cl (ps.map c) H ∧ va_D A (ps.map c) := by
  have key : ∀ (k : Nat) (x : Nat × va_E), (ps.map c)[k]? = some x → ∃ (q : Nat × Nat) (i : Nat), ps[k]? = some q ∧ ks[i]? = some q ∧ c q = x := by
    intro k x hk
    rw [List.getElem?_map] at hk
    cases hq : ps[k]? with
    | none => rw [hq] at hk; cases hk
    | some q =>
      rw [hq] at hk
      obtain ⟨i, hi⟩ := List.getElem?_of_mem (hs q (List.mem_of_getElem? hq))
      exact ⟨q, i, rfl, hi, Option.some.inj hk⟩
  have at' : ∀ {i : Nat} {q : Nat × Nat}, ks[i]? = some q → (ks.map c)[i]? = some (c q) := fun h => by rw [List.getElem?_map, h]; rfl
  refine ⟨fun k x hk => ?_, fun i j p q hp hq he => ?_, fun k x hk => ?_⟩
  · obtain ⟨q, i, h1, h2, h3⟩ := key k x hk
    rw [← h3]
    exact hP i _ (at' h2)
  · obtain ⟨p1, i1, h1, h2, h3⟩ := key i p hp
    obtain ⟨q1, j1, g1, g2, g3⟩ := key j q hq
    have e := hD.1 i1 j1 _ _ (at' h2) (at' g2) (by rw [h3, g3]; exact he)
    rw [e, g2] at h2
    cases h2
    exact (List.getElem?_inj (List.getElem?_eq_some_iff.mp h1).1 hn).mp (h1.trans g1.symm)
  · obtain ⟨q, i, h1, h2, h3⟩ := key k x hk
    rw [← h3]
    exact hD.2 i _ (at' h2)
theorem y_keys {ks ps : List (Nat × Nat)} {c : Nat × Nat → Nat × va_E} (hs : ∀ q ∈ ps, q ∈ ks) (hn : ps.Nodup) (k : ZC M G n ns Kc (ps.map c) pc l st) : ZC M G n ns Kc (ks.map c) pc l st := by
  intro H ls locs hP hD hl hS
  obtain ⟨h1, h2⟩ := vaPD_keys hP hD hs hn
  exact k H ls locs h1 h2 hl hS
def gA (G : Gx) (ad : Nat → Nat → Nat) : Gx := (G.1, ad, G.2.2)
theorem y_con (F : FC M G own cc nL kk mc ms) {ad : Nat → Nat → Nat} {w : Wd} {i k' nL' : Nat} {y : MethodName} {cc' : ByteArray} (rest : List Value) (hd : decode cc pc = .ok (.invokevirtual i, 3)) (hst : st = .ref (ad 40 0) :: rest)
    (hC : (vC 40).1 = y.cls) (hlk : Cond.methodLink own i y ∈ GW ∧ Cond.instanceMethod y ∈ GW ∧ Cond.selects y.cls y y ∈ GW ∧ Cond.initialized y.cls ∈ GW ∧ Cond.code y cc' nL' none ∈ GW)
    (hy : y.cls = y.cls ∧ y.cls ≠ "java/lang/invoke/MethodHandle" ∧ y.cls ≠ "java/lang/invoke/VarHandle" ∧ (parseMethodDescriptor y.desc).map (fun d => d.parameters.length) = some 0) (hk : k' + 1 ≤ kk) (hn : n ≤ mc) (hns : ns ≤ ms) (hL : nL' ≤ 21) (hr : (rest.map fun v => v.category).sum ≤ 8) (hsz : l.length = nL) (hPW : PW w)
    (hcon : Con (mL M) (gA G ad) k' 0 y cc' nL' none w [.ref (ad 40 0)] (fun r w' => r = none ∧ (PW w' → ZC M G n ns Kc (LL (gA G ad) w') (pc + 3) l rest)) noX) : ZC M G n ns Kc (LL (gA G ad) w) pc l st := by
  intro H ls locs hP hD hl hS
  have hR : mR M = rc kk mc ms := F.2.2.2.2.2.2.2.2.1
  have hj : 0 < cnt 40 := by decide
  obtain ⟨p, hp⟩ := prs_at hj
  have he := LL_at (G := gA G ad) (w := w) hp
  rw [ent_obj (show ka 40 = none from rfl)] at he
  have hM := hcon (kk - 1) (by omega)
  have hrec := va_recv F.2.2.2.2.2.1.1 hP (vC_at 40) he
  rw [hC] at hrec
  have hcw : CallW (mR M) (mS M) (mA M) own y.cls i y cc' nL' none (wsU y cc' nL' none) (rl (kk - 1) 0) 0 (6 * 0) 0 := by
    rw [hR]
    exact cwV 0 F.2.2.2.2.1 (wsV_good hlk) rfl rfl rfl hy ⟨by show kk - 1 + 1 ≤ kk; omega, by show 8 + (nL' + 11) + 40 * (kk - 1) ≤ 40 * kk; omega⟩
  have hpre : ∀ U : State, U.heap = H → (mS M).WarmedH U.vm → va_Pc [.ref (ad 40 0)] (fun U => Bs (gA G ad) U ∧ Hp (gA G ad) w U.heap) ([Value.ref (ad 40 0)]).toArray U := by
    intro U hU hW
    exact ⟨rfl, Bs_move hW F.2.2.2.2.2.1 (by rw [hU]; exact hS.1) (fun q h1 h2 => by rw [hU]; exact hS.2.1 q h1 h2), by rw [hU]; exact ⟨hP, hD, hPW⟩⟩
  have hrun := vx_runV (As := []) (rest := rest) (g := F0 (mM M) pc ls st) (p := mP M) (l := mL M) (e := mE M) (R := mR M) (s := mS M) (m := mM M) (args := mA M) (below := mB M) (meth := mT M) (c := mC M) (H := H) (locs := locs) (cells := n) (slots := ns) (C := y.cls) (Ts := GW) ⟨F.1, F.2.1, F.2.2.1, F.2.2.2.1, F.2.2.2.2.1⟩ hM hcw ⟨Pc_blind, hrec, hpre⟩ rfl rfl (by show ls.size = nL; rw [hl.1.trans hsz]) (by exact hst) (lv_room hr) hd (by rw [hR]; exact ⟨hn, hns⟩)
  intro T hT X'
  rcases hrun T hT X' with ⟨v, st₀, t, T', L, h0, X', hL, e1, e2, ⟨r, w', hv, hz, hp, hF⟩, go⟩ | ⟨q, st₀, t, T', L, E, ce, h0, X', hL, e1, e2, ⟨w', hx, hp, hF⟩, hce, hcv, hcl, go⟩
  · cases hv
    obtain ⟨hr0, hz⟩ := hz
    subst hr0
    obtain ⟨k1, k2, k3⟩ := vx_keep (A1 := AA G) h0 e1 hS (fun _ _ h => h) (fun _ h => h) hL hF
    obtain ⟨t2, a1, b1⟩ := hz hp.2.2 T'.heap ls (locs ++ L) (by rw [e1]; exact hp.1) hp.2.1 hl k3 T' rfl X'
    exact ⟨t2, go t2 a1, b1⟩
  · exact hx.elim
end YG
