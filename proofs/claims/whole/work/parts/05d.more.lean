/-! Throws, copies of rows, switches, String constants. -/
def exNames : List String := ["java/lang/RuntimeException", "java/lang/Exception"]
/-- the words that a throw of class E with a text needs, but for what Bs has -/
def exGood (own : String) (ic : Nat) (E : String) : Prop := ∀ w ∈ vx_atS own ic E exNames, w ∈ GW ∨ w ∈ exW
theorem exGood_of {own : String} {ic : Nat} {E : String} (h : (vx_atS own ic E exNames).all (fun w => (decide (w ∈ tables_1) && goodWord w) || decide (w ∈ exW)) = true) : exGood own ic E := by
  intro w hw
  have h1 := List.all_eq_true.mp h w hw
  simp only [Bool.or_eq_true, Bool.and_eq_true, decide_eq_true_eq] at h1
  rcases h1 with ⟨h1, h2⟩ | h1
  · exact Or.inl (GW_of (List.mem_append_right _ h1) h2)
  · exact Or.inr h1
theorem fit_iae : Bundle.fit nIae = true := by decide +kernel
theorem fit_nse : Bundle.fit nNse = true := by decide +kernel
theorem fit_nms : ∀ n ∈ exNames, Bundle.fit n = true := by decide +kernel
theorem nat_words : nativeFrameWords "java/lang/System" "arraycopy" 5 ≤ 60 := by decide +kernel
section ZM
variable {M : Mx} {G : Gx} {own : String} {cc : ByteArray} {nL : Nat} {rt : Option FieldType} {kk mc : Nat} {n : Nat} {K : Option Value → Wd → Prop} {X : String → Wd → Prop} {w : Wd} {pc : Nat} {l : List (Option Value)} {st : List Value}
theorem Hp_kept {H H1 : Heap} (h : Hp G w H) (hq : ∀ q : Nat, q < H.size → H1[q]? = H[q]?) : Hp G w H1 := ⟨h.1.kept (fun k q hk => hq q.1 (h.1 k q hk).lt), h.2⟩
theorem z_throwW (F : Fx M G own cc nL rt kk mc) {ik is ic t : Nat} {E : String} (hE : E = nIae ∨ E = nNse) (hcl : Cond.classLink own ik E ∈ GW) (hini : Cond.initialized E ∈ GW) (hs : (own, is, t) ∈ sRefs) (hat : exGood own ic E) (hk : 6 ≤ kk) (hn : n + 1 ≤ mc) (hsz : l.length = nL) (hst : (st.map fun v => v.category).sum ≤ 8)
    (d0 : decode cc pc = .ok (.new ik, 3)) (d3 : decode cc (pc + 3) = .ok (.dup, 1)) (d4 : decode cc (pc + 4) = .ok (.ldc_w is, 3)) (d7 : decode cc (pc + 7) = .ok (.invokespecial ic, 3)) (d10 : decode cc (pc + 10) = .ok (.athrow, 1))
    (kx : X E w) : Z M G n K X w pc l st := by
  intro H ls locs hP hl hS
  have hR := F.2.2.2.2.2.2.2.2.2.2
  obtain ⟨-, -, hU, hN, -, hr, c1, -, -⟩ := F.2.2.2.2.2.1
  have hts := F.2.2.2.2.1
  have hat1 : ∀ w ∈ vx_atS own ic E exNames, w.before (mA M) (mS M) = true := fun w hw => by
    rcases hat w hw with h | h
    · exact hts w h
    · have h1 := exW_face w h
      simp only [Bool.and_eq_true] at h1
      exact va_tabs (A := #[]) (u := mS M) h1.2 rfl (c1 w h)
  have hgd : ∀ w ∈ GW, vx_ot w = true := fun w hw => by
    unfold vx_ot
    rw [GW_good hw, Bool.or_true]
  have hfit : Bundle.fit E = true := by
    rcases hE with rfl | rfl
    · exact fit_iae
    · exact fit_nse
  refine vx_throwSW (own := own) (names := exNames) (A := AA G) F.1 F.2.1 F.2.2.2.2.2.2.2.2.2.1 F.2.2.2.1 hfit fit_nms (hts _ hcl) (hts _ hini) (hr _ hs) hat1 ?_ hU hN hS ?_ d0 d3 d4 d7 d10 (fun x hx => (F.2.2.2.2.2.2.2.2.1 x hx).elim) ?_ ?_ ?_ ?_ F.2.2.2.2.2.2.1 ?_ hS.2.2 ?_ ?_
  · intro w hw
    rcases List.mem_cons.mp hw with rfl | hw
    · exact hgd _ hcl
    rcases List.mem_cons.mp hw with rfl | hw
    · exact hgd _ hini
    rcases hat w hw with h | h
    · exact hgd _ h
    · have h1 := exW_face w h
      simp only [Bool.and_eq_true] at h1
      unfold vx_ot
      rw [h1.2, Bool.true_or]
  · rw [hl.1, hsz, F.2.2.1]
  · rw [hR]; show 2 + 3 < kk; omega
  · rw [hR]; show (st.map fun v => v.category).sum + (13 * (2 + 1) + 43) ≤ 40 * kk; omega
  · rw [hR]; exact hn
  · rw [hR]; show 6 * n + 6 ≤ 6 * mc; omega
  · intro t9 _ h1 h2
    exact ⟨w, kx, Hp_kept hP h2, Nat.le_trans hS.1 h1, fun q hq hA => (h2 q (Nat.lt_of_lt_of_le hq hS.1)).trans (hS.2.1 q hq hA)⟩
  · rw [hR]; exact hn
  · rw [hR]; show 6 * n + 6 ≤ 6 * mc; omega
theorem z_ldcS (F : Fx M G own cc nL rt kk mc) {i : Nat} (t : Nat) (hd : decode cc pc = .ok (.ldc i, 2)) (hs : (own, i, t) ∈ sRefs) (kx : Z M G n K X w (pc + 2) l (.ref (G.2.2.2.2.1 t) :: st)) : Z M G n K X w pc l st :=
  fun H ls locs hP hl hS => va_ldcS F.1 F.2.1 F.2.2.2.1 (F.2.2.2.2.2.1.2.2.2.2.2.1 _ hs) hd (kx H ls locs hP hl hS)
theorem z_copy (F : Fx M G own cc nL rt kk mc) {κ j κ' j' m m' i : Nat} {sp dp c : Int32} (hq : ka κ = some (0, m)) (hj : j < cnt κ) (hq' : ka κ' = some (0, m')) (hj' : j' < cnt κ') (hlk : Cond.methodLink own i arraycopyName ∈ GW) (hnat : Cond.native arraycopyName ∈ GW) (hsta : Cond.static arraycopyName ∈ GW) (hini : Cond.initialized "java/lang/System" ∈ GW)
    (h1 : ¬ sp < 0) (h2 : ¬ dp < 0) (h3 : ¬ c < 0) (h4 : sp.toNatClampNeg + c.toNatClampNeg ≤ m) (h5 : dp.toNatClampNeg + c.toNatClampNeg ≤ m') (hkk : 3 ≤ kk) (hsz : l.length = nL) (hst : (st.map fun v => v.category).sum ≤ 8) (hd : decode cc pc = .ok (.invokestatic i, 3))
    (kx : Z M G n K X (setR w κ' j' (va_cpy (w.1 κ j) (w.1 κ' j') sp.toNatClampNeg dp.toNatClampNeg c.toNatClampNeg)) (pc + 3) l st) : Z M G n K X w pc l (.int c :: .int dp :: .ref (G.2.1 κ' j') :: .int sp :: .ref (G.2.1 κ j) :: st) := by
  intro H ls locs hP hl hS
  have hR := F.2.2.2.2.2.2.2.2.2.2
  obtain ⟨p, hp⟩ := prs_at hj
  obtain ⟨p', hp'⟩ := prs_at hj'
  have he := LL_at (G := G) (w := w) hp
  rw [ent_int hq (by decide)] at he
  have he' := LL_at (G := G) (w := w) hp'
  rw [ent_int hq' (by decide)] at he'
  have hts := F.2.2.2.2.1
  refine va_copyi (tys := tysG G) (ty := .int) F.1 F.2.1 (by rw [hl.1, hsz, F.2.2.1]) F.2.2.2.1 (hts _ hlk) (hts _ hnat) (hts _ hsta) (hts _ hini) F.2.2.2.2.2.1.1 hP.1 hP.2.1 hS p p' 0 0 he he' rfl rfl rfl h1 h2 h3 h4 h5 (fun _ _ => rfl) (by rw [hR]; show 1 ≤ kk; omega) ?_ hd (fun H1 locs1 hP1 hD1 hS1 => ?_)
  · rw [hR]
    show (st.map fun v => v.category).sum + (nativeFrameWords "java/lang/System" "arraycopy" 5 + 11) ≤ 40 * kk
    have := nat_words
    omega
  · have e : setR w κ' j' (va_cpy (w.1 κ j) (w.1 κ' j') sp.toNatClampNeg dp.toNatClampNeg c.toNatClampNeg) = setR w κ' j' (va_cpy (w.1 κ j) (w.1 κ' j') sp.toNatClampNeg dp.toNatClampNeg c.toNatClampNeg) := rfl
    rw [← setR_same w κ' j' (va_cpy (w.1 κ j) (w.1 κ' j') sp.toNatClampNeg dp.toNatClampNeg c.toNatClampNeg), ← ent_int (ad := G.2.1) (cA := G.2.2.1) hq' (by decide), LL_set hp' (fun a b h => setR_ent h)] at hP1 hD1
    exact kx H1 ls locs1 ⟨hP1, hD1, hP.2.2⟩ hl hS1
theorem z_tabIn (F : Fx M G own cc nL rt kk mc) {dflt lo hi : Int} {offs : Array Int} {len : Nat} {x : Int32} {off : Int} (tgt : Nat) (hd : decode cc pc = .ok (.tableswitch dflt lo hi offs, len)) (h1 : ¬ x.toInt < lo) (h2 : ¬ hi < x.toInt) (ho : offs[(x.toInt - lo).toNat]? = some off) (ht : (pc : Int) + off = (tgt : Int)) (k : Z M G n K X w tgt l st) : Z M G n K X w pc l (.int x :: st) :=
  fun H ls locs hP hl hS => lv_tableIn F.1 F.2.1 hd h1 h2 ho ht (k H ls locs hP hl hS)
theorem z_tabOut (F : Fx M G own cc nL rt kk mc) {dflt lo hi : Int} {offs : Array Int} {len : Nat} {x : Int32} (tgt : Nat) (hd : decode cc pc = .ok (.tableswitch dflt lo hi offs, len)) (h : x.toInt < lo ∨ hi < x.toInt) (ht : (pc : Int) + dflt = (tgt : Int)) (k : Z M G n K X w tgt l st) : Z M G n K X w pc l (.int x :: st) :=
  fun H ls locs hP hl hS => lv_tableOut F.1 F.2.1 hd h ht (k H ls locs hP hl hS)
theorem z_look (F : Fx M G own cc nL rt kk mc) {dflt : Int} {ps : Array (Int × Int)} {len : Nat} {x : Int32} {off : Int} (tgt : Nat) (hd : decode cc pc = .ok (.lookupswitch dflt ps, len)) (hp : (ps.toList.zip (ps.toList.drop 1)).all (fun (a, next) => a.1 < next.1) = true) (ho : Op.lookupswitch.offset ps.toList dflt x.toInt = off) (ht : (pc : Int) + off = (tgt : Int)) (k : Z M G n K X w tgt l st) : Z M G n K X w pc l (.int x :: st) :=
  fun H ls locs hP hl hS => lv_lookup F.1 F.2.1 hd hp ho ht (k H ls locs hP hl hS)
end ZM
