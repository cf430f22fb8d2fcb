/-! Writes with a name for the new world; calls on a text. -/
section ZV
variable {M : Mx} {G : Gx} {own : String} {cc : ByteArray} {nL : Nat} {rt : Option FieldType} {kk mc : Nat} {n : Nat} {K : Option Value → Wd → Prop} {X : String → Wd → Prop} {w : Wd} {pc : Nat} {l l' : List (Option Value)} {st : List Value}
theorem z_putIW (F : Fx M G own cc nL rt kk mc) {κ j i : Nat} {v : Int32} (k : Nat) (hq : ka κ = none) (hj : j < cnt κ) (hk : k < nf κ) (hf : fk κ k = 0) (hlink : Cond.fieldLink own i ((vC κ).2.1 k).1 ((vC κ).2.1 k).2.1 ((vC κ).2.1 k).2.2.1 ∈ GW) (hd : decode cc pc = .ok (.putfield i, 3))
    (kx : ∀ w1 : Wd, w1 = setI w κ j k v → Z M G n K X w1 (pc + 3) l st) : Z M G n K X w pc l (.int v :: .ref (G.2.1 κ j) :: st) := z_putI F k hq hj hk hf hlink hd (kx _ rfl)
theorem z_putDW (F : Fx M G own cc nL rt kk mc) {κ j i v : Nat} (k κ' : Nat) (C : String) (hq : ka κ = none) (hj : j < cnt κ) (hk : k < nf κ) (hf : fk κ k = 2) (h1 : fr κ k = κ') (hv : v < 2) (hty : parseFieldDescriptor ((vC κ).2.1 k).2.2.1 = some (.object C)) (hfin : ((vC κ).2.1 k).2.2.2 = false) (hlink : Cond.fieldLink own i ((vC κ).2.1 k).1 ((vC κ).2.1 k).2.1 ((vC κ).2.1 k).2.2.1 ∈ GW) (hd : decode cc pc = .ok (.putfield i, 3))
    (kx : ∀ w1 : Wd, w1 = setP w κ j k v → Z M G n K X w1 (pc + 3) l st) : Z M G n K X w pc l (.ref (G.2.1 κ' v) :: .ref (G.2.1 κ j) :: st) := z_putD F k κ' C hq hj hk hf h1 hv hty hfin hlink hd (kx _ rfl)
theorem z_iastW (F : Fx M G own cc nL rt kk mc) {κ j m : Nat} {i x : Int32} (k : Nat) (hik : i.toNatClampNeg = k) (hq : ka κ = some (0, m)) (hj : j < cnt κ) (hin : vp_in i m) (hd : decode cc pc = .ok (.iastore, 1))
    (kx : ∀ w1 : Wd, w1 = setI w κ j k x → Z M G n K X w1 (pc + 1) l st) : Z M G n K X w pc l (.int x :: .int i :: .ref (G.2.1 κ j) :: st) := z_iastK F k hik hq hj hin hd (kx _ rfl)
theorem z_bastW (F : Fx M G own cc nL rt kk mc) {κ j m : Nat} {i x : Int32} (k : Nat) (hik : i.toNatClampNeg = k) (hq : ka κ = some (1, m)) (hj : j < cnt κ) (hin : vp_in i m) (hd : decode cc pc = .ok (.bastore, 1))
    (kx : ∀ w1 : Wd, w1 = setI w κ j k (vp_nar .byte x) → Z M G n K X w1 (pc + 1) l st) : Z M G n K X w pc l (.int x :: .int i :: .ref (G.2.1 κ j) :: st) := z_bastK F k hik hq hj hin hd (kx _ rfl)
theorem z_lastW (F : Fx M G own cc nL rt kk mc) {κ j m : Nat} {i : Int32} {x : Int64} (k : Nat) (hik : i.toNatClampNeg = k) (hq : ka κ = some (2, m)) (hj : j < cnt κ) (hin : vp_in i m) (hd : decode cc pc = .ok (.lastore, 1))
    (kx : ∀ w1 : Wd, w1 = setL w κ j k x → Z M G n K X w1 (pc + 1) l st) : Z M G n K X w pc l (.long x :: .int i :: .ref (G.2.1 κ j) :: st) := z_lastK F k hik hq hj hin hd (kx _ rfl)
theorem z_copyW (F : Fx M G own cc nL rt kk mc) {κ j κ' j' m m' i : Nat} {sp dp c : Int32} (sN dN cN : Nat) (e1 : sp.toNatClampNeg = sN) (e2 : dp.toNatClampNeg = dN) (e3 : c.toNatClampNeg = cN) (hq : ka κ = some (0, m)) (hj : j < cnt κ) (hq' : ka κ' = some (0, m')) (hj' : j' < cnt κ') (hlk : Cond.methodLink own i arraycopyName ∈ GW) (hnat : Cond.native arraycopyName ∈ GW) (hsta : Cond.static arraycopyName ∈ GW) (hini : Cond.initialized "java/lang/System" ∈ GW)
    (h1 : ¬ sp < 0) (h2 : ¬ dp < 0) (h3 : ¬ c < 0) (h4 : sN + cN ≤ m) (h5 : dN + cN ≤ m') (hkk : 3 ≤ kk) (hsz : l.length = nL) (hst : (st.map fun v => v.category).sum ≤ 8) (hd : decode cc pc = .ok (.invokestatic i, 3))
    (kx : ∀ w1 : Wd, w1 = setR w κ' j' (va_cpy (w.1 κ j) (w.1 κ' j') sN dN cN) → Z M G n K X w1 (pc + 3) l st) : Z M G n K X w pc l (.int c :: .int dp :: .ref (G.2.1 κ' j') :: .int sp :: .ref (G.2.1 κ j) :: st) :=
  z_copyK F sN dN cN e1 e2 e3 hq hj hq' hj' hlk hnat hsta hini h1 h2 h3 h4 h5 hkk hsz hst hd (kx _ rfl)
theorem z_callT (F : Fx M G own cc nL rt kk mc) {t i k' mc' nL' : Nat} {y : MethodName} {cc' : ByteArray} {rt' : Option FieldType} (As rest : List Value) (hd : decode cc pc = .ok (.invokevirtual i, 3)) (hst : st = As.reverse ++ .ref (G.2.2.2.2.1 t) :: rest)
    (ht : t < 20) (hC : y.cls = "java/lang/String") (hlk : Cond.methodLink own i y ∈ GW ∧ Cond.instanceMethod y ∈ GW ∧ Cond.selects y.cls y y ∈ GW ∧ Cond.initialized y.cls ∈ GW ∧ Cond.code y cc' nL' rt' ∈ GW)
    (hy : y.cls = y.cls ∧ y.cls ≠ "java/lang/invoke/MethodHandle" ∧ y.cls ≠ "java/lang/invoke/VarHandle" ∧ (parseMethodDescriptor y.desc).map (fun d => d.parameters.length) = some As.length) (hk : k' + 1 ≤ kk) (hn : n + mc' ≤ mc) (hL : nL' ≤ 21) (hr : (rest.map fun v => v.category).sum ≤ 8) (hsz : l.length = nL)
    (hcon : Con (mL M) G k' mc' y cc' nL' rt' w (.ref (G.2.2.2.2.1 t) :: As) (fun r w' => Z M G (n + mc') K X w' (pc + 3) l (r.toList ++ rest)) X) : Z M G n K X w pc l st := by
  intro H ls locs hP hl hS
  have hR := F.2.2.2.2.2.2.2.2.2.2
  have hM := hcon (kk - 1) (by omega)
  have hrec := vk_recv F.2.2.2.2.2.1.2.2.2.2.1 ht hS
  rw [← hC] at hrec
  have hcw : CallW (mR M) (mS M) (mA M) own y.cls i y cc' nL' rt' (wsU y cc' nL' rt') (rl (kk - 1) mc') mc' (6 * mc') As.length := by
    rw [hR]
    exact cwV As.length F.2.2.2.2.1 (wsV_good hlk) rfl rfl rfl hy ⟨by show kk - 1 + 1 ≤ kk; omega, by show 8 + (nL' + 11) + 40 * (kk - 1) ≤ 40 * kk; omega⟩
  refine z_after F hl hS hn (a := (Value.ref (G.2.2.2.2.1 t) :: As).toArray) (rest := rest) (vx_runV (As := As) (C := y.cls) (Ts := GW) ⟨F.1, F.2.1, F.2.2.1, F.2.2.2.1, F.2.2.2.2.1⟩ hM hcw ⟨Pc_blind, hrec, z_pre F hP hS⟩ rfl rfl (by rw [hl.1.trans hsz]) (by exact hst) (lv_room hr) hd ?_)
  rw [hR]
  exact ⟨hn, by show 6 * n + 6 * mc' ≤ 6 * mc; omega⟩
theorem z_mmax (F : Fx M G own cc nL rt kk mc) {i : Nat} {x y : Int32} (hlk : Cond.methodLink own i Lib.Math.max.name ∈ GW) (hsta : Cond.static Lib.Math.max.name ∈ GW) (hini : Cond.initialized "java/lang/Math" ∈ GW) (hco : Cond.code Lib.Math.max.name Lib.Math.max.code 2 (some .int) ∈ GW) (hkk : 1 ≤ kk) (hn : n ≤ mc) (hsz : l.length = nL) (hst : (st.map fun v => v.category).sum ≤ 8) (hd : decode cc pc = .ok (.invokestatic i, 3))
    (kx : Z M G n K X w (pc + 3) l (.int (if x < y then y else x) :: st)) : Z M G n K X w pc l (.int y :: .int x :: st) := by
  intro H ls locs hP hl hS
  have hR := F.2.2.2.2.2.2.2.2.2.2
  have hts := F.2.2.2.2.1
  exact va_mmax F.1 F.2.1 (by rw [hl.1, hsz, F.2.2.1]) F.2.2.2.1 (hts _ hlk) (hts _ hsta) (hts _ hini) (hts _ hco) (by rw [hR]; exact hkk) (by rw [hR]; show (st.map fun v => v.category).sum + 13 ≤ 40 * kk; omega) (by rw [hR]; exact hn) (by rw [hR]; show 6 * n ≤ 6 * mc; omega) hd (kx H ls locs hP hl hS)
theorem z_mmin (F : Fx M G own cc nL rt kk mc) {i : Nat} {x y : Int32} (hlk : Cond.methodLink own i Lib.Math.min.name ∈ GW) (hsta : Cond.static Lib.Math.min.name ∈ GW) (hini : Cond.initialized "java/lang/Math" ∈ GW) (hco : Cond.code Lib.Math.min.name Lib.Math.min.code 2 (some .int) ∈ GW) (hkk : 1 ≤ kk) (hn : n ≤ mc) (hsz : l.length = nL) (hst : (st.map fun v => v.category).sum ≤ 8) (hd : decode cc pc = .ok (.invokestatic i, 3))
    (kx : Z M G n K X w (pc + 3) l (.int (if y < x then y else x) :: st)) : Z M G n K X w pc l (.int y :: .int x :: st) := by
  intro H ls locs hP hl hS
  have hR := F.2.2.2.2.2.2.2.2.2.2
  have hts := F.2.2.2.2.1
  exact va_mmin F.1 F.2.1 (by rw [hl.1, hsz, F.2.2.1]) F.2.2.2.1 (hts _ hlk) (hts _ hsta) (hts _ hini) (hts _ hco) (by rw [hR]; exact hkk) (by rw [hR]; show (st.map fun v => v.category).sum + 13 ≤ 40 * kk; omega) (by rw [hR]; exact hn) (by rw [hR]; show 6 * n ≤ 6 * mc; omega) hd (kx H ls locs hP hl hS)
end ZV
