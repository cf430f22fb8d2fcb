/-! Forgetting locals; places of rows as numbers. -/
def lle : List (Option Value) → List (Option Value) → Prop
  | [], [] => True
  | none :: a, _ :: b => lle a b
  | some x :: a, some y :: b => x = y ∧ lle a b
  | _, _ => False
theorem lle_len : ∀ (a b : List (Option Value)), lle a b → a.length = b.length
  | [], [], _ => rfl
  | none :: a, _ :: b, h => by simp [lle_len a b h]
  | some _ :: a, some _ :: b, h => by simp [lle_len a b h.2]
  | [], _ :: _, h => h.elim
  | none :: _, [], h => h.elim
  | some _ :: _, [], h => h.elim
  | some _ :: _, none :: _, h => h.elim
theorem lle_at : ∀ (a b : List (Option Value)) (i : Nat) (v : Value), lle a b → lg a i = some v → lg b i = some v
  | [], [], _, _, _, h => h
  | none :: _, _ :: _, 0, _, _, h => by cases h
  | none :: a, _ :: b, i + 1, v, h, h2 => lle_at a b i v h h2
  | some _ :: _, some _ :: _, 0, _, h, h2 => by rw [← h.1]; exact h2
  | some _ :: a, some _ :: b, i + 1, v, h, h2 => lle_at a b i v h.2 h2
  | [], _ :: _, _, _, h, _ => h.elim
  | none :: _, [], _, _, h, _ => h.elim
  | some _ :: _, [], _, _, h, _ => h.elim
  | some _ :: _, none :: _, _, _, h, _ => h.elim
section ZW
variable {M : Mx} {G : Gx} {own : String} {cc : ByteArray} {nL : Nat} {rt : Option FieldType} {kk mc : Nat} {n : Nat} {K : Option Value → Wd → Prop} {X : String → Wd → Prop} {w : Wd} {pc : Nat} {l l' : List (Option Value)} {st : List Value}
theorem z_weak (h : Z M G n K X w pc l' st) (hle : lle l' l) : Z M G n K X w pc l st := fun H ls locs hP hl hS => h H ls locs hP ⟨hl.1.trans (lle_len l' l hle).symm, hl.2.1, fun i v hv => hl.2.2 i v (lle_at l' l i v hle hv)⟩ hS
theorem z_ialdK (F : Fx M G own cc nL rt kk mc) {κ j m : Nat} {i : Int32} (k : Nat) (hik : i.toNatClampNeg = k) (hq : ka κ = some (0, m)) (hj : j < cnt κ) (hin : vp_in i m) (hd : decode cc pc = .ok (.iaload, 1))
    (kx : Z M G n K X w (pc + 1) l (.int (w.1 κ j k) :: st)) : Z M G n K X w pc l (.int i :: .ref (G.2.1 κ j) :: st) := z_iald F hq hj hin hd (by rw [hik]; exact kx)
theorem z_baldK (F : Fx M G own cc nL rt kk mc) {κ j m : Nat} {i : Int32} (k : Nat) (hik : i.toNatClampNeg = k) (hq : ka κ = some (1, m)) (hj : j < cnt κ) (hin : vp_in i m) (hd : decode cc pc = .ok (.baload, 1))
    (kx : Z M G n K X w (pc + 1) l (.int (w.1 κ j k) :: st)) : Z M G n K X w pc l (.int i :: .ref (G.2.1 κ j) :: st) := z_bald F hq hj hin hd (by rw [hik]; exact kx)
theorem z_laldK (F : Fx M G own cc nL rt kk mc) {κ j m : Nat} {i : Int32} (k : Nat) (hik : i.toNatClampNeg = k) (hq : ka κ = some (2, m)) (hj : j < cnt κ) (hin : vp_in i m) (hd : decode cc pc = .ok (.laload, 1))
    (kx : Z M G n K X w (pc + 1) l (.long (w.2.1 κ j k) :: st)) : Z M G n K X w pc l (.int i :: .ref (G.2.1 κ j) :: st) := z_lald F hq hj hin hd (by rw [hik]; exact kx)
theorem z_iastK (F : Fx M G own cc nL rt kk mc) {κ j m : Nat} {i x : Int32} (k : Nat) (hik : i.toNatClampNeg = k) (hq : ka κ = some (0, m)) (hj : j < cnt κ) (hin : vp_in i m) (hd : decode cc pc = .ok (.iastore, 1))
    (kx : Z M G n K X (setI w κ j k x) (pc + 1) l st) : Z M G n K X w pc l (.int x :: .int i :: .ref (G.2.1 κ j) :: st) := z_iast F hq hj hin hd (by rw [hik]; exact kx)
theorem z_bastK (F : Fx M G own cc nL rt kk mc) {κ j m : Nat} {i x : Int32} (k : Nat) (hik : i.toNatClampNeg = k) (hq : ka κ = some (1, m)) (hj : j < cnt κ) (hin : vp_in i m) (hd : decode cc pc = .ok (.bastore, 1))
    (kx : Z M G n K X (setI w κ j k (vp_nar .byte x)) (pc + 1) l st) : Z M G n K X w pc l (.int x :: .int i :: .ref (G.2.1 κ j) :: st) := z_bast F hq hj hin hd (by rw [hik]; exact kx)
theorem z_lastK (F : Fx M G own cc nL rt kk mc) {κ j m : Nat} {i : Int32} {x : Int64} (k : Nat) (hik : i.toNatClampNeg = k) (hq : ka κ = some (2, m)) (hj : j < cnt κ) (hin : vp_in i m) (hd : decode cc pc = .ok (.lastore, 1))
    (kx : Z M G n K X (setL w κ j k x) (pc + 1) l st) : Z M G n K X w pc l (.long x :: .int i :: .ref (G.2.1 κ j) :: st) := z_last F hq hj hin hd (by rw [hik]; exact kx)
theorem z_copyK (F : Fx M G own cc nL rt kk mc) {κ j κ' j' m m' i : Nat} {sp dp c : Int32} (sN dN cN : Nat) (e1 : sp.toNatClampNeg = sN) (e2 : dp.toNatClampNeg = dN) (e3 : c.toNatClampNeg = cN) (hq : ka κ = some (0, m)) (hj : j < cnt κ) (hq' : ka κ' = some (0, m')) (hj' : j' < cnt κ') (hlk : Cond.methodLink own i arraycopyName ∈ GW) (hnat : Cond.native arraycopyName ∈ GW) (hsta : Cond.static arraycopyName ∈ GW) (hini : Cond.initialized "java/lang/System" ∈ GW)
    (h1 : ¬ sp < 0) (h2 : ¬ dp < 0) (h3 : ¬ c < 0) (h4 : sN + cN ≤ m) (h5 : dN + cN ≤ m') (hkk : 3 ≤ kk) (hsz : l.length = nL) (hst : (st.map fun v => v.category).sum ≤ 8) (hd : decode cc pc = .ok (.invokestatic i, 3))
    (kx : Z M G n K X (setR w κ' j' (va_cpy (w.1 κ j) (w.1 κ' j') sN dN cN)) (pc + 3) l st) : Z M G n K X w pc l (.int c :: .int dp :: .ref (G.2.1 κ' j') :: .int sp :: .ref (G.2.1 κ j) :: st) := by
  subst e1; subst e2; subst e3
  exact z_copy F hq hj hq' hj' hlk hnat hsta hini h1 h2 h3 h4 h5 hkk hsz hst hd kx
end ZW
