/-! Fields and rows of the heap. -/
def vC (κ : Nat) : vw_C := vwCl.getD (kc κ) (RX10, TX10, 46)
theorem kc_hi {κ : Nat} (h : 10 ≤ κ) : kc κ = 10 := by
  unfold kc List.getD
  rw [List.getElem?_eq_none (by simpa using h)]
  rfl
theorem nf_hi {κ : Nat} (h : 10 ≤ κ) : nf κ = 46 := by
  unfold nf List.getD
  rw [List.getElem?_eq_none (by simpa using h)]
  rfl
theorem fk_hi {κ : Nat} (h : 10 ≤ κ) (k : Nat) : fk κ k = fk 10 k := by
  unfold fk
  rw [show fkL.getD κ fkM = fkM by
    unfold List.getD
    rw [List.getElem?_eq_none (by simpa [fkL] using h)]
    rfl]
  rfl
theorem vC_hi {κ : Nat} (h : 10 ≤ κ) : vC κ = (RX10, TX10, 46) := by
  unfold vC
  rw [kc_hi h]
  rfl
theorem vC_at (κ : Nat) : vwCl[kc κ]? = some (vC κ) := by
  by_cases h : κ < 10
  · have : ∀ κ, κ < 10 → kc κ < vwCl.length := by decide
    unfold vC List.getD
    rw [List.getElem?_eq_getElem (this κ h)]
    rfl
  · rw [vC_hi (by omega), kc_hi (by omega)]
    rfl
theorem vC_n (κ : Nat) : (vC κ).2.2 = nf κ := by
  by_cases h : κ < 10
  · exact (by decide : ∀ κ, κ < 10 → (vC κ).2.2 = nf κ) κ h
  · rw [vC_hi (by omega), nf_hi (by omega)]
theorem vC_in : ∀ κ, ∀ w ∈ u_ws (vC κ).1 (vC κ).2.1 (nf κ), w ∈ GW := by
  have h : ∀ (C : String) (T : u_T) (N : Nat), (∀ k, k < N → decide (u_lay C T k ∈ tables_1) && goodWord (u_lay C T k) = true) → ∀ w ∈ u_ws C T N, w ∈ GW := by
    intro C T N h w hw
    obtain ⟨k, hk, rfl⟩ := List.mem_map.mp hw
    have := h k (List.mem_range.mp hk)
    simp only [Bool.and_eq_true, decide_eq_true_eq] at this
    exact GW_of (List.mem_append_right _ this.1) this.2
  intro κ
  by_cases hk : κ < 10
  · refine h _ _ _ ?_
    revert κ
    decide +kernel
  · rw [vC_hi (by omega), nf_hi (by omega)]
    refine h _ _ _ ?_
    decide +kernel
theorem vC_nm (κ : Nat) : ∀ a, a < nf κ → ∀ b, b < nf κ → a ≠ b → ((vC κ).2.1 a).2.1 ≠ ((vC κ).2.1 b).2.1 := by
  by_cases h : κ < 10
  · revert κ
    decide +kernel
  · rw [vC_hi (by omega), nf_hi (by omega)]
    exact nmX10
def vCty (κ : Nat) : Nat → FieldType := [tyX9, tyX8, tyX7, tyX4, tyX3, tyX6, tyX0, tyX5, tyX2, tyX1].getD κ tyX10
theorem vC_ty (κ : Nat) : ∀ k, k < nf κ → parseFieldDescriptor ((vC κ).2.1 k).2.2.1 = some (vCty κ k) := by
  by_cases h : κ < 10
  · revert κ
    decide +kernel
  · rw [vC_hi (by omega), nf_hi (by omega), show vCty κ = tyX10 by
      unfold vCty List.getD
      rw [List.getElem?_eq_none (by simpa using h)]
      rfl]
    exact tyX10_ok
theorem fk0_ok (κ k : Nat) (hk : k < nf κ) (h0 : fk κ k = 0) : parseFieldDescriptor ((vC κ).2.1 k).2.2.1 = some .int ∧ ((vC κ).2.1 k).2.2.2 = false := by
  by_cases h : κ < 10
  · exact (by decide +kernel : ∀ κ, κ < 10 → ∀ k, k < nf κ → fk κ k = 0 → parseFieldDescriptor ((vC κ).2.1 k).2.2.1 = some .int ∧ ((vC κ).2.1 k).2.2.2 = false) κ h k hk h0
  · rw [vC_hi (by omega)]
    rw [nf_hi (by omega)] at hk
    rw [fk_hi (by omega)] at h0
    exact (by decide +kernel : ∀ k, k < 46 → fk 10 k = 0 → parseFieldDescriptor (TX10 k).2.2.1 = some .int ∧ (TX10 k).2.2.2 = false) k hk h0
/-- a fixed reference points to one that is there -/
theorem fix_lt (κ j k : Nat) (hj : j < cnt κ) (hk : k < nf κ) (hq : ka κ = none) (h1 : fk κ k = 1) : fix κ j k < cnt (fr κ k) := by
  have hkl := cnt_lt hj
  have key : ∀ κ, κ < 81 → ∀ j, j < cnt κ → ka κ = none → ∀ k, k < nf κ → fk κ k = 1 → fix κ j k < cnt (fr κ k) := by decide +kernel
  exact key κ hkl j hj hq k hk h1
theorem er_lt (κ j i t m : Nat) (hj : j < cnt κ) (hq : ka κ = some (t, m)) (ht : 3 ≤ t) (hi : i < m) : eix κ j i < cnt (er κ) := by
  have hkl := cnt_lt hj
  have key : ∀ κ, κ < 81 → ∀ j, j < cnt κ → 3 ≤ ((ka κ).getD (0, 0)).1 → ∀ i, i < ((ka κ).getD (0, 0)).2 → eix κ j i < cnt (er κ) := by decide +kernel
  have := key κ hkl j hj (by rw [hq]; exact ht) i (by rw [hq]; exact hi)
  exact this
section ZH
variable {M : Mx} {G : Gx} {own : String} {cc : ByteArray} {nL : Nat} {rt : Option FieldType} {kk mc : Nat} {n : Nat} {K : Option Value → Wd → Prop} {X : String → Wd → Prop} {w : Wd} {pc : Nat} {l : List (Option Value)} {st : List Value}
theorem z_getf (F : Fx M G own cc nL rt kk mc) {κ j k i : Nat} (hq : ka κ = none) (hj : j < cnt κ) (hk : k < nf κ) (hlink : Cond.fieldLink own i ((vC κ).2.1 k).1 ((vC κ).2.1 k).2.1 ((vC κ).2.1 k).2.2.1 ∈ GW) (hd : decode cc pc = .ok (.getfield i, 3))
    (kx : Z M G n K X w (pc + 3) l (fv G.2.1 w κ j k :: st)) : Z M G n K X w pc l (.ref (G.2.1 κ j) :: st) := by
  intro H ls locs hP hl hS
  obtain ⟨p, hp⟩ := prs_at hj
  have he := LL_at (G := G) (w := w) hp
  rw [ent_obj hq] at he
  exact va_get (D := G.1) (C := (vC κ).1) (T := (vC κ).2.1) (N := nf κ) F.1 F.2.1 F.2.2.2.2.1 (vC_in κ) F.2.2.2.1 F.2.2.2.2.2.1.1 hP.1 p he (by rw [vC_at κ, ← vC_n κ]) k hk (F.2.2.2.2.1 _ hlink) (fun _ h => h) (fv_at hk) hd (kx H ls locs hP hl hS)
theorem z_getI (F : Fx M G own cc nL rt kk mc) {κ j i : Nat} (k : Nat) (hq : ka κ = none) (hj : j < cnt κ) (hk : k < nf κ) (hf : fk κ k = 0) (hlink : Cond.fieldLink own i ((vC κ).2.1 k).1 ((vC κ).2.1 k).2.1 ((vC κ).2.1 k).2.2.1 ∈ GW) (hd : decode cc pc = .ok (.getfield i, 3))
    (kx : Z M G n K X w (pc + 3) l (.int (w.1 κ j k) :: st)) : Z M G n K X w pc l (.ref (G.2.1 κ j) :: st) := z_getf F hq hj hk hlink hd (by rw [fv_i hf]; exact kx)
theorem z_getR (F : Fx M G own cc nL rt kk mc) {κ j i : Nat} (k κ' j' : Nat) (hq : ka κ = none) (hj : j < cnt κ) (hk : k < nf κ) (hf : fk κ k = 1) (h1 : fr κ k = κ') (h2 : fix κ j k = j') (hlink : Cond.fieldLink own i ((vC κ).2.1 k).1 ((vC κ).2.1 k).2.1 ((vC κ).2.1 k).2.2.1 ∈ GW) (hd : decode cc pc = .ok (.getfield i, 3))
    (kx : Z M G n K X w (pc + 3) l (.ref (G.2.1 κ' j') :: st)) : Z M G n K X w pc l (.ref (G.2.1 κ j) :: st) := z_getf F hq hj hk hlink hd (by rw [fv_r hf, h1, h2]; exact kx)
theorem z_getD (F : Fx M G own cc nL rt kk mc) {κ j i : Nat} (k κ' : Nat) (hq : ka κ = none) (hj : j < cnt κ) (hk : k < nf κ) (hf : fk κ k = 2) (h1 : fr κ k = κ') (hlink : Cond.fieldLink own i ((vC κ).2.1 k).1 ((vC κ).2.1 k).2.1 ((vC κ).2.1 k).2.2.1 ∈ GW) (hd : decode cc pc = .ok (.getfield i, 3))
    (kx : w.2.2 κ j k < 2 → Z M G n K X w (pc + 3) l (.ref (G.2.1 κ' (w.2.2 κ j k)) :: st)) : Z M G n K X w pc l (.ref (G.2.1 κ j) :: st) := z_getf F hq hj hk hlink hd (by
  rw [fv_d hf, h1]
  exact fun H ls locs hP hl hS => kx (hP.2.2 κ j k hf hj) H ls locs hP hl hS)
theorem z_putI (F : Fx M G own cc nL rt kk mc) {κ j i : Nat} {v : Int32} (k : Nat) (hq : ka κ = none) (hj : j < cnt κ) (hk : k < nf κ) (hf : fk κ k = 0) (hlink : Cond.fieldLink own i ((vC κ).2.1 k).1 ((vC κ).2.1 k).2.1 ((vC κ).2.1 k).2.2.1 ∈ GW) (hd : decode cc pc = .ok (.putfield i, 3))
    (kx : Z M G n K X (setI w κ j k v) (pc + 3) l st) : Z M G n K X w pc l (.int v :: .ref (G.2.1 κ j) :: st) := by
  intro H ls locs hP hl hS
  obtain ⟨p, hp⟩ := prs_at hj
  have he := LL_at (G := G) (w := w) hp
  rw [ent_obj hq] at he
  obtain ⟨f1, f2⟩ := fk0_ok κ k hk hf
  have e2 : ((List.range (nf κ)).map (fv G.2.1 w κ j)).set k (.int v) = (List.range (nf κ)).map (fv G.2.1 (setI w κ j k v) κ j) := by
    have e3 : fv G.2.1 (setI w κ j k v) κ j k = .int v := by rw [fv_i hf]; simp [setI]
    rw [← e3]
    refine range_set _ _ _ _ hk (fun q hne => ?_)
    unfold fv
    simp [setI, hne]
  refine va_put (D := G.1) (C := (vC κ).1) (T := (vC κ).2.1) (N := nf κ) F.1 F.2.1 F.2.2.2.2.1 (vC_in κ) (vCty κ) (vC_ty κ) (vC_nm κ) F.2.2.2.1 F.2.2.2.2.2.1.1 hP.1 hP.2.1 hS p he (by rw [vC_at κ, ← vC_n κ]) k hk (F.2.2.2.2.1 _ hlink) (fun _ h => h) f2 (ty := .int) f1 rfl rfl (by simpa using hk) hd (fun H1 locs1 hP1 hD1 hS1 => ?_)
  rw [e2, ← ent_obj (cA := G.2.2.1) hq, LL_set hp (fun a b h => setI_ent h)] at hP1 hD1
  exact kx H1 ls locs1 ⟨hP1, hD1, hP.2.2⟩ hl hS1
theorem z_putD (F : Fx M G own cc nL rt kk mc) {κ j i v : Nat} (k κ' : Nat) (C : String) (hq : ka κ = none) (hj : j < cnt κ) (hk : k < nf κ) (hf : fk κ k = 2) (h1 : fr κ k = κ') (hv : v < 2) (hty : parseFieldDescriptor ((vC κ).2.1 k).2.2.1 = some (.object C)) (hfin : ((vC κ).2.1 k).2.2.2 = false) (hlink : Cond.fieldLink own i ((vC κ).2.1 k).1 ((vC κ).2.1 k).2.1 ((vC κ).2.1 k).2.2.1 ∈ GW) (hd : decode cc pc = .ok (.putfield i, 3))
    (kx : Z M G n K X (setP w κ j k v) (pc + 3) l st) : Z M G n K X w pc l (.ref (G.2.1 κ' v) :: .ref (G.2.1 κ j) :: st) := by
  intro H ls locs hP hl hS
  obtain ⟨p, hp⟩ := prs_at hj
  have he := LL_at (G := G) (w := w) hp
  rw [ent_obj hq] at he
  have e2 : ((List.range (nf κ)).map (fv G.2.1 w κ j)).set k (.ref (G.2.1 κ' v)) = (List.range (nf κ)).map (fv G.2.1 (setP w κ j k v) κ j) := by
    have e3 : fv G.2.1 (setP w κ j k v) κ j k = .ref (G.2.1 κ' v) := by rw [fv_d hf, h1]; simp [setP]
    rw [← e3]
    refine range_set _ _ _ _ hk (fun q hne => ?_)
    unfold fv
    simp [setP, hne]
  refine va_put (D := G.1) (C := (vC κ).1) (T := (vC κ).2.1) (N := nf κ) F.1 F.2.1 F.2.2.2.2.1 (vC_in κ) (vCty κ) (vC_ty κ) (vC_nm κ) F.2.2.2.1 F.2.2.2.2.2.1.1 hP.1 hP.2.1 hS p he (by rw [vC_at κ, ← vC_n κ]) k hk (F.2.2.2.2.1 _ hlink) (fun _ h => h) hfin (ty := .object C) hty rfl rfl (by simpa using hk) hd (fun H1 locs1 hP1 hD1 hS1 => ?_)
  rw [e2, ← ent_obj (cA := G.2.2.1) hq, LL_set hp (fun a b h => setP_ent h)] at hP1 hD1
  refine kx H1 ls locs1 ⟨hP1, hD1, fun a b c ha hb => ?_⟩ hl hS1
  show (if a = κ ∧ b = j ∧ c = k then v else w.2.2 a b c) < 2
  split
  · exact hv
  · exact hP.2.2 a b c ha hb
theorem z_iald (F : Fx M G own cc nL rt kk mc) {κ j m : Nat} {i : Int32} (hq : ka κ = some (0, m)) (hj : j < cnt κ) (hin : vp_in i m) (hd : decode cc pc = .ok (.iaload, 1))
    (kx : Z M G n K X w (pc + 1) l (.int (w.1 κ j i.toNatClampNeg) :: st)) : Z M G n K X w pc l (.int i :: .ref (G.2.1 κ j) :: st) := by
  intro H ls locs hP hl hS
  obtain ⟨p, hp⟩ := prs_at hj
  have he := LL_at (G := G) (w := w) hp
  rw [ent_int hq (by decide)] at he
  exact va_iald (tys := tysG G) F.1 F.2.1 F.2.2.2.2.2.1.1 hP.1 p 0 he rfl hin hd (kx H ls locs hP hl hS)
theorem z_bald (F : Fx M G own cc nL rt kk mc) {κ j m : Nat} {i : Int32} (hq : ka κ = some (1, m)) (hj : j < cnt κ) (hin : vp_in i m) (hd : decode cc pc = .ok (.baload, 1))
    (kx : Z M G n K X w (pc + 1) l (.int (w.1 κ j i.toNatClampNeg) :: st)) : Z M G n K X w pc l (.int i :: .ref (G.2.1 κ j) :: st) := by
  intro H ls locs hP hl hS
  obtain ⟨p, hp⟩ := prs_at hj
  have he := LL_at (G := G) (w := w) hp
  rw [ent_int hq (by decide)] at he
  exact va_bald (tys := tysG G) F.1 F.2.1 F.2.2.2.2.2.1.1 hP.1 p 1 he rfl hin hd (kx H ls locs hP hl hS)
theorem z_lald (F : Fx M G own cc nL rt kk mc) {κ j m : Nat} {i : Int32} (hq : ka κ = some (2, m)) (hj : j < cnt κ) (hin : vp_in i m) (hd : decode cc pc = .ok (.laload, 1))
    (kx : Z M G n K X w (pc + 1) l (.long (w.2.1 κ j i.toNatClampNeg) :: st)) : Z M G n K X w pc l (.int i :: .ref (G.2.1 κ j) :: st) := by
  intro H ls locs hP hl hS
  obtain ⟨p, hp⟩ := prs_at hj
  have he := LL_at (G := G) (w := w) hp
  rw [ent_long hq] at he
  exact va_lald (tys := tysG G) F.1 F.2.1 F.2.2.2.2.2.1.1 hP.1 p 2 he rfl hin hd (kx H ls locs hP hl hS)
theorem z_aald (F : Fx M G own cc nL rt kk mc) {κ j t m : Nat} {i : Int32} (κ' j' : Nat) (hq : ka κ = some (t, m)) (ht : 3 ≤ t) (h5 : t ≤ 5) (hj : j < cnt κ) (h1 : er κ = κ') (h2 : eix κ j i.toNatClampNeg = j') (hin : vp_in i m) (hd : decode cc pc = .ok (.aaload, 1))
    (kx : j' < cnt κ' → Z M G n K X w (pc + 1) l (.ref (G.2.1 κ' j') :: st)) : Z M G n K X w pc l (.int i :: .ref (G.2.1 κ j) :: st) := by
  intro H ls locs hP hl hS
  obtain ⟨p, hp⟩ := prs_at hj
  have he := LL_at (G := G) (w := w) hp
  rw [ent_ref hq ht] at he
  have hlt : i.toNatClampNeg < m := Nat.not_le.mp fun q => hin (Or.inr q)
  have hv : j' < cnt κ' := by
    have := er_lt κ j i.toNatClampNeg t m hj hq ht hlt
    rw [h1, h2] at this
    exact this
  have hty : ∃ ty : FieldType, (tysG G)[t]? = some (G.2.2.1 t, ty) ∧ ty.isReference = true := by
    rcases (show t = 3 ∨ t = 4 ∨ t = 5 by omega) with rfl | rfl | rfl
    · exact ⟨_, rfl, rfl⟩
    · exact ⟨_, rfl, rfl⟩
    · exact ⟨_, rfl, rfl⟩
  obtain ⟨ty, hty, href⟩ := hty
  have hK := F.2.2.2.2.2.1.1
  have kx := kx hv
  rw [← h1, ← h2] at kx
  exact W.aald (v := .ref (G.2.1 (er κ) (eix κ j i.toNatClampNeg))) (ty := ty) F.1 F.2.1 (hP.1 p _ he) ((hK.2 t _ hty).1 m (fun q => va_rf (some (G.2.1 (er κ) (eix κ j q))))) href (fun q => by cases q) (by show ¬ (i < 0 ∨ (arrV _ _ _).slots.size ≤ _); rw [arrV_size]; exact hin) (by show (arrV _ _ _).slots[_]? = _; rw [arrV_read _ _ hlt]; rfl) rfl rfl hd (kx H ls locs hP hl hS)
theorem z_alen (F : Fx M G own cc nL rt kk mc) {κ j t m : Nat} (v : Int32) (hq : ka κ = some (t, m)) (h5 : t ≤ 5) (hj : j < cnt κ) (hv : Int32.ofNat m = v) (hd : decode cc pc = .ok (.arraylength, 1))
    (kx : Z M G n K X w (pc + 1) l (.int v :: st)) : Z M G n K X w pc l (.ref (G.2.1 κ j) :: st) := by
  intro H ls locs hP hl hS
  obtain ⟨p, hp⟩ := prs_at hj
  have he := LL_at (G := G) (w := w) hp
  have hty : ∃ ty : FieldType, (tysG G)[t]? = some (G.2.2.1 t, ty) := by
    rcases (show t = 0 ∨ t = 1 ∨ t = 2 ∨ t = 3 ∨ t = 4 ∨ t = 5 by omega) with rfl | rfl | rfl | rfl | rfl | rfl <;> exact ⟨_, rfl⟩
  obtain ⟨ty, hty⟩ := hty
  have he2 : ∃ z : vp_A, ent G.2.1 G.2.2.1 w κ j = .inl (G.2.2.1 t, z) ∧ z.1 = m := by
    by_cases h1 : t ≤ 1
    · exact ⟨_, ent_int hq h1, rfl⟩
    · by_cases h2 : t = 2
      · subst h2
        exact ⟨_, ent_long hq, rfl⟩
      · exact ⟨_, ent_ref hq (by omega), rfl⟩
  obtain ⟨z, hz, hm⟩ := he2
  rw [hz] at he
  exact va_alen (tys := tysG G) F.1 F.2.1 F.2.2.2.2.2.1.1 hP.1 p t he hty (by rw [hm]; exact hv) hd (kx H ls locs hP hl hS)
theorem z_iast (F : Fx M G own cc nL rt kk mc) {κ j m : Nat} {i x : Int32} (hq : ka κ = some (0, m)) (hj : j < cnt κ) (hin : vp_in i m) (hd : decode cc pc = .ok (.iastore, 1))
    (kx : Z M G n K X (setI w κ j i.toNatClampNeg x) (pc + 1) l st) : Z M G n K X w pc l (.int x :: .int i :: .ref (G.2.1 κ j) :: st) := by
  intro H ls locs hP hl hS
  obtain ⟨p, hp⟩ := prs_at hj
  have he := LL_at (G := G) (w := w) hp
  rw [ent_int hq (by decide)] at he
  refine va_iast (tys := tysG G) F.1 F.2.1 F.2.2.2.2.2.1.1 hP.1 hP.2.1 hS p 0 he rfl hin hd (fun H1 locs1 hP1 hD1 hS1 => ?_)
  rw [← setI_same, ← ent_int (ad := G.2.1) (cA := G.2.2.1) hq (by decide), LL_set hp (fun a b h => setI_ent h)] at hP1 hD1
  exact kx H1 ls locs1 ⟨hP1, hD1, hP.2.2⟩ hl hS1
theorem z_bast (F : Fx M G own cc nL rt kk mc) {κ j m : Nat} {i x : Int32} (hq : ka κ = some (1, m)) (hj : j < cnt κ) (hin : vp_in i m) (hd : decode cc pc = .ok (.bastore, 1))
    (kx : Z M G n K X (setI w κ j i.toNatClampNeg (vp_nar .byte x)) (pc + 1) l st) : Z M G n K X w pc l (.int x :: .int i :: .ref (G.2.1 κ j) :: st) := by
  intro H ls locs hP hl hS
  obtain ⟨p, hp⟩ := prs_at hj
  have he := LL_at (G := G) (w := w) hp
  rw [ent_int hq (by decide)] at he
  refine va_bast (tys := tysG G) F.1 F.2.1 F.2.2.2.2.2.1.1 hP.1 hP.2.1 hS p 1 he rfl hin hd (fun H1 locs1 hP1 hD1 hS1 => ?_)
  rw [← setI_same, ← ent_int (ad := G.2.1) (cA := G.2.2.1) hq (by decide), LL_set hp (fun a b h => setI_ent h)] at hP1 hD1
  exact kx H1 ls locs1 ⟨hP1, hD1, hP.2.2⟩ hl hS1
theorem z_last (F : Fx M G own cc nL rt kk mc) {κ j m : Nat} {i : Int32} {x : Int64} (hq : ka κ = some (2, m)) (hj : j < cnt κ) (hin : vp_in i m) (hd : decode cc pc = .ok (.lastore, 1))
    (kx : Z M G n K X (setL w κ j i.toNatClampNeg x) (pc + 1) l st) : Z M G n K X w pc l (.long x :: .int i :: .ref (G.2.1 κ j) :: st) := by
  intro H ls locs hP hl hS
  obtain ⟨p, hp⟩ := prs_at hj
  have he := LL_at (G := G) (w := w) hp
  rw [ent_long hq] at he
  refine va_last (tys := tysG G) F.1 F.2.1 F.2.2.2.2.2.1.1 hP.1 hP.2.1 hS p 2 he rfl hin hd (fun H1 locs1 hP1 hD1 hS1 => ?_)
  rw [← setL_same, ← ent_long (ad := G.2.1) (cA := G.2.2.1) hq, LL_set hp (fun a b h => setL_ent h)] at hP1 hD1
  exact kx H1 ls locs1 ⟨hP1, hD1, hP.2.2⟩ hl hS1
end ZH
