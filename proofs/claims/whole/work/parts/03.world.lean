/-! The static picture of the objects that the law makes: kinds, how many of each, their fields; a world says what their ints, longs and turning references hold. -/
/-- ints, longs, turning references: by kind, number within the kind, slot -/
abbrev Wd : Type := (Nat → Nat → Nat → Int32) × (Nat → Nat → Nat → Int64) × (Nat → Nat → Nat → Nat)
/-- class numbers and slots; addresses; array classes; the heap's size at the law's entry; String constants: addresses of the texts and of their bytes -/
abbrev Gx : Type := va_G × (Nat → Nat → Nat) × (Nat → ClassId) × Nat × (Nat → Nat) × (Nat → Nat)
def setI (w : Wd) (κ j k : Nat) (v : Int32) : Wd := (fun a b c => if a = κ ∧ b = j ∧ c = k then v else w.1 a b c, w.2)
def setL (w : Wd) (κ j k : Nat) (v : Int64) : Wd := (w.1, fun a b c => if a = κ ∧ b = j ∧ c = k then v else w.2.1 a b c, w.2.2)
def setP (w : Wd) (κ j k : Nat) (v : Nat) : Wd := (w.1, w.2.1, fun a b c => if a = κ ∧ b = j ∧ c = k then v else w.2.2 a b c)
/-- a whole row of ints -/
def setR (w : Wd) (κ j : Nat) (f : Nat → Int32) : Wd := (fun a b => if a = κ ∧ b = j then f else w.1 a b, w.2)
/-- the class number of an object kind -/
def kc (κ : Nat) : Nat := [9, 8, 7, 4, 3, 6, 0, 5, 2, 1].getD κ 10
/-- its number of fields -/
def nf (κ : Nat) : Nat := [17, 7, 2, 8, 3, 8, 3, 12, 6, 2].getD κ 46
/-- array kinds: tag (0 int, 1 byte, 2 long, 3 Scene, 4 Life, 5 int rows), length -/
def kaL : List (Option (Nat × Nat)) := [none, none, none, none, none, none, none, none, none, none,
  some (1, 600), some (0, 150), some (0, 150), some (0, 150), some (0, 150), some (3, 16), some (4, 3), some (0, 7), some (0, 7), some (0, 7),
  some (0, 7), some (0, 20), some (0, 49), some (0, 896), some (0, 20), some (0, 7), some (0, 7), some (0, 7), some (0, 20), some (0, 20),
  some (0, 20), some (0, 12), some (0, 12), some (0, 8), some (0, 150), some (0, 150), some (0, 150), some (0, 150), none, none,
  none, some (0, 600), some (0, 2), some (0, 4), some (0, 4), some (5, 7), some (0, 3), some (5, 7), some (0, 3), some (5, 20),
  some (0, 2), some (5, 20), some (0, 2), some (5, 12), some (0, 2), some (5, 12), some (0, 2), some (5, 160), some (0, 2), some (5, 160),
  some (0, 2), some (5, 20), some (0, 2), some (5, 20), some (0, 2), some (0, 160), some (0, 8), some (5, 80), some (0, 4), some (0, 57),
  some (5, 16), some (5, 3), some (0, 970), some (0, 7), some (0, 7), some (2, 14), none, none, none, none, some (2, 1)]
def ka (κ : Nat) : Option (Nat × Nat) := kaL.getD κ none
/-- how many there are -/
def cntL : List Nat := [1, 1, 1, 1, 4, 69, 1, 2, 2, 2,
  1, 1, 1, 1, 1, 4, 1, 69, 69, 69,
  69, 69, 1, 1, 1, 2, 2, 2, 2, 2,
  2, 2, 2, 2, 2, 2, 2, 2, 0, 0,
  1, 1, 1, 1, 1, 1, 7, 1, 7, 1,
  20, 1, 20, 1, 12, 1, 12, 1, 160, 1,
  160, 1, 20, 1, 20, 1, 1, 1, 80, 18,
  1, 1, 3, 1, 1, 1, 0, 0, 0, 0, 0]
def cnt (κ : Nat) : Nat := cntL.getD κ 0
/-- what a row of references holds: the kind, and which of it -/
def er (κ : Nat) : Nat := if κ = 15 then 5 else if κ = 16 then 4 else if κ = 70 then 69 else κ + 1
def eix (κ j i : Nat) : Nat := if κ = 15 then 17 * j + 1 + i else if κ = 16 then 1 + i else if κ = 70 then 2 + i else i
/-- fields: 0 an int, 1 a fixed reference, 2 a turning one -/
def fkL : List (List Nat) := [[1, 1, 1, 1, 1, 1, 1, 1, 2, 2, 2, 2, 0, 0, 0, 0, 0], [0, 0, 0, 0, 0, 0, 1], [2, 2], [0, 0, 0, 0, 1, 1, 1, 1], [0, 1, 1], [0, 0, 0, 1, 1, 1, 1, 1], [0, 1, 1],
  [0, 0, 0, 0, 1, 1, 1, 1, 1, 1, 1, 1], [1, 1, 1, 1, 1, 0], [0, 0]]
def fkM : List Nat := [0, 0, 0, 0, 0, 0, 0, 0, 0, 1, 1, 1, 1, 1, 1, 1, 1, 1, 1, 0, 0, 1, 1, 1, 1, 1, 1, 1, 0, 1, 1, 1, 1, 0, 0, 0, 0, 0, 0, 0, 0, 1, 1, 0, 1, 0]
def fk (κ k : Nat) : Nat := (fkL.getD κ fkM).getD k 0
/-- the kind that a reference field points to -/
def frL : List (List Nat) := [[1, 2, 3, 4, 16, 5, 6, 24, 7, 8, 9, 9], [0, 0, 0, 0, 0, 0, 10], [7, 8], [0, 0, 0, 0, 11, 12, 13, 14], [0, 5, 15], [0, 0, 0, 17, 18, 19, 20, 21], [0, 22, 23],
  [0, 0, 0, 0, 25, 26, 27, 28, 29, 30, 31, 32], [33, 34, 35, 36, 37], []]
def frM : List Nat := [0, 0, 0, 0, 0, 0, 0, 0, 0, 41, 42, 43, 44, 45, 47, 49, 51, 53, 55, 0, 0, 57, 59, 61, 63, 65, 66, 67, 0, 69, 69, 70, 71, 0, 0, 0, 0, 0, 0, 0, 0, 73, 74, 0, 75]
def fr (κ k : Nat) : Nat := (frL.getD κ frM).getD k 0
/-- and which of it -/
def fix (κ j k : Nat) : Nat := if κ = 4 ∧ k = 1 then 17 * j else if κ = 0 ∧ k = 5 then 68 else if κ = 40 ∧ k = 30 then 1 else j
def fv (ad : Nat → Nat → Nat) (w : Wd) (κ j k : Nat) : Value :=
  if fk κ k = 0 then .int (w.1 κ j k) else if fk κ k = 1 then .ref (ad (fr κ k) (fix κ j k)) else .ref (ad (fr κ k) (w.2.2 κ j k))
def ent (ad : Nat → Nat → Nat) (cA : Nat → ClassId) (w : Wd) (κ j : Nat) : va_E := match ka κ with
  | none => .inr (kc κ, (List.range (nf κ)).map (fv ad w κ j))
  | some (t, n) => if t = 2 then .inl (cA 2, n, .inr (.inl (w.2.1 κ j))) else if t ≤ 1 then .inl (cA t, n, .inl (w.1 κ j))
    else .inl (cA t, n, .inr (.inr (.inr (.inr (fun i => some (ad (er κ) (eix κ j i)))))))
/-- every kind with its numbers -/
def prs : List (Nat × Nat) := (List.range 81).flatMap (fun κ => (List.range (cnt κ)).map (fun j => (κ, j)))
theorem prs_mem {κ j : Nat} : (κ, j) ∈ prs ↔ κ < 81 ∧ j < cnt κ := by
  simp [prs]
theorem prs_nd : prs.Nodup := by
  unfold prs List.Nodup
  rw [List.pairwise_flatMap]
  refine ⟨fun κ _ => ?_, ?_⟩
  · exact List.Pairwise.map _ (fun a b h q => h (Prod.mk.inj q).2) List.nodup_range
  · refine List.Pairwise.imp ?_ List.nodup_range
    intro a b hab x hx y hy he
    obtain ⟨i, -, rfl⟩ := List.mem_map.mp hx
    obtain ⟨k, -, rfl⟩ := List.mem_map.mp hy
    exact hab (Prod.mk.inj he).1
theorem cnt_lt {κ j : Nat} (h : j < cnt κ) : κ < 81 := by
  by_cases hk : κ < 81
  · exact hk
  · exfalso
    have hn : cntL[κ]? = none := List.getElem?_eq_none (by have : cntL.length = 81 := by decide
                                                           omega)
    unfold cnt List.getD at h
    rw [hn] at h
    exact absurd h (Nat.not_lt_zero _)
theorem prs_at {κ j : Nat} (h : j < cnt κ) : ∃ p : Nat, prs[p]? = some (κ, j) := List.getElem?_of_mem (prs_mem.mpr ⟨cnt_lt h, h⟩)
/-- the row of one long that the law makes last (kind 80), once it is there: the class number 7 of G says whether -/
def LT (G : Gx) (w : Wd) : va_W := if G.2.2.1 7 = 0 then [] else [(G.2.1 80 0, ent G.2.1 G.2.2.1 w 80 0)]
def LB (G : Gx) (w : Wd) : va_W := prs.map (fun q => (G.2.1 q.1 q.2, ent G.2.1 G.2.2.1 w q.1 q.2))
def LL (G : Gx) (w : Wd) : va_W := LB G w ++ LT G w
theorem LB_len {G : Gx} {w : Wd} : (LB G w).length = prs.length := by unfold LB; rw [List.length_map]
theorem LB_at {G : Gx} {w : Wd} {κ j p : Nat} (h : prs[p]? = some (κ, j)) : (LB G w)[p]? = some (G.2.1 κ j, ent G.2.1 G.2.2.1 w κ j) := by
  unfold LB
  rw [List.getElem?_map, h]
  rfl
theorem LL_at {G : Gx} {w : Wd} {κ j p : Nat} (h : prs[p]? = some (κ, j)) : (LL G w)[p]? = some (G.2.1 κ j, ent G.2.1 G.2.2.1 w κ j) := by
  unfold LL
  rw [List.getElem?_append_left (by rw [LB_len]; exact (List.getElem?_eq_some_iff.mp h).1)]
  exact LB_at h
theorem LB_set {G : Gx} {w w' : Wd} {κ j p : Nat} (h : prs[p]? = some (κ, j)) (ho : ∀ a b : Nat, (a, b) ≠ (κ, j) → ent G.2.1 G.2.2.1 w' a b = ent G.2.1 G.2.2.1 w a b) :
    (LB G w).set p (G.2.1 κ j, ent G.2.1 G.2.2.1 w' κ j) = LB G w' := by
  apply List.ext_getElem?
  intro i
  have hl : p < prs.length := (List.getElem?_eq_some_iff.mp h).1
  by_cases hi : i = p
  · subst hi
    rw [List.getElem?_set_self (by rw [LB_len]; exact hl), LB_at h]
  · rw [List.getElem?_set_ne (Ne.symm hi)]
    unfold LB
    rw [List.getElem?_map, List.getElem?_map]
    cases hq : prs[i]? with
    | none => rfl
    | some q =>
      obtain ⟨a, b⟩ := q
      have hne : (a, b) ≠ (κ, j) := by
        intro he
        exact hi ((List.getElem?_inj hl prs_nd).mp (by rw [h, hq, he])).symm
      simp only [Option.map_some]
      rw [ho a b hne]
theorem prs_80 {κ j p : Nat} (h : prs[p]? = some (κ, j)) : κ ≠ 80 := by
  intro e
  have := (prs_mem.mp (List.mem_of_getElem? h)).2
  rw [e] at this
  exact absurd this (Nat.not_lt_zero _)
theorem LL_set {G : Gx} {w w' : Wd} {κ j p : Nat} (h : prs[p]? = some (κ, j)) (ho : ∀ a b : Nat, (a, b) ≠ (κ, j) → ent G.2.1 G.2.2.1 w' a b = ent G.2.1 G.2.2.1 w a b) :
    (LL G w).set p (G.2.1 κ j, ent G.2.1 G.2.2.1 w' κ j) = LL G w' := by
  have ht : LT G w' = LT G w := by
    unfold LT
    rw [ho 80 0 (fun q => prs_80 h (Prod.mk.inj q).1.symm)]
  unfold LL
  rw [List.set_append_left _ _ (by rw [LB_len]; exact (List.getElem?_eq_some_iff.mp h).1), LB_set h ho, ht]
theorem ent_obj {ad : Nat → Nat → Nat} {cA : Nat → ClassId} {w : Wd} {κ j : Nat} (h : ka κ = none) : ent ad cA w κ j = .inr (kc κ, (List.range (nf κ)).map (fv ad w κ j)) := by
  unfold ent
  rw [h]
theorem ent_int {ad : Nat → Nat → Nat} {cA : Nat → ClassId} {w : Wd} {κ j t n : Nat} (h : ka κ = some (t, n)) (ht : t ≤ 1) : ent ad cA w κ j = .inl (cA t, n, .inl (w.1 κ j)) := by
  unfold ent
  rw [h]
  show (if t = 2 then _ else _) = _
  rw [if_neg (by omega), if_pos ht]
theorem ent_long {ad : Nat → Nat → Nat} {cA : Nat → ClassId} {w : Wd} {κ j n : Nat} (h : ka κ = some (2, n)) : ent ad cA w κ j = .inl (cA 2, n, .inr (.inl (w.2.1 κ j))) := by
  unfold ent
  rw [h]
  rfl
theorem ent_ref {ad : Nat → Nat → Nat} {cA : Nat → ClassId} {w : Wd} {κ j t n : Nat} (h : ka κ = some (t, n)) (ht : 3 ≤ t) : ent ad cA w κ j = .inl (cA t, n, .inr (.inr (.inr (.inr (fun i => some (ad (er κ) (eix κ j i))))))) := by
  unfold ent
  rw [h]
  show (if t = 2 then _ else _) = _
  rw [if_neg (by omega), if_neg (by omega)]
/-- an entry reads its own kind and number alone -/
theorem ent_eq {ad : Nat → Nat → Nat} {cA : Nat → ClassId} {w w' : Wd} {κ j : Nat} (h1 : w'.1 κ j = w.1 κ j) (h2 : w'.2.1 κ j = w.2.1 κ j) (h3 : w'.2.2 κ j = w.2.2 κ j) : ent ad cA w' κ j = ent ad cA w κ j := by
  unfold ent
  have hf : fv ad w' κ j = fv ad w κ j := by
    funext k
    unfold fv
    rw [h1, h3]
  rw [h1, h2, hf]
theorem setI_ent {ad : Nat → Nat → Nat} {cA : Nat → ClassId} {w : Wd} {κ j k a b : Nat} {v : Int32} (h : (a, b) ≠ (κ, j)) : ent ad cA (setI w κ j k v) a b = ent ad cA w a b := by
  refine ent_eq ?_ rfl rfl
  funext c
  exact if_neg (fun q => h (by rw [q.1, q.2.1]))
theorem setL_ent {ad : Nat → Nat → Nat} {cA : Nat → ClassId} {w : Wd} {κ j k a b : Nat} {v : Int64} (h : (a, b) ≠ (κ, j)) : ent ad cA (setL w κ j k v) a b = ent ad cA w a b := by
  refine ent_eq rfl ?_ rfl
  funext c
  exact if_neg (fun q => h (by rw [q.1, q.2.1]))
theorem setP_ent {ad : Nat → Nat → Nat} {cA : Nat → ClassId} {w : Wd} {κ j k a b : Nat} {v : Nat} (h : (a, b) ≠ (κ, j)) : ent ad cA (setP w κ j k v) a b = ent ad cA w a b := by
  refine ent_eq rfl rfl ?_
  funext c
  exact if_neg (fun q => h (by rw [q.1, q.2.1]))
theorem setR_ent {ad : Nat → Nat → Nat} {cA : Nat → ClassId} {w : Wd} {κ j a b : Nat} {f : Nat → Int32} (h : (a, b) ≠ (κ, j)) : ent ad cA (setR w κ j f) a b = ent ad cA w a b := by
  refine ent_eq ?_ rfl rfl
  exact if_neg (fun q => h (by rw [q.1, q.2]))
theorem setI_same (w : Wd) (κ j k : Nat) (v : Int32) : (setI w κ j k v).1 κ j = upd (w.1 κ j) k v := by
  funext c
  by_cases h : c = k
  · subst h; simp [setI, upd]
  · simp [setI, upd, h]
theorem setL_same (w : Wd) (κ j k : Nat) (v : Int64) : (setL w κ j k v).2.1 κ j = vp_updL (w.2.1 κ j) k v := by
  funext c
  by_cases h : c = k
  · subst h; simp [setL, vp_updL]
  · simp [setL, vp_updL, h]
theorem setR_same (w : Wd) (κ j : Nat) (f : Nat → Int32) : (setR w κ j f).1 κ j = f := if_pos ⟨rfl, rfl⟩
theorem range_set {α : Type} (f g : Nat → α) (n k : Nat) (hk : k < n) (h : ∀ i, i ≠ k → g i = f i) : ((List.range n).map f).set k (g k) = (List.range n).map g := by
  apply List.ext_getElem?
  intro i
  by_cases hi : i = k
  · subst hi
    rw [List.getElem?_set_self (by simpa using hk)]
    simp [List.getElem?_map, List.getElem?_range hk]
  · rw [List.getElem?_set_ne (Ne.symm hi)]
    by_cases hn : i < n
    · simp [List.getElem?_map, List.getElem?_range hn, h i hi]
    · simp [List.getElem?_map, List.getElem?_eq_none, hn]
theorem fv_at {ad : Nat → Nat → Nat} {w : Wd} {κ j k : Nat} (hk : k < nf κ) : ((List.range (nf κ)).map (fv ad w κ j))[k]? = some (fv ad w κ j k) := by
  simp [List.getElem?_map, List.getElem?_range hk]
theorem fv_i {ad : Nat → Nat → Nat} {w : Wd} {κ j k : Nat} (h : fk κ k = 0) : fv ad w κ j k = .int (w.1 κ j k) := if_pos h
theorem fv_r {ad : Nat → Nat → Nat} {w : Wd} {κ j k : Nat} (h : fk κ k = 1) : fv ad w κ j k = .ref (ad (fr κ k) (fix κ j k)) := by
  unfold fv
  rw [h]
  rfl
theorem fv_d {ad : Nat → Nat → Nat} {w : Wd} {κ j k : Nat} (h : fk κ k = 2) : fv ad w κ j k = .ref (ad (fr κ k) (w.2.2 κ j k)) := by
  unfold fv
  rw [h]
  rfl
