/-! The constructor of VowelChoirModel (written by program). -/
def mKM (c13 c20 c27 c34 g43 g54 g65 g76 g87 g98 g110 g122 g133 g144 c155 c163 g172 c182 c190 g200 g212 c222 c230 c238 q : Nat) (κ j : Nat) : Nat := ([fun _ => q, fun _ => c13, fun _ => c20, fun _ => c27, fun _ => c34, fun _ => g43, fun j => g43 + 1 + j, fun _ => g54, fun j => g54 + 1 + j, fun _ => g65, fun j => g65 + 1 + j, fun _ => g76, fun j => g76 + 1 + j, fun _ => g87, fun j => g87 + 1 + j, fun _ => g98, fun j => g98 + 1 + j, fun _ => g110, fun j => g110 + 1 + j, fun _ => g122, fun j => g122 + 1 + j, fun _ => g133, fun j => g133 + 1 + j, fun _ => g144, fun j => g144 + 1 + j, fun _ => c155, fun _ => c163, fun _ => g172, fun j => g172 + 1 + j, fun j => if j = 0 then c182 else if j = 1 then c190 else g200 + 1 + (j - 2), fun _ => g200, fun _ => g212, fun j => g212 + 1 + j, fun _ => c222, fun _ => c230, fun _ => c238].getD (κ - 40) (fun _ => 0)) j
def adM (ad0 : Nat → Nat → Nat) (c13 c20 c27 c34 g43 g54 g65 g76 g87 g98 g110 g122 g133 g144 c155 c163 g172 c182 c190 g200 g212 c222 c230 c238 q : Nat) (κ j : Nat) : Nat := if κ < 40 then ad0 κ j else mKM c13 c20 c27 c34 g43 g54 g65 g76 g87 g98 g110 g122 g133 g144 c155 c163 g172 c182 c190 g200 g212 c222 c230 c238 q κ j
def gkeys (κ N : Nat) : List (Nat × Nat) := (κ, 0) :: (List.range N).map (fun i => (κ + 1, i))
def gk70 : List (Nat × Nat) := (70, 0) :: (List.range 16).map (fun i => (69, 2 + i))
def ksM : List (Nat × Nat) := (40, 0) :: (((((((((((((((((((((((([] ++ [(41, 0)]) ++ [(42, 0)]) ++ [(43, 0)]) ++ [(44, 0)]) ++ gkeys 45 7) ++ gkeys 47 7) ++ gkeys 49 20) ++ gkeys 51 20) ++ gkeys 53 12) ++ gkeys 55 12) ++ gkeys 57 160) ++ gkeys 59 160) ++ gkeys 61 20) ++ gkeys 63 20) ++ [(65, 0)]) ++ [(66, 0)]) ++ gkeys 67 80) ++ [(69, 0)]) ++ [(69, 1)]) ++ gk70) ++ gkeys 71 3) ++ [(73, 0)]) ++ [(74, 0)]) ++ [(75, 0)])
theorem gk_map {c : Nat × Nat → Nat × va_E} {κ N : Nat} : (gkeys κ N).map c = c (κ, 0) :: (List.range N).map (fun i => c (κ + 1, i)) := by
  unfold gkeys
  rw [List.map_cons, List.map_map]
  rfl
theorem k_model {G : Gx} {ad0 : Nat → Nat → Nat} {c13 c20 c27 c34 g43 g54 g65 g76 g87 g98 g110 g122 g133 g144 c155 c163 g172 c182 c190 g200 g212 c222 c230 c238 q : Nat} : (q, .inr (kc 40, [.int 0, .int 0, .int 0, .int (-1), .int 0, .int 0, .int 0, .int 0, .int 0, .ref c13, .ref c20, .ref c27, .ref c34, .ref g43, .ref g54, .ref g65, .ref g76, .ref g87, .ref g98, .int 0, .int 0, .ref g110, .ref g122, .ref g133, .ref g144, .ref c155, .ref c163, .ref g172, .int 0, .ref c182, .ref c190, .ref g200, .ref g212, .int 0, .int 0, .int 0, .int 0, .int 0, .int 0, .int 0, .int 0, .ref c222, .ref c230, .int 0, .ref c238, .int 0])) :: (((((((((((((((((((((((([] ++ [(c13, iA G 600)]) ++ [(c20, iA G 2)]) ++ [(c27, iA G 4)]) ++ [(c34, iA G 4)]) ++ grd G g43 7 3) ++ grd G g54 7 3) ++ grd G g65 20 2) ++ grd G g76 20 2) ++ grd G g87 12 2) ++ grd G g98 12 2) ++ grd G g110 160 2) ++ grd G g122 160 2) ++ grd G g133 20 2) ++ grd G g144 20 2) ++ [(c155, iA G 160)]) ++ [(c163, iA G 8)]) ++ grd G g172 80 4) ++ [(c182, iA G 57)]) ++ [(c190, iA G 57)]) ++ grd G g200 16 57) ++ grd G g212 3 970) ++ [(c222, iA G 7)]) ++ [(c230, iA G 7)]) ++ [(c238, lA G 14)]) = ksM.map (cellK G (adM ad0 c13 c20 c27 c34 g43 g54 g65 g76 g87 g98 g110 g122 g133 g144 c155 c163 g172 c182 c190 g200 g212 c222 c230 c238 q) w0) := by
  have eo : cellK G (adM ad0 c13 c20 c27 c34 g43 g54 g65 g76 g87 g98 g110 g122 g133 g144 c155 c163 g172 c182 c190 g200 g212 c222 c230 c238 q) w0 (40, 0) = (q, .inr (kc 40, [.int 0, .int 0, .int 0, .int (-1), .int 0, .int 0, .int 0, .int 0, .int 0, .ref c13, .ref c20, .ref c27, .ref c34, .ref g43, .ref g54, .ref g65, .ref g76, .ref g87, .ref g98, .int 0, .int 0, .ref g110, .ref g122, .ref g133, .ref g144, .ref c155, .ref c163, .ref g172, .int 0, .ref c182, .ref c190, .ref g200, .ref g212, .int 0, .int 0, .int 0, .int 0, .int 0, .int 0, .int 0, .int 0, .ref c222, .ref c230, .int 0, .ref c238, .int 0])) := rfl
  have e41_0 : cellK G (adM ad0 c13 c20 c27 c34 g43 g54 g65 g76 g87 g98 g110 g122 g133 g144 c155 c163 g172 c182 c190 g200 g212 c222 c230 c238 q) w0 (41, 0) = (c13, iA G 600) := rfl
  have e42_0 : cellK G (adM ad0 c13 c20 c27 c34 g43 g54 g65 g76 g87 g98 g110 g122 g133 g144 c155 c163 g172 c182 c190 g200 g212 c222 c230 c238 q) w0 (42, 0) = (c20, iA G 2) := rfl
  have e43_0 : cellK G (adM ad0 c13 c20 c27 c34 g43 g54 g65 g76 g87 g98 g110 g122 g133 g144 c155 c163 g172 c182 c190 g200 g212 c222 c230 c238 q) w0 (43, 0) = (c27, iA G 4) := rfl
  have e44_0 : cellK G (adM ad0 c13 c20 c27 c34 g43 g54 g65 g76 g87 g98 g110 g122 g133 g144 c155 c163 g172 c182 c190 g200 g212 c222 c230 c238 q) w0 (44, 0) = (c34, iA G 4) := rfl
  have e45_0 : (gkeys 45 7).map (cellK G (adM ad0 c13 c20 c27 c34 g43 g54 g65 g76 g87 g98 g110 g122 g133 g144 c155 c163 g172 c182 c190 g200 g212 c222 c230 c238 q) w0) = grd G g43 7 3 := by
    rw [gk_map]
    rfl
  have e47_0 : (gkeys 47 7).map (cellK G (adM ad0 c13 c20 c27 c34 g43 g54 g65 g76 g87 g98 g110 g122 g133 g144 c155 c163 g172 c182 c190 g200 g212 c222 c230 c238 q) w0) = grd G g54 7 3 := by
    rw [gk_map]
    rfl
  have e49_0 : (gkeys 49 20).map (cellK G (adM ad0 c13 c20 c27 c34 g43 g54 g65 g76 g87 g98 g110 g122 g133 g144 c155 c163 g172 c182 c190 g200 g212 c222 c230 c238 q) w0) = grd G g65 20 2 := by
    rw [gk_map]
    rfl
  have e51_0 : (gkeys 51 20).map (cellK G (adM ad0 c13 c20 c27 c34 g43 g54 g65 g76 g87 g98 g110 g122 g133 g144 c155 c163 g172 c182 c190 g200 g212 c222 c230 c238 q) w0) = grd G g76 20 2 := by
    rw [gk_map]
    rfl
  have e53_0 : (gkeys 53 12).map (cellK G (adM ad0 c13 c20 c27 c34 g43 g54 g65 g76 g87 g98 g110 g122 g133 g144 c155 c163 g172 c182 c190 g200 g212 c222 c230 c238 q) w0) = grd G g87 12 2 := by
    rw [gk_map]
    rfl
  have e55_0 : (gkeys 55 12).map (cellK G (adM ad0 c13 c20 c27 c34 g43 g54 g65 g76 g87 g98 g110 g122 g133 g144 c155 c163 g172 c182 c190 g200 g212 c222 c230 c238 q) w0) = grd G g98 12 2 := by
    rw [gk_map]
    rfl
  have e57_0 : (gkeys 57 160).map (cellK G (adM ad0 c13 c20 c27 c34 g43 g54 g65 g76 g87 g98 g110 g122 g133 g144 c155 c163 g172 c182 c190 g200 g212 c222 c230 c238 q) w0) = grd G g110 160 2 := by
    rw [gk_map]
    rfl
  have e59_0 : (gkeys 59 160).map (cellK G (adM ad0 c13 c20 c27 c34 g43 g54 g65 g76 g87 g98 g110 g122 g133 g144 c155 c163 g172 c182 c190 g200 g212 c222 c230 c238 q) w0) = grd G g122 160 2 := by
    rw [gk_map]
    rfl
  have e61_0 : (gkeys 61 20).map (cellK G (adM ad0 c13 c20 c27 c34 g43 g54 g65 g76 g87 g98 g110 g122 g133 g144 c155 c163 g172 c182 c190 g200 g212 c222 c230 c238 q) w0) = grd G g133 20 2 := by
    rw [gk_map]
    rfl
  have e63_0 : (gkeys 63 20).map (cellK G (adM ad0 c13 c20 c27 c34 g43 g54 g65 g76 g87 g98 g110 g122 g133 g144 c155 c163 g172 c182 c190 g200 g212 c222 c230 c238 q) w0) = grd G g144 20 2 := by
    rw [gk_map]
    rfl
  have e65_0 : cellK G (adM ad0 c13 c20 c27 c34 g43 g54 g65 g76 g87 g98 g110 g122 g133 g144 c155 c163 g172 c182 c190 g200 g212 c222 c230 c238 q) w0 (65, 0) = (c155, iA G 160) := rfl
  have e66_0 : cellK G (adM ad0 c13 c20 c27 c34 g43 g54 g65 g76 g87 g98 g110 g122 g133 g144 c155 c163 g172 c182 c190 g200 g212 c222 c230 c238 q) w0 (66, 0) = (c163, iA G 8) := rfl
  have e67_0 : (gkeys 67 80).map (cellK G (adM ad0 c13 c20 c27 c34 g43 g54 g65 g76 g87 g98 g110 g122 g133 g144 c155 c163 g172 c182 c190 g200 g212 c222 c230 c238 q) w0) = grd G g172 80 4 := by
    rw [gk_map]
    rfl
  have e69_0 : cellK G (adM ad0 c13 c20 c27 c34 g43 g54 g65 g76 g87 g98 g110 g122 g133 g144 c155 c163 g172 c182 c190 g200 g212 c222 c230 c238 q) w0 (69, 0) = (c182, iA G 57) := rfl
  have e69_1 : cellK G (adM ad0 c13 c20 c27 c34 g43 g54 g65 g76 g87 g98 g110 g122 g133 g144 c155 c163 g172 c182 c190 g200 g212 c222 c230 c238 q) w0 (69, 1) = (c190, iA G 57) := rfl
  have e70_0 : gk70.map (cellK G (adM ad0 c13 c20 c27 c34 g43 g54 g65 g76 g87 g98 g110 g122 g133 g144 c155 c163 g172 c182 c190 g200 g212 c222 c230 c238 q) w0) = grd G g200 16 57 := by
    have h69 : ∀ i, adM ad0 c13 c20 c27 c34 g43 g54 g65 g76 g87 g98 g110 g122 g133 g144 c155 c163 g172 c182 c190 g200 g212 c222 c230 c238 q 69 (2 + i) = g200 + 1 + i := fun i => by
      show (if 2 + i = 0 then _ else if 2 + i = 1 then _ else g200 + 1 + (2 + i - 2)) = _
      rw [if_neg (by omega), if_neg (by omega)]
      omega
    unfold gk70 grd
    rw [List.map_cons, List.map_map]
    have h1 : cellK G (adM ad0 c13 c20 c27 c34 g43 g54 g65 g76 g87 g98 g110 g122 g133 g144 c155 c163 g172 c182 c190 g200 g212 c222 c230 c238 q) w0 (70, 0) = (g200, qA G 5 16 (fun i => some ((adM ad0 c13 c20 c27 c34 g43 g54 g65 g76 g87 g98 g110 g122 g133 g144 c155 c163 g172 c182 c190 g200 g212 c222 c230 c238 q) 69 (2 + i)))) := rfl
    rw [h1]
    simp only [h69]
    refine congrArg (_ :: ·) (List.map_congr_left (fun i _ => ?_))
    show ((adM ad0 c13 c20 c27 c34 g43 g54 g65 g76 g87 g98 g110 g122 g133 g144 c155 c163 g172 c182 c190 g200 g212 c222 c230 c238 q) 69 (2 + i), iA G 57) = _
    rw [h69]
  have e71_0 : (gkeys 71 3).map (cellK G (adM ad0 c13 c20 c27 c34 g43 g54 g65 g76 g87 g98 g110 g122 g133 g144 c155 c163 g172 c182 c190 g200 g212 c222 c230 c238 q) w0) = grd G g212 3 970 := by
    rw [gk_map]
    rfl
  have e73_0 : cellK G (adM ad0 c13 c20 c27 c34 g43 g54 g65 g76 g87 g98 g110 g122 g133 g144 c155 c163 g172 c182 c190 g200 g212 c222 c230 c238 q) w0 (73, 0) = (c222, iA G 7) := rfl
  have e74_0 : cellK G (adM ad0 c13 c20 c27 c34 g43 g54 g65 g76 g87 g98 g110 g122 g133 g144 c155 c163 g172 c182 c190 g200 g212 c222 c230 c238 q) w0 (74, 0) = (c230, iA G 7) := rfl
  have e75_0 : cellK G (adM ad0 c13 c20 c27 c34 g43 g54 g65 g76 g87 g98 g110 g122 g133 g144 c155 c163 g172 c182 c190 g200 g212 c222 c230 c238 q) w0 (75, 0) = (c238, lA G 14) := rfl
  unfold ksM
  simp only [List.map_append, List.map_cons, List.map_nil, eo, e41_0, e42_0, e43_0, e44_0, e45_0, e47_0, e49_0, e51_0, e53_0, e55_0, e57_0, e59_0, e61_0, e63_0, e65_0, e66_0, e67_0, e69_0, e69_1, e70_0, e71_0, e73_0, e74_0, e75_0]
theorem getD_all {α : Type} {P : α → Prop} {l : List α} {d : α} (h : ∀ x ∈ l, P x) (hd : P d) (k : Nat) : P (l.getD k d) := by
  unfold List.getD
  cases hk : l[k]? with
  | none => exact hd
  | some x => exact h x (List.mem_of_getElem? hk)
theorem ent_ad {ad ad' : Nat → Nat → Nat} {cA cA' : Nat → ClassId} {w : Wd} {κ j : Nat} (S : Nat → Prop) (h : ∀ a b, S a → ad' a b = ad a b) (hf : ka κ = none → ∀ k, S (fr κ k)) (he : S (er κ)) (hc : ∀ t n, ka κ = some (t, n) → cA' t = cA t ∧ cA' 2 = cA 2) : ent ad' cA' w κ j = ent ad cA w κ j := by
  have e2 : (fun i => some (ad' (er κ) (eix κ j i))) = (fun i => some (ad (er κ) (eix κ j i))) := funext fun i => by rw [h _ _ he]
  cases hk : ka κ with
  | none =>
    have e : fv ad' w κ j = fv ad w κ j := by
      funext k
      unfold fv
      rw [h _ _ (hf hk k), h _ _ (hf hk k)]
    rw [ent_obj hk, ent_obj hk, e]
  | some x =>
    obtain ⟨t, n⟩ := x
    unfold ent
    rw [hk]
    show (if t = 2 then _ else if t ≤ 1 then _ else _) = (if t = 2 then _ else if t ≤ 1 then _ else _)
    rw [e2, (hc t n hk).1, (hc t n hk).2]
theorem fr_all {P : Nat → Prop} {κ : Nat} (h : ∀ x ∈ frL.getD κ frM, P x) (h0 : P 0) (k : Nat) : P (fr κ k) := getD_all h h0 k
theorem cl_40 : ∀ κ, κ < 38 → (ka κ = none → ∀ x ∈ frL.getD κ frM, x < 40) ∧ er κ < 40 := by decide
theorem ksC_38 : ∀ q ∈ ksC, q.1 < 38 := by decide +kernel
def ksS : List (Nat × Nat) := [(40, 0), (41, 0), (42, 0), (43, 0), (44, 0), (45, 0), (47, 0), (49, 0), (51, 0), (53, 0), (55, 0), (57, 0), (59, 0), (61, 0), (63, 0), (65, 0), (66, 0), (67, 0), (69, 0), (69, 1), (70, 0), (71, 0), (73, 0), (74, 0), (75, 0)]
def gds : List (Nat × Nat) := [(45, 7), (47, 7), (49, 20), (51, 20), (53, 12), (55, 12), (57, 160), (59, 160), (61, 20), (63, 20), (67, 80), (71, 3)]
theorem ksS_in : ∀ q ∈ ksS, q ∈ ksM := by decide +kernel
theorem gds_in {q : Nat × Nat} {κ N : Nat} (h : (κ, N) ∈ gds) (hq : q ∈ gkeys κ N) : q ∈ ksM := by
  unfold gds at h
  simp only [List.mem_cons, List.not_mem_nil, or_false, Prod.mk.injEq] at h
  rcases h with h | h | h | h | h | h | h | h | h | h | h | h
  all_goals (obtain ⟨rfl, rfl⟩ := h; unfold ksM; simp only [List.mem_cons, List.mem_append, hq, true_or, or_true])
theorem gk70_in {q : Nat × Nat} (hq : q ∈ gk70) : q ∈ ksM := by
  unfold ksM
  simp only [List.mem_cons, List.mem_append, hq, true_or, or_true]
theorem lk_in {q : Nat × Nat} {j : Nat} (hj : j < 4) (hq : q ∈ lkeys j) : q ∈ ksC := by
  unfold ksC
  by_cases h : j = 0
  · subst h
    simp only [List.mem_cons, List.mem_append, hq, true_or, or_true]
  · have h2 : q ∈ (List.range 3).flatMap (fun k => lkeys (1 + k)) := List.mem_flatMap.mpr ⟨j - 1, List.mem_range.mpr (by omega), by rw [show 1 + (j - 1) = j by omega]; exact hq⟩
    simp only [List.mem_cons, List.mem_append, h2, true_or, or_true]
theorem sk_in {q : Nat × Nat} {j : Nat} (hj : j < 69) (hq : q ∈ skeys j) : q ∈ ksC := by
  by_cases h : j = 68
  · subst h
    unfold ksC
    simp only [List.mem_cons, List.mem_append, hq, true_or, or_true]
  · refine lk_in (j := j / 17) (by omega) ?_
    unfold lkeys
    by_cases h0 : j % 17 = 0
    · have h1 : q ∈ skeys (17 * (j / 17)) := by rw [show 17 * (j / 17) = j by omega]; exact hq
      simp only [List.mem_cons, List.mem_append, h1, true_or, or_true]
    · have h1 : q ∈ (List.range 16).flatMap (fun k => skeys (17 * (j / 17) + (1 + k))) := List.mem_flatMap.mpr ⟨j % 17 - 1, List.mem_range.mpr (by omega), by rw [show 17 * (j / 17) + (1 + (j % 17 - 1)) = j by omega]; exact hq⟩
      simp only [List.mem_cons, List.mem_append, h1, true_or, or_true]
def kSc (κ : Nat) : Bool := κ == 5 || (17 ≤ κ && κ ≤ 21)
def kLf (κ : Nat) : Bool := κ == 4 || κ == 15
def kGd (κ : Nat) : Bool := gds.any (fun q => q.1 + 1 == κ && q.2 == cnt κ)
theorem ks_restB : ∀ κ, κ < 81 → (kSc κ || kLf κ || kGd κ || κ == 69 || (List.range (cnt κ)).all (fun j => ((0, 0) :: (16, 0) :: (ksA ++ ksB)).any (fun z => z.1 == κ && z.2 == j) || ksS.any (fun z => z.1 == κ && z.2 == j))) = true := by decide +kernel
theorem any_in {l : List (Nat × Nat)} {κ j : Nat} (h : l.any (fun z => z.1 == κ && z.2 == j) = true) : (κ, j) ∈ l := by
  obtain ⟨z, hz, e⟩ := List.any_eq_true.mp h
  simp only [Bool.and_eq_true, beq_iff_eq] at e
  have e3 : z = (κ, j) := Prod.ext e.1 e.2
  rw [← e3]
  exact hz
theorem ks_rest {κ : Nat} (hκ : κ < 81) (h1 : kSc κ = false) (h2 : kLf κ = false) (h3 : kGd κ = false) (h4 : κ ≠ 69) {j : Nat} (hj : j < cnt κ) : (κ, j) ∈ (0, 0) :: (16, 0) :: (ksA ++ ksB) ∨ (κ, j) ∈ ksS := by
  have h := ks_restB κ hκ
  have h5 : (κ == 69) = false := beq_eq_false_iff_ne.mpr h4
  rw [h1, h2, h3, h5, Bool.false_or, Bool.false_or, Bool.false_or, Bool.false_or] at h
  have h6 := List.all_eq_true.mp h j (List.mem_range.mpr hj)
  rw [Bool.or_eq_true] at h6
  exact h6.imp any_in any_in
theorem ks_in : ∀ q ∈ prs, q ∈ ksC ++ ksM := by
  rintro ⟨κ, j⟩ hq
  obtain ⟨hκ, hj⟩ := prs_mem.mp hq
  rw [List.mem_append]
  cases h1 : kSc κ with
  | true =>
    have hk : κ < 81 → kSc κ = true → cnt κ = 69 ∧ (κ = 5 ∨ κ = 17 ∨ κ = 18 ∨ κ = 19 ∨ κ = 20 ∨ κ = 21) := (by decide : ∀ κ, κ < 81 → kSc κ = true → cnt κ = 69 ∧ (κ = 5 ∨ κ = 17 ∨ κ = 18 ∨ κ = 19 ∨ κ = 20 ∨ κ = 21)) κ
    obtain ⟨e, h⟩ := hk hκ h1
    refine Or.inl (sk_in (j := j) (by omega) ?_)
    unfold skeys
    simp only [List.mem_cons, List.not_mem_nil, or_false, Prod.mk.injEq, and_true]
    exact h
  | false =>
    cases h2 : kLf κ with
    | true =>
      have hk : κ < 81 → kLf κ = true → cnt κ = 4 ∧ (κ = 4 ∨ κ = 15) := (by decide : ∀ κ, κ < 81 → kLf κ = true → cnt κ = 4 ∧ (κ = 4 ∨ κ = 15)) κ
      obtain ⟨e, h⟩ := hk hκ h2
      refine Or.inl (lk_in (j := j) (by omega) ?_)
      unfold lkeys
      rcases h with rfl | rfl
      · exact List.mem_cons_self
      · exact List.mem_cons_of_mem _ (List.mem_append_right _ List.mem_cons_self)
    | false =>
      cases h3 : kGd κ with
      | true =>
        obtain ⟨⟨a, N⟩, hz, e⟩ := List.any_eq_true.mp h3
        simp only [Bool.and_eq_true, beq_iff_eq] at e
        obtain ⟨e1, e2⟩ := e
        refine Or.inr (gds_in hz ?_)
        unfold gkeys
        refine List.mem_cons_of_mem _ (List.mem_map.mpr ⟨j, List.mem_range.mpr (by omega), by rw [e1]⟩)
      | false =>
        by_cases h4 : κ = 69
        · subst h4
          have hj2 : j < 18 := hj
          by_cases h5 : j < 2
          · exact Or.inr (ksS_in _ ((by decide : ∀ j, j < 2 → (69, j) ∈ ksS) j h5))
          · refine Or.inr (gk70_in (List.mem_cons_of_mem _ (List.mem_map.mpr ⟨j - 2, List.mem_range.mpr (by omega), ?_⟩)))
            rw [show 2 + (j - 2) = j by omega]
        · rcases ks_rest hκ h1 h2 h3 h4 hj with h | h
          · refine Or.inl ?_
            unfold ksC
            simp only [List.mem_cons, List.mem_append] at h
            rcases h with h | h | h | h <;> simp only [List.mem_cons, List.mem_append, h, true_or, or_true]
          · exact Or.inr (ksS_in _ h)
theorem LL_cells {G : Gx} {ad : Nat → Nat → Nat} {w : Wd} (h7 : G.2.2.1 7 = 0) : LL (gA G ad) w = prs.map (cellK G ad w) := by
  unfold LL LT
  rw [if_pos (show (gA G ad).2.2.1 7 = 0 from h7), List.append_nil]
  rfl
theorem PW0 : PW w0 := by
  intro κ j k _ _
  show (if κ = 0 then (if k = 10 then 0 else 1) else 0) < 2
  split
  · split <;> omega
  · omega
theorem sg00 (q : Nat) : sg0 T00 q = 0 := by
  unfold sg0
  rw [if_neg (show ¬ q < tS T00 from Nat.not_lt_zero _), if_neg (show ¬ (35 ≤ q ∧ q < 35 + tN T00) from fun h => by
    have h2 : q < 35 + 0 := h.2
    omega)]
/-- what holds of both new objects -/
theorem Iv_start {w : Wd} (hs : Sm (fun κ b k => κ = 43 ∨ GW1 κ b k) w0 w) (h1 : StM w T00 E00) (h2 : w.1 69 0 = sg0 T00) (h3 : w.1 40 0 33 = 0) (h4 : w.1 40 0 34 = 0) (h5 : w.1 40 0 35 = 0) (h6 : w.1 40 0 36 = 0) : Iv w := by
  have hb : w.2.2 = w0.2.2 := hs.2.2
  have g : ∀ κ b k, κ < 43 → ¬ (κ = 40 ∧ 19 ≤ k) → w.1 κ b k = w0.1 κ b k := fun κ b k q1 q2 => hs.1 κ b k (by unfold GW1; omega)
  have z : ∀ κ b k, 8 < κ → κ < 40 → w.1 κ b k = 0 := fun κ b k q1 q2 => by
    rw [g κ b k (by omega) (by omega)]
    show (if κ = 1 then _ else if κ = 7 then _ else if κ = 8 then _ else if κ = 40 then _ else _) = _
    rw [if_neg (by omega), if_neg (by omega), if_neg (by omega), if_neg (by omega)]
  have no : ∀ {α : Type} {i : Nat} {x : α}, ([] : List α)[i]? = some x → False := fun h => by simp at h
  refine ⟨(T00, E00, sg0 T00, [], [], [], fun _ => 0, 0, -1, 0, 0, 0), ⟨Tok00, sg0_ok Tok00, by decide, by decide, fun i x h => (no h).elim, by decide, fun i hi => absurd hi (Nat.not_lt_zero _), fun f f' h => h 0 (by decide), ⟨fun x h => absurd h List.not_mem_nil, List.Pairwise.nil⟩⟩, ⟨⟨⟨?_, ?_, ⟨?_, by decide, ?_, fun i τ h => (no h).elim⟩, ?_, fun i x h => (no h).elim, ?_⟩, ?_, fun i hi => absurd hi (Nat.not_lt_zero _), ?_, ?_⟩, ?_, ?_⟩,
    ⟨⟨h1, ⟨h4, by decide, h2, fun i τ h => (no h).elim⟩, fun j => ?_, h6, fun i x h => (no h).elim, ⟨h3, by decide, fun i x h => (no h).elim⟩, ?_, fun i hi => absurd hi (Nat.not_lt_zero _), ?_, h5⟩, ?_, ?_⟩⟩
  · unfold StC
    rw [hb]
    refine ⟨by decide, by decide, ?_, ?_⟩
    · refine ⟨g 7 0 0 (by decide) (by decide), g 7 0 1 (by decide) (by decide), g 7 0 2 (by decide) (by decide), g 7 0 3 (by decide) (by decide), fun s hs => absurd hs (Nat.not_lt_zero _), fun s hs => absurd hs (Nat.not_lt_zero _), fun s hs => absurd hs (Nat.not_lt_zero _)⟩
    · refine ⟨1, by decide, by decide, g 8 0 5 (by decide) (by decide), fun i hi => Or.inl ⟨0, by decide, z 34 0 i (by decide) (by decide)⟩, fun f => ?_⟩
      show f 0 = lvl (w.1 34 0) (w.1 35 0) (w.1 36 0) f (0 + 1) 0
      rw [lvl_at, z 34 0 0 (by decide) (by decide), if_pos (by decide)]
      rfl
  · unfold PC
    rw [hb]
    decide
  · exact g 4 0 0 (by decide) (by decide)
  · show SceneC w 0 (sg0 T00) 0
    refine ⟨?_, ?_, fun s hs => ⟨?_, ?_, ?_, ?_⟩, fun n hn => absurd hn (Nat.not_lt_zero _), 0, by decide, g 5 0 1 (by decide) (by decide), fun s hs => ?_⟩
    · rw [sg00]; exact g 5 0 0 (by decide) (by decide)
    · rw [sg00]; exact g 5 0 2 (by decide) (by decide)
    · rw [sg00]; exact z 17 0 s (by decide) (by decide)
    · rw [sg00]; exact z 18 0 s (by decide) (by decide)
    · rw [sg00]; exact z 19 0 s (by decide) (by decide)
    · rw [sg00]; exact z 20 0 s (by decide) (by decide)
    · rw [sg00, Nat.zero_div]
      rfl
  · exact g 0 0 12 (by decide) (by decide)
  · have eob0 : (0 : Int32) = ob (akB []) 20 := (ob_congr_0 (fun _ => rfl)).symm
    have eob1 : (0 : Int32) = ob (hdB []) 20 := (ob_congr_0 (fun _ => rfl)).symm
    exact ⟨(z 9 _ 0 (by decide) (by decide)).trans eob0, (z 9 _ 1 (by decide) (by decide)).trans eob1⟩
  · exact g 1 0 0 (by decide) (by decide)
  · exact g 1 0 2 (by decide) (by decide)
  · exact g 0 0 13 (by decide) (by decide)
  · exact g 0 0 15 (by decide) (by decide)
  · exact g 0 0 16 (by decide) (by decide)
  · intro q _
    by_cases hj : j = 0
    · rw [hj, h2]; exact sg00 q
    · exact hs.1 69 j q (by unfold GW1; omega)
  · exact g 40 0 1 (by decide) (by decide)
  · exact g 40 0 3 (by decide) (by decide)
  · exact g 42 0 0 (by decide) (by decide)
  · exact g 42 0 1 (by decide) (by decide)
