/-! Scenes and lives by functions of addresses; the constructor of Life. -/
def scn (G : Gx) (f : Nat → Nat) : va_W := [(f 0, .inr (kc 5, [.int 0, .int 0, .int 0, .ref (f 1), .ref (f 2), .ref (f 3), .ref (f 4), .ref (f 5)])), (f 1, iA G 7), (f 2, iA G 7), (f 3, iA G 7), (f 4, iA G 7), (f 5, iA G 20)]
def f6 (a b c d e f : Nat) : Nat → Nat := fun i => match i with
  | 0 => a
  | 1 => b
  | 2 => c
  | 3 => d
  | 4 => e
  | _ => f
theorem c_scene {l : Launch} {G : Gx} {X : va_W} {q : Nat} : ConC l G 1 5 48 yX6_init cX6_init 1 (X ++ [(q, .inr (kc 5, [.int 0, .int 0, .int 0, .null, .null, .null, .null, .null]))]) [.ref q] (fun ws' => ∃ f : Nat → Nat, f 0 = q ∧ ws' = X ++ scn G f) := by
  refine conC_mono c_init6 ?_
  rintro ws' ⟨a0, a1, a2, a3, a4, rfl⟩
  exact ⟨f6 q a0 a1 a2 a3 a4, rfl, rfl⟩
/-- a row of references -/
def qA (G : Gx) (t N : Nat) (f : Nat → Option Nat) : va_E := .inl (G.2.2.1 t, N, .inr (.inr (.inr (.inr f))))
theorem qA_cell {c : ClassId} {N : Nat} {f f' : Nat → Option Nat} (h : ∀ i, i < N → f i = f' i) : vp_cell c (N, .inr (.inr (.inr (.inr f)))) = vp_cell c (N, .inr (.inr (.inr (.inr f')))) := by
  show arrV c N (fun j => va_rf (f j)) = arrV c N (fun j => va_rf (f' j))
  unfold arrV
  have e : (fun j : Fin N => va_rf (f j.val)) = (fun j : Fin N => va_rf (f' j.val)) := funext fun j => by rw [h j.val j.isLt]
  rw [e]
theorem qA_at {G : Gx} {t N : Nat} {f f' : Nat → Option Nat} (h : ∀ i, i < N → f i = f' i) {D : va_G} {cl : List vw_C} {a : Nat} {H : Heap} (hq : va_at D cl (a, qA G t N f) H) : va_at D cl (a, qA G t N f') H := by
  show H[a]? = some (vp_cell (G.2.2.1 t) (N, .inr (.inr (.inr (.inr f')))))
  rw [← qA_cell h]
  exact hq
theorem xo_at2 {α : Type} {X Y Z : List α} {o : α} : ((X ++ o :: Y) ++ Z)[X.length]? = some o := by simp
theorem xo_set2 {α : Type} {X Y Z : List α} {o o' : α} : ((X ++ o :: Y) ++ Z).set X.length o' = (X ++ o' :: Y) ++ Z := by simp
def lifeW (G : Gx) (g : Nat → Nat → Nat) : va_W := (g 17 0, .inr (kc 4, [.int 0, .ref (g 0 0), .ref (g 17 1)])) :: (scn G (g 0) ++ (g 17 1, qA G 3 16 (fun k => if k < 16 then some (g (1 + k) 0) else none)) :: (List.range 16).flatMap (fun k => scn G (g (1 + k))))
section YL
variable {M : Mx} {G : Gx} {own : String} {cc : ByteArray} {nL : Nat} {kk mc ms : Nat} {n ns n' ns' : Nat} {Kc : va_W → Prop} {ws ws' : va_W} {pc : Nat} {l : List (Option Value)} {st : List Value}
theorem y_eq (h : ZC M G n' ns' Kc ws' pc l st) (e1 : n = n') (e2 : ns = ns') (e3 : ws = ws') : ZC M G n ns Kc ws pc l st := by
  subst e1; subst e2; subst e3
  exact h
theorem life_loop {X : va_W} {q a : Nat} (F : FC M G yX3_init.cls cX3_init 2 kk 103 968) (hk : 2 ≤ kk) : ∀ (r i : Nat) (g : Nat → Nat → Nat), i + r = 16 → g 17 0 = q → g 17 1 = a →
    ZC M G (7 + 6 * i) (72 + 56 * i) (fun ws' => ∃ g : Nat → Nat → Nat, g 17 0 = q ∧ ws' = X ++ lifeW G g) ((X ++ (q, .inr (kc 4, [.int 0, .ref (g 0 0), .ref a])) :: scn G (g 0)) ++ (a, qA G 3 16 (fun k => if k < i then some (g (1 + k) 0) else none)) :: (List.range i).flatMap (fun k => scn G (g (1 + k)))) 26 [some (.ref q), some (.int (nI i))] [] := by
  intro r
  induction r with
  | zero =>
    intro i g hi hq ha
    have e : i = 16 := by omega
    subst e
    refine y_iload_n F dX3_init_26 rfl ?_
    refine y_bipush F 16 dX3_init_27 (by decide) ?_
    refine y_icmp_ge F 51 dX3_init_29 (by decide) ⟨fun _ => ?_, fun h => absurd (by decide) h⟩
    refine y_ret F dX3_init_51 (by decide) (by decide) ⟨g, hq, ?_⟩
    subst hq; subst ha
    rw [List.append_assoc, List.cons_append]
    rfl
  | succ r ih =>
    intro i g hi hq ha
    refine y_iload_n F dX3_init_26 rfl ?_
    refine y_bipush F 16 dX3_init_27 (by decide) ?_
    refine y_icmp_ge F 51 dX3_init_29 (by decide) ⟨fun h => absurd h (nI_ge (b := 16) (by omega) (by decide)), fun _ => ?_⟩
    refine y_aload_n F dX3_init_32 rfl ?_
    refine y_get F (κ := 4) X.length xo_at2 2 (by decide) rfl lk_X3_18 dX3_init_33 ?_
    refine y_iload_n F dX3_init_36 rfl ?_
    refine x_new F 5 [.int 0, .int 0, .int 0, .null, .null, .null, .null, .null] (by decide +kernel) (GW_1 220 rfl rfl) (GW_1 221 rfl rfl) (GW_1 8 rfl rfl) (by omega) (by show 72 + 56 * i + 8 ≤ 968; omega) dX3_init_37 (fun z => ?_)
    refine y_dup F dX3_init_40 rfl ?_
    refine y_initN F (k' := 1) (mc' := 5) (ms' := 48) (y := yX6_init) [.ref z, .int (nI i), .ref a] dX3_init_41 rfl (by decide) rfl ⟨GW_1 223 rfl rfl, GW_1 8 rfl rfl, GW_1 224 rfl rfl⟩ rfl (by decide +kernel) (by omega) (by omega) (by show 72 + 56 * i + 8 + 48 ≤ 968; omega) (by decide) (Nat.le_of_ble_eq_true rfl) rfl (conC_mono c_scene ?_)
    rintro ws' ⟨f, hf, rfl⟩
    subst hf
    refine y_aast F (t := 3) (κ := 5) _ _ rfl xo_at2 (xo_at (Y := [(f 1, iA G 7), (f 2, iA G 7), (f 3, iA G 7), (f 4, iA G 7), (f 5, iA G 20)])) (nI_in (by omega) (by decide)) dX3_init_44 ?_
    rw [xo_set2]
    refine y_iinc F (nI (i + 1)) dX3_init_45 rfl (nI_1 i) (by show 1 < 2; decide) ?_
    refine y_goto F 26 dX3_init_48 (by decide) ?_
    obtain ⟨g', hg'⟩ : ∃ g', g' = (fun s => if s = 1 + i then f else g s) := ⟨_, rfl⟩
    have e0 : g' 0 = g 0 := by rw [hg']; exact if_neg (by omega)
    have e1 : g' (1 + i) = f := by rw [hg']; exact if_pos rfl
    have e2 : ∀ k, k < i → g' (1 + k) = g (1 + k) := fun k hk => by rw [hg']; exact if_neg (by omega)
    have e7 : g' 17 = g 17 := by rw [hg']; exact if_neg (by omega)
    refine y_eq (ih (i + 1) g' (by omega) (by rw [e7]; exact hq) (by rw [e7]; exact ha)) (by omega) (by show 72 + 56 * i + 8 + 48 = 72 + 56 * (i + 1); omega) ?_
    have e3 : va_up (fun k => if k < i then some (g (1 + k) 0) else none) (nI i).toNatClampNeg (some (f 0)) = (fun k => if k < i + 1 then some (g' (1 + k) 0) else none) := by
      funext k
      rw [nI_clamp (by omega)]
      unfold va_up
      by_cases h1 : k = i
      · rw [if_pos h1, if_pos (by omega), h1, e1]
      · rw [if_neg h1]
        by_cases h2 : k < i
        · rw [if_pos (by omega), e2 k h2]
          exact if_pos h2
        · rw [if_neg (show ¬ k < i + 1 by omega)]
          exact if_neg h2
    have e4 : (List.range (i + 1)).flatMap (fun k => scn G (g' (1 + k))) = (List.range i).flatMap (fun k => scn G (g (1 + k))) ++ scn G f := by
      rw [List.range_succ, List.flatMap_append, List.flatMap_singleton, e1]
      refine congrArg (· ++ scn G f) ?_
      rw [List.flatMap_def, List.flatMap_def]
      refine congrArg List.flatten (List.map_congr_left (fun k hk => ?_))
      rw [e2 k (List.mem_range.mp hk)]
    rw [e0, e4, ← e3, List.append_assoc, List.cons_append]
    rfl
theorem c_init3 {l : Launch} {G : Gx} {X : va_W} {q : Nat} : ConC l G 2 103 968 yX3_init cX3_init 2 (X ++ [(q, .inr (kc 4, [.int 0, .null, .null]))]) [.ref q] (fun ws' => ∃ g : Nat → Nat → Nat, g 17 0 = q ∧ ws' = X ++ lifeW G g) := by
  refine conC_intro (by decide +kernel) rfl (Nat.le_of_ble_eq_true rfl) (Nat.le_of_ble_eq_true rfl) (fun M kk hM hk F => ?_)
  show ZC M G 0 0 _ (X ++ (q, .inr (kc 4, [.int 0, .null, .null])) :: []) 0 [some (.ref q), none] []
  refine y_aload_n F dX3_init_0 rfl ?_
  refine y_super F (GW_1 219 rfl rfl) oi_1 oi_2 (by omega) rfl (Nat.le_of_ble_eq_true rfl) dX3_init_1 ?_
  refine y_aload_n F dX3_init_4 rfl ?_
  refine x_new F 5 [.int 0, .int 0, .int 0, .null, .null, .null, .null, .null] (by decide +kernel) (GW_1 220 rfl rfl) (GW_1 221 rfl rfl) (GW_1 8 rfl rfl) (by decide) (by decide) dX3_init_5 (fun z => ?_)
  refine y_dup F dX3_init_8 rfl ?_
  refine y_initN F (k' := 1) (mc' := 5) (ms' := 48) (y := yX6_init) [.ref z, .ref q] dX3_init_9 rfl (by decide) rfl ⟨GW_1 223 rfl rfl, GW_1 8 rfl rfl, GW_1 224 rfl rfl⟩ rfl (by decide +kernel) (by omega) (by decide) (by decide) (by decide) (Nat.le_of_ble_eq_true rfl) rfl (conC_mono c_scene ?_)
  rintro ws' ⟨f, hf, rfl⟩
  subst hf
  rw [List.append_assoc, List.cons_append, List.nil_append]
  refine x_putF F (κ := 4) (ty := .object "VowelChoir$Scene") rfl 1 (by decide) rfl rfl (by decide +kernel) rfl rfl lk_X3_12 dX3_init_12 ?_
  refine y_aload_n F dX3_init_15 rfl ?_
  refine y_bipush F 16 dX3_init_16 (by decide) ?_
  refine x_newq F (t := 3) (C := "VowelChoir$Scene") 16 rfl F.2.2.2.2.2.2.2.2.2.2.1 (GW_1 220 rfl rfl) (by decide) rfl (by decide) (by decide) (by decide) dX3_init_18 (fun a => ?_)
  refine x_putF F (κ := 4) (ty := .array (.object "VowelChoir$Scene")) rfl 2 (by decide) rfl rfl (by decide +kernel) rfl rfl lk_X3_18 dX3_init_21 ?_
  refine y_iconst F 0 dX3_init_24 (by decide) ?_
  refine y_istore_n F dX3_init_25 (by show 1 < 2; decide) ?_
  refine y_eq (life_loop F hk 16 0 (fun s => if s = 17 then (fun p => if p = 0 then q else a) else f) (by omega) rfl rfl) rfl rfl ?_
  show X ++ (q, .inr (kc 4, [.int 0, .ref (f 0), .ref a])) :: (scn G f ++ [(a, qA G 3 16 (fun _ => none))]) = (X ++ (q, .inr (kc 4, [.int 0, .ref (f 0), .ref a])) :: scn G f) ++ [(a, qA G 3 16 (fun k => if k < 0 then _ else none))]
  rw [List.append_assoc, List.cons_append]
  rfl
end YL
