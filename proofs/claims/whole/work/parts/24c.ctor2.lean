/-! Constructors: rows in the form X ++ o :: Y (o the object under construction); the constructor of Scene. -/
theorem xo_at {α : Type} {X Y : List α} {o : α} : (X ++ o :: Y)[X.length]? = some o := by simp
theorem xo_set {α : Type} {X Y : List α} {o o' : α} : (X ++ o :: Y).set X.length o' = X ++ o' :: Y := by simp
theorem xo_app {α : Type} {X Y : List α} {o z : α} : (X ++ o :: Y) ++ [z] = X ++ o :: (Y ++ [z]) := by simp
theorem ar_int : Cond.arrayClass .int ∈ GW := GW_of (by decide +kernel) rfl
theorem oi_1 : Cond.instanceMethod Lib.objectInit ∈ GW := GW_1 30 rfl rfl
theorem oi_2 : Cond.code Lib.objectInit ⟨#[0xb1]⟩ 1 none ∈ GW := GW_1 31 rfl rfl
section YX
variable {M : Mx} {G : Gx} {own : String} {cc : ByteArray} {nL : Nat} {kk mc ms : Nat} {n ns : Nat} {Kc : va_W → Prop} {X Y : va_W} {o : Nat × va_E} {pc : Nat} {l : List (Option Value)} {st : List Value}
theorem x_newi (F : FC M G own cc nL kk mc ms) {x : Int32} (N : Nat) (hx : ¬ x < 0) (hN : x.toNatClampNeg = N) (hb : N ≤ 100000) (hn : n + 1 ≤ mc) (hns : ns + N ≤ ms) (hd : decode cc pc = .ok (.newarray .int, 2))
    (k : ∀ q, ZC M G (n + 1) (ns + N) Kc (X ++ o :: (Y ++ [(q, .inl (G.2.2.1 0, N, .inl (fun _ => 0)))])) (pc + 2) l (.ref q :: st)) : ZC M G n ns Kc (X ++ o :: Y) pc l (.int x :: st) :=
  y_newi F N hx hN hb ar_int hn hns hd (fun q => by rw [xo_app]; exact k q)
theorem x_putF (F : FC M G own cc nL kk mc ms) {κ i a : Nat} {v : Value} {ty : FieldType} {fs : List Value} (hfs : fs.length = nf κ) (k : Nat) (hk : k < nf κ) (hfin : ((vC κ).2.1 k).2.2.2 = true) (hown : ((vC κ).2.1 k).1 = own) (hty : parseFieldDescriptor ((vC κ).2.1 k).2.2.1 = some ty) (hnr : narrow ty v = v) (hft : fits ty v = true)
    (hlink : Cond.fieldLink own i ((vC κ).2.1 k).1 ((vC κ).2.1 k).2.1 ((vC κ).2.1 k).2.2.1 ∈ GW) (hd : decode cc pc = .ok (.putfield i, 3)) (kx : ZC M G n ns Kc (X ++ (a, .inr (kc κ, fs.set k v)) :: Y) (pc + 3) l st) : ZC M G n ns Kc (X ++ (a, .inr (kc κ, fs)) :: Y) pc l (v :: .ref a :: st) :=
  y_putF F X.length xo_at hfs k hk hfin hown hty hnr hft hlink hd (by rw [xo_set]; exact kx)
theorem x_put (F : FC M G own cc nL kk mc ms) {κ i a : Nat} {v : Value} {ty : FieldType} {fs : List Value} (hfs : fs.length = nf κ) (k : Nat) (hk : k < nf κ) (hfin : ((vC κ).2.1 k).2.2.2 = false) (hty : parseFieldDescriptor ((vC κ).2.1 k).2.2.1 = some ty) (hnr : narrow ty v = v) (hft : fits ty v = true)
    (hlink : Cond.fieldLink own i ((vC κ).2.1 k).1 ((vC κ).2.1 k).2.1 ((vC κ).2.1 k).2.2.1 ∈ GW) (hd : decode cc pc = .ok (.putfield i, 3)) (kx : ZC M G n ns Kc (X ++ (a, .inr (kc κ, fs.set k v)) :: Y) (pc + 3) l st) : ZC M G n ns Kc (X ++ (a, .inr (kc κ, fs)) :: Y) pc l (v :: .ref a :: st) :=
  y_put F X.length xo_at hfs k hk hfin hty hnr hft hlink hd (by rw [xo_set]; exact kx)
end YX
def iA (G : Gx) (N : Nat) : va_E := .inl (G.2.2.1 0, N, .inl (fun _ => 0))
theorem c_init6 {l : Launch} {G : Gx} {X : va_W} {q : Nat} : ConC l G 1 5 48 yX6_init cX6_init 1 (X ++ [(q, .inr (kc 5, [.int 0, .int 0, .int 0, .null, .null, .null, .null, .null]))]) [.ref q]
    (fun ws' => ∃ a0 a1 a2 a3 a4 : Nat, ws' = X ++ (q, .inr (kc 5, [.int 0, .int 0, .int 0, .ref a0, .ref a1, .ref a2, .ref a3, .ref a4])) :: [(a0, iA G 7), (a1, iA G 7), (a2, iA G 7), (a3, iA G 7), (a4, iA G 20)]) := by
  refine conC_intro (by decide +kernel) rfl (Nat.le_of_ble_eq_true rfl) (Nat.le_of_ble_eq_true rfl) (fun M kk hM hk F => ?_)
  show ZC M G 0 0 _ (X ++ (q, .inr (kc 5, [.int 0, .int 0, .int 0, .null, .null, .null, .null, .null])) :: []) 0 [some (.ref q)] []
  refine y_aload_n F dX6_init_0 rfl ?_
  refine y_super F (GW_1 225 rfl rfl) oi_1 oi_2 hk rfl (Nat.le_of_ble_eq_true rfl) dX6_init_1 ?_
  refine y_aload_n F dX6_init_4 rfl ?_
  refine y_bipush F 7 dX6_init_5 (by decide) ?_
  refine x_newi F 7 (by decide) rfl (by decide) (by decide) (by decide) dX6_init_7 (fun a0 => ?_)
  refine x_putF F (κ := 5) (ty := .array .int) rfl 3 (by decide) rfl rfl (by decide +kernel) rfl rfl lk_X6_9 dX6_init_9 ?_
  refine y_aload_n F dX6_init_12 rfl ?_
  refine y_bipush F 7 dX6_init_13 (by decide) ?_
  refine x_newi F 7 (by decide) rfl (by decide) (by decide) (by decide) dX6_init_15 (fun a1 => ?_)
  refine x_putF F (κ := 5) (ty := .array .int) rfl 4 (by decide) rfl rfl (by decide +kernel) rfl rfl lk_X6_15 dX6_init_17 ?_
  refine y_aload_n F dX6_init_20 rfl ?_
  refine y_bipush F 7 dX6_init_21 (by decide) ?_
  refine x_newi F 7 (by decide) rfl (by decide) (by decide) (by decide) dX6_init_23 (fun a2 => ?_)
  refine x_putF F (κ := 5) (ty := .array .int) rfl 5 (by decide) rfl rfl (by decide +kernel) rfl rfl lk_X6_18 dX6_init_25 ?_
  refine y_aload_n F dX6_init_28 rfl ?_
  refine y_bipush F 7 dX6_init_29 (by decide) ?_
  refine x_newi F 7 (by decide) rfl (by decide) (by decide) (by decide) dX6_init_31 (fun a3 => ?_)
  refine x_putF F (κ := 5) (ty := .array .int) rfl 6 (by decide) rfl rfl (by decide +kernel) rfl rfl lk_X6_21 dX6_init_33 ?_
  refine y_aload_n F dX6_init_36 rfl ?_
  refine y_bipush F 20 dX6_init_37 (by decide) ?_
  refine x_newi F 20 (by decide) rfl (by decide) (by decide) (by decide) dX6_init_39 (fun a4 => ?_)
  refine x_putF F (κ := 5) (ty := .array .int) rfl 7 (by decide) rfl rfl (by decide +kernel) rfl rfl lk_X6_24 dX6_init_41 ?_
  exact y_ret F dX6_init_44 (by decide) (by decide) ⟨a0, a1, a2, a3, a4, rfl⟩
