/-! The constructor of VowelChoirModel: its steps (written by program). -/
section YP
variable {M : Mx} {G : Gx} {own : String} {cc : ByteArray} {nL : Nat} {kk mc ms : Nat} {n ns : Nat} {Kc : va_W → Prop} {X Y : va_W} {pc : Nat} {l : List (Option Value)} {st : List Value}
theorem x_putF2 (F : FC M G own cc nL kk mc ms) {κ i a : Nat} {v : Value} {ty : FieldType} {fs : List Value} (hfs : fs.length = nf κ) (k : Nat) (hk : k < nf κ) (hfin : ((vC κ).2.1 k).2.2.2 = true) (hown : ((vC κ).2.1 k).1 = own) (hty : parseFieldDescriptor ((vC κ).2.1 k).2.2.1 = some ty) (hnr : narrow ty v = v) (hft : fits ty v = true)
    (hlink : Cond.fieldLink own i ((vC κ).2.1 k).1 ((vC κ).2.1 k).2.1 ((vC κ).2.1 k).2.2.1 ∈ GW) (hd : decode cc pc = .ok (.putfield i, 3)) (fs' : List Value) (e : fs.set k v = fs') (kx : ZC M G n ns Kc (X ++ (a, .inr (kc κ, fs')) :: Y) (pc + 3) l st) : ZC M G n ns Kc (X ++ (a, .inr (kc κ, fs)) :: Y) pc l (v :: .ref a :: st) := by
  subst e
  exact x_putF F hfs k hk hfin hown hty hnr hft hlink hd kx
theorem x_put2 (F : FC M G own cc nL kk mc ms) {κ i a : Nat} {v : Value} {ty : FieldType} {fs : List Value} (hfs : fs.length = nf κ) (k : Nat) (hk : k < nf κ) (hfin : ((vC κ).2.1 k).2.2.2 = false) (hty : parseFieldDescriptor ((vC κ).2.1 k).2.2.1 = some ty) (hnr : narrow ty v = v) (hft : fits ty v = true)
    (hlink : Cond.fieldLink own i ((vC κ).2.1 k).1 ((vC κ).2.1 k).2.1 ((vC κ).2.1 k).2.2.1 ∈ GW) (hd : decode cc pc = .ok (.putfield i, 3)) (fs' : List Value) (e : fs.set k v = fs') (kx : ZC M G n ns Kc (X ++ (a, .inr (kc κ, fs')) :: Y) (pc + 3) l st) : ZC M G n ns Kc (X ++ (a, .inr (kc κ, fs)) :: Y) pc l (v :: .ref a :: st) := by
  subst e
  exact x_put F hfs k hk hfin hty hnr hft hlink hd kx
end YP
/-- behind the last row: the object begins anew -/
theorem model_end {M : Mx} {G : Gx} {kk : Nat} {ad0 ad : Nat → Nat → Nat} {q : Nat} (F : FC M G yX10_init.cls cX10_init 1 kk 561 6489) (hk : 4 ≤ kk) (hlM : (mL M).stackTraces = false) (h7 : G.2.2.1 7 = 0) (h40 : ad 40 0 = q) (ha : ∀ a b, a < 40 → ad0 a b = ad a b) : ZC M G 561 6489 (fun ws' => ∃ (ad : Nat → Nat → Nat) (w : Wd), ad 0 0 = ad0 0 0 ∧ ad 40 0 = q ∧ ws' = LL (gA G ad) w ∧ PW w ∧ w.2.1 80 0 = (fun _ => 0) ∧ Iv w) (ksC.map (cellK G ad0 w0) ++ ksM.map (cellK G ad w0)) 243 [some (.ref q)] [] := by
  have e1 : ksC.map (cellK G ad0 w0) = ksC.map (cellK G ad w0) := by
    refine List.map_congr_left (fun z hz => ?_)
    have h38 := ksC_38 z hz
    unfold cellK
    rw [ha z.1 z.2 (by omega), ent_ad (fun a => a < 40) ha (fun hk => fr_all ((cl_40 z.1 h38).1 hk) (by decide)) (cl_40 z.1 h38).2 (fun _ _ _ => ⟨rfl, rfl⟩)]
  rw [e1, ← List.map_append]
  refine y_keys ks_in prs_nd ?_
  rw [← LL_cells h7]
  subst h40
  refine y_aload_n F dX10_init_243 rfl ?_
  refine y_con F (ad := ad) (k' := 1) [] dX10_init_244 rfl rfl cl_X10_89 (by decide +kernel) (by omega) (by decide) (by decide) (by decide) (by decide) rfl PW0 (con_vP (m_tellsNothing hlM) (fun w1 k1 hPW1 => ?_))
  refine y_aload_n F dX10_init_247 rfl ?_
  refine y_con F (ad := ad) (k' := 2) [] dX10_init_248 rfl rfl cl_X10_92 (by decide +kernel) (by omega) (by decide) (by decide) (by decide) (by decide) rfl hPW1 (con_vP (m_beginsAnew hlM Tok00 k1.1 (fun x _ => k1.2.1 69 0 x (by show ¬ (69 : Nat) = 43; decide))) (fun w2 k2 hPW2 => ?_))
  obtain ⟨m1, m2, m3, m4, m5, m6, m7⟩ := k2
  refine y_ret F dX10_init_251 (by decide) (by decide) ⟨ad, w2, (ha 0 0 (by decide)).symm, rfl, rfl, hPW2, funext fun k => (m7.2.1 80 0 k (by decide)).trans (k1.2.2.1 80 0 k (by decide)), ?_⟩
  exact Iv_start ((k1.2.mono (fun κ j k z => Or.inl z)).tr (m7.mono (fun κ j k z => Or.inr z))) m1 m2 m3 m4 m5 m6
