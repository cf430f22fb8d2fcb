/-! Constructors: aastore, getfield. -/
section YG
variable {M : Mx} {G : Gx} {own : String} {cc : ByteArray} {nL : Nat} {kk mc ms : Nat} {n ns : Nat} {Kc : va_W → Prop} {ws : va_W} {pc : Nat} {l : List (Option Value)} {st : List Value}
theorem y_aast (F : FC M G own cc nL kk mc ms) {t κ a v N : Nat} {vs : List Value} {f : Nat → Option Nat} {i : Int32} (p q : Nat) (hC : (tysG G)[t]? = some (G.2.2.1 t, .object (vC κ).1)) (ha : ws[p]? = some (a, .inl (G.2.2.1 t, N, .inr (.inr (.inr (.inr f)))))) (hv : ws[q]? = some (v, .inr (kc κ, vs))) (hin : vp_in i N) (hd : decode cc pc = .ok (.aastore, 1))
    (k : ZC M G n ns Kc (ws.set p (a, .inl (G.2.2.1 t, N, .inr (.inr (.inr (.inr (va_up f i.toNatClampNeg (some v)))))))) (pc + 1) l st) : ZC M G n ns Kc ws pc l (.ref v :: .int i :: .ref a :: st) := by
  intro H ls locs hP hD hl hS
  exact va_astq F.1 F.2.1 F.2.2.2.2.2.1.1 hP hD hS p t q (kc κ) ha hC hv (vC_at κ) hin hd (fun H1 locs1 hP1 hD1 hS1 => k H1 ls locs1 hP1 hD1 hl hS1)
theorem y_get (F : FC M G own cc nL kk mc ms) {κ i a : Nat} {v : Value} {fs : List Value} (p : Nat) (he : ws[p]? = some (a, .inr (kc κ, fs))) (k : Nat) (hk : k < nf κ) (hv : fs[k]? = some v) (hlink : Cond.fieldLink own i ((vC κ).2.1 k).1 ((vC κ).2.1 k).2.1 ((vC κ).2.1 k).2.2.1 ∈ GW) (hd : decode cc pc = .ok (.getfield i, 3))
    (kx : ZC M G n ns Kc ws (pc + 3) l (v :: st)) : ZC M G n ns Kc ws pc l (.ref a :: st) := by
  intro H ls locs hP hD hl hS
  exact va_get (D := G.1) (C := (vC κ).1) (T := (vC κ).2.1) (N := nf κ) F.1 F.2.1 F.2.2.2.2.1 (vC_in κ) F.2.2.2.1 F.2.2.2.2.2.1.1 hP p he (by rw [vC_at κ, ← vC_n κ]) k hk (F.2.2.2.2.1 _ hlink) (fun _ h => h) hv hd (kx H ls locs hP hD hl hS)
end YG
