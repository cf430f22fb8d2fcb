/-! Constructors: new rows of references. -/
section YQ
variable {M : Mx} {G : Gx} {own : String} {cc : ByteArray} {nL : Nat} {kk mc ms : Nat} {n ns : Nat} {Kc : va_W → Prop} {X Y : va_W} {o : Nat × va_E} {pc : Nat} {l : List (Option Value)} {st : List Value}
/-- new Scene[N] (t = 3), new Life[N] (t = 4) -/
theorem x_newq (F : FC M G own cc nL kk mc ms) {x : Int32} {i t : Nat} {C : String} (N : Nat) (hC : (tysG G)[t]? = some (G.2.2.1 t, .object C)) (hao : va_AO C (mS M)) (hcl : Cond.classLink own i C ∈ GW) (hx : ¬ x < 0) (hN : x.toNatClampNeg = N) (hb : N ≤ 100000) (hn : n + 1 ≤ mc) (hns : ns + N ≤ ms) (hd : decode cc pc = .ok (.anewarray i, 3))
    (k : ∀ q, ZC M G (n + 1) (ns + N) Kc (X ++ o :: (Y ++ [(q, .inl (G.2.2.1 t, N, .inr (.inr (.inr (.inr (fun _ => none))))))])) (pc + 3) l (.ref q :: st)) : ZC M G n ns Kc (X ++ o :: Y) pc l (.int x :: st) := by
  intro H ls locs hP hD hl hS
  have hR : mR M = rc kk mc ms := F.2.2.2.2.2.2.2.2.1
  have hK := F.2.2.2.2.2.1.1
  refine va_newq F.1 F.2.1 F.2.2.2.1 (F.2.2.2.2.1 _ hcl) hao hK hP hD hS (AA_new F.2.2.2.2.2.1) hx hN (by omega) (by rw [hR]; exact hn) (by rw [hR]; exact hns) hd (fun q cA H1 hK1 hP1 hD1 hS1 => ?_)
  obtain ⟨-, -, -, -, -, e0⟩ := (hK.2 t _ hC).2
  obtain ⟨-, -, -, -, -, e1⟩ := (hK1.2 6 (cA, .object C) rfl).2
  have e2 : G.2.2.1 t = cA := Option.some.inj (e0.symm.trans e1)
  rw [← e2, xo_app] at hP1 hD1
  exact k q H1 ls locs hP1 hD1 hl hS1
end YQ
