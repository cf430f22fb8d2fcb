/-! LAW and BOOK: both sides read the same text the same way. -/
section AR
variable {l : Launch} {G : Gx} {k mc nL k' mc' nL' : Nat} {y y' : MethodName} {cc cc' : ByteArray} {rt rt' : Option FieldType} {w : Wd} {as as' : List Value} {P P' : Pv}
theorem ask_N (hS : IS P) (hC : IC P w) (hM : IM P w) (hc : Con l G k mc y cc nL rt w as (fun _ _ => False) (fun E w' => E = nIae ∧ w' = bumpT w)) (hm : ∀ w1, IM P w1 → Con l G k' mc' y' cc' nL' rt' w1 as' (fun r w' => (∃ v : Int32, r = some (.int v)) ∧ w' = bpM (cl0 w1) 1 1) noX) :
    Con l G k mc y cc nL rt w as (fun r w1 => ∃ v, r = some (.int v) ∧ Con l G k' mc' y' cc' nL' rt' (setL w1 80 0 0 v.toInt64) as' (fun r2 w2 => r2 = some (.int v) ∧ w2.1 40 0 0 = 0 ∧ w2.2.1 80 0 0 = v.toInt64 ∧ Iv w2) noX)
      (fun E w1 => E = nIae ∧ Con l G k' mc' y' cc' nL' rt' w1 as' (fun r2 w2 => (∃ v, r2 = some (.int v)) ∧ w2.1 40 0 0 = 1 ∧ Iv w2) noX) := by
  refine con_mono hc (fun _ _ h => h.elim) ?_
  rintro E w1 ⟨rfl, rfl⟩
  refine ⟨rfl, con_mono (hm _ hM.bumpT') ?_ (fun _ _ h => h)⟩
  rintro r2 w2 ⟨⟨b, rfl⟩, rfl⟩
  exact ⟨⟨b, rfl⟩, bpM_0, pT P, hS, (hC.bT hS).far hS bpM_sm bpM_ge, hM.bumpT'.bT⟩
theorem ask_R {v : Int32} {Sc Sr : Nat → Nat → Nat → Prop} (hS' : IS P') (hM : IM P w) (hc : Con l G k mc y cc nL rt w as (fun r w1 => r = some (.int v) ∧ IC P' w1 ∧ Sn Sc w w1) noX) (h1 : ∀ κ b k, Sc κ b k → κ < 40)
    (hm : ∀ w1, IM P w1 → Con l G k' mc' y' cc' nL' rt' w1 as' (fun r w2 => r = some (.int v) ∧ w2.1 40 0 0 = 0 ∧ IM P' w2 ∧ Sm Sr w1 w2) noX) (h2 : ∀ κ b k, Sr κ b k → 40 ≤ κ) :
    Con l G k mc y cc nL rt w as (fun r w1 => ∃ v, r = some (.int v) ∧ Con l G k' mc' y' cc' nL' rt' (setL w1 80 0 0 v.toInt64) as' (fun r2 w2 => r2 = some (.int v) ∧ w2.1 40 0 0 = 0 ∧ w2.2.1 80 0 0 = v.toInt64 ∧ Iv w2) noX)
      (fun E w1 => E = nIae ∧ Con l G k' mc' y' cc' nL' rt' w1 as' (fun r2 w2 => (∃ v, r2 = some (.int v)) ∧ w2.1 40 0 0 = 1 ∧ Iv w2) noX) := by
  refine con_mono hc ?_ (fun _ _ h => h.elim)
  rintro r w1 ⟨rfl, hC', hs⟩
  refine ⟨v, rfl, con_mono (hm _ (hM.near hs h1).out) ?_ (fun _ _ h => h)⟩
  rintro r2 w2 ⟨rfl, h0, hM', hs2⟩
  exact ⟨rfl, h0, by rw [hs2.2.1 80 0 0 (by omega)]; exact setL_80, P', hS', hC'.out.far hS' hs2 h2, hM'⟩
end AR
/-- the tape read to its end, a fault's place told -/
def pZ (P : Pv) (p : Int32) : Pv := (vT P, vE P, vσ P, vB P, vI P, vL P, vb P, 0, p, vr P, vf P, vt P)
theorem IS.z {P : Pv} {p : Int32} (h : IS P) : IS (pZ P p) := by
  obtain ⟨h1, h2, h3, h4, h5, h6, h7, h8, h9⟩ := h
  exact ⟨h1, h2, h3, h4, h5, Nat.zero_le _, fun i hi => absurd hi (Nat.not_lt_zero _), h8, h9⟩
theorem IC.z {P : Pv} {w w' : Wd} {p : Int32} {S : Nat → Nat → Nat → Prop} (h : IC P w) (hI : IS P) (hs : Sm S w w') (hS : ∀ κ b k, cK1 w κ b k ∨ (κ = 0 ∧ (k = 13 ∨ k = 15 ∨ k = 16)) → ¬ S κ b k) (h0 : w'.1 1 0 0 = 0) (hp : w'.1 1 0 2 = p) : IC (pZ P p) w' :=
  ⟨⟨IC1.mv (P := P) h.1.1 hI hs (fun κ b k q => hS κ b k (Or.inl q)), h0, fun i hi => absurd hi (Nat.not_lt_zero _), hp, (hs.1 0 0 13 (hS _ _ _ (by omega))).trans h.1.2.2.2.2⟩, (hs.1 0 0 15 (hS _ _ _ (by omega))).trans h.2.1, (hs.1 0 0 16 (hS _ _ _ (by omega))).trans h.2.2⟩
/-- the reference's part, but the tape and fault's place -/
def mK1 (κ b k : Nat) : Prop := κ = 44 ∨ κ = 48 ∨ κ = 52 ∨ κ = 56 ∨ κ = 58 ∨ (κ = 40 ∧ (k = 19 ∨ k = 33 ∨ k = 34 ∨ k = 35 ∨ k = 36)) ∨ κ = 69 ∨ κ = 72 ∨ κ = 62 ∨ κ = 42
theorem IM.z {P : Pv} {w w' : Wd} {p : Int32} {S : Nat → Nat → Nat → Prop} (h : IM P w) (hs : Sm S w w') (hS : ∀ κ b k, mK1 κ b k → ¬ S κ b k) (h0 : w'.1 40 0 1 = 0) (hp : w'.1 40 0 3 = p) : IM (pZ P p) w' := by
  obtain ⟨⟨c1, c2, c3, c4, c5, c6, c7, c8, c9, c10⟩, c11, c12⟩ := h
  have hg : ∀ κ b k, mK1 κ b k → w'.1 κ b k = w.1 κ b k := fun κ b k q => hs.1 κ b k (hS κ b k q)
  have h69 : ∀ j, w'.1 69 j = w.1 69 j := fun j => funext fun q => hg 69 j q (by unfold mK1; omega)
  refine ⟨⟨c1.mv hs (fun κ b k q => hS κ b k (by unfold mK1; omega)) (hS 40 0 19 (by unfold mK1; omega)), ⟨(hg 40 0 34 (by unfold mK1; omega)).trans c2.1, c2.2.1, (h69 0).trans c2.2.2.1, fun j τ h => (h69 _).trans (c2.2.2.2 j τ h)⟩, fun j => by rw [h69]; exact c3 j, (hg 40 0 36 (by unfold mK1; omega)).trans c4, fun j x hx => ?_, ⟨(hg 40 0 33 (by unfold mK1; omega)).trans c6.1, c6.2.1, fun j x hx => ⟨(hg 62 j 0 (by unfold mK1; omega)).trans (c6.2.2 j x hx).1, (hg 62 j 1 (by unfold mK1; omega)).trans (c6.2.2 j x hx).2⟩⟩, h0, fun j hj => absurd hj (Nat.not_lt_zero _), hp, (hg 40 0 35 (by unfold mK1; omega)).trans c10⟩, (hg 42 0 0 (by unfold mK1; omega)).trans c11, (hg 42 0 1 (by unfold mK1; omega)).trans c12⟩
  obtain ⟨k1', k2', k3', k4'⟩ := c5 j x hx
  exact ⟨(hg 72 j 0 (by unfold mK1; omega)).trans k1', k2', fun q hq => (hg 72 j _ (by unfold mK1; omega)).trans (k3' q hq), fun a τ' ha q hq => (hg 72 j _ (by unfold mK1; omega)).trans (k4' a τ' ha q hq)⟩
section QT
variable {M : Mx} {G : Gx} {b L : Nat} {xs : Nat → Int32} {Qp : State → Prop} {n ns : Nat} {w : Wd} {i : Nat} {P : Pv}
theorem r_law (F : FL M G b L xs) (hi : i + 9 ≤ L) (hL : L ≤ 576) (hn : n + 16 ≤ 600128) (hns : ns + 96 ≤ 7301098) (hS : IS P) (hC : IC P w) (hM : IM P w) (hK : ∀ w2, Iv w2 → ZL M G Qp (n + 16) (ns + 96) w2 2606 (lB G b i) []) : ZL M G Qp n ns w 361 (lB G b i) [] := by
  have hst : (mL M).stackTraces = false := F.2.2.2.2.2.2.2.2.1
  refine q_law F hi hL hn hns ?_ hK
  by_cases hx : okT (xs (i + 1)) 150 (vz P) = true
  · obtain ⟨a, h1, h2, e⟩ := okT_of hx (by omega) hS.2.2.2.2.2.1
    rw [e]
    have hz := hS.2.2.2.2.2.1
    have hb : ∀ i, i < a → vb P i < 256 := fun i hi => hS.2.2.2.2.2.2.1 i (by omega)
    have hpc := hC.1.1.2.1
    have cc := c_law (G := G) hst hC.1.2.1 hz h1 h2 hb (fun i hi => hC.1.2.2.1 i (by omega)) hpc.2.2.2.1
    have mm : ∀ w1, IM P w1 → _ := fun w1 h => m_law (G := G) (w := w1) hst h.1.2.2.2.2.2.2.1 hz h1 h2 hb (fun i hi => h.1.2.2.2.2.2.2.2.1 i (by omega))
    by_cases ho : (laF (vb P) a).1.1 = 0
    · have hP' : ∀ w1 : Wd, LawC w1 (w.2.2 0 0 9) (laF (vb P) a).2 → Eok (laF (vb P) a).2 := fun w1 h => h.ok
      by_cases hE : Eok (laF (vb P) a).2
      · have hS' : IS (vT P, (laF (vb P) a).2, vσ P, vB P, vI P, vL P, vb P, 0, -1, vr P, vf P, vt P) := by
          obtain ⟨h1, h2, h3, h4, h5, h6, h7, h8, h9⟩ := hS
          exact ⟨h1, h2, h3, h4, h5, Nat.zero_le _, fun i hi => absurd hi (Nat.not_lt_zero _), hE, h9⟩
        refine ask_R (v := 1) hS' hM (Sc := fun κ _ _ => κ = 1 ∨ κ = 8 ∨ (34 ≤ κ ∧ κ ≤ 36)) (con_mono cc ?_ (fun _ _ h => h)) (fun κ b k q => by omega) (fun w1 h => con_mono (mm w1 h) ?_ (fun _ _ h => h)) (Sr := fun κ _ _ => 40 ≤ κ) (fun κ b k q => q)
        · rintro r w1 ⟨k0, -, k1⟩
          obtain ⟨rfl, k2, k3, k4, k5⟩ := k1 ho
          refine ⟨rfl, ?_, k5.mono (fun κ b k q => by omega)⟩
          obtain ⟨⟨⟨⟨d1, d2, d3, d4⟩, c2, c3, c4, c5, c6⟩, c7, c8, c9, c10⟩, c11, c12⟩ := hC
          have k6 : Sm (fun κ b _ => κ = 1 ∨ (b = w.2.2 0 0 9 ∧ (κ = 8 ∨ (34 ≤ κ ∧ κ ≤ 36)))) w (w1.1, w1.2.1, w.2.2) := ⟨k5.1, k5.2, rfl⟩
          have e20 : w1.2.2 2 0 0 = w.2.2 2 0 0 := by rw [k4]; rfl
          have e21 : w1.2.2 2 0 1 = w.2.2 0 0 9 := by rw [k4]; rfl
          have e8 : w1.2.2 0 0 8 = w.2.2 0 0 8 := by rw [k4]; rfl
          have e9 : w1.2.2 0 0 9 = w.2.2 2 0 1 := by rw [k4]; rfl
          have e10 : w1.2.2 0 0 10 = w.2.2 0 0 10 := by rw [k4]; rfl
          have e11 : w1.2.2 0 0 11 = w.2.2 0 0 11 := by rw [k4]; rfl
          have r1 : RollC (w1.1, w1.2.1, w.2.2) (w.2.2 2 0 0) (vT P) := d3.mv k6 (fun κ k q => by omega)
          have l1 : LifeC (w1.1, w1.2.1, w.2.2) 0 (vσ P) (vB P) (tN (vT P)) := c3.mv k6 (fun k => by omega) (fun κ b k q1 q2 q => by omega)
          have hg := k5.1
          refine ⟨⟨⟨⟨by rw [e20]; exact d1, by rw [e21]; exact c2.2.2.2.1, by rw [e20]; exact r1, by rw [e21]; exact k3⟩, ?_, l1, (hg 0 0 12 (by omega)).trans c4, fun j x hx => ?_, ?_⟩, k0, fun j hj => absurd hj (Nat.not_lt_zero _), k2, (hg 0 0 13 (by omega)).trans c10⟩, (hg 0 0 15 (by omega)).trans c11, (hg 0 0 16 (by omega)).trans c12⟩
          · unfold PC at c2 ⊢
            rw [e20, e21, e8, e9, e10, e11]
            obtain ⟨p1, p2, p3, p4, p5, p6, p7⟩ := c2
            exact ⟨p1, p2, p3, p5, p4, Ne.symm p6, p7⟩
          · have l2 : LifeC (w1.1, w1.2.1, w.2.2) (1 + j) x.1 x.2 (tN (vT P)) := (c5 j x hx).mv k6 (fun k => by omega) (fun κ b k q1 q2 q => by omega)
            exact l2
          · rw [e10]
            exact ⟨(hg 9 _ 0 (by omega)).trans c6.1, (hg 9 _ 1 (by omega)).trans c6.2⟩
        · rintro r w2 ⟨g0, g1, -, g2⟩
          obtain ⟨rfl, g3, g4, g5⟩ := g2 ho
          refine ⟨rfl, g0, ?_, g5.mono (fun κ b k q => by unfold GLw GS at q; omega)⟩
          have hz1 := h.z (p := -1) (w' := (fun κ j k => if κ = 58 ∨ (κ = 40 ∧ k = 19) then w1.1 κ j k else w2.1 κ j k, w2.2)) (S := GLw) ⟨fun κ j k q => by
            show (if κ = 58 ∨ (κ = 40 ∧ k = 19) then w1.1 κ j k else w2.1 κ j k) = w1.1 κ j k
            by_cases e : κ = 58 ∨ (κ = 40 ∧ k = 19)
            · rw [if_pos e]
            · rw [if_neg e]; exact g5.1 κ j k (fun z => by rcases z with z | z | z; exact q z; exact e (Or.inl z); exact e (Or.inr z)), g5.2⟩ (fun κ b k q => by unfold mK1 at q; unfold GLw GS; omega) g1 g3
          obtain ⟨⟨⟨c0, -⟩, c2, c3, c4, c5, c6, c7, c8, c9, c10⟩, c11, c12⟩ := hz1
          exact ⟨⟨⟨c0, g4⟩, c2, c3, c4, c5, c6, c7, c8, c9, c10⟩, c11, c12⟩
      · refine con_mono cc ?_ (fun _ _ h => h.elim)
        rintro r w1 ⟨k0, -, k1⟩
        exact absurd (hP' w1 (k1 ho).2.2.1) hE
    · refine ask_R (v := nI (laF (vb P) a).1.1 - 10) (P' := pZ P (nI (laF (vb P) a).1.2)) hS.z hM (Sc := fun κ _ _ => κ = 1 ∨ κ = 8 ∨ (34 ≤ κ ∧ κ ≤ 36)) (con_mono cc ?_ (fun _ _ h => h)) (fun κ b k q => by omega) (fun w1 h => con_mono (mm w1 h) ?_ (fun _ _ h => h)) (Sr := fun κ _ _ => 40 ≤ κ) (fun κ b k q => q)
      · rintro r w1 ⟨k0, k1, -⟩
        obtain ⟨rfl, k2, k3⟩ := k1 ho
        exact ⟨rfl, hC.z hS k3 (fun κ b k q => by unfold cK1 at q; have := hpc.2.2.2.2.2.1; omega) k0 k2, k3.sn.mono (fun κ b k q => by omega)⟩
      · rintro r w2 ⟨g0, g1, g2, -⟩
        obtain ⟨rfl, g3, g5⟩ := g2 ho
        exact ⟨rfl, g0, h.z g5 (fun κ b k q => by unfold mK1 at q; unfold GLw GS; omega) g1 g3, g5.mono (fun κ b k q => by unfold GLw GS at q; omega)⟩
  · have hx' : okT (xs (i + 1)) 150 (vz P) = false := by simpa using hx
    exact ask_N hS hC hM (c_lawX hst hC.1.2.1 hx') (fun w1 h => m_lawX hst h.1.2.2.2.2.2.2.1 hx')
end QT
