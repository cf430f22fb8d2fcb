/-! BOOK, WORK, feed. -/
section QT
variable {M : Mx} {G : Gx} {b L : Nat} {xs : Nat → Int32} {Qp : State → Prop} {n ns : Nat} {w : Wd} {i : Nat} {P : Pv}
theorem r_book (F : FL M G b L xs) (hi : i + 9 ≤ L) (hL : L ≤ 576) (hn : n + 16 ≤ 600128) (hns : ns + 96 ≤ 7301098) (hS : IS P) (hC : IC P w) (hM : IM P w) (hK : ∀ w2, Iv w2 → ZL M G Qp (n + 16) (ns + 96) w2 2606 (lB G b i) []) : ZL M G Qp n ns w 473 (lB G b i) [] := by
  have hst : (mL M).stackTraces = false := F.2.2.2.2.2.2.2.2.1
  refine q_book F hi hL hn hns ?_ hK
  by_cases hx : okT (xs (i + 1)) 60 (vz P) = true
  · obtain ⟨a, h1, h2, e⟩ := okT_of hx (by omega) hS.2.2.2.2.2.1
    rw [e]
    have hz := hS.2.2.2.2.2.1
    have hb : ∀ i, i < a → vb P i < 256 := fun i hi => hS.2.2.2.2.2.2.1 i (by omega)
    have hpc := hC.1.1.2.1
    have cc := c_book (G := G) hst hC.1.2.1 hz h1 h2 hb (fun i hi => hC.1.2.2.1 i (by omega)) hS.1 hC.1.1.1 hpc.2.2.2.2.2.2.2.1
    have mm : ∀ w1, IM P w1 → _ := fun w1 h => m_book (G := G) (w := w1) hst h.1.2.2.2.2.2.2.1 hz h1 h2 hb (fun i hi => h.1.2.2.2.2.2.2.2.1 i (by omega)) hS.1 h.1.1.1
    by_cases ho : (bkF (vb P) a (tN (vT P))).1.1 = 0
    · have hB : BookOk (bkF (vb P) a (tN (vT P))).2 (tN (vT P)) := bkL_ok 60 [] (0, 0) (BookOk0 _) ho
      have hS' : IS (vT P, vE P, vσ P, vB P, vI P, (bkF (vb P) a (tN (vT P))).2, vb P, 0, -1, vr P, vf P, vt P) := by
        obtain ⟨h1, h2, h3, h4, h5, h6, h7, h8, h9⟩ := hS
        exact ⟨h1, h2, h3, h4, h5, Nat.zero_le _, fun i hi => absurd hi (Nat.not_lt_zero _), h8, hB⟩
      refine ask_R (v := nI (bkF (vb P) a (tN (vT P))).2.length) hS' hM (Sc := fun κ _ _ => κ = 1 ∨ κ = 9) (con_mono cc ?_ (fun _ _ h => h)) (fun κ b k q => by omega) (fun w1 h => con_mono (mm w1 h) ?_ (fun _ _ h => h)) (Sr := fun κ _ _ => 40 ≤ κ) (fun κ b k q => q)
      · rintro r w1 ⟨k0, -, k1⟩
        obtain ⟨rfl, k2, k3, k4, k5⟩ := k1 ho
        refine ⟨rfl, ?_, k5⟩
        obtain ⟨⟨⟨⟨d1, d2, d3, d4⟩, c2, c3, c4, c5, c6⟩, c7, c8, c9, c10⟩, c11, c12⟩ := hC
        have k6 : Sm (fun κ _ _ => κ = 1 ∨ κ = 9) w (w1.1, w1.2.1, w.2.2) := ⟨k5.1, k5.2, rfl⟩
        have e20 : w1.2.2 2 0 0 = w.2.2 2 0 0 := by rw [k4]; rfl
        have e21 : w1.2.2 2 0 1 = w.2.2 2 0 1 := by rw [k4]; rfl
        have e8 : w1.2.2 0 0 8 = w.2.2 0 0 8 := by rw [k4]; rfl
        have e9 : w1.2.2 0 0 9 = w.2.2 0 0 9 := by rw [k4]; rfl
        have e10 : w1.2.2 0 0 10 = w.2.2 0 0 11 := by rw [k4]; rfl
        have e11 : w1.2.2 0 0 11 = w.2.2 0 0 10 := by rw [k4]; rfl
        have r1 : RollC (w1.1, w1.2.1, w.2.2) (w.2.2 2 0 0) (vT P) := d3.mv k6 (fun κ k q => by omega)
        have r2 : LawC (w1.1, w1.2.1, w.2.2) (w.2.2 2 0 1) (vE P) := d4.mv k6 (fun κ k q => by omega)
        have l1 : LifeC (w1.1, w1.2.1, w.2.2) 0 (vσ P) (vB P) (tN (vT P)) := c3.mv k6 (fun k => by omega) (fun κ b k q1 q2 q => by omega)
        have hg := k5.1
        refine ⟨⟨⟨⟨by rw [e20]; exact d1, by rw [e21]; exact d2, by rw [e20]; exact r1, by rw [e21]; exact r2⟩, ?_, l1, (hg 0 0 12 (by omega)).trans c4, fun j x hx => ?_, by rw [e10]; exact k3⟩, k0, fun j hj => absurd hj (Nat.not_lt_zero _), k2, (hg 0 0 13 (by omega)).trans c10⟩, (hg 0 0 15 (by omega)).trans c11, (hg 0 0 16 (by omega)).trans c12⟩
        · unfold PC at c2 ⊢
          rw [e20, e21, e8, e9, e10, e11]
          obtain ⟨p1, p2, p3, p4, p5, p6, p7, p8, p9⟩ := c2
          exact ⟨p1, p2, p3, p4, p5, p6, p8, p7, Ne.symm p9⟩
        · have l2 : LifeC (w1.1, w1.2.1, w.2.2) (1 + j) x.1 x.2 (tN (vT P)) := (c5 j x hx).mv k6 (fun k => by omega) (fun κ b k q1 q2 q => by omega)
          exact l2
      · rintro r w2 ⟨g0, g1, -, g2⟩
        obtain ⟨rfl, g3, g4, g5⟩ := g2 ho
        refine ⟨rfl, g0, ?_, g5.mono (fun κ b k q => by unfold GZ GS at q; omega)⟩
        have hz1 := h.z (p := -1) (w' := (fun κ j k => if κ = 62 ∨ (κ = 40 ∧ k = 33) then w1.1 κ j k else w2.1 κ j k, w2.2)) (S := GZ) ⟨fun κ j k q => by
          show (if κ = 62 ∨ (κ = 40 ∧ k = 33) then w1.1 κ j k else w2.1 κ j k) = w1.1 κ j k
          by_cases e : κ = 62 ∨ (κ = 40 ∧ k = 33)
          · rw [if_pos e]
          · rw [if_neg e]; exact g5.1 κ j k (fun z => by rcases z with z | z | z; exact q z; exact e (Or.inl z); exact e (Or.inr z)), g5.2⟩ (fun κ b k q => by unfold mK1 at q; unfold GZ GS; omega) g1 g3
        obtain ⟨⟨c1, c2, c3, c4, c5, -, c7, c8, c9, c10⟩, c11, c12⟩ := hz1
        exact ⟨⟨c1, c2, c3, c4, c5, g4, c7, c8, c9, c10⟩, c11, c12⟩
    · refine ask_R (v := nI (bkF (vb P) a (tN (vT P))).1.1 - 10) (P' := pZ P (nI (bkF (vb P) a (tN (vT P))).1.2)) hS.z hM (Sc := fun κ _ _ => κ = 1 ∨ κ = 9) (con_mono cc ?_ (fun _ _ h => h)) (fun κ b k q => by omega) (fun w1 h => con_mono (mm w1 h) ?_ (fun _ _ h => h)) (Sr := fun κ _ _ => 40 ≤ κ) (fun κ b k q => q)
      · rintro r w1 ⟨k0, k1, -⟩
        obtain ⟨rfl, k2, k3⟩ := k1 ho
        exact ⟨rfl, hC.z hS k3 (fun κ b k q => by unfold cK1 at q; have := hpc.2.2.2.2.2.2.2.2; omega) k0 k2, k3.sn.mono (fun κ b k q => by omega)⟩
      · rintro r w2 ⟨g0, g1, g2, -⟩
        obtain ⟨rfl, g3, g5⟩ := g2 ho
        exact ⟨rfl, g0, h.z g5 (fun κ b k q => by unfold mK1 at q; unfold GZ GS; omega) g1 g3, g5.mono (fun κ b k q => by unfold GZ GS at q; omega)⟩
  · have hx' : okT (xs (i + 1)) 60 (vz P) = false := by simpa using hx
    exact ask_N hS hC hM (c_bookX hst hC.1.2.1 hx') (fun w1 h => m_bookX hst h.1.2.2.2.2.2.2.1 hx')
theorem r_work (F : FL M G b L xs) (hi : i + 9 ≤ L) (hL : L ≤ 576) (hn : n + 16 ≤ 600128) (hns : ns + 96 ≤ 7301098) (hS : IS P) (hC : IC P w) (hM : IM P w) (hK : ∀ w2, Iv w2 → ZL M G Qp (n + 16) (ns + 96) w2 2606 (lB G b i) []) : ZL M G Qp n ns w 417 (lB G b i) [] := by
  have hst : (mL M).stackTraces = false := F.2.2.2.2.2.2.2.2.1
  refine q_work F hi hL hn hns ?_ hK
  by_cases hx : okT (xs (i + 1)) 150 (vz P) = true
  · obtain ⟨a, h1, h2, e⟩ := okT_of hx (by omega) hS.2.2.2.2.2.1
    rw [e]
    have hz := hS.2.2.2.2.2.1
    have hb : ∀ i, i < a → vb P i < 256 := fun i hi => hS.2.2.2.2.2.2.1 i (by omega)
    have hle := hS.2.2.1
    by_cases hf : (vB P).length = 16
    · refine ask_R (v := -20) (P' := pZ P (-1)) hS.z hM (Sc := G1) (con_mono (c_workFull (G := G) hst hC.1.2.1 hz h1 h2 hb (fun i hi => hC.1.2.2.1 i (by omega)) (by rw [hC.1.1.2.2.1.1, hf])) ?_ (fun _ _ h => h)) (fun κ b k q => by unfold G1 at q; omega) (fun w1 h => con_mono (m_workFull (G := G) (w := w1) hst h.1.2.2.2.2.2.2.1 hz h1 h2 (by rw [h.1.2.1.1, hf])) ?_ (fun _ _ h => h)) (Sr := fun κ _ _ => 40 ≤ κ) (fun κ b k q => q)
      · rintro r w1 ⟨rfl, k0, k2, k3⟩
        exact ⟨rfl, hC.z hS k3 (fun κ b k q => by unfold cK1 at q; unfold G1; omega) k0 k2, k3.sn⟩
      · rintro r w2 ⟨rfl, g0, g1, g3, g5⟩
        exact ⟨rfl, g0, h.z g5 (fun κ b k q => by unfold mK1 at q; omega) g1 g3, g5.mono (fun κ b k q => by omega)⟩
    · have hlt : (vB P).length < 16 := by omega
      have cc := c_work (G := G) hst hC.1.2.1 hz h1 h2 hb (fun i hi => hC.1.2.2.1 i (by omega)) hS.1 hC.1.1.1 hC.1.1.2.2.1 hlt hS.2.1.1
      have mm : ∀ w1, IM P w1 → _ := fun w1 h => m_work (G := G) (w := w1) hst h.1.2.2.2.2.2.2.1 hz h1 h2 hb (fun i hi => h.1.2.2.2.2.2.2.2.1 i (by omega)) hS.1 h.1.1 hS.2.2.2.2.2.2.2.1 h.1.2.1 h.1.2.2.1 hlt hS.2.1.1
      by_cases ho : (wkF (vb P) a (vT P)).1.1 = 0
      · have hlen : (vB P ++ [vσ P]).length = (vB P).length + 1 := by simp
        have hS' : IS (vT P, vE P, (rnW (vb P) a (vT P) (vE P) (vσ P)).1, vB P ++ [vσ P], vI P, vL P, vb P, 0, -1, nI (rnW (vb P) a (vT P) (vE P) (vσ P)).2.2.2, vf P, vt P) := by
          obtain ⟨h1, ⟨h2, h2'⟩, h3, h4, h5, h6, h7, h8, h9⟩ := hS
          refine ⟨h1, ⟨?_, fun j τ hj => ?_⟩, (by show (vB P ++ [vσ P]).length ≤ 16; omega), h4, h5, Nat.zero_le _, fun i hi => absurd hi (Nat.not_lt_zero _), h8, h9⟩
          · show sOk (4000 * (vB P ++ [vσ P]).length) _ _
            rw [hlen, Nat.mul_succ]
            exact rnW_ok h1 ho h2
          · rcases vl_or hj with q | ⟨rfl, rfl⟩
            · exact h2' j τ q
            · exact h2
        refine ask_R (v := nI (rnW (vb P) a (vT P) (vE P) (vσ P)).2.2.1) hS' hM (Sc := GWk) (con_mono cc ?_ (fun _ _ h => h)) (fun κ b k q => by unfold GWk GL at q; omega) (fun w1 h => con_mono (mm w1 h) ?_ (fun _ _ h => h)) (Sr := fun κ _ _ => 40 ≤ κ) (fun κ b k q => q)
        · rintro r w1 ⟨k0, -, k1⟩
          obtain ⟨rfl, k2, k3, k4, k5⟩ := k1 ho
          refine ⟨rfl, ?_, k5.sn⟩
          obtain ⟨⟨⟨c1, c2, c3, c4, c5, c6⟩, c7, c8, c9, c10⟩, c11, c12⟩ := hC
          have hg := k5.1
          refine ⟨⟨⟨c1.mv k5 (fun κ b k q => by unfold GWk GL; omega), (by unfold PC; rw [k5.2.2]; exact c2), k3, (hg 0 0 12 (by unfold GWk GL; omega)).trans c4, fun j x hx => ?_, ?_⟩, k0, fun j hj => absurd hj (Nat.not_lt_zero _), k2, k4⟩, (hg 0 0 15 (by unfold GWk GL; omega)).trans c11, (hg 0 0 16 (by unfold GWk GL; omega)).trans c12⟩
          · exact (c5 j x hx).mv k5 (fun k => by unfold GWk GL; omega) (fun κ b k q1 q2 q => by unfold GWk GL; omega)
          · rw [k5.2.2]
            exact ⟨(hg 9 _ 0 (by unfold GWk GL; omega)).trans c6.1, (hg 9 _ 1 (by unfold GWk GL; omega)).trans c6.2⟩
        · rintro r w2 ⟨g0, g1, -, g2⟩
          obtain ⟨rfl, g3, g4, g6, g7, g5⟩ := g2 ho
          refine ⟨rfl, g0, ?_, g5.mono (fun κ b k q => by unfold GWn GWm GS at q; omega)⟩
          obtain ⟨⟨c1, c2, c3, c4, c5, c6, c7, c8, c9, c10⟩, c11, c12⟩ := h
          have hg := g5.1
          refine ⟨⟨c1.mv g5 (fun κ b k q => by unfold GWn GWm GS; omega) (by unfold GWn GWm GS; omega), g4, g6, (hg 40 0 36 (by unfold GWn GWm GS; omega)).trans c4, fun j x hx => ?_, ⟨(hg 40 0 33 (by unfold GWn GWm GS; omega)).trans c6.1, c6.2.1, fun j x hx => ⟨(hg 62 j 0 (by unfold GWn GWm GS; omega)).trans (c6.2.2 j x hx).1, (hg 62 j 1 (by unfold GWn GWm GS; omega)).trans (c6.2.2 j x hx).2⟩⟩, g1, fun j hj => absurd hj (Nat.not_lt_zero _), g3, g7⟩, (hg 42 0 0 (by unfold GWn GWm GS; omega)).trans c11, (hg 42 0 1 (by unfold GWn GWm GS; omega)).trans c12⟩
          obtain ⟨k1', k2', k3', k4'⟩ := c5 j x hx
          exact ⟨(hg 72 j 0 (by unfold GWn GWm GS; omega)).trans k1', k2', fun q hq => (hg 72 j _ (by unfold GWn GWm GS; omega)).trans (k3' q hq), fun a τ' ha q hq => (hg 72 j _ (by unfold GWn GWm GS; omega)).trans (k4' a τ' ha q hq)⟩
      · refine ask_R (v := nI (wkF (vb P) a (vT P)).1.1 - 10) (P' := pZ P (nI (wkF (vb P) a (vT P)).1.2)) hS.z hM (Sc := fun κ _ _ => κ < 40) (con_mono cc ?_ (fun _ _ h => h)) (fun κ b k q => q) (fun w1 h => con_mono (mm w1 h) ?_ (fun _ _ h => h)) (Sr := fun κ _ _ => 40 ≤ κ) (fun κ b k q => q)
        · rintro r w1 ⟨k0, k1, -⟩
          obtain ⟨rfl, k2, k3⟩ := k1 ho
          exact ⟨rfl, hC.z hS k3 (fun κ b k q => by unfold cK1 at q; omega) k0 k2, k3.sn.mono (fun κ b k q => by omega)⟩
        · rintro r w2 ⟨g0, g1, g2, -⟩
          obtain ⟨rfl, g3, g5⟩ := g2 ho
          exact ⟨rfl, g0, h.z g5 (fun κ b k q => by unfold mK1 at q; unfold GWm GS; omega) g1 g3, g5.mono (fun κ b k q => by unfold GWm GS at q; omega)⟩
  · have hx' : okT (xs (i + 1)) 150 (vz P) = false := by simpa using hx
    exact ask_N hS hC hM (c_workX hst hC.1.2.1 hx') (fun w1 h => m_workX hst h.1.2.2.2.2.2.2.1 hx')
end QT
