/-! CHOIR and feed. -/
theorem sg0_ok {T : Tx} (hT : Tok T) : lOk T (sg0 T) [] := by
  have h7 := hT.1
  have h20 := hT.2.1
  have z : ∀ q, tS T ≤ q → ¬ (35 ≤ q ∧ q < 35 + tN T) → sg0 T q = 0 := fun q h1 h2 => by
    unfold sg0
    rw [if_neg (by omega), if_neg h2]
  refine ⟨⟨fun q hq => z q (by omega) (by omega), fun s h1 h2 => ⟨z _ (by omega) (by omega), z _ (by omega) (by omega), z _ (by omega) (by omega), z _ (by omega) (by omega), z _ (by omega) (by omega)⟩, fun s hs => ⟨0, Nat.zero_le _, z _ (by omega) (by omega)⟩⟩, fun i τ h => by cases h⟩
section QT
variable {M : Mx} {G : Gx} {b L : Nat} {xs : Nat → Int32} {Qp : State → Prop} {n ns : Nat} {w : Wd} {i : Nat} {P : Pv}
theorem r_choir (F : FL M G b L xs) (hi : i + 9 ≤ L) (hL : L ≤ 576) (hn : n + 16 ≤ 600128) (hns : ns + 96 ≤ 7301098) (hS : IS P) (hC : IC P w) (hM : IM P w) (hK : ∀ w2, Iv w2 → ZL M G Qp (n + 16) (ns + 96) w2 2606 (lB G b i) []) : ZL M G Qp n ns w 305 (lB G b i) [] := by
  have hst : (mL M).stackTraces = false := F.2.2.2.2.2.2.2.2.1
  refine q_choir F hi hL hn hns ?_ hK
  have hz := hS.2.2.2.2.2.1
  by_cases hx : okT (xs (i + 1)) 600 (vz P) = true
  · obtain ⟨a, h1, h2, e⟩ := okT_of hx (by omega) hz
    rw [e]
    have hb : ∀ i, i < a → vb P i < 256 := fun i hi => hS.2.2.2.2.2.2.1 i (by omega)
    have hpc := hC.1.1.2.1
    have cc := c_choir (G := G) hst hC.1.2.1 hz h2 hb (fun i hi => hC.1.2.2.1 i (by omega)) hpc.1 hpc.2.1 hpc.2.2.2.2.1 hpc.2.2.2.2.2.2.1
    have mm : ∀ w1, IM P w1 → _ := fun w1 h => m_choir (G := G) (w := w1) hst h.1.2.2.2.2.2.2.1 hz h2 hb (fun i hi => h.1.2.2.2.2.2.2.2.1 i (by omega)) (h.1.2.2.1 0)
    by_cases ho : (chF (vb P) a).1.1 = 0
    · have hT : Tok (chF (vb P) a).2 := chL_tok 62 0 T00 (0, 0) Tok00 ho
      have hS' : IS ((chF (vb P) a).2, E00, sg0 (chF (vb P) a).2, [], [], [], vb P, 0, -1, 0, vf P, vt P) :=
        ⟨hT, sg0_ok hT, Nat.zero_le _, Nat.zero_le _, (fun j x h => by cases h), Nat.zero_le _, fun i hi => absurd hi (Nat.not_lt_zero _), fun f g h => h 0 (by omega), BookOk0 _⟩
      refine ask_R (v := nI (tS (chF (vb P) a).2)) hS' hM (Sc := GH) (con_mono cc ?_ (fun _ _ h => h)) (fun κ b k q => by unfold GH GL at q; omega) (fun w1 h => con_mono (mm w1 h) ?_ (fun _ _ h => h)) (Sr := fun κ _ _ => 40 ≤ κ) (fun κ b k q => q)
      · rintro r w1 ⟨k0, -, k1⟩
        obtain ⟨rfl, k2, k3, k4, k6, k7, k8, k9, k5⟩ := k1 ho
        refine ⟨rfl, ?_, k5⟩
        obtain ⟨⟨⟨c1, c2, c3, c4, c5, c6⟩, c7, c8, c9, c10⟩, c11, c12⟩ := hC
        have e20 : w1.2.2 2 0 0 = w.2.2 0 0 8 := by rw [k9]; rfl
        have e21 : w1.2.2 2 0 1 = w.2.2 2 0 1 := by rw [k9]; rfl
        have e8 : w1.2.2 0 0 8 = w.2.2 2 0 0 := by rw [k9]; rfl
        have e9 : w1.2.2 0 0 9 = w.2.2 0 0 9 := by rw [k9]; rfl
        have e10 : w1.2.2 0 0 10 = w.2.2 0 0 10 := by rw [k9]; rfl
        have e11 : w1.2.2 0 0 11 = w.2.2 0 0 11 := by rw [k9]; rfl
        have hg := k5.1
        refine ⟨⟨⟨k3, ?_, k4, k7, (fun j x hx => by cases hx), by rw [e10]; exact k6⟩, k0, fun j hj => absurd hj (Nat.not_lt_zero _), k2, k8⟩, (hg 0 0 15 (by unfold GH GL; omega)).trans c11, (hg 0 0 16 (by unfold GH GL; omega)).trans c12⟩
        unfold PC at c2 ⊢
        rw [e20, e21, e8, e9, e10, e11]
        obtain ⟨p1, p2, p3, p4⟩ := c2
        exact ⟨p2, p1, Ne.symm p3, p4⟩
      · rintro r w2 ⟨g0, g1, -, g2⟩
        obtain ⟨rfl, g3, g4, g6, g7, g8, g9, g10, g5⟩ := g2 ho
        refine ⟨rfl, g0, ?_, g5.mono (fun κ b k q => by unfold GQS GQ GS GW1 at q; omega)⟩
        have hg := g5.1
        refine ⟨⟨g4, ⟨g8, Nat.zero_le _, g6, (fun j τ hj => by cases hj)⟩, fun j => ?_, g10, (fun j x hx => by cases hx), ⟨g7, Nat.zero_le _, (fun j x hx => by cases hx)⟩, g1, fun j hj => absurd hj (Nat.not_lt_zero _), g3, g9⟩, (hg 42 0 0 (by unfold GQS GQ GS GW1; omega)).trans h.2.1, (hg 42 0 1 (by unfold GQS GQ GS GW1; omega)).trans h.2.2⟩
        by_cases ej : j = 0
        · rw [ej, g6]; exact (sg0_ok hT).1.1
        · rw [show w2.1 69 j = w1.1 69 j from funext fun q => hg 69 j q (by unfold GQS GQ GS GW1; omega)]; exact h.1.2.2.1 j
    · refine ask_R (v := nI (chF (vb P) a).1.1 - 10) (P' := pZ P (nI (chF (vb P) a).1.2)) hS.z hM (Sc := fun κ _ _ => κ < 40) (con_mono cc ?_ (fun _ _ h => h)) (fun κ b k q => q) (fun w1 h => con_mono (mm w1 h) ?_ (fun _ _ h => h)) (Sr := fun κ _ _ => 40 ≤ κ) (fun κ b k q => q)
      · rintro r w1 ⟨k0, k1, -⟩
        obtain ⟨rfl, k2, k3⟩ := k1 ho
        exact ⟨rfl, hC.z hS k3 (fun κ b k q => by unfold cK1 at q; have := hpc.2.2.1; omega) k0 k2, k3.sn.mono (fun κ b k q => by omega)⟩
      · rintro r w2 ⟨g0, g1, g2, -⟩
        obtain ⟨rfl, g3, g5⟩ := g2 ho
        exact ⟨rfl, g0, h.z g5 (fun κ b k q => by unfold mK1 at q; unfold GQS GQ GS; omega) g1 g3, g5.mono (fun κ b k q => by unfold GQS GQ GS at q; omega)⟩
  · have hx' : okT (xs (i + 1)) 600 (vz P) = false := by simpa using hx
    exact ask_N hS hC hM (c_choirX hst hC.1.2.1 hx') (fun w1 h => m_choirX hst h.1.2.2.2.2.2.2.1 hz hx')
theorem fdF_lt {a b c d e : Int32} {k : Nat} : fdF a b c d e k < 256 := by
  unfold fdF byF
  exact Nat.mod_lt _ (by omega)
theorem r_feed (F : FL M G b L xs) (hi : i + 9 ≤ L) (hL : L ≤ 576) (hn : n + 16 ≤ 600128) (hns : ns + 96 ≤ 7301098) (hS : IS P) (hC : IC P w) (hM : IM P w) (hK : ∀ w2, Iv w2 → ZL M G Qp (n + 16) (ns + 96) w2 2606 (lB G b i) []) : ZL M G Qp n ns w 232 (lB G b i) [] := by
  have hst : (mL M).stackTraces = false := F.2.2.2.2.2.2.2.2.1
  obtain ⟨T, E, σ, bf, ims, Lb, bb, z, p, r, f, t⟩ := P
  have hz : z ≤ 600 := hS.2.2.2.2.2.1
  by_cases hfl : z + 20 ≤ 600
  · obtain ⟨s1, s2, s3, s4, s5, s6, s7, s8⟩ := hS
    have hS0 : IS (T, E, σ, bf, ims, Lb, bb, z, p, r, f, t) := ⟨s1, s2, s3, s4, s5, s6, s7, s8⟩
    have hS' : IS (T, E, σ, bf, ims, Lb, (fun j => if j < z then bb j else fdF (xs (i + 1)) (xs (i + 2)) (xs (i + 3)) (xs (i + 4)) (xs (i + 5)) (j - z)), z + 20, p, r, f, t) := by
      refine ⟨s1, s2, s3, s4, s5, hfl, fun j hj => ?_, s8⟩
      show (if j < z then bb j else _) < 256
      split
      · rename_i h; exact s7 j h
      · exact fdF_lt
    refine q_feed F hi hL hn hns (con_mono (c_feed hst hC.1.2.1 hfl) ?_ (fun _ _ h => h)) hK
    rintro r1 w1 ⟨rfl, k1, k2, k3, k4⟩
    have hM1 := hM.near k4.sn (fun κ b k q => by unfold GF at q; omega)
    refine ⟨_, rfl, con_mono (m_feed hst hM1.1.2.2.2.2.2.2.1 hfl) ?_ (fun _ _ h => h)⟩
    rintro r2 w2 ⟨rfl, g1, g2, g3, g0, g4⟩
    refine ⟨rfl, _, hS', ?_, ?_⟩
    · have hC1 : IC (T, E, σ, bf, ims, Lb, (fun j => if j < z then bb j else fdF (xs (i + 1)) (xs (i + 2)) (xs (i + 3)) (xs (i + 4)) (xs (i + 5)) (j - z)), z + 20, p, r, f, t) w1 := by
        obtain ⟨⟨c1, c7, c8, c9, c10⟩, c11, c12⟩ := hC
        have hg := k4.1
        refine ⟨⟨IC1.mv (P := (T, E, σ, bf, ims, Lb, bb, z, p, r, f, t)) c1 hS0 k4 (fun κ b k q => by unfold cK1 at q; unfold GF; omega), k1, fun j hj => ?_, (hg 1 0 2 (by unfold GF; omega)).trans c9, (hg 0 0 13 (by unfold GF; omega)).trans c10⟩, (hg 0 0 15 (by unfold GF; omega)).trans c11, (hg 0 0 16 (by unfold GF; omega)).trans c12⟩
        show w1.1 10 0 j = sb8 (if j < z then bb j else _)
        by_cases hj' : j < z
        · rw [if_pos hj']; exact (k3 j hj').trans (c8 j hj')
        · rw [if_neg hj']
          have hj20 : j < z + 20 := hj
          have := k2 (j - z) (by omega)
          rw [show z + (j - z) = j by omega] at this
          exact this
      exact hC1.far hS' g4 (fun κ b k q => by unfold GE at q; omega)
    · obtain ⟨⟨c1, c2, c3, c4, c5, c6, c7, c8, c9, c10⟩, c11, c12⟩ := hM1
      have hg := g4.1
      have h69 : ∀ j, w2.1 69 j = w1.1 69 j := fun j => funext fun q => hg 69 j q (by unfold GE; omega)
      refine ⟨⟨c1.mv g4 (fun κ b k q => by unfold GE; omega) (by unfold GE; omega), ⟨(hg 40 0 34 (by unfold GE; omega)).trans c2.1, c2.2.1, (h69 0).trans c2.2.2.1, fun j τ h => (h69 _).trans (c2.2.2.2 j τ h)⟩, fun j => by rw [h69]; exact c3 j, (hg 40 0 36 (by unfold GE; omega)).trans c4, fun j x hx => ?_, ⟨(hg 40 0 33 (by unfold GE; omega)).trans c6.1, c6.2.1, fun j x hx => ⟨(hg 62 j 0 (by unfold GE; omega)).trans (c6.2.2 j x hx).1, (hg 62 j 1 (by unfold GE; omega)).trans (c6.2.2 j x hx).2⟩⟩, g1, fun j hj => ?_, (hg 40 0 3 (by unfold GE; omega)).trans c9, (hg 40 0 35 (by unfold GE; omega)).trans c10⟩, (hg 42 0 0 (by unfold GE; omega)).trans c11, (hg 42 0 1 (by unfold GE; omega)).trans c12⟩
      · obtain ⟨k1', k2', k3', k4'⟩ := c5 j x hx
        exact ⟨(hg 72 j 0 (by unfold GE; omega)).trans k1', k2', fun q hq => (hg 72 j _ (by unfold GE; omega)).trans (k3' q hq), fun a τ' ha q hq => (hg 72 j _ (by unfold GE; omega)).trans (k4' a τ' ha q hq)⟩
      · show w2.1 41 0 j = nI (if j < z then bb j else _)
        by_cases hj' : j < z
        · rw [if_pos hj']; exact (g3 j hj').trans (c8 j hj')
        · rw [if_neg hj']
          have hj20 : j < z + 20 := hj
          have := g2 (j - z) (by omega)
          rw [show z + (j - z) = j by omega] at this
          exact this
  · refine q_feed F hi hL hn hns (con_mono (c_feed0 hst hC.1.2.1 hz (show 600 < z + 20 by omega)) ?_ (fun _ _ h => h)) hK
    rintro r w1 ⟨rfl, rfl⟩
    refine ⟨_, rfl, con_mono (m_feed0 hst hM.1.2.2.2.2.2.2.1 hz (show 600 < z + 20 by omega)) ?_ (fun _ _ h => h)⟩
    rintro r w2 ⟨rfl, rfl⟩
    exact ⟨rfl, _, hS, hC.cz hS, hM.cz⟩
end QT
