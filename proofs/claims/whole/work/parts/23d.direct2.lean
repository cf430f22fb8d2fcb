/-! image, restore, feed. -/
section QD
variable {M : Mx} {G : Gx} {b L : Nat} {xs : Nat → Int32} {Qp : State → Prop} {n ns : Nat} {w : Wd} {i : Nat} {P : Pv}
theorem r_image (F : FL M G b L xs) (hi : i + 9 ≤ L) (hL : L ≤ 576) (hn : n + 16 ≤ 600128) (hns : ns + 96 ≤ 7301098) (hS : IS P) (hC : IC P w) (hM : IM P w) (hK : ∀ w2, Iv w2 → ZL M G Qp (n + 16) (ns + 96) w2 2606 (lB G b i) []) : ZL M G Qp n ns w 2530 (lB G b i) [] := by
  obtain ⟨T, E, σ, bf, ims, Lb, bb, z, p, r, f, t⟩ := P
  have hT : tN T ≤ 20 := hS.1.2.1
  have h3 : ims.length ≤ 3 := hS.2.2.2.1
  have h12 : w.1 0 0 12 = nI ims.length := hC.1.1.2.2.2.1
  by_cases e : ims.length = 3
  · refine q_image F hi hL hn hns (con_mono (c_image3 F.2.2.2.2.2.2.2.2.1 (by rw [h12, e])) ?_ (fun _ _ h => h)) hK
    rintro r w1 ⟨rfl, rfl⟩
    have h36 : w1.1 40 0 36 = nI ims.length := hM.1.2.2.2.1
    refine ⟨_, rfl, con_mono (m_image3 F.2.2.2.2.2.2.2.2.1 (by rw [h36, e])) ?_ (fun _ _ h => h)⟩
    rintro r w2 ⟨rfl, rfl⟩
    exact ⟨rfl, _, hS, hC.cz hS, hM.cz⟩
  · have hlt : ims.length < 3 := by omega
    obtain ⟨s1, s2, s4, s5, s6, s7⟩ := hS
    have hlen : (ims ++ [(σ, bf)]).length = ims.length + 1 := by simp
    have hS' : IS (T, E, σ, bf, ims ++ [(σ, bf)], Lb, bb, z, p, r, f, t) := ⟨s1, s2, s4, (by show (ims ++ [(σ, bf)]).length ≤ 3; omega), fun j x hx => by
      rcases vl_or hx with h | ⟨-, rfl⟩
      · exact s6 j x h
      · exact ⟨s2, s4⟩, s7⟩
    refine q_image F hi hL hn hns (con_mono (c_image F.2.2.2.2.2.2.2.2.1 hT hlt h12 hC.1.1.2.2.1) ?_ (fun _ _ h => h)) hK
    rintro r1 w1 ⟨rfl, k1, k2, k3⟩
    have hM1 := hM.near k3.sn (fun κ b k q => by unfold GL at q; omega)
    have h36 : w1.1 40 0 36 = nI ims.length := hM1.1.2.2.2.1
    refine ⟨_, rfl, con_mono (m_image F.2.2.2.2.2.2.2.2.1 hlt h36 hM1.1.2.1) ?_ (fun _ _ h => h)⟩
    rintro r2 w2 ⟨rfl, g1, g2, g3, g4⟩
    refine ⟨rfl, (T, E, σ, bf, ims ++ [(σ, bf)], Lb, bb, z, p, r, f, t), hS', ?_, ?_⟩
    · have hC1 : IC (T, E, σ, bf, ims ++ [(σ, bf)], Lb, bb, z, p, r, f, t) w1 := by
        obtain ⟨⟨⟨c1, c2, c3, c4, c5, c6⟩, c7, c8, c9, c10⟩, c11, c12⟩ := hC
        have hg := k3.1
        refine ⟨⟨⟨c1.mv k3 (fun κ b k q => by unfold GL; omega), (by unfold PC; rw [k3.2.2]; exact c2), c3.mv k3 (fun k => by unfold GL; omega) (fun κ b k q1 q2 q => by unfold GL; omega), (by show w1.1 0 0 12 = nI (ims ++ [(σ, bf)]).length; rw [hlen]; exact k1), fun j x hx => ?_, ?_⟩, (hg 1 0 0 (by unfold GL; omega)).trans c7, fun j hj => (hg 10 0 j (by unfold GL; omega)).trans (c8 j hj), (hg 1 0 2 (by unfold GL; omega)).trans c9, (hg 0 0 13 (by unfold GL; omega)).trans c10⟩, (hg 0 0 15 (by unfold GL; omega)).trans c11, (hg 0 0 16 (by unfold GL; omega)).trans c12⟩
        · rcases vl_or hx with h | ⟨rfl, rfl⟩
          · have hj := vl_lt h
            exact (c5 j x h).mv k3 (fun k => by unfold GL; omega) (fun κ b k q1 q2 q => by unfold GL; omega)
          · exact k2
        · rw [k3.2.2]
          exact ⟨(hg 9 _ 0 (by unfold GL; omega)).trans c6.1, (hg 9 _ 1 (by unfold GL; omega)).trans c6.2⟩
      exact hC1.far hS' g4 (fun κ b k q => by omega)
    · obtain ⟨⟨c1, c2, c3, c4, c5, c6, c7, c8, c9, c10⟩, c11, c12⟩ := hM1
      have hg := g4.1
      have h69 : ∀ j, w2.1 69 j = w1.1 69 j := fun j => funext fun q => hg 69 j q (by omega)
      refine ⟨⟨c1.mv g4 (fun κ b k q => by omega) (by omega), ⟨(hg 40 0 34 (by omega)).trans c2.1, c2.2.1, (h69 0).trans c2.2.2.1, fun j τ h => (h69 _).trans (c2.2.2.2 j τ h)⟩, fun j => by rw [h69]; exact c3 j, (by show w2.1 40 0 36 = nI (ims ++ [(σ, bf)]).length; rw [hlen]; exact g1), fun j x hx => ?_, ⟨(hg 40 0 33 (by omega)).trans c6.1, c6.2.1, fun j x hx => ⟨(hg 62 j 0 (by omega)).trans (c6.2.2 j x hx).1, (hg 62 j 1 (by omega)).trans (c6.2.2 j x hx).2⟩⟩, (hg 40 0 1 (by omega)).trans c7, fun j hj => (hg 41 0 j (by omega)).trans (c8 j hj), (hg 40 0 3 (by omega)).trans c9, (hg 40 0 35 (by omega)).trans c10⟩, (hg 42 0 0 (by omega)).trans c11, (hg 42 0 1 (by omega)).trans c12⟩
      rcases vl_or hx with h | ⟨rfl, rfl⟩
      · have hj := vl_lt h
        obtain ⟨k1', k2', k3', k4'⟩ := c5 j x h
        exact ⟨(hg 72 j 0 (by omega)).trans k1', k2', fun q hq => (hg 72 j _ (by omega)).trans (k3' q hq), fun a τ' ha q hq => (hg 72 j _ (by omega)).trans (k4' a τ' ha q hq)⟩
      · exact g2
theorem r_restore (F : FL M G b L xs) (hi : i + 9 ≤ L) (hL : L ≤ 576) (hn : n + 16 ≤ 600128) (hns : ns + 96 ≤ 7301098) (hS : IS P) (hC : IC P w) (hM : IM P w) (hK : ∀ w2, Iv w2 → ZL M G Qp (n + 16) (ns + 96) w2 2606 (lB G b i) []) : ZL M G Qp n ns w 2543 (lB G b i) [] := by
  obtain ⟨T, E, σ, bf, ims, Lb, bb, z, p, r, f, t⟩ := P
  have hT : tN T ≤ 20 := hS.1.2.1
  have h3 : ims.length ≤ 3 := hS.2.2.2.1
  have h12 : w.1 0 0 12 = nI ims.length := hC.1.1.2.2.2.1
  have h36 : w.1 40 0 36 = nI ims.length := hM.1.2.2.2.1
  rcases List.eq_nil_or_concat ims with rfl | ⟨is, ⟨σ', bg⟩, e⟩
  · refine q_restore F hi hL hn hns (con_mono (c_restore0 F.2.2.2.2.2.2.2.2.1 h12) ?_ (fun _ _ h => h)) hK
    rintro r w1 ⟨rfl, rfl⟩
    refine ⟨_, rfl, con_mono (m_restore0 F.2.2.2.2.2.2.2.2.1 h36) ?_ (fun _ _ h => h)⟩
    rintro r w2 ⟨rfl, rfl⟩
    exact ⟨rfl, _, hS, hC.cz hS, hM.cz⟩
  · rw [List.concat_eq_append] at e
    subst e
    have hlen : (is ++ [(σ', bg)]).length = is.length + 1 := by simp
    rw [hlen] at h3 h12 h36
    obtain ⟨s1, s2, s4, s5, s6, s7⟩ := hS
    obtain ⟨o1, o2⟩ := s6 is.length (σ', bg) vl_end
    have hS' : IS (T, E, σ', bg, is, Lb, bb, z, p, 0, f, t) := ⟨s1, o1, o2, (by show is.length ≤ 3; omega), fun j x hx => s6 j x (vl_app hx), s7⟩
    refine q_restore F hi hL hn hns (con_mono (c_restore F.2.2.2.2.2.2.2.2.1 hT (by omega) h12 (hC.1.1.2.2.2.2.1 is.length (σ', bg) vl_end)) ?_ (fun _ _ h => h)) hK
    rintro r1 w1 ⟨rfl, k1, k0, k2, k3⟩
    have hM1 := hM.near k3.sn (fun κ b k q => by unfold GU GL at q; omega)
    have h36' : w1.1 40 0 36 = nI (is.length + 1) := (k3.1 40 0 36 (by unfold GU GL; omega)).trans h36
    refine ⟨_, rfl, con_mono (m_restore F.2.2.2.2.2.2.2.2.1 (by omega) h36' (hM1.1.2.2.2.2.1 is.length (σ', bg) vl_end) o1.1.1 (fun a τ h => (o1.2 a τ h).1) hM1.1.2.2.1) ?_ (fun _ _ h => h)⟩
    rintro r2 w2 ⟨rfl, g1, g2, g3, g5, g6, g4⟩
    refine ⟨rfl, (T, E, σ', bg, is, Lb, bb, z, p, 0, f, t), hS', ?_, ?_⟩
    · have hC1 : IC (T, E, σ', bg, is, Lb, bb, z, p, 0, f, t) w1 := by
        obtain ⟨⟨⟨c1, c2, c3, c4, c5, c6⟩, c7, c8, c9, c10⟩, c11, c12⟩ := hC
        have hg := k3.1
        refine ⟨⟨⟨c1.mv k3 (fun κ b k q => by unfold GU GL; omega), (by unfold PC; rw [k3.2.2]; exact c2), k2, k1, fun j x hx => ?_, ?_⟩, (hg 1 0 0 (by unfold GU GL; omega)).trans c7, fun j hj => (hg 10 0 j (by unfold GU GL; omega)).trans (c8 j hj), (hg 1 0 2 (by unfold GU GL; omega)).trans c9, k0⟩, (hg 0 0 15 (by unfold GU GL; omega)).trans c11, (hg 0 0 16 (by unfold GU GL; omega)).trans c12⟩
        · exact (c5 j x (vl_app hx)).mv k3 (fun k => by unfold GU GL; omega) (fun κ b k q1 q2 q => by unfold GU GL; omega)
        · rw [k3.2.2]
          exact ⟨(hg 9 _ 0 (by unfold GU GL; omega)).trans c6.1, (hg 9 _ 1 (by unfold GU GL; omega)).trans c6.2⟩
      exact hC1.far hS' g4 (fun κ b k q => by omega)
    · obtain ⟨⟨c1, c2, c3, c4, c5, c6, c7, c8, c9, c10⟩, c11, c12⟩ := hM1
      have hg := g4.1
      refine ⟨⟨c1.mv g4 (fun κ b k q => by omega) (by omega), g3, g5, g1, fun j x hx => ?_, ⟨(hg 40 0 33 (by omega)).trans c6.1, c6.2.1, fun j x hx => ⟨(hg 62 j 0 (by omega)).trans (c6.2.2 j x hx).1, (hg 62 j 1 (by omega)).trans (c6.2.2 j x hx).2⟩⟩, (hg 40 0 1 (by omega)).trans c7, fun j hj => (hg 41 0 j (by omega)).trans (c8 j hj), (hg 40 0 3 (by omega)).trans c9, g2⟩, (hg 42 0 0 (by omega)).trans c11, (hg 42 0 1 (by omega)).trans c12⟩
      obtain ⟨k1', k2', k3', k4'⟩ := c5 j x (vl_app hx)
      exact ⟨(hg 72 j 0 (by omega)).trans k1', k2', fun q hq => (hg 72 j _ (by omega)).trans (k3' q hq), fun a τ' ha q hq => (hg 72 j _ (by omega)).trans (k4' a τ' ha q hq)⟩
end QD
