/-! Calls that nobody refuses: fault, status, count, undo, image, restore, feed. -/
theorem cz_sm {w : Wd} : Sm (fun κ b k => κ = 40 ∧ b = 0 ∧ k = 0) w (cl0 w) := sm_I
theorem IC.cz {P : Pv} {w : Wd} (h : IC P w) (hS : IS P) : IC P (cl0 w) := h.far hS cz_sm (fun κ b k q => by omega)
theorem IM.cz {P : Pv} {w : Wd} (h : IM P w) : IM P (cl0 w) := by
  refine h.gm (cz_sm.mono (fun κ b k q => by unfold GM; omega)) ?_
  rw [show (cl0 w).1 69 1 = w.1 69 1 from funext fun q => cz_sm.1 69 1 q (by omega)]
  exact h.1.2.2.1 1
section QD
variable {M : Mx} {G : Gx} {b L : Nat} {xs : Nat → Int32} {Qp : State → Prop} {n ns : Nat} {w : Wd} {i : Nat} {P : Pv}
theorem r_fault (F : FL M G b L xs) (hi : i + 9 ≤ L) (hL : L ≤ 576) (hn : n + 16 ≤ 600128) (hns : ns + 96 ≤ 7301098) (hS : IS P) (hC : IC P w) (hM : IM P w) (hK : ∀ w2, Iv w2 → ZL M G Qp (n + 16) (ns + 96) w2 2606 (lB G b i) []) : ZL M G Qp n ns w 529 (lB G b i) [] := by
  refine q_fault F hi hL hn hns (con_mono (c_fault F.2.2.2.2.2.2.2.2.1) ?_ (fun _ _ h => h)) hK
  rintro r w1 ⟨rfl, rfl⟩
  refine ⟨_, rfl, con_mono (m_fault F.2.2.2.2.2.2.2.2.1) ?_ (fun _ _ h => h)⟩
  rintro r w2 ⟨rfl, rfl⟩
  exact ⟨by rw [hC.1.2.2.2.1, hM.1.2.2.2.2.2.2.2.2.1], P, hS, hC.cz hS, hM.cz⟩
theorem r_status (F : FL M G b L xs) (hi : i + 9 ≤ L) (hL : L ≤ 576) (hn : n + 16 ≤ 600128) (hns : ns + 96 ≤ 7301098) (hS : IS P) (hC : IC P w) (hM : IM P w) (hK : ∀ w2, Iv w2 → ZL M G Qp (n + 16) (ns + 96) w2 2606 (lB G b i) []) : ZL M G Qp n ns w 2556 (lB G b i) [] := by
  refine q_status F hi hL hn hns (con_mono (c_status F.2.2.2.2.2.2.2.2.1) ?_ (fun _ _ h => h)) hK
  rintro r w1 ⟨rfl, rfl⟩
  refine ⟨_, rfl, con_mono (m_status F.2.2.2.2.2.2.2.2.1) ?_ (fun _ _ h => h)⟩
  rintro r w2 ⟨rfl, rfl⟩
  exact ⟨by rw [hC.2.1, hC.2.2, hM.2.1, hM.2.2], P, hS, hC.cz hS, hM.cz⟩
theorem r_count (F : FL M G b L xs) (hi : i + 9 ≤ L) (hL : L ≤ 576) (hn : n + 16 ≤ 600128) (hns : ns + 96 ≤ 7301098) (hS : IS P) (hC : IC P w) (hM : IM P w) (hK : ∀ w2, Iv w2 → ZL M G Qp (n + 16) (ns + 96) w2 2606 (lB G b i) []) : ZL M G Qp n ns w 2581 (lB G b i) [] := by
  refine q_count F hi hL hn hns (con_mono (c_count F.2.2.2.2.2.2.2.2.1) ?_ (fun _ _ h => h)) hK
  rintro r w1 ⟨rfl, rfl⟩
  refine ⟨_, rfl, con_mono (m_count F.2.2.2.2.2.2.2.2.1) ?_ (fun _ _ h => h)⟩
  rintro r w2 ⟨rfl, rfl⟩
  exact ⟨by rw [hC.1.1.2.2.2.1, hC.1.2.1, hC.1.1.2.2.1.1, hM.1.2.2.2.1, hM.1.2.2.2.2.2.2.1, hM.1.2.1.1], P, hS, hC.cz hS, hM.cz⟩
theorem vl_app {α : Type} {xs : List α} {i : Nat} {x y : α} (h : xs[i]? = some x) : (xs ++ [y])[i]? = some x := by
  rw [List.getElem?_append_left (vl_lt h)]
  exact h
theorem vl_end {α : Type} {xs : List α} {y : α} : (xs ++ [y])[xs.length]? = some y := by simp
theorem vl_or {α : Type} {xs : List α} {i : Nat} {x y : α} (h : (xs ++ [y])[i]? = some x) : xs[i]? = some x ∨ (i = xs.length ∧ x = y) := by
  by_cases hi : i < xs.length
  · rw [List.getElem?_append_left hi] at h
    exact Or.inl h
  · rw [List.getElem?_append_right (by omega)] at h
    have h1 := vl_lt h
    have e : i - xs.length = 0 := by simp at h1; omega
    rw [e] at h
    simp at h
    exact Or.inr ⟨by omega, h.symm⟩
theorem r_undo (F : FL M G b L xs) (hi : i + 9 ≤ L) (hL : L ≤ 576) (hn : n + 16 ≤ 600128) (hns : ns + 96 ≤ 7301098) (hS : IS P) (hC : IC P w) (hM : IM P w) (hK : ∀ w2, Iv w2 → ZL M G Qp (n + 16) (ns + 96) w2 2606 (lB G b i) []) : ZL M G Qp n ns w 542 (lB G b i) [] := by
  obtain ⟨T, E, σ, bf, ims, Lb, bb, z, p, r, f, t⟩ := P
  have hT : tN T ≤ 20 := hS.1.2.1
  rcases List.eq_nil_or_concat bf with rfl | ⟨bg, τ, e⟩
  · refine q_undo F hi hL hn hns (con_mono (c_undo0 F.2.2.2.2.2.2.2.2.1 hC.1.1.2.2.1) ?_ (fun _ _ h => h)) hK
    rintro r w1 ⟨rfl, rfl⟩
    refine ⟨_, rfl, con_mono (m_undo0 F.2.2.2.2.2.2.2.2.1 hM.1.2.1) ?_ (fun _ _ h => h)⟩
    rintro r w2 ⟨rfl, rfl⟩
    exact ⟨rfl, _, hS, hC.cz hS, hM.cz⟩
  · rw [List.concat_eq_append] at e
    subst e
    obtain ⟨s1, ⟨s2, s3⟩, s4, s5, s6, s7⟩ := hS
    have hlen : (bg ++ [τ]).length = bg.length + 1 := by simp
    have hS' : IS (T, E, τ, bg, ims, Lb, bb, z, p, 0, f, t) := ⟨s1, ⟨s3 bg.length τ vl_end, fun j τ' h => s3 j τ' (vl_app h)⟩, (by show bg.length ≤ 16; have s4' : (bg ++ [τ]).length ≤ 16 := s4; omega), s5, s6, s7⟩
    have hS0 : IS (T, E, σ, bg ++ [τ], ims, Lb, bb, z, p, r, f, t) := ⟨s1, ⟨s2, s3⟩, s4, s5, s6, s7⟩
    have hj1 : Jk τ := (s3 bg.length τ vl_end).1
    refine q_undo F hi hL hn hns (con_mono (c_undo1 F.2.2.2.2.2.2.2.2.1 hT hC.1.1.2.2.1) ?_ (fun _ _ h => h)) hK
    rintro r1 w1 ⟨rfl, k1, k2, k3⟩
    have hM1 := hM.near k3.sn (fun κ b k q => by unfold GL at q; omega)
    refine ⟨_, rfl, con_mono (m_undo1 F.2.2.2.2.2.2.2.2.1 hM1.1.2.1 s2.1 hj1) ?_ (fun _ _ h => h)⟩
    rintro r2 w2 ⟨rfl, g1, g2, g3, g4⟩
    refine ⟨rfl, (T, E, τ, bg, ims, Lb, bb, z, p, 0, f, t), hS', ?_, ?_⟩
    · have hC1 : IC (T, E, τ, bg, ims, Lb, bb, z, p, 0, f, t) w1 := by
        obtain ⟨⟨⟨c1, c2, c3, c4, c5, c6⟩, c7, c8, c9, c10⟩, c11, c12⟩ := hC
        have hg : ∀ κ b k, ¬ (GL 0 κ b k ∨ (κ = 0 ∧ b = 0 ∧ k = 13)) → w1.1 κ b k = w.1 κ b k := k3.1
        refine ⟨⟨⟨c1.mv k3 (fun κ b k q => by unfold GL; omega), (by unfold PC; rw [k3.2.2]; exact c2), k1, (hg 0 0 12 (by unfold GL; omega)).trans c4, fun j x hx => ?_, ?_⟩, (hg 1 0 0 (by unfold GL; omega)).trans c7, fun j hj => (hg 10 0 j (by unfold GL; omega)).trans (c8 j hj), (hg 1 0 2 (by unfold GL; omega)).trans c9, k2⟩, (hg 0 0 15 (by unfold GL; omega)).trans c11, (hg 0 0 16 (by unfold GL; omega)).trans c12⟩
        · exact (c5 j x hx).mv k3 (fun k => by unfold GL; omega) (fun κ b k q1 q2 q => by unfold GL; omega)
        · rw [k3.2.2]
          exact ⟨(hg 9 _ 0 (by unfold GL; omega)).trans c6.1, (hg 9 _ 1 (by unfold GL; omega)).trans c6.2⟩
      exact hC1.far hS' g4 (fun κ b k q => by omega)
    · obtain ⟨⟨c1, c2, c3, c4, c5, c6, c7, c8, c9, c10⟩, c11, c12⟩ := hM1
      have hg := g4.1
      refine ⟨⟨c1.mv g4 (fun κ b k q => by omega) (by omega), g1, fun j => ?_, (hg 40 0 36 (by omega)).trans c4, fun j x hx => ?_, ⟨(hg 40 0 33 (by omega)).trans c6.1, c6.2.1, fun j x hx => ⟨(hg 62 j 0 (by omega)).trans (c6.2.2 j x hx).1, (hg 62 j 1 (by omega)).trans (c6.2.2 j x hx).2⟩⟩, (hg 40 0 1 (by omega)).trans c7, fun j hj => (hg 41 0 j (by omega)).trans (c8 j hj), (hg 40 0 3 (by omega)).trans c9, g2⟩, (hg 42 0 0 (by omega)).trans c11, (hg 42 0 1 (by omega)).trans c12⟩
      · by_cases ej : j = 0
        · rw [ej, g1.2.2.1]; exact hj1
        · rw [show w2.1 69 j = w1.1 69 j from funext fun q => hg 69 j q (by omega)]; exact c3 j
      · obtain ⟨k1', k2', k3', k4'⟩ := c5 j x hx
        exact ⟨(hg 72 j 0 (by omega)).trans k1', k2', fun q hq => (hg 72 j _ (by omega)).trans (k3' q hq), fun a τ' ha q hq => (hg 72 j _ (by omega)).trans (k4' a τ' ha q hq)⟩
end QD
