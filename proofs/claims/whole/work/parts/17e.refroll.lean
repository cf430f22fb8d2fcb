/-! The reference reads a choir's text. -/
def RollR (w : Wd) (T : Tx) : Prop :=
  w.1 43 0 0 = nI (tS T) ∧ w.1 43 0 1 = nI (tN T) ∧ w.1 43 0 2 = nI (tL T) ∧ w.1 43 0 3 = tB T ∧ (∀ s, s < tS T → w.1 46 s 0 = sv T s ∧ w.1 46 s 1 = sp T s ∧ w.1 46 s 2 = sb T s) ∧
  (∀ n, n < tN T → w.1 50 n 0 = nv T n ∧ w.1 50 n 1 = nl T n) ∧ ∀ k, k < tL T → w.1 54 k 0 = kn T k ∧ w.1 54 k 1 = kv T k
def GQ (κ _b k : Nat) : Prop := (κ = 40 ∧ (k = 4 ∨ k = 5 ∨ k = 6 ∨ k = 7)) ∨ κ = 43 ∨ κ = 46 ∨ κ = 50 ∨ κ = 54
theorem GR_GQ : ∀ κ b k, GR κ b k → GQ κ b k := by
  intro κ b k h
  unfold GR at h
  unfold GQ
  omega
theorem GR4_GQ : ∀ κ b k, GR4 κ b k → GQ κ b k := fun κ b k h => GR_GQ κ b k (GR4_GR κ b k h)
theorem GR_40 : ∀ κ b k, GR κ b k → κ = 40 := fun _ _ _ h => h.1
theorem Sm.oth40 {S : Nat → Nat → Nat → Prop} {w w' : Wd} (h : Sm S w w') (hS : ∀ κ b k, S κ b k → κ = 40) {κ b k : Nat} (hκ : κ ≠ 40) : w'.1 κ b k = w.1 κ b k := h.1 κ b k (fun z => hκ (hS _ _ _ z))
theorem RM.row {w w' : Wd} {b : Nat → Nat} {n : Nat} {s : Rd} {κ j k : Nat} {v : Int32} (h : RM w b n s) (hw : w' = setI w κ j k v) (h1 : κ ≠ 40) (h10 : κ ≠ 41) : RM w' b n s :=
  h.mv (S := fun a _ _ => a = κ) (by rw [hw]; exact Sm.rf.set rfl) (fun _ _ z => h1 z.symm) (fun _ z => h10 z.symm)
theorem RollR.mv {w w' : Wd} {T : Tx} {S : Nat → Nat → Nat → Prop} (h : RollR w T) (hs : Sm S w w') (hn : ∀ κ b k, κ = 43 ∨ κ = 46 ∨ κ = 50 ∨ κ = 54 → ¬ S κ b k) : RollR w' T := by
  obtain ⟨h1, h2, h3, h4, h5, h6, h7⟩ := h
  have e : ∀ κ b k, (κ = 43 ∨ κ = 46 ∨ κ = 50 ∨ κ = 54) → w'.1 κ b k = w.1 κ b k := fun κ b k q => hs.1 κ b k (hn κ b k q)
  refine ⟨(e 43 0 0 (by omega)).trans h1, (e 43 0 1 (by omega)).trans h2, (e 43 0 2 (by omega)).trans h3, (e 43 0 3 (by omega)).trans h4, fun s q => ?_, fun n q => ?_, fun k q => ?_⟩
  · obtain ⟨a, b, c⟩ := h5 s q
    exact ⟨(e 46 s 0 (by omega)).trans a, (e 46 s 1 (by omega)).trans b, (e 46 s 2 (by omega)).trans c⟩
  · obtain ⟨a, b⟩ := h6 n q
    exact ⟨(e 50 n 0 (by omega)).trans a, (e 50 n 1 (by omega)).trans b⟩
  · obtain ⟨a, b⟩ := h7 k q
    exact ⟨(e 54 k 0 (by omega)).trans a, (e 54 k 1 (by omega)).trans b⟩
theorem ok_w0 : okL (wT 0) 19 9 14 7 5 18 := by unfold okL; decide +kernel
theorem ok_w1 : okL (wT 1) 14 15 20 5 0 0 := by unfold okL; decide +kernel
theorem ok_w2 : okL (wT 2) 12 9 11 5 0 0 := by unfold okL; decide +kernel
theorem ok_w3 : okL (wT 3) 18 5 19 20 0 0 := by unfold okL; decide +kernel
theorem nxW_0 {b : Nat → Nat} {n a : Nat} {L : List Nat} (ha : sk b n a = a) : nxW b n (0, a) L = isW b a (we b n a) L := by
  unfold nxW
  rw [decide_eq_true (show ((0, a) : Rd).1 = 0 from rfl), Bool.true_and]
  show isW b (sk b n a) (we b n (sk b n a)) L = _
  rw [ha]
section YD
variable {l : Launch} {G : Gx} {w : Wd} {b : Nat → Nat} {n a : Nat} {T : Tx}
theorem pkS_0 (ha : sk b n a = a) : pkS b n (0, a) = (0, a) := by
  unfold pkS
  rw [if_neg (fun z => z rfl)]
  show (0, sk b n a) = (0, a)
  rw [ha]
theorem m_kindHere (hl : l.stackTraces = false) (h : RM w b n (0, a)) (ha : sk b n a = a) : C_X10_kindHere l G w [.ref (G.2.1 40 0)] (fun r w' => r = some (.int (if kdC b a (we b n a) = 4 then -1 else nI (kdC b a (we b n a)))) ∧ RM w' b n (0, a) ∧ Sm GR4 w w') noX := by
  refine e_X10_kindHere hl (fun M kk hM hk F => ?_)
  subst hM
  refine con_iP (m_isWord hl ok_w0 h) (fun w2 k2 => ?_)
  rw [nxW_0 ha, bI_t]
  rw [pkS_0 ha] at k2
  refine ⟨fun c0 => ?_, fun c0 => ⟨?_, k2⟩⟩
  · refine con_iP (m_isWord hl ok_w1 k2.1) (fun w4 k4 => ?_)
    rw [nxW_0 ha, bI_t]
    rw [pkS_0 ha] at k4
    have k4' := And.intro k4.1 (k2.2.tr k4.2)
    refine ⟨fun c1 => ?_, fun c1 => ⟨?_, k4'⟩⟩
    · refine con_iP (m_isWord hl ok_w2 k4.1) (fun w6 k6 => ?_)
      rw [nxW_0 ha, bI_t]
      rw [pkS_0 ha] at k6
      have k6' := And.intro k6.1 (k4'.2.tr k6.2)
      refine ⟨fun c2 => ?_, fun c2 => ⟨?_, k6'⟩⟩
      · refine con_iP (m_isWord hl ok_w3 k6.1) (fun w8 k8 => ?_)
        rw [nxW_0 ha, bI_t]
        rw [pkS_0 ha] at k8
        have k8' := And.intro k8.1 (k6'.2.tr k8.2)
        refine ⟨fun c3 => ⟨?_, k8'⟩, fun c3 => ⟨?_, k8'⟩⟩
        · unfold kdC
          rw [c0, c1, c2, c3]
          rfl
        · have c3 : isW b a (we b n a) (wT 3) = true := by
            cases hq : isW b a (we b n a) (wT 3) with
            | false => exact absurd hq c3
            | true => rfl
          unfold kdC
          rw [c0, c1, c2, c3]
          rfl
      · have c2 : isW b a (we b n a) (wT 2) = true := by
          cases hq : isW b a (we b n a) (wT 2) with
          | false => exact absurd hq c2
          | true => rfl
        unfold kdC
        rw [c0, c1, c2]
        rfl
    · have c1 : isW b a (we b n a) (wT 1) = true := by
        cases hq : isW b a (we b n a) (wT 1) with
        | false => exact absurd hq c1
        | true => rfl
      unfold kdC
      rw [c0, c1]
      rfl
  · have c0 : isW b a (we b n a) (wT 0) = true := by
      cases hq : isW b a (we b n a) (wT 0) with
      | false => exact absurd hq c0
      | true => rfl
    unfold kdC
    rw [c0]
    rfl
theorem m_mostOf (hl : l.stackTraces = false) {k : Nat} (hk3 : k < 3) : C_X10_mostOf l G w [.int (nI k)] (fun r w' => r = some (.int (nI (if k = 0 then 7 else if k = 1 then 20 else 12))) ∧ w' = w) noX := by
  refine e_X10_mostOf hl (fun M kk hM hk F => ?_)
  have z0 : (nI k = 0) ↔ k = 0 := nI_eq (b := 0) (by omega) (by decide)
  have z1 : (nI k = 1) ↔ k = 1 := nI_eq (b := 1) (by omega) (by decide)
  rw [z0, z1]
  refine ⟨fun h0 => ⟨fun h1 => ⟨by rw [if_neg h0, if_neg h1]; rfl, rfl⟩, fun h1 => ⟨by rw [if_neg h0, if_pos (Classical.not_not.mp h1)]; rfl, rfl⟩⟩, fun h0 => ⟨by rw [if_pos (Classical.not_not.mp h0)]; rfl, rfl⟩⟩
end YD
