/-! Feeding: bytes, as the class holds them (signed) and as the reference does. -/
def sb8 (m : Nat) : Int32 := if m < 128 then nI m else nI m - 256
def byF (v : Int32) (k : Nat) : Nat := v.toBitVec.toNat / 2 ^ (24 - 8 * k) % 256
theorem sb8_i : ∀ m, m < 256 → (sb8 m).toInt = if m < 128 then (m : Int) else (m : Int) - 256 := by decide +kernel
theorem i2b_nat (y : Int32) : y.toInt8.toInt32 = sb8 (y.toBitVec.toNat % 256) := by
  apply Int32.toInt_inj.mp
  have hm : y.toBitVec.toNat % 256 < 256 := Nat.mod_lt _ (by decide)
  rw [lg_i2b_toInt, sb8_i _ hm]
  have e : y.toInt = (y.toBitVec.toNat : Int).bmod (2 ^ 32) := BitVec.toInt_eq_toNat_bmod _
  rw [e, Int.bmod_bmod_of_dvd (by decide), Int.bmod_def]
  split <;> split <;> omega
theorem nar_b (y : Int32) : vp_nar .byte (y.toInt8.toInt32) = y.toInt8.toInt32 := by
  have h := lg_i2b_range y
  show (y.toInt8.toInt32).toInt8.toInt32 = y.toInt8.toInt32
  exact lg_i2b_small h.1 h.2
theorem sh_toNat {x c : Int32} {k : Nat} (hc : (c.toUInt32 &&& Int32.toUInt32 31).toNat % 32 = k) : (sh x c).toBitVec.toNat = x.toBitVec.toNat / 2 ^ k := by
  unfold sh
  show (x.toUInt32 >>> (c.toUInt32 &&& Int32.toUInt32 31)).toNat = _
  rw [UInt32.toNat_shiftRight, hc, Nat.shiftRight_eq_div_pow]
  rfl
theorem hz_f4 : ∀ k, k < 4 → (¬ (24 : Int32) - 8 * nI k < 0) ∧ (24 : Int32) - 8 * nI k + -8 = 24 - 8 * nI (k + 1) ∧ (((24 : Int32) - 8 * nI k).toUInt32 &&& Int32.toUInt32 31).toNat % 32 = 24 - 8 * k := by decide +kernel
section FA
variable {l : Launch} {G : Gx} {w : Wd}
def GF (κ _b k : Nat) : Prop := κ = 10 ∨ (κ = 1 ∧ k = 0)
theorem c_add (hl : l.stackTraces = false) {v : Int32} {s : Nat} (hs : s + 4 ≤ 600) (e : w.1 1 0 0 = nI s) : C_X8_add l G w [.ref (G.2.1 1 0), .int v] (fun r w' => r = none ∧ w'.1 1 0 0 = nI (s + 4) ∧ (∀ k, k < 4 → w'.1 10 0 (s + k) = sb8 (byF v k)) ∧ (∀ i, i < s → w'.1 10 0 i = w.1 10 0 i) ∧ Sm GF w w') noX := by
  refine e_X8_add hl (fun M kk hM hk F => ?_)
  generalize hK : (fun r w' => r = none ∧ w'.1 1 0 0 = nI (s + 4) ∧ (∀ k, k < 4 → w'.1 10 0 (s + k) = sb8 (byF v k)) ∧ (∀ i, i < s → w'.1 10 0 i = w.1 10 0 i) ∧ Sm GF w w' : Option Value → Wd → Prop) = K
  refine up_to (P := fun k => ∀ w', Sm GF w w' → w'.1 1 0 0 = nI (s + k) → (∀ i, i < k → w'.1 10 0 (s + i) = sb8 (byF v i)) → (∀ i, i < s → w'.1 10 0 i = w.1 10 0 i) → Z M G 0 K noX w' 3 [some (.ref (G.2.1 1 0)), some (.int v), some (.int (24 - 8 * nI k))] []) 4 (fun k hk4 ih w' hs' e1 hb ho => ?_) (fun w' hs' e1 hb ho => ?_) w Sm.rf e (fun i hi => absurd hi (Nat.not_lt_zero _)) (fun _ _ => rfl)
  · obtain ⟨z1, z2, z3⟩ := hz_f4 k hk4
    refine b_X8_add_3 F hk ⟨fun hc => absurd hc z1, fun _ => ?_⟩
    rw [e1, nI_clamp (by omega)]
    refine ⟨fun hc => absurd hc (nI_ge (show s + k < 600 by omega) (by decide)), fun _ => ⟨vp_in_nI (by omega) (by decide), fun w1 hw1 w2 hw2 => ?_⟩⟩
    have ev : (v.toUInt32 >>> (((24 : Int32) - 8 * nI k).toUInt32 &&& Int32.toUInt32 31)).toInt32 = sh v (24 - 8 * nI k) := rfl
    rw [nar_b, ev, i2b_nat, sh_toNat z3] at hw1
    have e2 : w1.1 1 0 0 = nI (s + k) := by rw [hw1, setI_ne (by omega)]; exact e1
    rw [e2, ← nI_succ] at hw2
    rw [z2]
    refine ih w2 (by rw [hw2, hw1]; exact (hs'.set (Or.inl rfl)).set (Or.inr ⟨rfl, rfl⟩)) (by rw [hw2]; exact setI_eq _ _ _ _ _) (fun i hi => ?_) (fun i hi => ?_)
    · rw [hw2, setI_ne (by omega), hw1]
      by_cases hq : i = k
      · rw [hq, setI_eq]; rfl
      · rw [setI_ne (by omega)]
        exact hb i (by omega)
    · rw [hw2, setI_ne (by omega), hw1, setI_ne (by omega)]
      exact ho i hi
  · refine b_X8_add_3 F hk ⟨fun _ => by rw [← hK]; exact ⟨rfl, e1, hb, ho, hs'⟩, fun hc => absurd (by decide) hc⟩
end FA
