/-! Feed, both. -/
def fdP (a b c d e : Int32) (k : Nat) : Int32 := if k < 4 then a else if k < 8 then b else if k < 12 then c else if k < 16 then d else e
def fdF (a b c d e : Int32) (k : Nat) : Nat := byF (fdP a b c d e k) (k % 4)
theorem ar_byte {v c : Int32} {s : Nat} (hc : ((c &&& 31).toBitVec.smod 32).toNat = s) (hs : s ≤ 24) : (v >>> (c &&& 31)) &&& 255 = nI (v.toBitVec.toNat / 2 ^ s % 256) := by
  apply Int32.toBitVec_inj.mp
  rw [Int32.toBitVec_and, Int32.toBitVec_shiftRight]
  show BitVec.sshiftRight v.toBitVec ((c &&& 31).toBitVec.smod 32).toNat &&& (255 : Int32).toBitVec = BitVec.ofNat 32 (v.toBitVec.toNat / 2 ^ s % 256)
  rw [hc]
  apply BitVec.eq_of_getLsbD_eq
  intro i hi
  have hm : ∀ i, i < 32 → (255 : Int32).toBitVec.getLsbD i = decide (i < 8) := by decide
  rw [BitVec.getLsbD_and, BitVec.getLsbD_sshiftRight, hm i hi, BitVec.getLsbD_ofNat, decide_eq_true hi, Bool.true_and, show 256 = 2 ^ 8 from rfl, Nat.testBit_mod_two_pow, Nat.testBit_div_two_pow]
  by_cases h8 : i < 8
  · rw [decide_eq_true h8, Bool.and_true, Bool.true_and, decide_eq_false (by omega), Bool.not_false, Bool.true_and, if_pos (by omega), Nat.add_comm]
    rfl
  · rw [decide_eq_false h8, Bool.and_false, Bool.false_and]
theorem hz_f5 : ∀ j, j < 4 → ((((24 : Int32) - 8 * nI j) &&& 31).toBitVec.smod 32).toNat = 24 - 8 * j := by decide +kernel
section FB
variable {l : Launch} {G : Gx} {w : Wd} {a b c d e : Int32} {s : Nat}
theorem c_feed0 (hl : l.stackTraces = false) (h0 : w.1 1 0 0 = nI s) (h6 : s ≤ 600) (hs : 600 < s + 20) : C_X9_feed l G w [.ref (G.2.1 0 0), .int a, .int b, .int c, .int d, .int e] (fun r w' => r = some (.int (-1)) ∧ w' = w) noX := by
  refine e_X9_feed hl (fun M kk hM hk F => ?_)
  have e20 : w.1 1 0 0 + (20 : Int32) = nI (s + 20) := by rw [h0]; exact nI_add s 20
  rw [e20]
  exact ⟨fun hc => absurd hc (nI_ge hs (by omega)), fun _ => ⟨rfl, rfl⟩⟩
theorem c_feed (hl : l.stackTraces = false) (h0 : w.1 1 0 0 = nI s) (hs : s + 20 ≤ 600) : C_X9_feed l G w [.ref (G.2.1 0 0), .int a, .int b, .int c, .int d, .int e] (fun r w' => r = some (.int (nI (s + 20))) ∧ w'.1 1 0 0 = nI (s + 20) ∧ (∀ k, k < 20 → w'.1 10 0 (s + k) = sb8 (fdF a b c d e k)) ∧ (∀ i, i < s → w'.1 10 0 i = w.1 10 0 i) ∧ Sm GF w w') noX := by
  refine e_X9_feed hl (fun M kk hM hk F => ?_)
  subst hM
  have e20 : w.1 1 0 0 + (20 : Int32) = nI (s + 20) := by rw [h0]; exact nI_add s 20
  rw [e20]
  refine ⟨fun _ => ?_, fun hc => absurd (nI_le hs (by decide)) hc⟩
  refine con_vP (c_add hl (s := s) (by omega) h0) (fun w1 k1 => ?_)
  refine con_vP (c_add hl (s := s + 4) (by omega) k1.1) (fun w2 k2 => ?_)
  refine con_vP (c_add hl (s := s + 4 + 4) (by omega) k2.1) (fun w3 k3 => ?_)
  refine con_vP (c_add hl (s := s + 4 + 4 + 4) (by omega) k3.1) (fun w4 k4 => ?_)
  refine con_vP (c_add hl (s := s + 4 + 4 + 4 + 4) (by omega) k4.1) (fun w5 k5 => ?_)
  refine ⟨by rw [k5.1], k5.1, fun k hk => ?_, fun i hi => ?_, (((k1.2.2.2.tr k2.2.2.2).tr k3.2.2.2).tr k4.2.2.2).tr k5.2.2.2⟩
  · unfold fdF fdP
    by_cases h1 : k < 4
    · rw [if_pos h1, show k % 4 = k by omega, k5.2.2.1 _ (by omega), k4.2.2.1 _ (by omega), k3.2.2.1 _ (by omega), k2.2.2.1 _ (by omega)]
      exact k1.2.1 k h1
    · by_cases h2 : k < 8
      · rw [if_neg h1, if_pos h2, show k % 4 = k - 4 by omega, show s + k = s + 4 + (k - 4) by omega, k5.2.2.1 _ (by omega), k4.2.2.1 _ (by omega), k3.2.2.1 _ (by omega)]
        exact k2.2.1 (k - 4) (by omega)
      · by_cases h3 : k < 12
        · rw [if_neg h1, if_neg h2, if_pos h3, show k % 4 = k - 8 by omega, show s + k = s + 4 + 4 + (k - 8) by omega, k5.2.2.1 _ (by omega), k4.2.2.1 _ (by omega)]
          exact k3.2.1 (k - 8) (by omega)
        · by_cases h4 : k < 16
          · rw [if_neg h1, if_neg h2, if_neg h3, if_pos h4, show k % 4 = k - 12 by omega, show s + k = s + 4 + 4 + 4 + (k - 12) by omega, k5.2.2.1 _ (by omega)]
            exact k4.2.1 (k - 12) (by omega)
          · rw [if_neg h1, if_neg h2, if_neg h3, if_neg h4, show k % 4 = k - 16 by omega, show s + k = s + 4 + 4 + 4 + 4 + (k - 16) by omega]
            exact k5.2.1 (k - 16) (by omega)
  · rw [k5.2.2.1 _ (by omega), k4.2.2.1 _ (by omega), k3.2.2.1 _ (by omega), k2.2.2.1 _ (by omega)]
    exact k1.2.2.1 i hi
end FB
