/-! The law's loop. -/
theorem and63 (v : Int32) : ∃ m, m < 64 ∧ v &&& 63 = nI m := by
  refine ⟨v.toBitVec.toNat % 64, Nat.mod_lt _ (by omega), ?_⟩
  apply Int32.toBitVec_inj.mp
  apply BitVec.eq_of_toNat_eq
  have e : (v &&& 63).toBitVec.toNat = v.toBitVec.toNat &&& 63 := by
    rw [Int32.toBitVec_and, BitVec.toNat_and]
    rfl
  rw [e]
  have m63 : ∀ n : Nat, n &&& 63 = n % 64 := fun n => Nat.and_two_pow_sub_one_eq_mod n 6
  rw [m63]
  have h : v.toBitVec.toNat % 64 < 2 ^ 32 := Nat.lt_of_lt_of_le (Nat.mod_lt _ (by omega)) (by decide)
  show _ = (BitVec.ofNat 32 (v.toBitVec.toNat % 64)).toNat
  rw [BitVec.toNat_ofNat, Nat.mod_eq_of_lt h]
theorem small9 : ∀ L, L < 9 → (nI L - 9).toInt < 0 := by decide
theorem ends9 {i L : Nat} (hi : i ≤ 1000) (hL : L ≤ 576) : nI L - 9 < nI i ↔ ¬ i + 9 ≤ L := by
  by_cases h : 9 ≤ L
  · have e : nI L - 9 = nI (L - 9) := by
      have := nI_subc (L - 9) 9
      rw [show L - 9 + 9 = L by omega] at this
      exact this
    rw [e, nI_ltI (by omega) (by omega)]
    omega
  · rw [Int32.lt_iff_toInt_lt, nI_toInt (by omega)]
    have := small9 L (by omega)
    omega
section LP
variable {M : Mx} {G : Gx} {b L : Nat} {xs : Nat → Int32} {Qp : State → Prop}
theorem r_step (F : FL M G b L xs) {n ns : Nat} {w : Wd} {i : Nat} (hi : i + 9 ≤ L) (hL : L ≤ 576) (hn : n + 16 ≤ 600128) (hns : ns + 96 ≤ 7301098) (hI : Iv w) (hK : ∀ w2, Iv w2 → ZL M G Qp (n + 16) (ns + 96) w2 2606 (lB G b i) []) : ZL M G Qp n ns w 33 (lB G b i) [] := by
  obtain ⟨P, hS, hC, hM⟩ := hI
  refine l_aload_n F dL_law__33 rfl ?_
  refine l_iload F dL_law__34 rfl ?_
  refine l_sld F i (nI_clamp (by omega)) (nI_pos (by omega)) (by omega) dL_law__36 ?_
  refine l_bipush F 63 dL_law__37 (by decide) ?_
  refine l_iand F dL_law__39 ?_
  obtain ⟨m, hm, e⟩ := and63 (xs i)
  rw [e]
  match m, hm with
  | 0, _ => exact l_tabIn F 232 dL_law__40 (by decide) (by decide) rfl (by decide) (r_feed F hi hL hn hns hS hC hM hK)
  | 1, _ => exact l_tabIn F 305 dL_law__40 (by decide) (by decide) rfl (by decide) (r_choir F hi hL hn hns hS hC hM hK)
  | 2, _ => exact l_tabIn F 361 dL_law__40 (by decide) (by decide) rfl (by decide) (r_law F hi hL hn hns hS hC hM hK)
  | 3, _ => exact l_tabIn F 417 dL_law__40 (by decide) (by decide) rfl (by decide) (r_work F hi hL hn hns hS hC hM hK)
  | 4, _ => exact l_tabIn F 473 dL_law__40 (by decide) (by decide) rfl (by decide) (r_book F hi hL hn hns hS hC hM hK)
  | 5, _ => exact l_tabIn F 529 dL_law__40 (by decide) (by decide) rfl (by decide) (r_fault F hi hL hn hns hS hC hM hK)
  | 6, _ => exact l_tabIn F 542 dL_law__40 (by decide) (by decide) rfl (by decide) (r_undo F hi hL hn hns hS hC hM hK)
  | 7, _ => exact l_tabIn F 555 dL_law__40 (by decide) (by decide) rfl (by decide) (r_told F hi hL hn hns hS hC hM hK)
  | 8, _ => exact l_tabIn F 611 dL_law__40 (by decide) (by decide) rfl (by decide) (r_singer F hi hL hn hns hS hC hM hK)
  | 9, _ => exact l_tabIn F 679 dL_law__40 (by decide) (by decide) rfl (by decide) (r_note F hi hL hn hns hS hC hM hK)
  | 10, _ => exact l_tabIn F 747 dL_law__40 (by decide) (by decide) rfl (by decide) (r_like F hi hL hn hns hS hC hM hK)
  | 11, _ => exact l_tabIn F 815 dL_law__40 (by decide) (by decide) rfl (by decide) (r_takes F hi hL hn hns hS hC hM hK)
  | 12, _ => exact l_tabIn F 883 dL_law__40 (by decide) (by decide) rfl (by decide) (r_would F hi hL hn hns hS hC hM hK)
  | 13, _ => exact l_tabIn F 1029 dL_law__40 (by decide) (by decide) rfl (by decide) (r_ahead F hi hL hn hns hS hC hM hK)
  | 14, _ => exact l_tabIn F 1097 dL_law__40 (by decide) (by decide) rfl (by decide) (r_cast F hi hL hn hns hS hC hM hK)
  | 15, _ => exact l_tabIn F 1110 dL_law__40 (by decide) (by decide) rfl (by decide) (r_handed F hi hL hn hns hS hC hM hK)
  | 16, _ => exact l_tabIn F 1178 dL_law__40 (by decide) (by decide) rfl (by decide) (r_bench F hi hL hn hns hS hC hM hK)
  | 17, _ => exact l_tabIn F 1191 dL_law__40 (by decide) (by decide) rfl (by decide) (r_benched F hi hL hn hns hS hC hM hK)
  | 18, _ => exact l_tabIn F 1247 dL_law__40 (by decide) (by decide) rfl (by decide) (r_wording F hi hL hn hns hS hC hM hK)
  | 19, _ => exact l_tabIn F 1260 dL_law__40 (by decide) (by decide) rfl (by decide) (r_wordings F hi hL hn hns hS hC hM hK)
  | 20, _ => exact l_tabIn F 1315 dL_law__40 (by decide) (by decide) rfl (by decide) (r_who F hi hL hn hns hS hC hM hK)
  | 21, _ => exact l_tabIn F 1371 dL_law__40 (by decide) (by decide) rfl (by decide) (r_listen F hi hL hn hns hS hC hM hK)
  | 22, _ => exact l_tabIn F 1427 dL_law__40 (by decide) (by decide) rfl (by decide) (r_duty F hi hL hn hns hS hC hM hK)
  | 23, _ => exact l_tabIn F 1483 dL_law__40 (by decide) (by decide) rfl (by decide) (r_range F hi hL hn hns hS hC hM hK)
  | 24, _ => exact l_tabIn F 1539 dL_law__40 (by decide) (by decide) rfl (by decide) (r_quarrel F hi hL hn hns hS hC hM hK)
  | 25, _ => exact l_tabIn F 1619 dL_law__40 (by decide) (by decide) rfl (by decide) (r_enough F hi hL hn hns hS hC hM hK)
  | 26, _ => exact l_tabIn F 1710 dL_law__40 (by decide) (by decide) rfl (by decide) (r_rent F hi hL hn hns hS hC hM hK)
  | 27, _ => exact l_tabIn F 1790 dL_law__40 (by decide) (by decide) rfl (by decide) (r_dearest F hi hL hn hns hS hC hM hK)
  | 28, _ => exact l_tabIn F 1846 dL_law__40 (by decide) (by decide) rfl (by decide) (r_voices F hi hL hn hns hS hC hM hK)
  | 29, _ => exact l_tabIn F 1902 dL_law__40 (by decide) (by decide) rfl (by decide) (r_sounds F hi hL hn hns hS hC hM hK)
  | 30, _ => exact l_tabIn F 1958 dL_law__40 (by decide) (by decide) rfl (by decide) (r_beats F hi hL hn hns hS hC hM hK)
  | 31, _ => exact l_tabIn F 2014 dL_law__40 (by decide) (by decide) rfl (by decide) (r_words F hi hL hn hns hS hC hM hK)
  | 32, _ => exact l_tabIn F 2070 dL_law__40 (by decide) (by decide) rfl (by decide) (r_mute F hi hL hn hns hS hC hM hK)
  | 33, _ => exact l_tabIn F 2083 dL_law__40 (by decide) (by decide) rfl (by decide) (r_idle F hi hL hn hns hS hC hM hK)
  | 34, _ => exact l_tabIn F 2096 dL_law__40 (by decide) (by decide) rfl (by decide) (r_alone F hi hL hn hns hS hC hM hK)
  | 35, _ => exact l_tabIn F 2152 dL_law__40 (by decide) (by decide) rfl (by decide) (r_longest F hi hL hn hns hS hC hM hK)
  | 36, _ => exact l_tabIn F 2208 dL_law__40 (by decide) (by decide) rfl (by decide) (r_chorus F hi hL hn hns hS hC hM hK)
  | 37, _ => exact l_tabIn F 2264 dL_law__40 (by decide) (by decide) rfl (by decide) (r_spare F hi hL hn hns hS hC hM hK)
  | 38, _ => exact l_tabIn F 2320 dL_law__40 (by decide) (by decide) rfl (by decide) (r_sunday F hi hL hn hns hS hC hM hK)
  | 39, _ => exact l_tabIn F 2412 dL_law__40 (by decide) (by decide) rfl (by decide) (r_span F hi hL hn hns hS hC hM hK)
  | 40, _ => exact l_tabIn F 2530 dL_law__40 (by decide) (by decide) rfl (by decide) (r_image F hi hL hn hns hS hC hM hK)
  | 41, _ => exact l_tabIn F 2543 dL_law__40 (by decide) (by decide) rfl (by decide) (r_restore F hi hL hn hns hS hC hM hK)
  | 42, _ => exact l_tabIn F 2556 dL_law__40 (by decide) (by decide) rfl (by decide) (r_status F hi hL hn hns hS hC hM hK)
  | 43, _ => exact l_tabIn F 2581 dL_law__40 (by decide) (by decide) rfl (by decide) (r_count F hi hL hn hns hS hC hM hK)
  | m + 44, hm => exact l_tabOut F 2606 dL_law__40 (Or.inr (by rw [nI_toInt (by omega)]; omega)) (by decide) (l_widen (hK w ⟨P, hS, hC, hM⟩) (by omega) (by omega))
theorem r_loop (F : FL M G b L xs) (hL : L ≤ 576) (hend : ∀ n ns w i, n ≤ 600128 → ns ≤ 7301098 → ZL M G Qp n ns w 2612 (lB G b i) []) : ∀ (f i n ns : Nat) (w : Wd), L < i + 9 * (f + 1) → i ≤ 585 → n + 16 * f ≤ 600128 → ns + 96 * f ≤ 7301098 → Iv w → ZL M G Qp n ns w 23 (lB G b i) [] := by
  intro f
  induction f with
  | zero =>
    intro i n ns w h1 h2 h3 h4 hI
    refine l_iload F dL_law__23 rfl ?_
    refine l_aload_n F dL_law__25 rfl ?_
    refine l_slen F dL_law__26 ?_
    refine l_bipush F 9 dL_law__27 (by decide) ?_
    refine l_isub F dL_law__29 ?_
    refine l_icmp_gt F 2612 dL_law__30 (by decide) ⟨fun _ => hend n ns w i (by omega) (by omega), fun hc => absurd ((ends9 (by omega) hL).mpr (by omega)) hc⟩
  | succ f ih =>
    intro i n ns w h1 h2 h3 h4 hI
    refine l_iload F dL_law__23 rfl ?_
    refine l_aload_n F dL_law__25 rfl ?_
    refine l_slen F dL_law__26 ?_
    refine l_bipush F 9 dL_law__27 (by decide) ?_
    refine l_isub F dL_law__29 ?_
    refine l_icmp_gt F 2612 dL_law__30 (by decide) ⟨fun _ => hend n ns w i (by omega) (by omega), fun hc => ?_⟩
    have hi : i + 9 ≤ L := Classical.not_not.mp (fun q => hc ((ends9 (by omega) hL).mpr q))
    refine r_step F hi hL (by omega) (by omega) hI (fun w2 hI2 => ?_)
    refine l_iinc F (nI (i + 9)) dL_law__2606 rfl (nI_add i 9) (by show 4 < 8; decide) ?_
    show ZL M G Qp (n + 16) (ns + 96) w2 2609 (lB G b (i + 9)) []
    exact l_goto F 23 dL_law__2609 (by decide) (ih (i + 9) (n + 16) (ns + 96) w2 (by omega) (by omega) (by omega) (by omega) hI2)
end LP
