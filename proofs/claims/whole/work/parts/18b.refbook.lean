/-! The reference: book. -/
section BB
variable {l : Launch} {G : Gx} {w : Wd} {b : Nat → Nat} {n sz : Nat} {T : Tx} {p0 : Int32}
theorem bad_T2 {sz most : Nat} (p0 : Int32) : okT p0 most sz = false ↔ ((decide ((0 : Int32) ≤ p0) && decide (p0 ≤ nI sz)) = false ∨ ¬ p0 ≤ nI most) := by
  unfold okT okB
  by_cases h1 : (0 : Int32) ≤ p0
  · by_cases h2 : p0 ≤ nI sz
    · by_cases h3 : p0 ≤ nI most
      · simp [h1, h2, h3]
      · simp [h1, h2, h3]
    · simp [h1, h2]
  · simp [h1]
theorem m_bookX (hl : l.stackTraces = false) (h1 : w.1 40 0 1 = nI sz) (hx : okT p0 60 sz = false) : C_X10_book l G w [.ref (G.2.1 40 0), .int p0] (fun r w' => (∃ v : Int32, r = some (.int v)) ∧ w' = bpM (cl0 w) 1 1) noX := by
  refine e_X10_book hl (fun M kk hM hk F => ?_)
  subst hM
  rintro _ rfl
  have e1 : (setI w 40 0 0 0).1 40 0 1 = nI sz := (setI_ne (by omega)).trans h1
  rw [e1]
  refine con_i (m_in hl) ?_
  have go : Z M G 0 (fun r w' => (∃ v : Int32, r = some (Value.int v)) ∧ w' = bpM (cl0 w) 1 1) noX (setI w 40 0 0 0) 24 [some (.ref (G.2.1 40 0)), some (.int p0), none, none, none, none, none] [.ref (G.2.1 40 0)] := by
    refine b_X10_book_24 F hk (b_X10_book_29 F hk (con_bad hl (b := true) (rs := 1) (setI_eq _ _ _ _ _) (by decide) (by decide) (fun h => absurd h (by decide)) (fun _ => ⟨fun h => absurd h (by decide), fun _ => ⟨⟨0, rfl⟩, rfl⟩⟩)))
  rw [bI_t]
  refine ⟨fun _ => go, fun hc => ⟨fun hc2 => ?_, fun _ => go⟩⟩
  rcases (bad_T2 (most := 60) p0).mp hx with q | q
  · exact absurd q hc
  · exact absurd hc2 q
def GZ (κ b k : Nat) : Prop := GS κ b k ∨ (κ = 40 ∧ (k = 0 ∨ k = 3)) ∨ κ = 64
theorem m_book (hl : l.stackTraces = false) (h1 : w.1 40 0 1 = nI sz) (hz : sz ≤ 600) (h60 : n ≤ 60) (h2 : n ≤ sz) (hb : ∀ i, i < n → b i < 256) (h41 : ∀ i, i < n → w.1 41 0 i = nI (b i)) (hT : Tok T) (hR : RollM w T) :
    C_X10_book l G w [.ref (G.2.1 40 0), .int (nI n)] (fun r w' => w'.1 40 0 0 = 0 ∧ w'.1 40 0 1 = 0 ∧
      ((bkF b n (tN T)).1.1 ≠ 0 → r = some (.int (nI (bkF b n (tN T)).1.1 - 10)) ∧ w'.1 40 0 3 = nI (bkF b n (tN T)).1.2 ∧ Sm GZ w w') ∧
      ((bkF b n (tN T)).1.1 = 0 → r = some (.int (nI (bkF b n (tN T)).2.length)) ∧ w'.1 40 0 3 = -1 ∧ BookM w' (bkF b n (tN T)).2 ∧ Sm (fun κ b k => GZ κ b k ∨ κ = 62 ∨ (κ = 40 ∧ k = 33)) w w')) noX := by
  have hN20 := hT.2.1
  refine e_X10_book hl (fun M kk hM hk F => ?_)
  generalize hK : (fun r w' => w'.1 40 0 0 = 0 ∧ w'.1 40 0 1 = 0 ∧
      ((bkF b n (tN T)).1.1 ≠ 0 → r = some (Value.int (nI (bkF b n (tN T)).1.1 - 10)) ∧ w'.1 40 0 3 = nI (bkF b n (tN T)).1.2 ∧ Sm GZ w w') ∧
      ((bkF b n (tN T)).1.1 = 0 → r = some (Value.int (nI (bkF b n (tN T)).2.length)) ∧ w'.1 40 0 3 = -1 ∧ BookM w' (bkF b n (tN T)).2 ∧ Sm (fun κ b k => GZ κ b k ∨ κ = 62 ∨ (κ = 40 ∧ k = 33)) w w') : Option Value → Wd → Prop) = K
  subst hM
  rintro w0 rfl
  have e1 : (setI w 40 0 0 0).1 40 0 1 = nI sz := (setI_ne (by omega)).trans h1
  rw [e1]
  refine con_i (m_in hl) ?_
  have eb : (decide ((0 : Int32) ≤ nI n) && decide (nI n ≤ nI sz)) = true := by
    rw [decide_eq_true (nI_pos' (by omega)), decide_eq_true (nI_le h2 (by omega))]; rfl
  rw [eb]
  have c60 : (nI n ≤ (60 : Int32)) := nI_le (b := 60) h60 (by decide)
  refine ⟨fun h => absurd h (by decide), fun _ => ⟨fun _ => ?_, fun h => absurd c60 h⟩⟩
  have hs0 : Sm GZ w (setI w 40 0 0 0) := Sm.rf.set (by unfold GZ; omega)
  have z0 : (setI w 40 0 0 0).1 40 0 0 = 0 := setI_eq _ _ _ _ _
  refine b_X10_book_29 F hk (con_bad hl (b := false) (rs := 1) z0 (by decide) (by decide) (fun _ => ⟨fun _ => ?_, fun h => absurd rfl h⟩) (fun h => absurd h (by decide)))
  refine con_vP (m_starts hl (by omega) hb (fun i hi => (setI_ne (by omega)).trans (h41 i hi))) (fun w4 k4 => ?_)
  obtain ⟨k41, k42, k43, k44, k45⟩ := k4
  have hs4 : Sm GZ w w4 := hs0.tr (k45.mono (fun κ b k q => Or.inl q))
  have GRZ : ∀ κ b k, GR κ b k → GZ κ b k := fun κ b k q => by unfold GR at q; unfold GZ GS; omega
  have GR4Z : ∀ κ b k, GR4 κ b k → GZ κ b k := fun κ b k q => GRZ κ b k (GR4_GR κ b k q)
  -- its end with a fault
  have bad : ∀ (L : Bk) (s : Rd) (w' : Wd) (x : Int32), s.1 ≠ 0 → bkF b n (tN T) = (s, L) → RM w' b n s → w'.1 40 0 0 = 0 → w'.1 40 0 1 = 0 → Sm GZ w w' → Z M G 0 K noX w' 168 [some (.ref (G.2.1 40 0)), none, some (.int x), none, none, none, none] [] := by
    intro L s w' x hne hbk hRm g0 g1 hs
    refine b_X10_book_168 F hk ?_
    rw [hRm.zero]
    refine ⟨fun z => absurd z hne, fun _ => ?_⟩
    refine con_i (m_ends hl hRm hne) ?_
    rw [← hK, hbk]
    refine ⟨?_, ?_, fun _ => ⟨rfl, setI_eq _ _ _ _ _, hs.set (by unfold GZ; omega)⟩, fun z => absurd z hne⟩
    · rw [setI_ne (by omega)]; exact g0
    · rw [setI_ne (by omega)]; exact g1
  have key : ∀ f k (L : Bk) (s : Rd) (w' : Wd), f + k = 60 → (s.1 = 0 → k ≤ s.2) → (s.1 = 0 → BookOk L (tN T)) → (s.1 = 0 → sk b n s.2 = s.2) → bkL b n (tN T) f L s = bkF b n (tN T) → RM w' b n s → (s.1 = 0 → ∀ i x, L[i]? = some x → w'.1 64 i 0 = nI x.1 ∧ w'.1 64 i 1 = bI x.2) → w'.1 40 0 0 = 0 → w'.1 40 0 1 = 0 → Sm GZ w w' → Z M G 0 K noX w' 48 [some (.ref (G.2.1 40 0)), none, some (.int (nI L.length)), some (.int (ob (akB L) 20)), none, none, none] [] := by
    intro f
    induction f with
    | zero =>
      intro k L s w' hfk hks hL hsk hbk hRm hro g0 g1 hs
      have hbk : (s, L) = bkF b n (tN T) := hbk
      by_cases hne : s.1 ≠ 0
      · refine b_X10_book_48 F hk ?_
        rw [hRm.zero]
        exact ⟨fun _ => bad L s w' _ hne hbk.symm hRm g0 g1 hs, fun z => absurd hne z⟩
      · have h0 : s.1 = 0 := Classical.not_not.mp hne
        have hle := hRm.2.2.2.2.1.2
        have := hks h0
        have g4 : w'.1 40 0 4 = nI s.2 := (hRm.2.2.2.2.2.2.1 h0).2
        refine b_X10_book_48 F hk ?_
        rw [hRm.zero, hRm.2.2.1, g4, nI_leI (by omega) (by omega)]
        refine ⟨fun z => absurd h0 z, fun _ => ⟨fun _ => b_X10_book_168 F hk ?_, fun hc => absurd (by omega) hc⟩⟩
        rw [hRm.zero]
        refine ⟨fun _ w1 hw1 w2 hw2 => ?_, fun z => absurd h0 z⟩
        have hlen : L.length ≤ 20 := by rw [← cn1_len (hL h0) hN20]; exact cn1_n _ _
        refine con_vP (m_lays hl (κe0 := 64) (κe1 := 62) (m0 := 20) (m1 := 20) (me0 := 2) (me1 := 2) rfl (by decide) rfl (fun _ => rfl) rfl rfl (by decide) rfl (fun _ => rfl) rfl (by decide) (by decide) (by decide) hlen hlen (by decide) (by decide)) (fun w5 k5 => ?_)
        rw [← hK, ← hbk]
        have s2 : Sm (fun κ b k => GZ κ b k ∨ κ = 62 ∨ (κ = 40 ∧ k = 33)) w w2 := by
          rw [hw2, hw1]
          exact ((hs.mono (fun κ b k q => Or.inl q)).set (by unfold GZ; omega)).set (by omega)
        have o5 : ∀ κ x y, κ ≠ 62 → w5.1 κ x y = w2.1 κ x y := fun κ x y hκ => k5.2.1 κ x y hκ
        refine ⟨?_, ?_, fun z => absurd h0 z, fun _ => ⟨rfl, ?_, ⟨?_, hlen, fun i x hx => ?_⟩, s2.tr (k5.2.mono (fun κ b k q => Or.inr (Or.inl q)))⟩⟩
        · rw [o5 _ _ _ (by decide), hw2, setI_ne (by omega), hw1, setI_ne (by omega)]; exact g0
        · rw [o5 _ _ _ (by decide), hw2, setI_ne (by omega), hw1, setI_ne (by omega)]; exact g1
        · rw [o5 _ _ _ (by decide), hw2, setI_ne (by omega), hw1, setI_eq]
        · rw [o5 _ _ _ (by decide), hw2, setI_eq]
        · have hi : i < L.length := (List.getElem?_eq_some_iff.mp hx).1
          rw [k5.1 i 0 hi (by decide), k5.1 i 1 hi (by decide), hw2, setI_ne (by omega), setI_ne (by omega), hw1, setI_ne (by omega), setI_ne (by omega)]
          exact hro h0 i x hx
    | succ f ih =>
      intro k L s w' hfk hks hL hsk hbk hRm hro g0 g1 hs
      by_cases hne : s.1 ≠ 0
      · rw [bkL_x hne] at hbk
        refine b_X10_book_48 F hk ?_
        rw [hRm.zero]
        exact ⟨fun _ => bad L s w' _ hne hbk.symm hRm g0 g1 hs, fun z => absurd hne z⟩
      · have h0 : s.1 = 0 := Classical.not_not.mp hne
        have es : s = (0, s.2) := by rw [← h0]
        have hsk0 := hsk h0
        have hle := hRm.2.2.2.2.1.2
        have g4 : w'.1 40 0 4 = nI s.2 := (hRm.2.2.2.2.2.2.1 h0).2
        have hlen : L.length ≤ 20 := by rw [← cn1_len (hL h0) hN20]; exact cn1_n _ _
        refine b_X10_book_48 F hk ?_
        rw [hRm.zero, hRm.2.2.1, g4, nI_leI (by omega) (by omega)]
        refine ⟨fun z => absurd h0 z, fun _ => ⟨fun hc => b_X10_book_168 F hk ?_, fun hc => ?_⟩⟩
        · rw [hRm.zero]
          refine ⟨fun _ w1 hw1 w2 hw2 => ?_, fun z => absurd h0 z⟩
          rw [bkL, if_neg (by omega), es, pkS_0 hsk0] at hbk
          have hbk : ((0, s.2), L) = bkF b n (tN T) := hbk
          refine con_vP (m_lays hl (κe0 := 64) (κe1 := 62) (m0 := 20) (m1 := 20) (me0 := 2) (me1 := 2) rfl (by decide) rfl (fun _ => rfl) rfl rfl (by decide) rfl (fun _ => rfl) rfl (by decide) (by decide) (by decide) hlen hlen (by decide) (by decide)) (fun w5 k5 => ?_)
          rw [← hK, ← hbk]
          have s2 : Sm (fun κ b k => GZ κ b k ∨ κ = 62 ∨ (κ = 40 ∧ k = 33)) w w2 := by
            rw [hw2, hw1]
            exact ((hs.mono (fun κ b k q => Or.inl q)).set (by unfold GZ; omega)).set (by omega)
          have o5 : ∀ κ x y, κ ≠ 62 → w5.1 κ x y = w2.1 κ x y := fun κ x y hκ => k5.2.1 κ x y hκ
          refine ⟨?_, ?_, fun z => absurd rfl z, fun _ => ⟨rfl, ?_, ⟨?_, hlen, fun i x hx => ?_⟩, s2.tr (k5.2.mono (fun κ b k q => Or.inr (Or.inl q)))⟩⟩
          · rw [o5 _ _ _ (by decide), hw2, setI_ne (by omega), hw1, setI_ne (by omega)]; exact g0
          · rw [o5 _ _ _ (by decide), hw2, setI_ne (by omega), hw1, setI_ne (by omega)]; exact g1
          · rw [o5 _ _ _ (by decide), hw2, setI_ne (by omega), hw1, setI_eq]
          · rw [o5 _ _ _ (by decide), hw2, setI_eq]
          · have hi : i < L.length := (List.getElem?_eq_some_iff.mp hx).1
            rw [k5.1 i 0 hi (by decide), k5.1 i 1 hi (by decide), hw2, setI_ne (by omega), setI_ne (by omega), hw1, setI_ne (by omega), setI_ne (by omega)]
            exact hro h0 i x hx
        · rw [bkL, if_pos ⟨h0, by omega⟩] at hbk
          have e44 : w'.1 44 0 1 = nI (tN T) := (hs.1 44 0 1 (by unfold GZ GS; omega)).trans hR.2.1
          rw [e44]
          refine con_iP (m_number hl (lo := 0) (H := tN T) (by decide) (by omega) hRm) (fun w2 k2 => ?_)
          have s2 := hs.tr (k2.2.mono GRZ)
          -- behind the first number
          have at110 : ∀ w5, RM w5 b n (bs1 b n (tN T) L s) → (∀ κ x y, κ ≠ 40 → w5.1 κ x y = w'.1 κ x y) → w5.1 40 0 0 = 0 → w5.1 40 0 1 = 0 → Sm GZ w w5 → Z M G 0 K noX w5 110 [some (.ref (G.2.1 40 0)), none, some (.int (nI L.length)), some (.int (ob (akB L) 20)), none, some (.int (nI (figF b n 0 (tN T) s).2)), none] [] := by
            intro w5 R5 o5 y0 y1 s5
            refine b_X10_book_110 F hk ?_
            refine con_iP (m_number hl (lo := 0) (H := 2) (by decide) (by decide) R5) (fun w7 k7 => ?_)
            refine con_vP (m_sign hl (c := 59) (by decide) k7.1) (fun w9 k9 => ?_)
            have o9 : ∀ κ x y, κ ≠ 40 → w9.1 κ x y = w'.1 κ x y := fun κ x y hκ => by
              rw [k9.2.oth40 GR_40 hκ, k7.2.oth40 GR_40 hκ, o5 κ x y hκ]
            have t0 : w9.1 40 0 0 = 0 := by rw [k9.2.1 40 0 0 (by unfold GR; omega), k7.2.1 40 0 0 (by unfold GR; omega)]; exact y0
            have t1 : w9.1 40 0 1 = 0 := by rw [k9.2.1 40 0 1 (by unfold GR; omega), k7.2.1 40 0 1 (by unfold GR; omega)]; exact y1
            have s9 := (s5.tr (k7.2.mono GRZ)).tr (k9.2.mono GRZ)
            have R9 : RM w9 b n (bs3 b n (tN T) L s) := k9.1
            rw [R9.zero]
            refine ⟨fun hq => ?_, fun hq => ?_⟩
            · -- a fault: the loop ends
              refine b_X10_book_161 F hk ?_
              refine con_vP (m_blanks hl R9) (fun w10 k10 => ?_)
              rw [pkS_x hq] at k10
              rw [bkL_x hq] at hbk
              refine b_X10_book_48 F hk ?_
              rw [k10.1.zero]
              refine ⟨fun _ => bad _ _ w10 _ hq hbk.symm k10.1 ?_ ?_ (s9.tr (k10.2.mono GR4Z)), fun z => absurd hq z⟩
              · rw [k10.2.1 40 0 0 (by unfold GR4; omega)]; exact t0
              · rw [k10.2.1 40 0 1 (by unfold GR4; omega)]; exact t1
            · have hq := Classical.not_not.mp hq
              obtain ⟨q1, q2, q3, q4, q5, q6, q7⟩ := bs3_ok hq
              have hL' : BookOk (bsL b n (tN T) L s) (tN T) := (hL h0).add q2 q3
              have hlen' : (bsL b n (tN T) L s).length ≤ 20 := by rw [← cn1_len hL' hN20]; exact cn1_n _ _
              have elen : (bsL b n (tN T) L s).length = L.length + 1 := by unfold bsL; rw [List.length_append]; rfl
              have hvi : vp_in (nI L.length) 20 := vp_in_nI (by omega) (by decide)
              rw [nI_clamp (by omega)]
              refine ⟨hvi, fun w10 hw10 => ⟨hvi, fun w11 hw11 => ?_⟩⟩
              refine b_X10_book_161 F hk ?_
              have R11 := (R9.row hw10 (by decide) (by decide)).row hw11 (by decide) (by decide)
              refine con_vP (m_blanks hl R11) (fun w12 k12 => ?_)
              have o12 : ∀ κ x y, κ ≠ 40 → w12.1 κ x y = if κ = 64 ∧ x = L.length ∧ y = 1 then nI (figF b n 0 2 (bs1 b n (tN T) L s)).2 else if κ = 64 ∧ x = L.length ∧ y = 0 then nI (figF b n 0 (tN T) s).2 else w'.1 κ x y := fun κ x y hκ => by
                rw [k12.2.oth40 (fun _ _ _ q => q.1) hκ, hw11, setI_1, hw10, setI_1, o9 κ x y hκ]
              have eob : ob (akB L) 20 ||| (1 : Int32) <<< (nI (figF b n 0 (tN T) s).2 &&& 31) = ob (akB (bsL b n (tN T) L s)) 20 := ob_ins (by omega)
              rw [eob, ← nI_succ, ← elen]
              have hR12 := k12.1
              have epk : bkL b n (tN T) f (bsL b n (tN T) L s) (pkS b n (bs3 b n (tN T) L s)) = bkL b n (tN T) f (bsL b n (tN T) L s) (bs3 b n (tN T) L s) := by
                have e0 : pkS b n (bs3 b n (tN T) L s) = (0, sk b n (bs3 b n (tN T) L s).2) := by rw [pkS, if_neg (fun z => z hq)]
                cases f with
                | zero =>
                  show (pkS b n (bs3 b n (tN T) L s), _) = (bs3 b n (tN T) L s, _)
                  have hk60 := hks h0
                  have hge := sk_ge b n (bs3 b n (tN T) L s).2
                  have hkn : Rk n (pkS b n (bs3 b n (tN T) L s)) := hR12.2.2.2.2.1
                  have hle2 : sk b n (bs3 b n (tN T) L s).2 ≤ n := by rw [e0] at hkn; exact hkn.2
                  have e3 : sk b n (bs3 b n (tN T) L s).2 = (bs3 b n (tN T) L s).2 := by omega
                  rw [e0, e3, ← hq]
                | succ f =>
                  rw [bkL, bkL, e0]
                  show (if (0 : Nat) = 0 ∧ sk b n (sk b n (bs3 b n (tN T) L s).2) < n then bkL b n (tN T) f (bsL b n (tN T) (bsL b n (tN T) L s) (0, sk b n (bs3 b n (tN T) L s).2)) (bs3 b n (tN T) (bsL b n (tN T) L s) (0, sk b n (bs3 b n (tN T) L s).2)) else (pkS b n (0, sk b n (bs3 b n (tN T) L s).2), bsL b n (tN T) L s)) = _
                  have e5 : ∀ L', bs1 b n (tN T) L' (0, sk b n (bs3 b n (tN T) L s).2) = bs1 b n (tN T) L' (bs3 b n (tN T) L s) := fun L' => by
                    have ez : bs3 b n (tN T) L s = (0, (bs3 b n (tN T) L s).2) := by rw [← hq]
                    generalize (bs3 b n (tN T) L s) = z at ez ⊢
                    rw [ez]
                    unfold bs1
                    rw [figF_sk]
                    show (if _ then (2, sk b n (sk b n z.2)) else _) = (if _ then (2, sk b n z.2) else _)
                    rw [sk_idem]
                  have e6 : figF b n 0 (tN T) (0, sk b n (bs3 b n (tN T) L s).2) = figF b n 0 (tN T) (bs3 b n (tN T) L s) := by
                    have ez : bs3 b n (tN T) L s = (0, (bs3 b n (tN T) L s).2) := by rw [← hq]
                    generalize (bs3 b n (tN T) L s) = z at ez ⊢
                    rw [ez, figF_sk]
                  have e7 : ∀ L', bs3 b n (tN T) L' (0, sk b n (bs3 b n (tN T) L s).2) = bs3 b n (tN T) L' (bs3 b n (tN T) L s) := fun L' => by
                    show sgnF b n 59 (figF b n 0 2 (bs1 b n (tN T) L' (0, sk b n (bs3 b n (tN T) L s).2))).1 = sgnF b n 59 (figF b n 0 2 (bs1 b n (tN T) L' (bs3 b n (tN T) L s))).1
                    rw [e5]
                  have e8 : ∀ L', bsL b n (tN T) L' (0, sk b n (bs3 b n (tN T) L s).2) = bsL b n (tN T) L' (bs3 b n (tN T) L s) := fun L' => by
                    show L' ++ [((figF b n 0 (tN T) (0, sk b n (bs3 b n (tN T) L s).2)).2, decide ((figF b n 0 2 (bs1 b n (tN T) L' (0, sk b n (bs3 b n (tN T) L s).2))).2 = 1))] = L' ++ [((figF b n 0 (tN T) (bs3 b n (tN T) L s)).2, decide ((figF b n 0 2 (bs1 b n (tN T) L' (bs3 b n (tN T) L s))).2 = 1))]
                    rw [e5, e6]
                  rw [sk_idem, pkS_0 (sk_idem b n _), e7, e8, hq]
              rw [← epk] at hbk
              have e0 : pkS b n (bs3 b n (tN T) L s) = (0, sk b n (bs3 b n (tN T) L s).2) := by rw [pkS, if_neg (fun z => z hq)]
              refine ih (k + 1) (bsL b n (tN T) L s) (pkS b n (bs3 b n (tN T) L s)) w12 (by omega) (fun _ => ?_) (fun _ => hL') (fun _ => ?_) hbk hR12 (fun _ i x hx => ?_) ?_ ?_ ?_
              · rw [e0]
                have := hks h0
                have := sk_ge b n (bs3 b n (tN T) L s).2
                show k + 1 ≤ sk b n (bs3 b n (tN T) L s).2
                omega
              · rw [e0]
                exact sk_idem b n _
              · rw [o12 64 i 0 (by decide), o12 64 i 1 (by decide)]
                by_cases hi : i < L.length
                · unfold bsL at hx
                  rw [List.getElem?_append_left hi] at hx
                  rw [if_neg (by omega), if_neg (by omega), if_neg (by omega), if_neg (by omega)]
                  exact hro h0 i x hx
                · have hil := (List.getElem?_eq_some_iff.mp hx).1
                  have ei : i = L.length := by omega
                  unfold bsL at hx
                  rw [ei, List.getElem?_append_right (Nat.le_refl _), Nat.sub_self] at hx
                  cases hx
                  rw [if_neg (by omega), if_pos ⟨rfl, ei, rfl⟩, if_pos ⟨rfl, ei, rfl⟩]
                  refine ⟨rfl, ?_⟩
                  rcases (show (figF b n 0 2 (bs1 b n (tN T) L s)).2 = 0 ∨ (figF b n 0 2 (bs1 b n (tN T) L s)).2 = 1 by omega) with q | q
                  · rw [q]; rfl
                  · rw [q]; rfl
              · rw [k12.2.1 40 0 0 (by unfold GR4; omega), hw11, setI_ne (by omega), hw10, setI_ne (by omega)]; exact t0
              · rw [k12.2.1 40 0 1 (by unfold GR4; omega), hw11, setI_ne (by omega), hw10, setI_ne (by omega)]; exact t1
              · refine Sm.tr ?_ (k12.2.mono GR4Z)
                rw [hw11, hw10]
                exact (s9.set (by unfold GZ; omega)).set (by unfold GZ; omega)
          have o2 : ∀ κ x y, κ ≠ 40 → w2.1 κ x y = w'.1 κ x y := fun κ x y hκ => k2.2.oth40 GR_40 hκ
          have y0 : w2.1 40 0 0 = 0 := by rw [k2.2.1 40 0 0 (by unfold GR; omega)]; exact g0
          have y1 : w2.1 40 0 1 = 0 := by rw [k2.2.1 40 0 1 (by unfold GR; omega)]; exact g1
          rw [k2.1.zero]
          refine ⟨fun hq => ?_, fun hq => ?_⟩
          · have e1 : bs1 b n (tN T) L s = (figF b n 0 (tN T) s).1 := by
              unfold bs1
              rw [if_neg (fun z => hq z.1)]
            exact at110 w2 (by rw [e1]; exact k2.1) o2 y0 y1 s2
          · have hq := Classical.not_not.mp hq
            have hlt : (figF b n 0 (tN T) s).2 < 20 := by have := figF_ok hq; omega
            refine con_i (m_has hl) ?_
            rw [bit_ob (by decide) (by omega), decide_eq_true hlt, Bool.true_and, bI_t, beq_eq_false_iff_ne]
            refine ⟨fun hc => ?_, fun hc => ?_⟩
            · have hak : akB L (figF b n 0 (tN T) s).2 = false := by
                cases hz : akB L (figF b n 0 (tN T) s).2 with
                | false => rfl
                | true => rw [hz] at hc; exact absurd rfl hc
              have e1 : bs1 b n (tN T) L s = (figF b n 0 (tN T) s).1 := by
                unfold bs1
                rw [if_neg (fun z => by rw [hak] at z; exact absurd z.2 (by decide))]
              exact at110 w2 (by rw [e1]; exact k2.1) o2 y0 y1 s2
            · have hak : akB L (figF b n 0 (tN T) s).2 = true := by
                cases hz : akB L (figF b n 0 (tN T) s).2 with
                | true => rfl
                | false => rw [hz] at hc; exact absurd (by decide) hc
              refine con_vP (m_wrong hl k2.1 (f := 2) (x := s.2) (by decide) (by decide) hle) (fun w6 k6 => ?_)
              have e1 : bs1 b n (tN T) L s = flF 2 s.2 (figF b n 0 (tN T) s).1 := by
                unfold bs1 flF
                rw [if_pos ⟨hq, hak⟩, if_neg (fun z => z hq), hsk0]
              refine at110 w6 (by rw [e1]; exact k6.1) (fun κ x y hκ => by rw [k6.2.1.oth40 GR_40 hκ, o2 κ x y hκ]) ?_ ?_ (s2.tr (k6.2.1.mono GRZ))
              · rw [k6.2.1.1 40 0 0 (by unfold GR; omega)]; exact y0
              · rw [k6.2.1.1 40 0 1 (by unfold GR; omega)]; exact y1
  have ebk : bkL b n (tN T) 60 [] (0, sk b n 0) = bkF b n (tN T) := by
    unfold bkF
    rw [bkL, bkL]
    show (if (0 : Nat) = 0 ∧ sk b n (sk b n 0) < n then bkL b n (tN T) 59 (bsL b n (tN T) [] (0, sk b n 0)) (bs3 b n (tN T) [] (0, sk b n 0)) else (pkS b n (0, sk b n 0), [])) = (if (0 : Nat) = 0 ∧ sk b n 0 < n then bkL b n (tN T) 59 (bsL b n (tN T) [] (0, 0)) (bs3 b n (tN T) [] (0, 0)) else (pkS b n (0, 0), []))
    have e5 : bs1 b n (tN T) [] (0, sk b n 0) = bs1 b n (tN T) [] (0, 0) := by
      unfold bs1
      rw [figF_sk]
      show (if _ then (2, sk b n (sk b n 0)) else _) = (if _ then (2, sk b n 0) else _)
      rw [sk_idem]
    have e7 : bs3 b n (tN T) [] (0, sk b n 0) = bs3 b n (tN T) [] (0, 0) := by
      unfold bs3
      rw [e5]
    have e8 : bsL b n (tN T) [] (0, sk b n 0) = bsL b n (tN T) [] (0, 0) := by
      unfold bsL
      rw [e5, figF_sk]
    rw [sk_idem, pkS_0 (sk_idem b n 0), e7, e8]
    rfl
  have eob0 : (0 : Int32) = ob (akB []) 20 := (ob_congr_0 (fun _ => rfl)).symm
  rw [eob0]
  exact key 60 0 [] (0, sk b n 0) w4 rfl (fun _ => Nat.zero_le _) (fun _ => BookOk0 _) (fun _ => sk_idem b n 0) ebk k41 (fun _ i x hx => by cases hx) ((k45.1 40 0 0 (by unfold GS; omega)).trans z0) k42 hs4
end BB
