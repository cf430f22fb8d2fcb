/-! What the gallery heard: a book's text; the class. -/
theorem figF_0 {b : Nat → Nat} {n lo H p : Nat} : figF b n lo H (0, p) = (if rn (isD b) n (sk b n p) = sk b n p then ((1, sk b n p), 0) else if lo ≤ dv b n (sk b n p) 0 ∧ dv b n (sk b n p) 0 < H then ((0, rn (isD b) n (sk b n p)), dv b n (sk b n p) 0) else ((2, sk b n p), 0)) := if_neg (fun z => z rfl)
theorem figF_sk {b : Nat → Nat} {n lo H p : Nat} : figF b n lo H (0, sk b n p) = figF b n lo H (0, p) := by rw [figF_0, figF_0, sk_idem]
def bs1 (b : Nat → Nat) (n N : Nat) (L : Bk) (s : Rd) : Rd := if (figF b n 0 N s).1.1 = 0 ∧ akB L (figF b n 0 N s).2 = true then (2, sk b n s.2) else (figF b n 0 N s).1
def bs3 (b : Nat → Nat) (n N : Nat) (L : Bk) (s : Rd) : Rd := sgnF b n 59 (figF b n 0 2 (bs1 b n N L s)).1
def bsL (b : Nat → Nat) (n N : Nat) (L : Bk) (s : Rd) : Bk := L ++ [((figF b n 0 N s).2, decide ((figF b n 0 2 (bs1 b n N L s)).2 = 1))]
def bkL (b : Nat → Nat) (n N : Nat) : Nat → Bk → Rd → Rd × Bk
  | 0, L, s => (s, L)
  | f + 1, L, s => if s.1 = 0 ∧ sk b n s.2 < n then bkL b n N f (bsL b n N L s) (bs3 b n N L s) else (pkS b n s, L)
def bkF (b : Nat → Nat) (n N : Nat) : Rd × Bk := bkL b n N 60 [] (0, 0)
theorem bs1_ok {b : Nat → Nat} {n N : Nat} {L : Bk} {s : Rd} (h : (bs1 b n N L s).1 = 0) : (figF b n 0 N s).1.1 = 0 ∧ akB L (figF b n 0 N s).2 = false ∧ bs1 b n N L s = (figF b n 0 N s).1 := by
  unfold bs1 at h ⊢
  by_cases hc : (figF b n 0 N s).1.1 = 0 ∧ akB L (figF b n 0 N s).2 = true
  · rw [if_pos hc] at h
    exact absurd h (by show ¬ (2 : Nat) = 0; decide)
  · rw [if_neg hc] at h ⊢
    refine ⟨h, Bool.eq_false_iff.mpr (fun z => hc ⟨h, z⟩), rfl⟩
theorem bs3_ok {b : Nat → Nat} {n N : Nat} {L : Bk} {s : Rd} (h : (bs3 b n N L s).1 = 0) : s.1 = 0 ∧ (figF b n 0 N s).2 < N ∧ akB L (figF b n 0 N s).2 = false ∧ (figF b n 0 2 (bs1 b n N L s)).1.1 = 0 ∧ (figF b n 0 2 (bs1 b n N L s)).2 < 2 ∧ (figF b n 0 N s).1.1 = 0 ∧ s.2 < (bs3 b n N L s).2 := by
  unfold bs3 at h ⊢
  obtain ⟨h1, h1', -⟩ := sgnF_ok h
  have h2 := figF_ok h1
  obtain ⟨h3, h4, h5⟩ := bs1_ok h2.1
  have h6 := figF_ok h3
  refine ⟨h6.1, by omega, h4, h1, by omega, h3, ?_⟩
  have h7 := h2.2.2.2.1
  rw [h5] at h7
  rw [h5] at h1' ⊢
  omega
theorem BookOk.add {L : Bk} {N e : Nat} {h : Bool} (hL : BookOk L N) (he : e < N) (hn : akB L e = false) : BookOk (L ++ [(e, h)]) N := by
  refine ⟨fun x hx => ?_, ?_⟩
  · rcases List.mem_append.mp hx with hx | hx
    · exact hL.1 x hx
    · rw [List.mem_singleton.mp hx]; exact he
  · rw [List.pairwise_append]
    refine ⟨hL.2, List.pairwise_singleton _ _, fun x hx y hy => ?_⟩
    rw [List.mem_singleton.mp hy]
    intro z
    have := mem_ak hx
    rw [show x.1 = e from z, hn] at this
    exact absurd this (by decide)
theorem bkL_ok {b : Nat → Nat} {n N : Nat} : ∀ f L s, BookOk L N → (bkL b n N f L s).1.1 = 0 → BookOk (bkL b n N f L s).2 N := by
  intro f
  induction f with
  | zero => intro L s h _; exact h
  | succ f ih =>
    intro L s h ho
    rw [bkL] at ho ⊢
    by_cases hc : s.1 = 0 ∧ sk b n s.2 < n
    · rw [if_pos hc] at ho ⊢
      by_cases h1 : (bs3 b n N L s).1 = 0
      · have q := bs3_ok h1
        exact ih _ _ (h.add q.2.1 q.2.2.1) ho
      · exfalso
        have key : ∀ f L s, s.1 ≠ 0 → (bkL b n N f L s).1.1 ≠ 0 := by
          intro f L s hs
          cases f with
          | zero => exact hs
          | succ f => rw [bkL, if_neg (fun z => hs z.1), pkS_x hs]; exact hs
        exact key _ _ _ h1 ho
    · rw [if_neg hc]; exact h
theorem bkL_x {b : Nat → Nat} {n N f : Nat} {L : Bk} {s : Rd} (hs : s.1 ≠ 0) : bkL b n N f L s = (s, L) := by
  cases f with
  | zero => rfl
  | succ f => rw [bkL, if_neg (fun z => hs z.1), pkS_x hs]
theorem BookOk0 (N : Nat) : BookOk [] N := ⟨fun x hx => absurd hx List.not_mem_nil, List.Pairwise.nil⟩
theorem ak_app {L : Bk} {e : Nat} {h : Bool} (i : Nat) : akB (L ++ [(e, h)]) i = (akB L i || e == i) := by
  unfold akB
  rw [List.any_append]
  simp
theorem hd_app {L : Bk} {e : Nat} {h : Bool} (i : Nat) : hdB (L ++ [(e, h)]) i = (hdB L i || (e == i && h)) := by
  unfold hdB
  rw [List.any_append]
  simp
theorem ob_or1 {p q : Nat → Bool} {n e : Nat} (hn : n ≤ 30) (he : e < n) (h : ∀ i, i < n → q i = (p i || e == i)) : ob p n ||| b1 e = ob q n := by
  rw [ob_nI (by omega), ob_nI (by omega), b1_nI e (by omega), fb_or]
  congr 1
  apply Nat.eq_of_testBit_eq
  intro i
  rw [Nat.testBit_or, obN_tb, obN_tb, Nat.testBit_two_pow]
  by_cases hi : i < n
  · rw [h i hi, decide_eq_true hi, Bool.true_and, Bool.true_and]
    congr 1
  · have : ¬ e = i := by omega
    rw [decide_eq_false hi, Bool.false_and, Bool.false_and, decide_eq_false this]
    rfl
theorem ob_ins {L : Bk} {e : Nat} {h : Bool} (he : e < 20) : ob (akB L) 20 ||| (1 : Int32) <<< (nI e &&& 31) = ob (akB (L ++ [(e, h)])) 20 := ob_or1 (by decide) he (fun i _ => ak_app i)
theorem hd_ins {L : Bk} {e v : Nat} (he : e < 20) (hv : v < 2) : ob (hdB L) 20 ||| nI v <<< (nI e &&& 31) = ob (hdB (L ++ [(e, decide (v = 1))])) 20 := by
  rcases (show v = 0 ∨ v = 1 by omega) with q | q
  · subst q
    have e0 : nI 0 <<< (nI e &&& 31) = 0 := by
      have : ∀ e, e < 20 → nI 0 <<< (nI e &&& 31) = 0 := by decide +kernel
      exact this e he
    rw [e0, Int32.or_zero]
    refine ob_congr (fun i _ => ?_)
    rw [hd_app]
    simp
  · subst q
    refine ob_or1 (by decide) he (fun i _ => ?_)
    rw [hd_app]
    simp
section BA
variable {l : Launch} {G : Gx} {w : Wd} {b : Nat → Nat} {n N r sz : Nat} {p0 : Int32}
def GK (r κ b k : Nat) : Prop := GT κ b k ∨ (κ = 9 ∧ b = r)
theorem c_bookRead (hl : l.stackTraces = false) (hr : r < 2) (hN : N ≤ 20) (hn60 : n ≤ 60) (h : RC w b n (0, 0)) : C_X1_read l G w [.ref (G.2.1 9 r), .ref (G.2.1 1 0), .int (nI N)] (fun v w' => v = none ∧ RC w' b n (bkF b n N).1 ∧ ((bkF b n N).1.1 = 0 → BookC w' r (bkF b n N).2) ∧ Sm (GK r) w w') noX := by
  refine e_X1_read hr hl (fun M kk hM hk F => ?_)
  generalize hK : (fun v w' => v = none ∧ RC w' b n (bkF b n N).1 ∧ ((bkF b n N).1.1 = 0 → BookC w' r (bkF b n N).2) ∧ Sm (GK r) w w' : Option Value → Wd → Prop) = K
  subst hM
  refine con_v (c_clear hl hr) ?_
  have s0 : Sm (GK r) w (setI (setI w 9 r 0 0) 9 r 1 0) := (Sm.rf.set (by unfold GK; omega)).set (by unfold GK; omega)
  have R0 : RC (setI (setI w 9 r 0 0) 9 r 1 0) b n (0, 0) := (h.row rfl (by decide) (by decide)).row rfl (by decide) (by decide)
  have B0 : BookC (setI (setI w 9 r 0 0) 9 r 1 0) r [] := by
    refine ⟨?_, ?_⟩
    · rw [setI_ne (by omega), setI_eq]; exact (ob_congr_0 (fun _ => rfl)).symm
    · rw [setI_eq]; exact (ob_congr_0 (fun _ => rfl)).symm
  have key : ∀ f k (L : Bk) (s : Rd) (w' : Wd), f + k = 60 → (s.1 = 0 → k ≤ s.2) → bkL b n N f L s = bkF b n N → RC w' b n s → (s.1 = 0 → BookC w' r L) → Sm (GK r) w w' → Z M G 0 K noX w' 6 [some (.ref (G.2.1 9 r)), some (.ref (G.2.1 1 0)), some (.int (nI N)), some (.int (nI k)), none] [] := by
    intro f
    induction f with
    | zero =>
      intro k L s w' hfk hks hbk hRc hB hs
      refine b_X1_read_6 hr F hk ⟨fun _ => ?_, fun hc => ?_⟩
      · have hbk : (s, L) = bkF b n N := hbk
        rw [← hK, ← hbk]
        exact ⟨rfl, hRc, hB, hs⟩
      · rw [show k = 60 by omega] at hc
        exact absurd (by decide) hc
    | succ f ih =>
      intro k L s w' hfk hks hbk hRc hB hs
      refine b_X1_read_6 hr F hk ⟨fun hc => absurd hc (nI_ge (show k < 60 by omega) (by decide)), fun _ => ?_⟩
      refine con_iP (c_more hl hRc) (fun w2 k2 => ?_)
      have hs2 := hs.tr (k2.2.mono (S' := GK r) (fun κ b k q => Or.inl (GT3_GT _ _ _ q)))
      rw [bI_t]
      refine ⟨fun hm => ?_, fun hm => ?_⟩
      · have hm : ¬ (s.1 = 0 ∧ sk b n s.2 < n) := of_decide_eq_false hm
        rw [bkL, if_neg hm] at hbk
        rw [← hK, ← hbk]
        refine ⟨rfl, k2.1, fun z => ?_, hs2⟩
        have h0 : s.1 = 0 := by
          by_cases h0 : s.1 = 0
          · exact h0
          · rw [pkS_x h0] at z; exact z
        obtain ⟨q1, q2⟩ := hB h0
        exact ⟨(k2.2.oth GT3_1 (by decide)).trans q1, (k2.2.oth GT3_1 (by decide)).trans q2⟩
      · have hm : s.1 = 0 ∧ sk b n s.2 < n := by
          by_cases hq : s.1 = 0 ∧ sk b n s.2 < n
          · exact hq
          · exact absurd (decide_eq_false hq) hm
        have k21 := k2.1
        rw [pkS, if_neg (fun z => z hm.1)] at k21
        have hle := sk_le (b := b) hRc.2.2.2.2.1.2
        have efg : ∀ lo H, figF b n lo H (0, sk b n s.2) = figF b n lo H s := fun lo H => by
          rw [figF_sk]
          congr 1
          rw [← hm.1]
        rw [bkL, if_pos hm] at hbk
        have B2 : BookC w2 r L := ⟨(k2.2.oth GT3_1 (by decide)).trans (hB hm.1).1, (k2.2.oth GT3_1 (by decide)).trans (hB hm.1).2⟩
        refine con_iP (c_figure hl (lo := 0) (H := N) (by decide) (by omega) k21) (fun w4 k4 => ?_)
        obtain ⟨k41, k42, k43⟩ := k4
        have k42 : w4.1 1 0 4 = nI (sk b n s.2) := by
          have := k42 rfl
          rw [show sk b n ((0, sk b n s.2) : Rd).2 = sk b n s.2 from sk_idem b n s.2] at this
          exact this
        have efc : figC b n 0 N (0, sk b n s.2) = figC b n 0 N s := by unfold figC; rw [efg]
        rw [efg] at k41
        rw [efc]
        have hs4 := hs2.tr (k43.mono (S' := GK r) (fun κ b k q => Or.inl q))
        have B4 : BookC w4 r L := ⟨(k43.oth GT_1 (by decide)).trans B2.1, (k43.oth GT_1 (by decide)).trans B2.2⟩
        have hc20 : figC b n 0 N s < 20 ∨ (figF b n 0 N s).1.1 ≠ 0 := by
          unfold figC
          by_cases hq : (figF b n 0 N s).1.1 = 0
          · rw [if_pos hq]
            have := figF_ok hq
            exact Or.inl (by omega)
          · exact Or.inr hq
        have at51 : ∀ w5, RC w5 b n (bs1 b n N L s) → BookC w5 r L → Sm (GK r) w w5 → Z M G 0 K noX w5 51 [some (.ref (G.2.1 9 r)), some (.ref (G.2.1 1 0)), some (.int (nI N)), some (.int (nI k)), some (.int (nI (figC b n 0 N s)))] [] := by
          intro w5 R5 B5 s5
          refine b_X1_read_51 hr F hk (fun w6 hw6 => ?_)
          have R6 := R5.row hw6 (by decide) (by decide)
          have e61 : w6.1 9 r 1 = ob (hdB L) 20 := by rw [hw6, setI_ne (by omega)]; exact B5.2
          rw [e61]
          refine con_iP (c_figure hl (lo := 0) (H := 2) (by decide) (by decide) R6) (fun w7 k7 w8 hw8 => ?_)
          have R8 := k7.1.row hw8 (by decide) (by decide)
          refine con_vP (c_sign hl (c := 59) (by decide) R8) (fun w9 k9 => ?_)
          rw [← nI_succ]
          refine ih (k + 1) (bsL b n N L s) (bs3 b n N L s) w9 (by omega) (fun z => ?_) hbk k9.1 (fun z => ?_) ?_
          · have q := bs3_ok z
            have := hks hm.1
            omega
          · obtain ⟨q1, q2, q3, q4, q5, q6, q7⟩ := bs3_ok z
            have ec : figC b n 0 N s = (figF b n 0 N s).2 := figC_ok q6
            have ec2 : figC b n 0 2 (bs1 b n N L s) = (figF b n 0 2 (bs1 b n N L s)).2 := figC_ok q4
            have e0 : w9.1 9 r 0 = ob (akB L) 20 ||| (1 : Int32) <<< (nI (figF b n 0 N s).2 &&& 31) := by
              rw [k9.2.oth GT3_1 (by decide), hw8, setI_ne (by omega), k7.2.2.oth GT_1 (by decide), hw6, setI_eq, B5.1, ec]
            have e1 : w9.1 9 r 1 = ob (hdB L) 20 ||| nI (figF b n 0 2 (bs1 b n N L s)).2 <<< (nI (figF b n 0 N s).2 &&& 31) := by
              rw [k9.2.oth GT3_1 (by decide), hw8, setI_eq, ec, ec2]
            refine ⟨?_, ?_⟩
            · rw [e0]
              exact ob_ins (by omega)
            · rw [e1]
              exact hd_ins (by omega) q5
          · refine Sm.tr ?_ (k9.2.mono (S' := GK r) (fun κ b k q => Or.inl (GT3_GT _ _ _ q)))
            rw [hw8]
            refine Sm.set (Sm.tr ?_ (k7.2.2.mono (S' := GK r) (fun κ b k q => Or.inl q))) (by unfold GK; omega)
            rw [hw6]
            exact s5.set (by unfold GK; omega)
        rw [B4.1, k42]
        by_cases hq : (figF b n 0 N s).1.1 = 0
        · have ec : figC b n 0 N s = (figF b n 0 N s).2 := figC_ok hq
          have hlt : (figF b n 0 N s).2 < 20 := by have := figF_ok hq; omega
          rw [bit_ob (by decide) (by omega), ec, decide_eq_true hlt, Bool.true_and]
          refine ⟨fun hc => ?_, fun hc => ?_⟩
          · have hak : akB L (figF b n 0 N s).2 = false := by
              cases hz : akB L (figF b n 0 N s).2 with
              | false => rfl
              | true => rw [hz] at hc; exact absurd rfl hc
            have e1 : bs1 b n N L s = (figF b n 0 N s).1 := by
              unfold bs1
              rw [if_neg (fun z => by rw [hak] at z; exact absurd z.2 (by decide))]
            rw [← ec]
            exact at51 w4 (by rw [e1]; exact k41) B4 hs4
          · have hak : akB L (figF b n 0 N s).2 = true := by
              cases hz : akB L (figF b n 0 N s).2 with
              | true => rfl
              | false => rw [hz] at hc; exact absurd (Classical.not_not.mp hc) (by decide)
            refine con_vP (c_fail hl k41 (f := 2) (by decide) (by decide) hle) (fun w6 k6 => ?_)
            have e1 : bs1 b n N L s = flF 2 (sk b n s.2) (figF b n 0 N s).1 := by
              unfold bs1 flF
              rw [if_pos ⟨hq, hak⟩, if_neg (fun z => z hq)]
            rw [← ec]
            exact at51 w6 (by rw [e1]; exact k6.1) ⟨(k6.2.oth GT3_1 (by decide)).trans B4.1, (k6.2.oth GT3_1 (by decide)).trans B4.2⟩ (hs4.tr (k6.2.mono (fun κ b k q => Or.inl (GT3_GT _ _ _ q))))
        · have e1 : bs1 b n N L s = (figF b n 0 N s).1 := by
            unfold bs1
            rw [if_neg (fun z => hq z.1)]
          refine ⟨fun _ => at51 w4 (by rw [e1]; exact k41) B4 hs4, fun _ => ?_⟩
          refine con_vP (c_fail hl k41 (f := 2) (by decide) (by decide) hle) (fun w6 k6 => ?_)
          rw [flF_x hq] at k6
          exact at51 w6 (by rw [e1]; exact k6.1) ⟨(k6.2.oth GT3_1 (by decide)).trans B4.1, (k6.2.oth GT3_1 (by decide)).trans B4.2⟩ (hs4.tr (k6.2.mono (fun κ b k q => Or.inl (GT3_GT _ _ _ q))))
  exact key 60 0 [] (0, 0) _ rfl (fun _ => Nat.le_refl _) rfl R0 (fun _ => B0) s0
theorem c_bookX (hl : l.stackTraces = false) (h0 : w.1 1 0 0 = nI sz) (hx : okT p0 60 sz = false) : C_X9_book l G w [.ref (G.2.1 0 0), .int p0] (fun _ _ => False) (fun E w' => E = nIae ∧ w' = bumpT w) := by
  refine e_X9_book hl (fun M kk hM hk F => ?_)
  subst hM
  exact con_mono (c_openX hl (most := 60) h0 hx) (fun _ _ h => h.elim) (fun _ _ h => h)
theorem c_book (hl : l.stackTraces = false) {T : Tx} {E : Ex} (h0 : w.1 1 0 0 = nI sz) (hz : sz ≤ 600) (h1 : n ≤ 60) (h2 : n ≤ sz) (hb : ∀ i, i < n → b i < 256) (h10 : ∀ i, i < n → w.1 10 0 i = sb8 (b i)) (hT : Tok T) (hst : StC w T E) (p11 : w.2.2 0 0 11 < 2) :
    C_X9_book l G w [.ref (G.2.1 0 0), .int (nI n)] (fun r w' => w'.1 1 0 0 = 0 ∧
      ((bkF b n (tN T)).1.1 ≠ 0 → r = some (.int (nI (bkF b n (tN T)).1.1 - 10)) ∧ w'.1 1 0 2 = nI (bkF b n (tN T)).1.2 ∧ Sm (fun κ b _ => κ = 1 ∨ (κ = 9 ∧ b = w.2.2 0 0 11)) w w') ∧
      ((bkF b n (tN T)).1.1 = 0 → r = some (.int (nI (bkF b n (tN T)).2.length)) ∧ w'.1 1 0 2 = -1 ∧ BookC w' (w.2.2 0 0 11) (bkF b n (tN T)).2 ∧ w'.2.2 = swP w 0 0 10 0 0 11 ∧ Sn (fun κ _ _ => κ = 1 ∨ κ = 9) w w')) noX := by
  have hN20 := hT.2.1
  refine e_X9_book hl (fun M kk hM hk F => ?_)
  subst hM
  refine con_vP (c_openT hl (most := 60) h0 (by decide) hz h1 h2 hb h10) (fun w2 k2 => ?_)
  obtain ⟨k21, k22, k23⟩ := k2
  have e7 : w2.1 7 (w2.2.2 2 0 0) 1 = nI (tN T) := by
    rw [k23.2.2, k23.1 7 _ 1 (by unfold G1; omega)]
    exact hst.2.2.1.2.1
  rw [e7, k23.2.2]
  refine con_vP (c_bookRead hl p11 hN20 h1 k21) (fun w5 k5 => ?_)
  obtain ⟨k51, k52, k53⟩ := k5
  have e22 : w5.2.2 = w.2.2 := k53.2.2.trans k23.2.2
  have e10 : w5.1 1 0 0 = 0 := (k53.1 1 0 0 (by unfold GK GT; omega)).trans k22
  refine con_i (c_fine hl k51) ?_
  rw [e22]
  refine ⟨fun hc w10 hw10 w11 hw11 => ?_, fun hc => ?_⟩
  · have hok : (bkF b n (tN T)).1.1 = 0 := by
      by_cases hq : (bkF b n (tN T)).1.1 = 0
      · exact hq
      · exact absurd (by rw [decide_eq_false hq]; rfl) hc
    have hL : BookOk (bkF b n (tN T)).2 (tN T) := bkL_ok 60 [] (0, 0) (BookOk0 (tN T)) hok
    have e11 : w11.1 = w5.1 := by rw [hw11, hw10]; rfl
    have e11' : w11.2.1 = w5.2.1 := by rw [hw11, hw10]; rfl
    have q11 : w11.2.2 = swP w 0 0 10 0 0 11 := by
      rw [hw11, hw10]
      funext x y z
      show (if x = 0 ∧ y = 0 ∧ z = 11 then w.2.2 0 0 10 else if x = 0 ∧ y = 0 ∧ z = 10 then w.2.2 0 0 11 else w5.2.2 x y z) = _
      rw [e22]
      rfl
    have a10 : w11.2.2 0 0 10 = w.2.2 0 0 11 := by rw [q11]; rfl
    have B11 := k52 hok
    rw [a10, e11, B11.1]
    refine con_i (c_bitCount hl) ⟨by rw [e11]; exact e10, fun z => absurd hok z, fun _ => ⟨?_, ?_, ?_, q11, ?_⟩⟩
    · rw [bc_ob (by decide)]
      show some (Value.int (nI (cn1 (akB (bkF b n (tN T)).2) 20))) = _
      rw [cn1_len hL hN20]
    · rw [e11]; exact (k51.2.2.2.2.2.2.1 hok).1
    · unfold BookC
      rw [e11]
      exact B11
    · refine ⟨fun κ j k q => ?_, fun κ j k q => ?_⟩
      · rw [e11, k53.1 κ j k (by unfold GK GT; omega), k23.1 κ j k (by unfold G1; omega)]
      · rw [e11', k53.2.1 κ j k q, k23.2.1 κ j k q]
  · have hok : (bkF b n (tN T)).1.1 ≠ 0 := by
      intro hq
      exact absurd (Classical.not_not.mp hc) (by rw [decide_eq_true hq]; decide)
    refine ⟨e10, fun _ => ⟨by rw [k51.2.2.2.2.2.1], (k51.2.2.2.2.2.2.2 hok).1, ?_⟩, fun hq => absurd hq hok⟩
    exact (k23.mono (S' := fun κ b _ => κ = 1 ∨ (κ = 9 ∧ b = w.2.2 0 0 11)) (fun κ b k q => Or.inl q)).tr (k53.mono (fun κ b k q => by unfold GK GT at q; omega))
end BA
