/-! The reference reads a law: codes. -/
abbrev k0 (w : Wd) : Nat → Int32 := fun i => w.1 60 i 0
abbrev k1 (w : Wd) : Nat → Int32 := fun i => w.1 60 i 1
theorem hgt_cg {c d : Nat → Int32} : ∀ k, (∀ i, i < k → c i = d i) → hgt c k = hgt d k
  | 0, _ => rfl
  | k + 1, h => by rw [hgt, hgt, h k (by omega), hgt_cg k (fun i hi => h i (by omega))]
theorem stk_cg {c d c' d' f : Nat → Int32} : ∀ k, (∀ i, i < k → c i = d i ∧ c' i = d' i) → stk c c' f k = stk d d' f k
  | 0, _ => rfl
  | k + 1, h => by
    obtain ⟨a, e⟩ := h k (by omega)
    rw [stk, stk, a, e, stk_cg k (fun i hi => h i (by omega)), hgt_cg k (fun i hi => (h i (by omega)).1)]
def cdOk (w : Wd) (k : Nat) : Prop := k0 w k = 0 ∨ (k0 w k = 1 ∧ ∃ q, q < 8 ∧ k1 w k = nI q) ∨ (2 ≤ k0 w k ∧ 2 ≤ hgt (k0 w) k)
def CdM (w : Wd) (s : Rd) (m : Nat) : Prop := w.1 40 0 20 = nI m ∧ m ≤ 150 ∧ (s.1 = 0 → m ≤ s.2 ∧ ∀ k, k < m → cdOk w k)
def GV (κ _b k : Nat) : Prop := (κ = 40 ∧ (k = 4 ∨ k = 5 ∨ k = 6 ∨ k = 8 ∨ k = 20)) ∨ κ = 60
/-- what doesn't touch the codes -/
def G8 (κ _b k : Nat) : Prop := κ = 40 ∧ (k = 4 ∨ k = 5 ∨ k = 6 ∨ k = 8)
theorem G8_GV : ∀ κ b k, G8 κ b k → GV κ b k := by
  intro κ b k h
  unfold G8 at h
  unfold GV
  omega
theorem GR_G8 : ∀ κ b k, GR κ b k → G8 κ b k := by
  intro κ b k h
  unfold GR at h
  unfold G8
  omega
theorem GR4_G8 : ∀ κ b k, GR4 κ b k → G8 κ b k := fun κ b k h => GR_G8 κ b k (GR4_GR κ b k h)
theorem G8_60 {w w' : Wd} (h : Sm G8 w w') (x y : Nat) : w'.1 60 x y = w.1 60 x y := h.1 60 x y (by unfold G8; omega)
theorem G8_k0 {w w' : Wd} (h : Sm G8 w w') : k0 w' = k0 w := funext fun _ => G8_60 h _ _
theorem G8_k1 {w w' : Wd} (h : Sm G8 w w') : k1 w' = k1 w := funext fun _ => G8_60 h _ _
theorem CdM.t {w w' : Wd} {m : Nat} {s s' : Rd} (h : CdM w s m) (hs : Sm G8 w w') (h0 : s'.1 = 0 → s.1 = 0 ∧ s.2 ≤ s'.2) : CdM w' s' m := by
  obtain ⟨h1, h2, h3⟩ := h
  refine ⟨(hs.1 40 0 20 (by unfold G8; omega)).trans h1, h2, fun z => ?_⟩
  obtain ⟨z1, z2⟩ := h0 z
  obtain ⟨q1, q2⟩ := h3 z1
  refine ⟨by omega, fun i hi => ?_⟩
  unfold cdOk
  rw [G8_k0 hs, G8_k1 hs]
  exact q2 i hi
def MF (b : Nat → Nat) (n op : Nat) (w : Wd) (s : Rd) (m : Nat) (R : Rd × Ex) (m' : Nat) (w' : Wd) : Prop := RM w' b n R.1 ∧ CdM w' R.1 m' ∧
  (R.1.1 = 0 → m < m' ∧ m' + s.2 ≤ m + R.1.2 ∧ w'.1 40 0 8 = nI op ∧ (∀ i, i < m → k0 w' i = k0 w i ∧ k1 w' i = k1 w i) ∧ hgt (k0 w') m' = hgt (k0 w') m + 1 ∧ (∀ f, stk (k0 w') (k1 w') f m' (hgt (k0 w') m) = R.2 f) ∧ ∀ f q, q < hgt (k0 w') m → stk (k0 w') (k1 w') f m' q = stk (k0 w') (k1 w') f m q) ∧ Sm GV w w'
def MH (l : Launch) (G : Gx) (b : Nat → Nat) (n lev : Nat) (y : MethodName) (cc : ByteArray) (nL op : Nat) (P : Pq) : Prop :=
  ∀ (w : Wd) (s : Rd) (m : Nat), RM w b n s → CdM w s m → (s.1 = 0 → w.1 40 0 8 = nI op) → Con l G lev 0 y cc nL none w [.ref (G.2.1 40 0)] (fun v w' => v = none ∧ ∃ m', MF b n op w s m (P s) m' w') noX
theorem MF.wrap {b : Nat → Nat} {n op op2 : Nat} {w w2 w4 w6 : Wd} {s s2 st : Rd} {m m' : Nat} {R : Rd × Ex} (h : MF b n op2 w2 s2 m R m' w4) (h1 : Sm G8 w w2) (h12 : s.2 ≤ s2.2) (h2 : Sm G8 w4 w6) (hR : RM w6 b n st) (hst : st.1 = 0 → R.1.1 = 0 ∧ R.1.2 ≤ st.2) (h8 : st.1 = 0 → w6.1 40 0 8 = nI op) : MF b n op w s m (st, R.2) m' w6 := by
  obtain ⟨a1, a2, a3, a4⟩ := h
  refine ⟨hR, a2.t h2 hst, fun z => ?_, ((h1.mono G8_GV).tr a4).tr (h2.mono G8_GV)⟩
  obtain ⟨z1, z2⟩ := hst z
  obtain ⟨q1, q2, q3, q4, q5, q6, q7⟩ := a3 z1
  rw [G8_k0 h2, G8_k1 h2]
  refine ⟨q1, by show m' + s.2 ≤ m + st.2; omega, h8 z, fun i hi => ?_, q5, q6, q7⟩
  rw [← G8_k0 h1, ← G8_k1 h1]
  exact q4 i hi
/-- signs of both -/
theorem fa_dm1 (u : Int32) : u / (-1) = -u := by
  apply Int32.toInt_inj.mp
  have : (-1 : Int32).toInt = -1 := by decide
  rw [Int32.toInt_div, this, Int32.toInt_neg, Int.tdiv_neg, Int.tdiv_one]
theorem jb_2 (u v : Int32) : jb 2 u v = jn 43 u v := rfl
theorem jb_3 (u v : Int32) : jb 3 u v = jn 45 u v := rfl
theorem jb_4 (u v : Int32) : jb 4 u v = jn 42 u v := rfl
theorem jb_5 (u v : Int32) : jb 5 u v = jn 47 u v := by
  show (if v = 0 then 0 else if v = -1 then -u else u / v) = (if v = 0 then 0 else u / v)
  by_cases h : v = 0
  · rw [if_pos h, if_pos h]
  · rw [if_neg h, if_neg h]
    by_cases h2 : v = -1
    · rw [if_pos h2, h2, fa_dm1]
    · rw [if_neg h2]
theorem jb_6 (u v : Int32) : jb 6 u v = jn 37 u v := by
  show (if v = 0 then 0 else if v = -1 then 0 else u - u / v * v) = (if v = 0 then 0 else u - u / v * v)
  by_cases h : v = 0
  · rw [if_pos h, if_pos h]
  · rw [if_neg h, if_neg h]
    by_cases h2 : v = -1
    · rw [if_pos h2, h2, fa_dm1]
      have : -u * (-1 : Int32) = u := by rw [Int32.mul_neg, Int32.mul_one, Int32.neg_neg]
      rw [this, Int32.sub_self]
    · rw [if_neg h2]
theorem jb_7 (u v : Int32) : jb 7 u v = jn 9 u v := rfl
theorem jb_8 (u v : Int32) : jb 8 u v = jn 10 u v := rfl
theorem ok_w4 : okL (wT 4) 12 5 1 19 20 0 := by unfold okL; decide +kernel
theorem ok_w5 : okL (wT 5) 13 15 19 20 0 0 := by unfold okL; decide +kernel
theorem ok_w6 : okL (wT 6) 12 5 14 7 20 8 := by unfold okL; decide +kernel
theorem ok_w7 : okL (wT 7) 16 1 25 0 0 0 := by unfold okL; decide +kernel
theorem ok_w8 : okL (wT 8) 12 5 6 20 0 0 := by unfold okL; decide +kernel
theorem ok_w9 : okL (wT 9) 19 21 14 7 0 0 := by unfold okL; decide +kernel
theorem ok_w10 : okL (wT 10) 22 15 23 5 12 0 := by unfold okL; decide +kernel
theorem ok_w11 : okL (wT 11) 4 1 25 0 0 0 := by unfold okL; decide +kernel
section LD
variable {l : Launch} {G : Gx} {w : Wd} {b : Nat → Nat} {n op : Nat} {s : Rd} {m : Nat}
theorem m_notes (hl : l.stackTraces = false) {p0 p1 : Int32} {st : Rd} (h : RM w b n st) (hm : m < 160) (h20 : w.1 40 0 20 = nI m) : C_X10_notes l G w [.ref (G.2.1 40 0), .int p0, .int p1] (fun v w' => v = none ∧ w' = if st.1 = 0 then setI (setI (setI w 60 m 0 p0) 60 m 1 p1) 40 0 20 (nI (m + 1)) else w) noX := by
  refine e_X10_notes hl (fun M kk hM hk F => ?_)
  have hvi : vp_in (nI m) 160 := vp_in_nI hm (by decide)
  rw [h.zero, h20, nI_clamp (by omega)]
  refine ⟨fun h0 => ⟨hvi, fun w2 hw2 => ?_⟩, fun h0 => ⟨rfl, by rw [if_neg h0]⟩⟩
  have e2 : w2.1 40 0 20 = nI m := by rw [hw2, setI_ne (by omega)]; exact h20
  rw [e2, nI_clamp (by omega)]
  refine ⟨hvi, fun w4 hw4 w5 hw5 => ?_⟩
  have e4 : w4.1 40 0 20 = nI m := by rw [hw4, setI_ne (by omega)]; exact e2
  rw [e4, ← nI_succ] at hw5
  exact ⟨rfl, by rw [if_pos h0, hw5, hw4, hw2]⟩
theorem code_rows {w w' : Wd} {m : Nat} {p0 p1 : Int32} (hw : w' = setI (setI (setI w 60 m 0 p0) 60 m 1 p1) 40 0 20 (nI (m + 1))) : (∀ i, i < m → k0 w' i = k0 w i ∧ k1 w' i = k1 w i) ∧ k0 w' m = p0 ∧ k1 w' m = p1 ∧ w'.1 40 0 20 = nI (m + 1) := by
  subst hw
  refine ⟨fun i hi => ⟨?_, ?_⟩, ?_, ?_, ?_⟩
  · show (setI _ _ _ _ _).1 60 i 0 = _
    rw [setI_ne (by omega), setI_ne (by omega), setI_ne (by omega)]
  · show (setI _ _ _ _ _).1 60 i 1 = _
    rw [setI_ne (by omega), setI_ne (by omega), setI_ne (by omega)]
  · show (setI _ _ _ _ _).1 60 m 0 = _
    rw [setI_ne (by omega), setI_ne (by omega), setI_eq]
  · show (setI _ _ _ _ _).1 60 m 1 = _
    rw [setI_ne (by omega), setI_eq]
  · rw [setI_eq]
theorem code_sm {w w' : Wd} {m : Nat} {p0 p1 : Int32} (hw : w' = setI (setI (setI w 60 m 0 p0) 60 m 1 p1) 40 0 20 (nI (m + 1))) : Sm (fun κ _ k => κ = 60 ∨ (κ = 40 ∧ k = 20)) w w' := by
  rw [hw]
  exact ((Sm.rf.set (Or.inl rfl)).set (Or.inl rfl)).set (Or.inr ⟨rfl, rfl⟩)
theorem RM.codes {w w' : Wd} {st : Rd} (h : RM w b n st) (hs : Sm (fun κ _ k => κ = 60 ∨ (κ = 40 ∧ k = 20)) w w') : RM w' b n st := h.mv hs (fun k _ z => by omega) (fun k z => by omega)
theorem m_leaf (hl : l.stackTraces = false) {p0 p1 : Int32} {E : Ex} {st : Rd} (hn150 : n ≤ 150) (h : RM w b n st) (hN : CdM w s m) (h0 : s.1 = 0) (hlt : st.1 = 0 → s.2 < st.2) (hok : st.1 = 0 → p0 = 0 ∨ (p0 = 1 ∧ ∃ q, q < 8 ∧ p1 = nI q)) (hE : st.1 = 0 → ∀ f, (if p0 = 0 then p1 else f p1.toNatClampNeg) = E f) (h8 : st.1 = 0 → w.1 40 0 8 = nI op) :
    C_X10_notes l G w [.ref (G.2.1 40 0), .int p0, .int p1] (fun v w' => v = none ∧ ∃ m', MF b n op w s m (st, E) m' w') noX := by
  obtain ⟨n1, n2, n3⟩ := hN
  refine con_mono (m_notes hl h (by omega) n1) ?_ (fun _ _ h => h)
  rintro _ w' ⟨rfl, hw'⟩
  refine ⟨rfl, ?_⟩
  by_cases hz : st.1 = 0
  · rw [if_pos hz] at hw'
    obtain ⟨q1, q2, q3, q4⟩ := code_rows hw'
    have hsm := code_sm hw'
    obtain ⟨m1, m2⟩ := n3 h0
    have hs2 := hlt hz
    have hsn : st.2 ≤ n := h.2.2.2.2.1.2
    have ehg : hgt (k0 w') m = hgt (k0 w) m := hgt_cg m (fun i hi => (q1 i hi).1)
    have p2 : k0 w' m < 2 := by
      rw [q2]
      rcases hok hz with e | ⟨e, -⟩
      · rw [e]; decide
      · rw [e]; decide
    refine ⟨m + 1, h.codes hsm, ⟨q4, by omega, fun _ => ⟨by show m + 1 ≤ st.2; omega, fun k hk => ?_⟩⟩, fun _ => ⟨by omega, by show m + 1 + s.2 ≤ m + st.2; omega, ?_, q1, ?_, fun f => ?_, fun f q hq => ?_⟩, hsm.mono (fun κ b k q => by unfold GV; omega)⟩
    · unfold cdOk
      by_cases e : k = m
      · rw [e, q2, q3]
        rcases hok hz with e | e
        · exact Or.inl e
        · exact Or.inr (Or.inl e)
      · obtain ⟨u1, u2⟩ := q1 k (by omega)
        rw [u1, u2, hgt_cg (d := k0 w) k (fun i hi => (q1 i (by omega)).1)]
        exact m2 k (by omega)
    · rw [hsm.1 40 0 8 (by omega)]
      exact h8 hz
    · rw [hgt, if_pos p2]
    · rw [stk, if_pos p2, q2, q3, pk_us]
      exact hE hz f
    · rw [stk, if_pos p2, pk_un (by omega)]
  · rw [if_neg hz] at hw'
    subst hw'
    exact ⟨m, h, ⟨n1, n2, fun z => absurd z hz⟩, fun z => absurd z hz, Sm.rf⟩
/-- two joined -/
theorem m_njoin (hl : l.stackTraces = false) {w1 w2 w3 w5 : Wd} {s2 st : Rd} {m1 m2 op1 op2 : Nat} {R R2 : Rd × Ex} {o c : Int32} (hn150 : n ≤ 150) (h1 : MF b n op1 w s m R m1 w1) (t12 : Sm G8 w1 w2) (h2 : MF b n op2 w2 s2 m1 R2 m2 w3) (t35 : Sm G8 w3 w5) (hR5 : RM w5 b n st)
    (hst : st.1 = 0 → R.1.1 = 0 ∧ R.1.2 < s2.2 ∧ R2.1.1 = 0 ∧ R2.1.2 ≤ st.2) (ho : 2 ≤ o) (hj : ∀ u v, jb o u v = jn c u v) (h8 : st.1 = 0 → w5.1 40 0 8 = nI op) :
    C_X10_notes l G w5 [.ref (G.2.1 40 0), .int o, .int 0] (fun v w6 => v = none ∧ ∃ m', MF b n op w s m (st, fun f => jn c (R.2 f) (R2.2 f)) m' w6) noX := by
  obtain ⟨a1, a2, a3, a4⟩ := h1
  obtain ⟨b1', b2, b3, b4⟩ := h2
  have hN5 : CdM w5 st m2 := b2.t t35 (fun z => ⟨(hst z).2.2.1, (hst z).2.2.2⟩)
  have sm5 : Sm GV w w5 := ((a4.tr (t12.mono G8_GV)).tr b4).tr (t35.mono G8_GV)
  obtain ⟨n1, n2, n3⟩ := hN5
  refine con_mono (m_notes hl hR5 (by omega) n1) ?_ (fun _ _ h => h)
  rintro _ w6 ⟨rfl, hw6⟩
  refine ⟨rfl, ?_⟩
  by_cases hz : st.1 = 0
  · rw [if_pos hz] at hw6
    obtain ⟨z1, z2, z3, z4⟩ := hst hz
    obtain ⟨p1, p2, p3, p4, p5, p6, p7⟩ := a3 z1
    obtain ⟨q1, q2, q3, q4, q5, q6, q7⟩ := b3 z3
    obtain ⟨x1, x2⟩ := n3 hz
    have ha2 := (a2.2.2 z1).1
    have hsn : st.2 ≤ n := hR5.2.2.2.2.1.2
    obtain ⟨y1, y2, y3, y4⟩ := code_rows hw6
    have hsm := code_sm hw6
    -- rows
    have low2 : ∀ i, i < m2 → k0 w6 i = k0 w3 i ∧ k1 w6 i = k1 w3 i := fun i hi => by
      obtain ⟨u1, u2⟩ := y1 i hi
      rw [u1, u2, G8_k0 t35, G8_k1 t35]
      exact ⟨rfl, rfl⟩
    have low1 : ∀ i, i < m1 → k0 w6 i = k0 w1 i ∧ k1 w6 i = k1 w1 i := fun i hi => by
      obtain ⟨u1, u2⟩ := low2 i (by omega)
      obtain ⟨v1, v2⟩ := q4 i hi
      rw [u1, u2, v1, v2, G8_k0 t12, G8_k1 t12]
      exact ⟨rfl, rfl⟩
    have e1 : hgt (k0 w6) m = hgt (k0 w1) m := hgt_cg m (fun i hi => (low1 i (by omega)).1)
    have e2 : hgt (k0 w6) m1 = hgt (k0 w1) m1 := hgt_cg m1 (fun i hi => (low1 i hi).1)
    have e3 : hgt (k0 w6) m2 = hgt (k0 w3) m2 := hgt_cg m2 (fun i hi => (low2 i hi).1)
    have e3' : hgt (k0 w3) m1 = hgt (k0 w1) m1 := hgt_cg m1 (fun i hi => by rw [(q4 i hi).1, G8_k0 t12])
    have H2 : hgt (k0 w6) m2 = hgt (k0 w6) m + 2 := by rw [e3, q5, e3', p5, e1]
    have no2 : ¬ k0 w6 m2 < 2 := by rw [y2]; exact Int32.not_lt.mpr ho
    have S2 : ∀ f, stk (k0 w6) (k1 w6) f m2 = stk (k0 w3) (k1 w3) f m2 := fun f => stk_cg m2 low2
    have S1 : ∀ f, stk (k0 w3) (k1 w3) f m1 = stk (k0 w1) (k1 w1) f m1 := fun f => stk_cg m1 (fun i hi => by
      obtain ⟨v1, v2⟩ := q4 i hi
      rw [v1, v2, G8_k0 t12, G8_k1 t12]
      exact ⟨rfl, rfl⟩)
    have E1 : ∀ f, stk (k0 w6) (k1 w6) f m2 (hgt (k0 w6) m) = R.2 f := fun f => by
      rw [S2, e1, q7 f _ (by rw [e3', p5]; omega), S1]
      exact p6 f
    have E2 : ∀ f, stk (k0 w6) (k1 w6) f m2 (hgt (k0 w6) m + 1) = R2.2 f := fun f => by
      rw [S2, e1, ← p5, ← e3']
      exact q6 f
    refine ⟨m2 + 1, hR5.codes hsm, ⟨y4, by omega, fun _ => ⟨by show m2 + 1 ≤ st.2; omega, fun k hk => ?_⟩⟩, fun _ => ⟨by omega, by show m2 + 1 + s.2 ≤ m + st.2; omega, ?_, fun i hi => ?_, ?_, fun f => ?_, fun f q hq => ?_⟩, sm5.tr (hsm.mono (fun κ b k q => by unfold GV; omega))⟩
    · unfold cdOk
      by_cases e : k = m2
      · rw [e, y2, H2]
        exact Or.inr (Or.inr ⟨ho, by omega⟩)
      · obtain ⟨u1, u2⟩ := y1 k (by omega)
        rw [u1, u2, hgt_cg (d := k0 w5) k (fun i hi => (y1 i (by omega)).1)]
        exact x2 k (by omega)
    · rw [hsm.1 40 0 8 (by omega)]
      exact h8 hz
    · obtain ⟨u1, u2⟩ := low1 i (by omega)
      rw [u1, u2]
      exact p4 i hi
    · rw [hgt, if_neg no2, H2]
      omega
    · rw [stk, if_neg no2, y2, H2, show hgt (k0 w6) m + 2 - 2 = hgt (k0 w6) m by omega, show hgt (k0 w6) m + 2 - 1 = hgt (k0 w6) m + 1 by omega, pk_us, E1, E2, hj]
    · rw [stk, if_neg no2, H2, show hgt (k0 w6) m + 2 - 2 = hgt (k0 w6) m by omega, pk_un (by omega), S2, q7 f q (by rw [e3', p5, ← e1]; omega), S1, p7 f q (by rw [← e1]; exact hq)]
      rw [stk_cg m (fun i hi => low1 i (by omega))]
  · rw [if_neg hz] at hw6
    subst hw6
    exact ⟨m2, hR5, ⟨n1, n2, fun z => absurd z hz⟩, fun z => absurd z hz, sm5⟩
theorem m_knownHere (hl : l.stackTraces = false) {a : Nat} (h : RM w b n (0, a)) (ha : sk b n a = a) : C_X10_knownHere l G w [.ref (G.2.1 40 0)] (fun r w' => r = some (.int (if faF b a (we b n a) < 8 then nI (faF b a (we b n a)) else -1)) ∧ RM w' b n (0, if faF b a (we b n a) < 8 then we b n a else a) ∧ Sm GR4 w w') noX := by
  have tt : ∀ {x : Bool}, ¬ x = false → x = true := fun {x} q => by cases x; exact absurd rfl q; rfl
  -- one look: yes, and it is skipped; or no, and all is as it was
  have yes : ∀ {w' w2 : Wd} {L : List Nat}, isW b a (we b n a) L = true → RM w2 b n (if nxW b n (0, a) L then (0, we b n (sk b n ((0, a) : Rd).2)) else pkS b n (0, a)) → RM w2 b n (0, we b n a) := fun {w' w2 L} hL hq => by
    rw [nxW_0 ha, hL, if_pos rfl] at hq
    have : sk b n ((0, a) : Rd).2 = a := ha
    rw [this] at hq
    exact hq
  have no : ∀ {w2 : Wd} {L : List Nat}, isW b a (we b n a) L = false → RM w2 b n (if nxW b n (0, a) L then (0, we b n (sk b n ((0, a) : Rd).2)) else pkS b n (0, a)) → RM w2 b n (0, a) := fun {w2 L} hL hq => by
    rw [nxW_0 ha, hL, pkS_0 ha] at hq
    exact hq
  refine e_X10_knownHere hl (fun M kk hM hk F => ?_)
  subst hM
  refine con_iP (m_isNext hl ok_w6 h) (fun w2 k2 => ?_)
  rw [nxW_0 ha, bI_t]
  refine ⟨fun c0 => ?_, fun c0 => ?_⟩
  rotate_left
  · have e : faF b a (we b n a) = 0 := by unfold faF; rw [tt c0]; rfl
    rw [e]
    exact ⟨rfl, yes (w' := w) (tt c0) k2.1, k2.2⟩
  refine con_iP (m_isNext hl ok_w7 (no c0 k2.1)) (fun w4 k4 => ?_)
  rw [nxW_0 ha, bI_t]
  have s4 := k2.2.tr k4.2
  refine ⟨fun c1 => ?_, fun c1 => ?_⟩
  rotate_left
  · have e : faF b a (we b n a) = 1 := by unfold faF; rw [c0, tt c1]; rfl
    rw [e]
    exact ⟨rfl, yes (w' := w) (tt c1) k4.1, s4⟩
  refine con_iP (m_isNext hl ok_w8 (no c1 k4.1)) (fun w6 k6 => ?_)
  rw [nxW_0 ha, bI_t]
  have s6 := s4.tr k6.2
  refine ⟨fun c2 => ?_, fun c2 => ?_⟩
  rotate_left
  · have e : faF b a (we b n a) = 2 := by unfold faF; rw [c0, c1, tt c2]; rfl
    rw [e]
    exact ⟨rfl, yes (w' := w) (tt c2) k6.1, s6⟩
  refine con_iP (m_isNext hl ok_w9 (no c2 k6.1)) (fun w8 k8 => ?_)
  rw [nxW_0 ha, bI_t]
  have s8 := s6.tr k8.2
  refine ⟨fun c3 => ?_, fun c3 => ?_⟩
  rotate_left
  · have e : faF b a (we b n a) = 3 := by unfold faF; rw [c0, c1, c2, tt c3]; rfl
    rw [e]
    exact ⟨rfl, yes (w' := w) (tt c3) k8.1, s8⟩
  refine con_iP (m_isNext hl ok_w1 (no c3 k8.1)) (fun w10 k10 => ?_)
  rw [nxW_0 ha, bI_t]
  have s10 := s8.tr k10.2
  refine ⟨fun c4 => ?_, fun c4 => ?_⟩
  rotate_left
  · have e : faF b a (we b n a) = 4 := by unfold faF; rw [c0, c1, c2, c3, tt c4]; rfl
    rw [e]
    exact ⟨rfl, yes (w' := w) (tt c4) k10.1, s10⟩
  refine con_iP (m_isNext hl ok_w10 (no c4 k10.1)) (fun w12 k12 => ?_)
  rw [nxW_0 ha, bI_t]
  have s12 := s10.tr k12.2
  refine ⟨fun c5 => ?_, fun c5 => ?_⟩
  rotate_left
  · have e : faF b a (we b n a) = 5 := by unfold faF; rw [c0, c1, c2, c3, c4, tt c5]; rfl
    rw [e]
    exact ⟨rfl, yes (w' := w) (tt c5) k12.1, s12⟩
  refine con_iP (m_isNext hl ok_w11 (no c5 k12.1)) (fun w14 k14 => ?_)
  rw [nxW_0 ha, bI_t]
  have s14 := s12.tr k14.2
  refine ⟨fun c6 => ?_, fun c6 => ?_⟩
  rotate_left
  · have e : faF b a (we b n a) = 6 := by unfold faF; rw [c0, c1, c2, c3, c4, c5, tt c6]; rfl
    rw [e]
    exact ⟨rfl, yes (w' := w) (tt c6) k14.1, s14⟩
  refine con_iP (m_isNext hl ok_w0 (no c6 k14.1)) (fun w16 k16 => ?_)
  rw [nxW_0 ha, bI_t]
  have s16 := s14.tr k16.2
  refine ⟨fun c7 => ?_, fun c7 => ?_⟩
  · have e : faF b a (we b n a) = 8 := by unfold faF; rw [c0, c1, c2, c3, c4, c5, c6, c7]; rfl
    rw [e]
    exact ⟨rfl, no c7 k16.1, s16⟩
  · have e : faF b a (we b n a) = 7 := by unfold faF; rw [c0, c1, c2, c3, c4, c5, c6, tt c7]; rfl
    rw [e]
    exact ⟨rfl, yes (w' := w) (tt c7) k16.1, s16⟩
theorem m_opensOne (hl : l.stackTraces = false) {x : Nat} (h : RM w b n (0, x)) (hop : op ≤ 6) (h8 : w.1 40 0 8 = nI op) : C_X10_opensOne l G w [.ref (G.2.1 40 0)] (fun r w' => r = some (.int (bI (decide (op < 6)))) ∧ RM w' b n (if op < 6 then (0, x) else (3, x)) ∧ (op < 6 → w'.1 40 0 8 = nI (op + 1)) ∧ Sm G8 w w') noX := by
  have hxn : x ≤ n := h.2.2.2.2.1.2
  refine e_X10_opensOne hl (fun M kk hM hk F => ?_)
  subst hM
  have c6 : (nI op = (6 : Int32)) ↔ op = 6 := nI_eq (b := 6) (by omega) (by decide)
  rw [h.zero, h8, c6, (h.2.2.2.2.2.2.1 rfl).2]
  refine ⟨fun z => absurd rfl z, fun _ => ⟨fun hq => b_X10_opensOne_28 F hk ?_, fun hq => ?_⟩⟩
  · rw [h.zero, h8, ← nI_succ]
    refine ⟨fun z => absurd rfl z, fun _ w1 hw1 => b_X10_opensOne_45 F hk ?_⟩
    have R1 : RM w1 b n (0, x) := h.mv (S := fun κ _ k => κ = 40 ∧ k = 8) (by rw [hw1]; exact Sm.rf.set ⟨rfl, rfl⟩) (fun k q z => by omega) (fun k z => by omega)
    rw [R1.zero]
    refine ⟨fun z => absurd rfl z, fun _ => ⟨?_, ?_, fun _ => ?_, ?_⟩⟩
    · rw [decide_eq_true (by omega)]; rfl
    · rw [if_pos (by omega)]; exact R1
    · rw [hw1, setI_eq]
    · rw [hw1]; exact Sm.rf.set (by unfold G8; omega)
  · have hq := Classical.not_not.mp hq
    refine con_vP (m_wrong hl h (f := 3) (x := x) (by decide) (by decide) hxn) (fun w2 k2 => b_X10_opensOne_45 F hk ?_)
    have k21 := k2.1
    rw [flF, if_neg (fun z => z rfl)] at k21
    rw [k21.zero]
    refine ⟨fun _ => ⟨?_, ?_, fun z => absurd z (by omega), k2.2.1.mono GR_G8⟩, fun z => absurd (by show ¬ (3 : Nat) = 0; decide) z⟩
    · rw [decide_eq_false (by omega)]; rfl
    · rw [if_neg (by omega)]; exact k21
end LD
