/-! The class reads a law. -/
def NF (b : Nat → Nat) (n r : Nat) (w : Wd) (s : Rd) (c : Nat) (R : Rd × Ex) (x : Int32) (c' : Nat) (w' : Wd) : Prop := RC w' b n R.1 ∧ NdC w' r R.1 c' ∧
  (R.1.1 = 0 → c < c' ∧ c' + s.2 ≤ c + R.1.2 ∧ x = nI (c' - 1) ∧ (∀ i, i < c → w'.1 34 r i = w.1 34 r i ∧ w'.1 35 r i = w.1 35 r i ∧ w'.1 36 r i = w.1 36 r i) ∧ ∀ f, lvl (w'.1 34 r) (w'.1 35 r) (w'.1 36 r) f c' (c' - 1) = R.2 f) ∧ Sm (GN r) w w'
theorem NP.of {b : Nat → Nat} {n r : Nat} {w w' : Wd} {s : Rd} {c c' : Nat} {R : Rd × Ex} {x : Int32} (h : NF b n r w s c R x c' w') : NP b n r w s c R (some (.int x)) w' := ⟨x, c', rfl, h⟩
theorem GT_row {r : Nat} {w w' : Wd} (h : Sm GT w w') {κ : Nat} (hκ : κ ≠ 1) : w'.1 κ r = w.1 κ r := funext fun _ => h.oth GT_1 hκ
theorem NF.wrap {b : Nat → Nat} {n r : Nat} {w w2 w4 w6 : Wd} {s s2 st : Rd} {c c' : Nat} {R : Rd × Ex} {x : Int32} (h : NF b n r w2 s2 c R x c' w4) (h1 : Sm GT w w2) (h12 : s.2 ≤ s2.2) (h2 : Sm GT w4 w6) (hR : RC w6 b n st) (hst : st.1 = 0 → R.1.1 = 0 ∧ R.1.2 ≤ st.2) : NF b n r w s c (st, R.2) x c' w6 := by
  obtain ⟨a1, a2, a3, a4⟩ := h
  refine ⟨hR, a2.t h2 GT_1 hst, fun z => ?_, ((h1.mono GT_GN).tr a4).tr (h2.mono GT_GN)⟩
  obtain ⟨z1, z2⟩ := hst z
  obtain ⟨q1, q2, q3, q4, q5⟩ := a3 z1
  refine ⟨q1, by show c' + s.2 ≤ c + st.2; omega, q3, fun i hi => ?_, ?_⟩
  · rw [GT_row h2 (by decide), GT_row h2 (by decide), GT_row h2 (by decide), ← GT_row h1 (κ := 34) (by decide), ← GT_row h1 (κ := 35) (by decide), ← GT_row h1 (κ := 36) (by decide)]
    exact q4 i hi
  · rw [GT_row h2 (by decide), GT_row h2 (by decide), GT_row h2 (by decide)]
    exact q5
section LB
variable {l : Launch} {G : Gx} {w : Wd} {b : Nat → Nat} {n r : Nat} {s : Rd} {c : Nat}
/-- a new node behind c of them, when all is well -/
theorem node_rows {w w' : Wd} {r c : Nat} {p0 p1 p2 : Int32} (hw : w' = setI (setI (setI (setI w 34 r c p0) 35 r c p1) 36 r c p2) 8 r 5 (nI (c + 1))) : (∀ i, i < c → w'.1 34 r i = w.1 34 r i ∧ w'.1 35 r i = w.1 35 r i ∧ w'.1 36 r i = w.1 36 r i) ∧ w'.1 34 r c = p0 ∧ w'.1 35 r c = p1 ∧ w'.1 36 r c = p2 ∧ w'.1 8 r 5 = nI (c + 1) := by
  subst hw
  refine ⟨fun i hi => ⟨?_, ?_, ?_⟩, ?_, ?_, ?_, ?_⟩
  · rw [setI_ne (by omega), setI_ne (by omega), setI_ne (by omega), setI_ne (by omega)]
  · rw [setI_ne (by omega), setI_ne (by omega), setI_ne (by omega), setI_ne (by omega)]
  · rw [setI_ne (by omega), setI_ne (by omega), setI_ne (by omega), setI_ne (by omega)]
  · rw [setI_ne (by omega), setI_ne (by omega), setI_ne (by omega), setI_eq]
  · rw [setI_ne (by omega), setI_ne (by omega), setI_eq]
  · rw [setI_ne (by omega), setI_eq]
  · rw [setI_eq]
theorem RC.nodes {w w' : Wd} {b : Nat → Nat} {n r : Nat} {s : Rd} (h : RC w b n s) (hs : Sm (fun κ b _ => b = r ∧ (κ = 8 ∨ (34 ≤ κ ∧ κ ≤ 36))) w w') : RC w' b n s := h.mv hs (fun k _ _ z => by omega) (fun k z => by omega)
/-- a leaf: its kind and number -/
theorem c_leaf (hl : l.stackTraces = false) {p0 p1 : Int32} {E : Ex} {st : Rd} (hr : r < 2) (hn150 : n ≤ 150) (h : RC w b n st) (hN : NdC w r s c) (h0 : s.1 = 0) (hlt : st.1 = 0 → s.2 < st.2) (hok : st.1 = 0 → ndOk p0 p1 0 c ∧ ¬ 8 < p0) (hE : st.1 = 0 → ∀ f, (if p0 < 8 then f p0.toNatClampNeg else p1) = E f) (h8 : ¬ p0 < 8 → p0 = 8) :
    C_X2_add l G w [.ref (G.2.1 8 r), .int p0, .int p1, .int 0] (fun v w' => ∃ x c', v = some (.int x) ∧ NF b n r w s c (st, E) x c' w') noX := by
  obtain ⟨n1, n2, n3⟩ := hN
  by_cases hz : st.1 = 0
  · obtain ⟨m1, m2⟩ := n3 h0
    have hs2 := hlt hz
    have hsn : st.2 ≤ n := h.2.2.2.2.1.2
    have hc : c < 150 := by omega
    refine con_mono (c_lawAdd hl hr hc n1) ?_ (fun _ _ h => h)
    rintro _ w' ⟨rfl, hw'⟩
    obtain ⟨q1, q2, q3, q4, q5⟩ := node_rows hw'
    have hsm : Sm (fun κ b _ => b = r ∧ (κ = 8 ∨ (34 ≤ κ ∧ κ ≤ 36))) w w' := by rw [hw']; exact (((Sm.rf.set (by omega)).set (by omega)).set (by omega)).set (by omega)
    refine ⟨nI c, c + 1, rfl, h.nodes hsm, ⟨q5, by omega, fun _ => ⟨by show c + 1 ≤ st.2; omega, fun i hi => ?_⟩⟩, fun _ => ⟨by omega, by show c + 1 + s.2 ≤ c + st.2; omega, by rw [Nat.add_sub_cancel], q1, fun f => ?_⟩, hsm.mono (fun κ b k q => Or.inr q)⟩
    · by_cases e : i = c
      · rw [e, q2, q3, q4]
        exact (hok hz).1
      · obtain ⟨y1, y2, y3⟩ := q1 i (by omega)
        rw [y1, y2, y3]
        exact m2 i (by omega)
    · rw [Nat.add_sub_cancel, lvl_at, q2, q3]
      refine Eq.trans ?_ (hE hz f)
      by_cases e8 : p0 < 8
      · rw [if_pos e8, if_pos e8]
      · rw [if_neg e8, if_neg e8, if_pos (h8 e8)]
  · refine con_mono (c_lawAddX hl hr n2 n1) ?_ (fun _ _ h => h)
    rintro _ w' ⟨⟨x, rfl⟩, ⟨c', y1, y2⟩, hsm⟩
    exact ⟨x, c', rfl, h.nodes hsm, ⟨y2, y1, fun z => absurd z hz⟩, fun z => absurd z hz, hsm.mono (fun κ b k q => Or.inr q)⟩
/-- two joined -/
theorem c_join (hl : l.stackTraces = false) {w1 w2 w3 w5 : Wd} {s2 st : Rd} {c1 c2 : Nat} {R R2 : Rd × Ex} {x x2 op : Int32} (hr : r < 2) (hn150 : n ≤ 150) (h1 : NF b n r w s c R x c1 w1) (t12 : Sm GT w1 w2) (h2 : NF b n r w2 s2 c1 R2 x2 c2 w3) (t35 : Sm GT w3 w5) (hR5 : RC w5 b n st)
    (hst : st.1 = 0 → R.1.1 = 0 ∧ R.1.2 < s2.2 ∧ R2.1.1 = 0 ∧ R2.1.2 ≤ st.2) (hop : 8 < op) :
    C_X2_add l G w5 [.ref (G.2.1 8 r), .int op, .int x, .int x2] (fun v w6 => ∃ x6 c6, v = some (.int x6) ∧ NF b n r w s c (st, fun f => jn op (R.2 f) (R2.2 f)) x6 c6 w6) noX := by
  obtain ⟨a1, a2, a3, a4⟩ := h1
  obtain ⟨b1', b2, b3, b4⟩ := h2
  have hN5 : NdC w5 r st c2 := b2.t t35 GT_1 (fun z => ⟨(hst z).2.2.1, (hst z).2.2.2⟩)
  have sm5 : Sm (GN r) w w5 := ((a4.tr (t12.mono GT_GN)).tr b4).tr (t35.mono GT_GN)
  by_cases hz : st.1 = 0
  · obtain ⟨z1, z2, z3, z4⟩ := hst hz
    obtain ⟨p1, p2, p3, p4, p5⟩ := a3 z1
    obtain ⟨q1, q2, q3, q4, q5⟩ := b3 z3
    obtain ⟨n1, n2, n3⟩ := hN5
    obtain ⟨m1, m2⟩ := n3 hz
    have ha2 := (a2.2.2 z1).1
    have hsn : st.2 ≤ n := hR5.2.2.2.2.1.2
    have hc2 : c2 < 150 := by omega
    refine con_mono (c_lawAdd hl hr hc2 n1) ?_ (fun _ _ h => h)
    rintro _ w6 ⟨rfl, hw6⟩
    obtain ⟨y1, y2, y3, y4, y5⟩ := node_rows hw6
    have hsm : Sm (fun κ b _ => b = r ∧ (κ = 8 ∨ (34 ≤ κ ∧ κ ≤ 36))) w5 w6 := by rw [hw6]; exact (((Sm.rf.set (by omega)).set (by omega)).set (by omega)).set (by omega)
    have e5 : ∀ κ, κ ≠ 1 → w5.1 κ r = w3.1 κ r := fun κ hκ => GT_row t35 hκ
    have e2 : ∀ κ, κ ≠ 1 → w2.1 κ r = w1.1 κ r := fun κ hκ => GT_row t12 hκ
    -- rows below c1 are those of w1
    have low : ∀ i, i < c1 → w6.1 34 r i = w1.1 34 r i ∧ w6.1 35 r i = w1.1 35 r i ∧ w6.1 36 r i = w1.1 36 r i := fun i hi => by
      obtain ⟨u1, u2, u3⟩ := y1 i (by omega)
      obtain ⟨v1, v2, v3⟩ := q4 i hi
      rw [u1, u2, u3, e5 34 (by decide), e5 35 (by decide), e5 36 (by decide), v1, v2, v3, e2 34 (by decide), e2 35 (by decide), e2 36 (by decide)]
      exact ⟨rfl, rfl, rfl⟩
    refine ⟨nI c2, c2 + 1, rfl, hR5.nodes hsm, ⟨y5, by omega, fun _ => ⟨by show c2 + 1 ≤ st.2; omega, fun i hi => ?_⟩⟩, fun _ => ⟨by omega, by show c2 + 1 + s.2 ≤ c + st.2; omega, by rw [Nat.add_sub_cancel], fun i hi => ?_, fun f => ?_⟩, sm5.tr (hsm.mono (fun κ b k q => Or.inr q))⟩
    · by_cases e : i = c2
      · rw [e, y2, y3, y4, p3, q3]
        exact Or.inr (Or.inr ⟨hop, ⟨c1 - 1, by omega, rfl⟩, c2 - 1, by omega, rfl⟩)
      · obtain ⟨u1, u2, u3⟩ := y1 i (by omega)
        rw [u1, u2, u3]
        exact m2 i (by omega)
    · obtain ⟨u1, u2, u3⟩ := low i (by omega)
      rw [u1, u2, u3]
      exact p4 i hi
    · have hn8 : ¬ op < 8 := fun z => absurd (Int32.lt_trans hop z) (by decide)
      have hne8 : ¬ op = 8 := fun z => by rw [z] at hop; exact absurd hop (by decide)
      rw [Nat.add_sub_cancel, lvl_at, y2, y3, y4, if_neg hn8, if_neg hne8, p3, q3, nI_clamp (by omega), nI_clamp (by omega)]
      have ea : lvl (w6.1 34 r) (w6.1 35 r) (w6.1 36 r) f c2 (c1 - 1) = R.2 f := by
        rw [← p5 f, show c2 = c1 + (c2 - c1) by omega, lvl_up (by omega), lvl_cg c1 low]
      have ec : lvl (w6.1 34 r) (w6.1 35 r) (w6.1 36 r) f c2 (c2 - 1) = R2.2 f := by
        rw [← q5 f, lvl_cg (kd := w3.1 34 r) (fi := w3.1 35 r) (se := w3.1 36 r) c2 (fun i hi => by
          obtain ⟨u1, u2, u3⟩ := y1 i hi
          rw [u1, u2, u3, e5 34 (by decide), e5 35 (by decide), e5 36 (by decide)]
          exact ⟨rfl, rfl, rfl⟩)]
      rw [ea, ec]
  · refine con_mono (c_lawAddX hl hr hN5.2.1 hN5.1) ?_ (fun _ _ h => h)
    rintro _ w' ⟨⟨x', rfl⟩, ⟨c', y1, y2⟩, hsm⟩
    exact ⟨x', c', rfl, hR5.nodes hsm, ⟨y2, y1, fun z => absurd z hz⟩, fun z => absurd z hz, sm5.tr (hsm.mono (fun κ b k q => Or.inr q))⟩
theorem sgnF_at {b : Nat → Nat} {n a c : Nat} (ha : sk b n a = a) (hlt : a < n) (hc : b a = c) : sgnF b n c (0, a) = (0, a + 1) := by
  unfold sgnF
  rw [if_neg (fun z => z rfl)]
  show (if sk b n a < n ∧ b (sk b n a) = c then (0, sk b n a + 1) else (1, sk b n a)) = _
  rw [ha, if_pos ⟨hlt, hc⟩]
variable {lev op : Nat} {S : Pq}
theorem c_inner (hl : l.stackTraces = false) {a : Nat} (hr : r < 2) (hop : op ≤ 6) (hlev : 9 ≤ lev) (hS : op < 6 → LwH l G b n r lev yX2_sum cX2_sum 6 (op + 1) S) (h : RC w b n (0, a)) (ha : sk b n a = a) (hlt : a < n) (hb40 : b a = 40) (hN : NdC w r (0, a) c) :
    C_X2_inner l G lev w [.ref (G.2.1 8 r), .ref (G.2.1 1 0), .int (nI op)] (fun v w' => ∃ x c', v = some (.int x) ∧ NF b n r w (0, a) c (inF b n (decide (op < 6)) S a) x c' w') noX := by
  refine e_X2_inner hr hlev hl (fun M kk hM hk F => ?_)
  subst hM
  have c6 : (nI op < (6 : Int32)) ↔ op < 6 := nI_ltI (b := 6) (by omega) (by decide)
  rw [c6]
  refine ⟨fun hq => ?_, fun hq => ?_⟩
  · have ein : inF b n (decide (op < 6)) S a = (sgnF b n 41 (S (0, a + 1)).1, (S (0, a + 1)).2) := by unfold inF; rw [decide_eq_true hq, if_pos rfl]
    rw [ein]
    refine con_vP (c_sign hl (c := 40) (by decide) h) (fun w2 k2 => ?_)
    rw [sgnF_at ha hlt hb40] at k2
    rw [← nI_succ]
    refine con_mono (hS hq w2 (0, a + 1) c k2.1 (hN.t k2.2 GT3_1 (fun _ => ⟨rfl, Nat.le_succ a⟩))) ?_ (fun _ _ h => h.elim)
    rintro _ w4 ⟨x, c', rfl, k4⟩
    refine ⟨x, rfl, con_vP (c_sign hl (c := 41) (by decide) k4.1) (fun w6 k6 => ⟨x, c', rfl, ?_⟩)⟩
    exact NF.wrap k4 (k2.2.mono GT3_GT) (Nat.le_succ a) (k6.2.mono GT3_GT) k6.1 (fun z => by
      have := sgnF_ok z
      exact ⟨this.1, Nat.le_of_lt this.2.1⟩)
  · have ein : inF b n (decide (op < 6)) S a = ((3, a), zE) := by unfold inF; rw [decide_eq_false hq]; rfl
    rw [ein, (h.2.2.2.2.2.2.1 rfl).2]
    refine con_vP (c_fail hl h (f := 3) (x := a) (by decide) (by decide) (Nat.le_of_lt hlt)) (fun w2 k2 => ⟨0, c, rfl, ?_⟩)
    rw [flF, if_neg (fun z => z rfl)] at k2
    have h3 : ¬ ((3, a) : Rd).1 = 0 := by show ¬ (3 : Nat) = 0; decide
    exact ⟨k2.1, hN.t k2.2 GT3_1 (fun z => absurd z h3), fun z => absurd z h3, k2.2.mono GT3_GN⟩
theorem c_pair (hl : l.stackTraces = false) {a e k : Nat} (hr : r < 2) (hn150 : n ≤ 150) (hop : op ≤ 6) (hlev : 9 ≤ lev) (hS : op < 6 → LwH l G b n r lev yX2_sum cX2_sum 6 (op + 1) S) (hSf : Pf S) (h : RC w b n (0, e)) (hae : a < e) (h4 : w.1 1 0 4 = nI a) (hk9 : (8 : Int32) < nI k) (hN : NdC w r (0, a) c) :
    C_X2_pair l G lev w [.ref (G.2.1 8 r), .ref (G.2.1 1 0), .int (nI op), .int (nI k)] (fun v w' => ∃ x c', v = some (.int x) ∧ NF b n r w (0, a) c (paF b n (decide (op < 6)) S a e k) x c' w') noX := by
  have hen : e ≤ n := h.2.2.2.2.1.2
  refine e_X2_pair hr hlev hl (fun M kk hM hk F => ?_)
  subst hM
  have c6 : (nI op < (6 : Int32)) ↔ op < 6 := nI_ltI (b := 6) (by omega) (by decide)
  rw [c6]
  refine ⟨fun hq => ?_, fun hq => ?_⟩
  · have ein : paF b n (decide (op < 6)) S a e k = (sgnF b n 93 (S (sgnF b n 44 (S (sgnF b n 91 (0, e))).1)).1, fun f => jn (nI k) ((S (sgnF b n 91 (0, e))).2 f) ((S (sgnF b n 44 (S (sgnF b n 91 (0, e))).1)).2 f)) := by unfold paF; rw [decide_eq_true hq, if_pos rfl]
    rw [ein]
    refine con_vP (c_sign hl (c := 91) (by decide) h) (fun w2 k2 => ?_)
    rw [← nI_succ]
    have sg1 : (sgnF b n 91 (0, e)).1 = 0 → e < (sgnF b n 91 (0, e)).2 := fun z => (sgnF_ok z).2.1
    refine con_mono (hS hq w2 _ c k2.1 (hN.t k2.2 GT3_1 (fun z => ⟨rfl, by have := sg1 z; show a ≤ _; omega⟩))) ?_ (fun _ _ h => h.elim)
    rintro _ w4 ⟨x, c', rfl, k4⟩
    refine ⟨x, rfl, ?_⟩
    refine con_vP (c_sign hl (c := 44) (by decide) k4.1) (fun w6 k6 => ?_)
    have sg2 : (sgnF b n 44 (S (sgnF b n 91 (0, e))).1).1 = 0 → (S (sgnF b n 91 (0, e))).1.1 = 0 ∧ (S (sgnF b n 91 (0, e))).1.2 < (sgnF b n 44 (S (sgnF b n 91 (0, e))).1).2 := fun z => ⟨(sgnF_ok z).1, (sgnF_ok z).2.1⟩
    refine con_mono (hS hq w6 _ c' k6.1 (k4.2.1.t k6.2 GT3_1 (fun z => ⟨(sg2 z).1, Nat.le_of_lt (sg2 z).2⟩))) ?_ (fun _ _ h => h.elim)
    rintro _ w8 ⟨x2, c2, rfl, k8⟩
    refine ⟨x2, rfl, ?_⟩
    refine con_vP (c_sign hl (c := 93) (by decide) k8.1) (fun w10 k10 => ?_)
    -- the first, seen from the word
    have K4 : NF b n r w (0, a) c (S (sgnF b n 91 (0, e))) x c' w4 := by
      by_cases z : (sgnF b n 91 (0, e)).1 = 0
      · exact NF.wrap (st := (S (sgnF b n 91 (0, e))).1) k4 (k2.2.mono GT3_GT) (by have := sg1 z; show a ≤ _; omega) Sm.rf k4.1 (fun q => ⟨q, Nat.le_refl _⟩)
      · have hf : (S (sgnF b n 91 (0, e))).1.1 ≠ 0 := by rw [hSf _ z]; exact z
        exact ⟨k4.1, k4.2.1, fun q => absurd q hf, (k2.2.mono GT3_GN).tr k4.2.2.2⟩
    refine con_mono (c_join hl (st := sgnF b n 93 (S (sgnF b n 44 (S (sgnF b n 91 (0, e))).1)).1) hr hn150 K4 (k6.2.mono GT3_GT) k8 (k10.2.mono GT3_GT) k10.1 (fun z => ?_) hk9) ?_ (fun _ _ h => h.elim)
    · have z1 := sgnF_ok z
      have z2 : (sgnF b n 44 (S (sgnF b n 91 (0, e))).1).1 = 0 := by
        by_cases q : (sgnF b n 44 (S (sgnF b n 91 (0, e))).1).1 = 0
        · exact q
        · have := z1.1
          rw [hSf _ q] at this
          exact this
      exact ⟨(sg2 z2).1, (sg2 z2).2, z1.1, Nat.le_of_lt z1.2.1⟩
    · rintro _ w12 ⟨x6, c6, rfl, k12⟩
      exact ⟨x6, rfl, x6, c6, rfl, k12⟩
  · have ein : paF b n (decide (op < 6)) S a e k = ((3, a), zE) := by unfold paF; rw [decide_eq_false hq]; rfl
    rw [ein, h4]
    refine con_vP (c_fail hl h (f := 3) (x := a) (by decide) (by decide) (by omega)) (fun w2 k2 => ⟨0, c, rfl, ?_⟩)
    rw [flF, if_neg (fun z => z rfl)] at k2
    have h3 : ¬ ((3, a) : Rd).1 = 0 := by show ¬ (3 : Nat) = 0; decide
    exact ⟨k2.1, hN.t k2.2 GT3_1 (fun z => absurd z h3), fun z => absurd z h3, k2.2.mono GT3_GN⟩
end LB
