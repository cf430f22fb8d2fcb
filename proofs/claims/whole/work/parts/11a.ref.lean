/-! The reference: small methods, its law, its rows. -/
def RollM (w : Wd) (T : Tx) : Prop :=
  w.1 44 0 0 = nI (tS T) ∧ w.1 44 0 1 = nI (tN T) ∧ w.1 44 0 2 = nI (tL T) ∧ w.1 44 0 3 = tB T ∧ (∀ s, s < tS T → w.1 48 s 0 = sv T s ∧ w.1 48 s 1 = sp T s ∧ w.1 48 s 2 = sb T s) ∧
  (∀ n, n < tN T → w.1 52 n 0 = nv T n ∧ w.1 52 n 1 = nl T n) ∧ ∀ k, k < tL T → w.1 56 k 0 = kn T k ∧ w.1 56 k 1 = kv T k
def jb (how u v : Int32) : Int32 :=
  if how = 2 then u + v else if how = 3 then u - v else if how = 4 then u * v else if how = 5 then (if v = 0 then 0 else if v = -1 then -u else u / v) else if how = 6 then (if v = 0 then 0 else if v = -1 then 0 else u - u / v * v)
  else if how = 7 then (if u < v then u else v) else (if v < u then u else v)
/-- the height of the stack behind k codes -/
def hgt (c0 : Nat → Int32) : Nat → Nat
  | 0 => 0
  | k + 1 => if c0 k < 2 then hgt c0 k + 1 else hgt c0 k - 1
/-- the stack behind k codes -/
def stk (c0 c1 f : Nat → Int32) : Nat → Nat → Int32
  | 0 => fun _ => f 0
  | k + 1 => if c0 k < 2 then upd (stk c0 c1 f k) (hgt c0 k) (if c0 k = 0 then c1 k else f (c1 k).toNatClampNeg)
    else upd (stk c0 c1 f k) (hgt c0 k - 2) (jb (c0 k) (stk c0 c1 f k (hgt c0 k - 2)) (stk c0 c1 f k (hgt c0 k - 1)))
def LawM (w : Wd) (E : Ex) : Prop :=
  ∃ n, n ≤ 160 ∧ w.1 40 0 19 = nI n ∧ (∀ k, k < n → (w.1 58 k 0 = 0 ∨ (w.1 58 k 0 = 1 ∧ ∃ q, q < 8 ∧ w.1 58 k 1 = nI q) ∨ (2 ≤ w.1 58 k 0 ∧ 2 ≤ hgt (fun i => w.1 58 i 0) k))) ∧ (0 < n → 1 ≤ hgt (fun i => w.1 58 i 0) n) ∧
    ∀ f, E f = stk (fun i => w.1 58 i 0) (fun i => w.1 58 i 1) f n 0
def StM (w : Wd) (T : Tx) (E : Ex) : Prop := RollM w T ∧ LawM w E
theorem hgt_le (c0 : Nat → Int32) : ∀ k, hgt c0 k ≤ k
  | 0 => Nat.le_refl _
  | k + 1 => by
    have := hgt_le c0 k
    rw [hgt]
    split <;> omega
theorem RollM.mv {w w' : Wd} {T : Tx} {S : Nat → Nat → Nat → Prop} (h : RollM w T) (hs : Sm S w w') (hn : ∀ κ b k, κ = 44 ∨ κ = 48 ∨ κ = 52 ∨ κ = 56 → ¬ S κ b k) : RollM w' T := by
  obtain ⟨h1, h2, h3, h4, h5, h6, h7⟩ := h
  have e : ∀ κ b k, (κ = 44 ∨ κ = 48 ∨ κ = 52 ∨ κ = 56) → w'.1 κ b k = w.1 κ b k := fun κ b k q => hs.1 κ b k (hn κ b k q)
  refine ⟨(e 44 0 0 (by omega)).trans h1, (e 44 0 1 (by omega)).trans h2, (e 44 0 2 (by omega)).trans h3, (e 44 0 3 (by omega)).trans h4, fun s q => ?_, fun n q => ?_, fun k q => ?_⟩
  · obtain ⟨a, b, c⟩ := h5 s q
    exact ⟨(e 48 s 0 (by omega)).trans a, (e 48 s 1 (by omega)).trans b, (e 48 s 2 (by omega)).trans c⟩
  · obtain ⟨a, b⟩ := h6 n q
    exact ⟨(e 52 n 0 (by omega)).trans a, (e 52 n 1 (by omega)).trans b⟩
  · obtain ⟨a, b⟩ := h7 k q
    exact ⟨(e 56 k 0 (by omega)).trans a, (e 56 k 1 (by omega)).trans b⟩
theorem LawM.mv {w w' : Wd} {E : Ex} {S : Nat → Nat → Nat → Prop} (h : LawM w E) (hs : Sm S w w') (hn : ∀ b k, ¬ S 58 b k) (h19 : ¬ S 40 0 19) : LawM w' E := by
  obtain ⟨n, h1, h2, h3, h4, h5⟩ := h
  have e : w'.1 58 = w.1 58 := by
    funext b k
    exact hs.1 58 b k (hn b k)
  unfold LawM
  rw [e, hs.1 40 0 19 h19]
  exact ⟨n, h1, h2, h3, h4, h5⟩
theorem StM.mv {w w' : Wd} {T : Tx} {E : Ex} {S : Nat → Nat → Nat → Prop} (h : StM w T E) (hs : Sm S w w') (hn : ∀ κ b k, κ = 44 ∨ κ = 48 ∨ κ = 52 ∨ κ = 56 ∨ κ = 58 → ¬ S κ b k) (h19 : ¬ S 40 0 19) : StM w' T E :=
  ⟨h.1.mv hs (fun κ b k q => hn κ b k (by omega)), h.2.mv hs (fun b k => hn 58 b k (by omega)) h19⟩
/-- a place of a state row -/
theorem ixa (a i : Nat) (h : a + i < 57) : vp_in (nI a + nI i) 57 ∧ (nI a + nI i).toNatClampNeg = a + i := by
  rw [nI_add]
  exact ⟨vp_in_nI h (by decide), nI_clamp (by omega)⟩
def N2 (κ _b _k : Nat) : Prop := κ = 65 ∨ κ = 66
/-- garbage of a hymn over row j -/
def NJ (j κ b k : Nat) : Prop := κ = 65 ∨ κ = 66 ∨ (κ = 69 ∧ b = j) ∨ (κ = 40 ∧ k = 38)
theorem N2_NJ {j : Nat} : ∀ κ b k, N2 κ b k → NJ j κ b k := by
  intro κ b k h
  unfold N2 at h
  unfold NJ
  omega
section MB
variable {l : Launch} {G : Gx} {w : Wd}
theorem m_in (hl : l.stackTraces = false) {v a b : Int32} : C_X10_in l G w [.int v, .int a, .int b] (fun r w' => r = some (.int (bI (decide (a ≤ v) && decide (v ≤ b)))) ∧ w' = w) noX := by
  refine e_X10_in hl (fun M kk hM hk F => ⟨fun h => ⟨?_, rfl⟩, fun h => ⟨fun h2 => ⟨?_, rfl⟩, fun h2 => ⟨?_, rfl⟩⟩⟩)
  · simp [bI, Int32.not_le.mpr h]
  · simp [bI, Int32.not_le.mpr h2]
  · simp [bI, Int32.not_lt.mp h, Int32.not_lt.mp h2]
theorem m_less (hl : l.stackTraces = false) {a b : Int32} : C_X10_less l G w [.int a, .int b] (fun r w' => r = some (.int (mnI a b)) ∧ w' = w) noX := by
  refine e_X10_less hl (fun M kk hM hk F => ⟨fun h => ⟨?_, rfl⟩, fun h => ⟨?_, rfl⟩⟩)
  · rw [mnI, if_neg (Int32.not_lt.mpr h)]
  · rw [mnI, if_pos (Int32.not_le.mp h)]
def mxI (a b : Int32) : Int32 := if b < a then a else b
theorem m_more (hl : l.stackTraces = false) {a b : Int32} : C_X10_more l G w [.int a, .int b] (fun r w' => r = some (.int (mxI a b)) ∧ w' = w) noX := by
  refine e_X10_more hl (fun M kk hM hk F => ⟨fun h => ⟨?_, rfl⟩, fun h => ⟨?_, rfl⟩⟩)
  · rw [mxI, if_neg (Int32.not_lt.mpr h)]
  · rw [mxI, if_pos (Int32.not_le.mp h)]
theorem m_has (hl : l.stackTraces = false) {a b : Int32} : C_X10_has l G w [.int a, .int b] (fun r w' => r = some (.int (bI ((a >>> (b &&& 31)) &&& 1 == 1))) ∧ w' = w) noX := by
  refine e_X10_has hl (fun M kk hM hk F => ⟨fun h => ⟨?_, rfl⟩, fun h => ⟨?_, rfl⟩⟩)
  · rw [beq_eq_false_iff_ne.mpr h]; rfl
  · rw [Classical.not_not.mp h]; rfl
theorem m_isVowel (hl : l.stackTraces = false) {v : Int32} : C_X10_isVowel l G w [.int v] (fun r w' => r = some (.int (bI (decide (0 ≤ v) && decide (v ≤ 5)))) ∧ w' = w) noX :=
  e_X10_isVowel hl (fun M kk hM hk F => by subst hM; exact con_i (m_in hl) ⟨bI_nar _, rfl, rfl⟩)
theorem m_isSinger (hl : l.stackTraces = false) {v : Int32} : C_X10_isSinger l G w [.ref (G.2.1 40 0), .int v] (fun r w' => r = some (.int (bI (decide (0 ≤ v) && decide (v ≤ w.1 44 0 0 - 1)))) ∧ w' = w) noX :=
  e_X10_isSinger hl (fun M kk hM hk F => by subst hM; exact con_i (m_in hl) ⟨bI_nar _, rfl, rfl⟩)
theorem m_isNote (hl : l.stackTraces = false) {v : Int32} : C_X10_isNote l G w [.ref (G.2.1 40 0), .int v] (fun r w' => r = some (.int (bI (decide (0 ≤ v) && decide (v ≤ w.1 44 0 1 - 1)))) ∧ w' = w) noX :=
  e_X10_isNote hl (fun M kk hM hk F => by subst hM; exact con_i (m_in hl) ⟨bI_nar _, rfl, rfl⟩)
theorem m_everySinger (hl : l.stackTraces = false) : C_X10_everySinger l G w [.ref (G.2.1 40 0)] (fun r w' => r = some (.int (((1 : Int32) <<< ((w.1 44 0 0) &&& 31)) - 1)) ∧ w' = w) noX :=
  e_X10_everySinger hl (fun M kk hM hk F => ⟨rfl, rfl⟩)
theorem m_by (hl : l.stackTraces = false) {a b c : Int32} : C_X10_by l G w [.int a, .int b, .int c] (fun r w' => r = some (.int (jb a b c)) ∧ w' = w) noX := by
  refine e_X10_by hl (fun M kk hM hk F => ⟨?_, ?_, ?_, ?_, ?_, ?_, ?_⟩)
  · rintro rfl; exact ⟨rfl, rfl⟩
  · rintro rfl; exact ⟨rfl, rfl⟩
  · rintro rfl; exact ⟨rfl, rfl⟩
  · rintro rfl
    refine ⟨fun h => ⟨fun h2 => ⟨h, ?_, rfl⟩, fun h2 => ⟨?_, rfl⟩⟩, fun h => ⟨?_, rfl⟩⟩
    · simp only [jb, h, h2, if_false]; rfl
    · simp only [jb, Classical.not_not.mp h2]; rfl
    · simp only [jb, Classical.not_not.mp h]; rfl
  · rintro rfl
    refine ⟨fun h => ⟨?_, rfl⟩, fun h => ⟨fun h2 => ⟨h, ?_, rfl⟩, fun h2 => ⟨?_, rfl⟩⟩⟩
    · simp only [jb, h]; rfl
    · simp only [jb, h, h2, if_false]; rfl
    · simp only [jb, Classical.not_not.mp h2]; rfl
  · rintro rfl
    subst hM
    exact con_i (m_less hl) ⟨rfl, rfl⟩
  · rintro ⟨h1, h2, h3, h4, h5, h6⟩
    subst hM
    refine con_i (m_more hl) ⟨?_, rfl⟩
    simp only [jb, h1, h2, h3, h4, h5, h6, if_false]
    rfl
theorem m_byLaw (hl : l.stackTraces = false) {E : Ex} (hE : LawM w E) : C_X10_byLaw l G w [.ref (G.2.1 40 0)] (fun v w' => v = some (.int (clampE (E (w.1 66 0)))) ∧ Sm (fun κ _ _ => κ = 65) w w') noX := by
  obtain ⟨n, h1, h2, h3, h4, h5⟩ := hE
  refine e_X10_byLaw hl (fun M kk hM hk F => ?_)
  subst hM
  intro w1 hw1
  have hs1 : Sm (fun κ _ _ => κ = 65) w w1 := by rw [hw1]; exact Sm.rf.set rfl
  refine up_to (P := fun i => ∀ w' : Wd, Sm (fun κ _ _ => κ = 65) w w' → (∀ q, (q < hgt (fun i => w.1 58 i 0) i ∨ (q = 0 ∧ i = 0)) → w'.1 65 0 q = stk (fun i => w.1 58 i 0) (fun i => w.1 58 i 1) (w.1 66 0) i q) →
      Z M G 0 (fun v w' => v = some (.int (clampE (E (w.1 66 0)))) ∧ Sm (fun κ _ _ => κ = 65) w w') noX w' 16 [some (.ref (G.2.1 40 0)), some (.int (nI (hgt (fun i => w.1 58 i 0) i))), some (.int (nI i))] []) n ?_ ?_ w1 hs1 ?_
  · intro i hi ih w' hs hv
    have hH := hgt_le (fun i => w.1 58 i 0) i
    have e58 : ∀ b k, w'.1 58 b k = w.1 58 b k := fun b k => hs.1 58 b k (by show ¬ 58 = 65; decide)
    have ci : (nI i).toNatClampNeg = i := nI_clamp (by omega)
    have hii : vp_in (nI i) 160 := vp_in_nI (by omega) (by decide)
    refine b_X10_byLaw_16 F hk ⟨fun hc => ?_, fun _ => ⟨hii, ?_⟩⟩
    · rw [hs.1 40 0 19 (by show ¬ 40 = 65; decide), h2] at hc
      exact absurd hc (nI_ge hi (by omega))
    · rw [ci, e58, e58]
      have push : ∀ v : Int32, w.1 58 i 0 < 2 → v = (if w.1 58 i 0 = 0 then w.1 58 i 1 else w.1 66 0 (w.1 58 i 1).toNatClampNeg) → ∀ w2 : Wd, w2 = setI w' 65 0 (nI (hgt (fun i => w.1 58 i 0) i)).toNatClampNeg v →
          Z M G 0 (fun v w' => v = some (.int (clampE (E (w.1 66 0)))) ∧ Sm (fun κ _ _ => κ = 65) w w') noX w2 16 [some (.ref (G.2.1 40 0)), some (.int (nI (hgt (fun i => w.1 58 i 0) i) + 1)), some (.int (nI i + 1))] [] := by
        intro v h2' hv2 w2 hw2
        rw [nI_clamp (by omega)] at hw2
        rw [hgt, if_pos h2'] at ih
        rw [← nI_succ, ← nI_succ]
        refine ih w2 (by rw [hw2]; exact hs.set rfl) (fun q hq => ?_)
        rw [stk, if_pos h2', hw2, setI_1]
        by_cases hqe : q = hgt (fun i => w.1 58 i 0) i
        · rw [if_pos ⟨rfl, rfl, hqe⟩, hqe, pk_us, hv2]
        · rw [if_neg (fun z => hqe z.2.2), pk_un hqe]
          exact hv q (Or.inl (by omega))
      have hpi : vp_in (nI (hgt (fun i => w.1 58 i 0) i)) 160 := vp_in_nI (by omega) (by decide)
      rcases h3 i hi with h0 | ⟨h0, q, hq8, hqe⟩ | ⟨hge, hh2⟩
      · have hlt : w.1 58 i 0 < 2 := by rw [h0]; decide
        refine ⟨fun hc => absurd hc (Int32.not_le.mpr hlt), fun _ => ⟨hii, fun hc => absurd h0 hc, fun _ => ⟨hii, hpi, fun w2 hw2 => push _ hlt (by rw [if_pos h0]) w2 hw2⟩⟩⟩
      · have hlt : w.1 58 i 0 < 2 := by rw [h0]; decide
        have hn0 : ¬ w.1 58 i 0 = 0 := by rw [h0]; decide
        refine ⟨fun hc => absurd hc (Int32.not_le.mpr hlt), fun _ => ⟨hii, fun _ => ⟨hii, ?_, hpi, fun w2 hw2 => push _ hlt ?_ w2 hw2⟩, fun hc => absurd (Classical.not_not.mp hc) hn0⟩⟩
        · rw [hqe]; exact vp_in_nI hq8 (by decide)
        · rw [if_neg hn0, hs.1 66 0 _ (by show ¬ 66 = 65; decide)]
      · obtain ⟨H, hHe⟩ : ∃ H, hgt (fun i => w.1 58 i 0) i = H + 2 := ⟨hgt (fun i => w.1 58 i 0) i - 2, by omega⟩
        have e1 : nI (H + 2) + (-1) = nI (H + 1) := pk_m1 (H + 1)
        have e2 : nI (H + 1) - (1 : Int32) = nI H := nI_pred H
        have hnl : ¬ w.1 58 i 0 < 2 := Int32.not_lt.mpr hge
        rw [hgt, if_neg hnl, hHe] at ih
        rw [hHe] at hv
        rw [hHe, e1, e2]
        have i1 : vp_in (nI (H + 1)) 160 := vp_in_nI (by omega) (by decide)
        have i0 : vp_in (nI H) 160 := vp_in_nI (by omega) (by decide)
        refine ⟨fun _ => ⟨hii, i0, i1, ?_⟩, fun hc => absurd hge hc⟩
        rw [nI_clamp (by omega), nI_clamp (by omega)]
        refine con_i (m_by hl) ⟨i0, fun w9 hw9 => ?_⟩
        rw [← nI_succ]
        refine ih w9 (by rw [hw9]; exact hs.set rfl) (fun q hq => ?_)
        rw [stk, if_neg hnl, hHe, hw9, setI_1, show H + 2 - 2 = H by omega, show H + 2 - 1 = H + 1 by omega]
        by_cases hqe : q = H
        · rw [if_pos ⟨rfl, rfl, hqe⟩, hqe, pk_us, hv H (Or.inl (by omega)), hv (H + 1) (Or.inl (by omega))]
        · rw [if_neg (fun z => hqe z.2.2), pk_un hqe]
          exact hv q (Or.inl (by omega))
  · intro w' hs hv
    refine b_X10_byLaw_16 F hk ⟨fun _ => ?_, fun hc => ?_⟩
    · have e0 : w'.1 65 0 0 = E (w.1 66 0) := by
        rw [h5]
        refine hv 0 ?_
        by_cases hn : n = 0
        · exact Or.inr ⟨rfl, hn⟩
        · have := h4 (by omega)
          exact Or.inl (by omega)
      rw [e0]
      refine con_i (m_more hl) (con_i (m_less hl) ⟨?_, hs⟩)
      unfold clampE mnI mxI
      by_cases hx : E (w.1 66 0) < 0
      · rw [if_pos hx, if_pos hx]; rfl
      · rw [if_neg hx, if_neg hx]
    · rw [hs.1 40 0 19 (by show ¬ 40 = 65; decide), h2] at hc
      exact absurd (nI_le (Nat.le_refl _) (by omega)) hc
  · intro q hq
    rw [hgt] at hq
    have : q = 0 := by omega
    rw [this, hw1]
    simp [setI_1, stk]
end MB
