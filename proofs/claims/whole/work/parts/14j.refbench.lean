/-! The reference: the bench, seat by seat. -/
def cpB (S : Nat) (g : Gn) (m : Nat) (l : Option Nat) : Nat → Nat × Option Nat
  | 0 => (m, l)
  | j + 1 => ((cpB S g m l j).1 ||| 2 ^ fbN S g (cpB S g m l j).1 (cpB S g m l j).2, some (fbN S g (cpB S g m l j).1 (cpB S g m l j).2))
theorem cpB_st (S : Nat) (g : Gn) : ∀ j, cpB S g 0 none j = stB S g j := by
  intro j
  induction j with
  | zero => rfl
  | succ j ih => rw [cpB, stB, ih]
theorem cpB_sh {S : Nat} {g : Gn} {m n : Nat} {l : Option Nat} (h : fbN S g m l = n) : ∀ j, cpB S g m l (j + 1) = cpB S g (m ||| 2 ^ n) (some n) j := by
  intro j
  induction j with
  | zero =>
    show (m ||| 2 ^ fbN S g m l, some (fbN S g m l)) = (m ||| 2 ^ n, some n)
    rw [h]
  | succ j ih =>
    have e1 : cpB S g m l (j + 1 + 1) = ((cpB S g m l (j + 1)).1 ||| 2 ^ fbN S g (cpB S g m l (j + 1)).1 (cpB S g m l (j + 1)).2, some (fbN S g (cpB S g m l (j + 1)).1 (cpB S g m l (j + 1)).2)) := rfl
    have e2 : cpB S g (m ||| 2 ^ n) (some n) (j + 1) = ((cpB S g (m ||| 2 ^ n) (some n) j).1 ||| 2 ^ fbN S g (cpB S g (m ||| 2 ^ n) (some n) j).1 (cpB S g (m ||| 2 ^ n) (some n) j).2, some (fbN S g (cpB S g (m ||| 2 ^ n) (some n) j).1 (cpB S g (m ||| 2 ^ n) (some n) j).2)) := rfl
    rw [e1, e2, ih]
def ltO : Option Nat → Nat → Prop
  | none, _ => True
  | some x, t => x < t
theorem ltO_iff {o : Option Nat} {t : Nat} (ho : ∀ x, o = some x → x < 2 ^ 31) (ht : t < 2 ^ 31) : oI o < nI t ↔ ltO o t := by
  cases o with
  | none =>
    refine ⟨fun _ => trivial, fun _ => ?_⟩
    show (-1 : Int32) < nI t
    rw [Int32.lt_iff_toInt_lt, nI_toInt ht]
    have e : (-1 : Int32).toInt = -1 := by decide
    omega
  | some x => exact nI_ltI (ho x rfl) ht
theorem mbK_ge {g : Gn} {V : Nat → Nat → Nat} {m : Nat} {l : Option Nat} {n : Nat} : ∀ k, n < k → m / 2 ^ n % 2 = 0 → jG g l n + V (m ||| 2 ^ n) n ≤ mbK g V m l k := by
  intro k
  induction k with
  | zero => intro h; exact absurd h (Nat.not_lt_zero _)
  | succ k ih =>
    intro hn hb
    rw [mbK]
    by_cases hq : n = k
    · subst hq
      rw [if_pos hb]
      exact Nat.le_max_right _ _
    · have := ih (by omega) hb
      split
      · exact Nat.le_trans this (Nat.le_max_left _ _)
      · exact this
theorem mbK_at {g : Gn} {V : Nat → Nat → Nat} {m : Nat} {l : Option Nat} : ∀ k, (∃ n, n < k ∧ m / 2 ^ n % 2 = 0) → ∃ n, n < k ∧ m / 2 ^ n % 2 = 0 ∧ jG g l n + V (m ||| 2 ^ n) n = mbK g V m l k := by
  intro k
  induction k with
  | zero => rintro ⟨n, h, -⟩; exact absurd h (Nat.not_lt_zero _)
  | succ k ih =>
    rintro ⟨n, hn, hb⟩
    rw [mbK]
    by_cases hk : m / 2 ^ k % 2 = 0
    · rw [if_pos hk]
      by_cases hle : mbK g V m l k ≤ jG g l k + V (m ||| 2 ^ k) k
      · exact ⟨k, by omega, hk, (Nat.max_eq_right hle).symm⟩
      · have hpos : ∃ n, n < k ∧ m / 2 ^ n % 2 = 0 := by
          by_cases hex : ∃ n, n < k ∧ m / 2 ^ n % 2 = 0
          · exact hex
          · have : mbK g V m l k = 0 := mbK_full (fun n hn => by
              rcases bit01 m n with q | q
              · exact absurd ⟨n, hn, q⟩ hex
              · exact q)
            omega
        obtain ⟨a, h1, h2, h3⟩ := ih hpos
        exact ⟨a, by omega, h2, by rw [h3, Nat.max_eq_left (by omega)]⟩
    · rw [if_neg hk]
      have hnk : n ≠ k := fun z => hk (by rw [← z]; exact hb)
      obtain ⟨a, h1, h2, h3⟩ := ih ⟨n, by omega, hb⟩
      exact ⟨a, by omega, h2, h3⟩
theorem popN_all {m : Nat} : ∀ k, (∀ n, n < k → m / 2 ^ n % 2 = 1) → popN m k = k := by
  intro k
  induction k with
  | zero => intro _; rfl
  | succ k ih => intro h; rw [popN, ih (fun n hn => h n (by omega)), h k (by omega)]
theorem hz_pins : ∀ S, S < 8 → ∀ m, m < 128 → ∀ i, i < 7 → i < S → m / 2 ^ i % 2 = 0 → popN (m ||| 2 ^ i) S = popN m S + 1 := by decide +kernel
theorem hz_pall : ∀ S, S < 8 → ∀ m, m < 128 → popN m S = S → ∀ n, n < 7 → n < S → m / 2 ^ n % 2 = 1 := by decide +kernel
/-- what the seating writes -/
def GB (κ _b k : Nat) : Prop := κ = 73 ∨ κ = 74 ∨ (κ = 40 ∧ k = 43)
theorem GB_GM : ∀ κ j k, GB κ j k → GM κ j k := by
  intro κ j k h
  unfold GB at h
  unfold GM
  omega
def BPost (S : Nat) (g : Gn) (k m : Nat) (l : Option Nat) (a : Nat) (mh : Option Nat) (w w' : Wd) : Prop :=
  Sm GB w w' ∧ (∀ j, j < k → w'.1 73 0 j = w.1 73 0 j) ∧
  ((ltO mh (a + Mb S g m l) ∧ w'.1 40 0 43 = nI (a + Mb S g m l) ∧ (∀ j, j < k → w'.1 74 0 j = w.1 73 0 j) ∧ ∀ j, j < S - k → w'.1 74 0 (k + j) = oI (cpB S g m l (j + 1)).2) ∨
   (¬ ltO mh (a + Mb S g m l) ∧ w'.1 40 0 43 = w.1 40 0 43 ∧ ∀ j, j < 7 → w'.1 74 0 j = w.1 74 0 j))
section RJ
variable {l : Launch} {G : Gx} {w : Wd} {T : Tx} {E : Ex} {σ : Sg}
theorem RQ.gb {w w' : Wd} {T : Tx} {E : Ex} {σ : Sg} (h : RQ w T E σ) (hs : Sm GB w w') : RQ w' T E σ := by
  refine h.mv hs GB_GM ?_
  rw [hs.row (fun k => by unfold GB; omega)]
  exact h.2.2.2.2.2
theorem m_benches (hl : l.stackTraces = false) (hT : Tok T) : ∀ d k m ls a mh w, d + k = tS T → RQ w T E σ → m < 2 ^ tS T → popN m (tS T) = k → a ≤ 20 * k → w.1 40 0 43 = oI mh → (∀ x, mh = some x → x < 5000) →
    (k = 0 → ls = none) → (0 < k → ∃ x, ls = some x ∧ x < tS T ∧ w.1 73 0 (k - 1) = nI x) →
    C_X10_benches l G (41 - k) w [.ref (G.2.1 40 0), .int (nI k), .int (nI m), .int (nI a)] (fun r w' => r = none ∧ BPost (tS T) (gT T σ) k m ls a mh w w') noX := by
  have hS := hT.1
  have h128 := p2_7 hS
  intro d
  induction d with
  | zero =>
    intro k m ls a mh w hdk h hm hpop ha hmh hx hl0 hl1
    have hkS : k = tS T := by omega
    have hall := hz_pall (tS T) (by omega) m (by omega) (by omega)
    have hM0 : Mb (tS T) (gT T σ) m ls = 0 := by
      rw [Mb_eq hS _ hm]
      exact mbK_full (fun n hn => hall n (by omega) hn)
    refine e_X10_benches (show 2 ≤ 41 - k by omega) hl (fun M kk hM hk F => ?_)
    subst hM
    rw [h.2.1.1.1, hmh, ltO_iff (fun x q => by have := hx x q; omega) (by omega)]
    refine ⟨fun hne => absurd (by rw [hkS]) hne, fun _ => ⟨fun hlt w1 hw1 => ?_, fun hnlt => ⟨rfl, Sm.rf, fun _ _ => rfl, Or.inr ⟨by rw [hM0]; exact hnlt, rfl, fun _ _ => rfl⟩⟩⟩⟩
    have hs1 : Sm GB w w1 := by rw [hw1]; exact Sm.rf.set (by unfold GB; omega)
    have e43 : w1.1 40 0 43 = nI a := by rw [hw1]; exact setI_eq _ _ _ _ _
    have e73 : ∀ j, w1.1 73 0 j = w.1 73 0 j := fun j => by rw [hw1]; exact setI_ne (by omega)
    refine up_to (P := fun i => ∀ w2, Sm GB w w2 → w2.1 40 0 43 = nI a → (∀ j, w2.1 73 0 j = w.1 73 0 j) → (∀ j, j < i → w2.1 74 0 j = w.1 73 0 j) → Z M G 0 (fun r w' => r = none ∧ BPost (tS T) (gT T σ) k m ls a mh w w') noX w2 27 [some (.ref (G.2.1 40 0)), some (.int (nI k)), none, none, some (.int (nI i))] []) k (fun i hi ih w2 hs2 h43 h73 h74 => ?_) (fun w2 hs2 h43 h73 h74 => ?_) w1 hs1 e43 e73 (fun j hj => absurd hj (Nat.not_lt_zero _))
    · have hii : vp_in (nI i) 7 := vp_in_nI (by omega) (by decide)
      refine b_X10_benches_27 (show 2 ≤ 41 - k by omega) F hk ⟨fun hc => absurd hc (nI_ge hi (by omega)), fun _ => ⟨hii, hii, fun w3 hw3 => ?_⟩⟩
      rw [nI_clamp (by omega)] at hw3
      rw [← nI_succ]
      refine ih w3 (by rw [hw3]; exact hs2.set (by unfold GB; omega)) (by rw [hw3, setI_ne (by omega)]; exact h43) (fun j => by rw [hw3, setI_ne (by omega)]; exact h73 j) (fun j hj => ?_)
      by_cases hq : j = i
      · rw [hw3, hq, setI_eq]; exact h73 i
      · rw [hw3, setI_ne (by omega)]; exact h74 j (by omega)
    · refine b_X10_benches_27 (show 2 ≤ 41 - k by omega) F hk ⟨fun _ => ⟨rfl, hs2, fun j _ => h73 j, Or.inl ⟨?_, ?_, h74, fun j hj => absurd hj (by omega)⟩⟩, fun hc => absurd (nI_le (Nat.le_refl _) (by omega)) hc⟩
      · rw [hM0]; exact hlt
      · rw [hM0]; exact h43
  | succ d ihd =>
    intro k m ls a mh w hdk h hm hpop ha hmh hx hl0 hl1
    have hkS : k < tS T := by omega
    have e41 : 41 - k = 41 - (k + 1) + 1 := by omega
    have hex : ∃ n, n < tS T ∧ m / 2 ^ n % 2 = 0 := by
      by_cases hex : ∃ n, n < tS T ∧ m / 2 ^ n % 2 = 0
      · exact hex
      · have := popN_all (m := m) (tS T) (fun n hn => by
          rcases bit01 m n with q | q
          · exact absurd ⟨n, hn, q⟩ hex
          · exact q)
        omega
    have hg := gT_le T σ
    have hMe := Mb_eq hS (gT T σ) (l := ls) hm
    generalize hval : (fun n => jG (gT T σ) ls n + Mb (tS T) (gT T σ) (m ||| 2 ^ n) (some n)) = val
    have hvn : ∀ n, jG (gT T σ) ls n + Mb (tS T) (gT T σ) (m ||| 2 ^ n) (some n) = val n := fun n => by rw [← hval]
    have hjl : ∀ n, jG (gT T σ) ls n ≤ 20 := by
      intro n
      cases ls with
      | none => exact Nat.zero_le _
      | some x => exact hg x n
    have hvl : ∀ n, val n ≤ 2580 := by
      intro n
      rw [← hvn]
      have := hjl n
      have := Mb_le (S := tS T) hg (m ||| 2 ^ n) (some n)
      omega
    refine e_X10_benches (show 2 ≤ 41 - k by omega) hl (fun M kk hM hk F => ?_)
    subst hM
    rw [h.2.1.1.1, nI_eq (by omega) (by omega)]
    refine ⟨fun _ => ?_, fun hc => absurd (by omega) hc⟩
    generalize hK : (fun r w' => r = none ∧ BPost (tS T) (gT T σ) k m ls a mh w w' : Option Value → Wd → Prop) = K
    refine up_to (P := fun i => ∀ w', Sm GB w w' → (∀ j, j < k → w'.1 73 0 j = w.1 73 0 j) →
      ((∃ n, n < i ∧ m / 2 ^ n % 2 = 0 ∧ (∀ n', n' < n → m / 2 ^ n' % 2 = 0 → val n' < val n) ∧ (∀ n', n' < i → m / 2 ^ n' % 2 = 0 → val n' ≤ val n) ∧ ltO mh (a + val n) ∧ w'.1 40 0 43 = nI (a + val n) ∧ (∀ j, j < k → w'.1 74 0 j = w.1 73 0 j) ∧ w'.1 74 0 k = nI n ∧ ∀ j, j < tS T - (k + 1) → w'.1 74 0 (k + 1 + j) = oI (cpB (tS T) (gT T σ) (m ||| 2 ^ n) (some n) (j + 1)).2) ∨
       ((∀ n, n < i → m / 2 ^ n % 2 = 0 → ¬ ltO mh (a + val n)) ∧ w'.1 40 0 43 = w.1 40 0 43 ∧ ∀ j, j < 7 → w'.1 74 0 j = w.1 74 0 j)) →
      Z M G 0 K noX w' 57 [some (.ref (G.2.1 40 0)), some (.int (nI k)), some (.int (nI m)), some (.int (nI a)), some (.int (nI i))] []) (tS T) (fun i hi ih w' hs h73 hinv => ?_) (fun w' hs h73 hinv => ?_) w Sm.rf (fun _ _ => rfl) (Or.inr ⟨fun n hn => absurd hn (Nat.not_lt_zero _), rfl, fun _ _ => rfl⟩)
    · have q := h.gb hs
      refine b_X10_benches_57 (show 2 ≤ 41 - k by omega) F hk ⟨fun hc => ?_, fun _ => con_i (m_has hl) ?_⟩
      · rw [q.2.1.1.1] at hc
        exact absurd hc (nI_ge hi (by omega))
      · rw [hz_bit m (by omega) i (by omega), ← nI_succ i, ← nI_succ k]
        rcases bit01 m i with hb | hb
        · rw [hb]
          refine ⟨fun _ => ⟨vp_in_nI (by omega) (by decide), fun w3 hw3 => ?_⟩, fun hc => absurd rfl hc⟩
          rw [nI_clamp (show k < 2 ^ 31 by omega)] at hw3
          have hs3 : Sm GB w w3 := by rw [hw3]; exact hs.set (by unfold GB; omega)
          have q3 := h.gb hs3
          have e73k : w3.1 73 0 k = nI i := by rw [hw3]; exact setI_eq _ _ _ _ _
          have e73 : ∀ j, j < k → w3.1 73 0 j = w.1 73 0 j := fun j hj => by rw [hw3, setI_ne (by omega)]; exact h73 j hj
          have e74 : ∀ j, w3.1 74 0 j = w'.1 74 0 j := fun j => by rw [hw3]; exact setI_ne (by omega)
          have e43 : w3.1 40 0 43 = w'.1 40 0 43 := by rw [hw3]; exact setI_ne (by omega)
          have hins := hz_pins (tS T) (by omega) m (by omega) i (by omega) hi hb
          have f135 : Z M G 0 K noX w3 135 [some (.ref (G.2.1 40 0)), some (.int (nI k)), some (.int (nI m)), some (.int (nI a)), some (.int (nI i))] [.int (nI (jG (gT T σ) ls i)), .int (nI a), .int (nI (m ||| 2 ^ i)), .int (nI (k + 1)), .ref (G.2.1 40 0)] := by
            refine b_X10_benches_135 (show 2 ≤ 41 - k by omega) F hk ?_
            rw [nI_add, ← nI_succ]
            have hj20 := hjl i
            obtain ⟨mh3, hm3, hmb, hc3⟩ : ∃ mh3, w3.1 40 0 43 = oI mh3 ∧ (∀ x, mh3 = some x → x < 5000) ∧
                ((∃ n, n < i ∧ m / 2 ^ n % 2 = 0 ∧ (∀ n', n' < n → m / 2 ^ n' % 2 = 0 → val n' < val n) ∧ (∀ n', n' < i → m / 2 ^ n' % 2 = 0 → val n' ≤ val n) ∧ ltO mh (a + val n) ∧ mh3 = some (a + val n) ∧ (∀ j, j < k → w'.1 74 0 j = w.1 73 0 j) ∧ w'.1 74 0 k = nI n ∧ ∀ j, j < tS T - (k + 1) → w'.1 74 0 (k + 1 + j) = oI (cpB (tS T) (gT T σ) (m ||| 2 ^ n) (some n) (j + 1)).2) ∨
                 ((∀ n, n < i → m / 2 ^ n % 2 = 0 → ¬ ltO mh (a + val n)) ∧ mh3 = mh ∧ ∀ j, j < 7 → w'.1 74 0 j = w.1 74 0 j)) := by
              rcases hinv with ⟨n, c1, c2, c3, c4, c5, c6, c7⟩ | ⟨c1, c2, c3⟩
              · refine ⟨some (a + val n), e43.trans c6, fun x hx2 => ?_, Or.inl ⟨n, c1, c2, c3, c4, c5, rfl, c7⟩⟩
                cases hx2
                have := hvl n
                omega
              · exact ⟨mh, (e43.trans c2).trans hmh, hx, Or.inr ⟨c1, rfl, c3⟩⟩
            have call := ihd (k + 1) (m ||| 2 ^ i) (some i) (a + jG (gT T σ) ls i) mh3 w3 (by omega) q3 (or_lt hm hi) (by rw [hins, hpop]) (by omega) hm3 hmb (fun z => absurd z (by omega)) (fun _ => ⟨i, rfl, hi, e73k⟩)
            rw [e41]
            refine con_vP call (fun w4 h4 => ?_)
            obtain ⟨p1, p2, p3⟩ := h4
            have hs4 := hs3.tr p1
            have r73 : ∀ j, j < k → w4.1 73 0 j = w.1 73 0 j := fun j hj => (p2 j (by omega)).trans (e73 j hj)
            rw [Nat.add_assoc, hvn i] at p3
            refine ih w4 hs4 r73 ?_
            rcases p3 with ⟨b1, b2, b3, b4⟩ | ⟨b1, b2, b3⟩
            · refine Or.inl ⟨i, by omega, hb, ?_, ?_, ?_, b2, fun j hj => (b3 j (by omega)).trans (e73 j hj), (b3 k (by omega)).trans e73k, b4⟩
              · intro n' hn' hb'
                rcases hc3 with ⟨n, c1, c2, c3, c4, c5, c6, c7⟩ | ⟨c1, c2, c3⟩
                · rw [c6] at b1
                  have := c4 n' hn' hb'
                  have : a + val n < a + val i := b1
                  omega
                · have := c1 n' hn' hb'
                  rw [c2] at b1
                  cases mh with
                  | none => exact absurd trivial this
                  | some x =>
                    have z1 : ¬ x < a + val n' := this
                    have z2 : x < a + val i := b1
                    omega
              · intro n' hn' hb'
                by_cases hq : n' = i
                · rw [hq]; exact Nat.le_refl _
                · rcases hc3 with ⟨n, c1, c2, c3, c4, c5, c6, c7⟩ | ⟨c1, c2, c3⟩
                  · rw [c6] at b1
                    have := c4 n' (by omega) hb'
                    have : a + val n < a + val i := b1
                    omega
                  · have := c1 n' (by omega) hb'
                    rw [c2] at b1
                    cases mh with
                    | none => exact absurd trivial this
                    | some x =>
                      have z1 : ¬ x < a + val n' := this
                      have z2 : x < a + val i := b1
                      omega
              · rcases hc3 with ⟨n, c1, c2, c3, c4, c5, c6, c7⟩ | ⟨c1, c2, c3⟩
                · rw [c6] at b1
                  have z1 : a + val n < a + val i := b1
                  cases mh with
                  | none => exact trivial
                  | some x =>
                    have z2 : x < a + val n := c5
                    show x < a + val i
                    omega
                · rw [c2] at b1; exact b1
            · rcases hc3 with ⟨n, c1, c2, c3, c4, c5, c6, c7, c8, c9⟩ | ⟨c1, c2, c3⟩
              · rw [c6] at b1
                have z1 : ¬ a + val n < a + val i := b1
                have e74' : ∀ j, j < 7 → w4.1 74 0 j = w'.1 74 0 j := fun j hj => (b3 j hj).trans (e74 j)
                refine Or.inl ⟨n, by omega, c2, c3, fun n' hn' hb' => ?_, c5, b2.trans (hm3.trans (by rw [c6]; rfl)), fun j hj => (e74' j (by omega)).trans (c7 j hj), (e74' k (by omega)).trans c8, fun j hj => (e74' _ (by omega)).trans (c9 j hj)⟩
                by_cases hq : n' = i
                · rw [hq]; omega
                · exact c4 n' (by omega) hb'
              · rw [c2] at b1 hm3
                refine Or.inr ⟨fun n hn hb' => ?_, b2.trans (hm3.trans hmh.symm), fun j hj => ((b3 j hj).trans (e74 j)).trans (c3 j hj)⟩
                by_cases hq : n = i
                · rw [hq]; exact b1
                · exact c1 n (by omega) hb'
          have eor : nI m ||| ((1 : Int32) <<< (nI i &&& 31)) = nI (m ||| 2 ^ i) := by
            have := b1_nI i (by omega)
            unfold b1 at this
            rw [this, fb_or]
          rw [eor]
          by_cases hk0 : k = 0
          · have hls := hl0 hk0
            refine ⟨fun hc => absurd (by rw [hk0]; rfl) hc, fun _ => ?_⟩
            rw [hls] at f135
            exact f135
          · obtain ⟨x, hx1, hx2, hx3⟩ := hl1 (by omega)
            have ek : nI k - (1 : Int32) = nI (k - 1) := fb_sub (b := 1) (by omega)
            refine ⟨fun _ => ?_, fun hc => absurd (Classical.not_not.mp hc) (nI_ne0 (by omega) (by omega))⟩
            rw [ek, nI_clamp (show k - 1 < 2 ^ 31 by omega), e73 (k - 1) (by omega), hx3, nI_clamp (show x < 2 ^ 31 by omega), nI_clamp (show i < 2 ^ 31 by omega), (q3.2.1.1.2.2.2.2.1 x hx2).1, (q3.2.1.1.2.2.2.2.1 i hi).1]
            refine ⟨vp_in_nI (by omega) (by decide), vp_in_nI (by omega) (by decide), vp_in_nI (by omega) (by decide), con_i (m_handedOf hl q3) ?_⟩
            rw [hdO_g hT]
            rw [hx1] at f135
            exact f135
        · rw [hb]
          refine ⟨fun hc => absurd hc (by decide), fun _ => ih w' hs h73 ?_⟩
          rcases hinv with ⟨n, c1, c2, c3, c4, c5⟩ | ⟨c1, c2⟩
          · refine Or.inl ⟨n, by omega, c2, c3, fun n' hn' hb' => ?_, c5⟩
            by_cases hq : n' = i
            · rw [hq] at hb'; omega
            · exact c4 n' (by omega) hb'
          · refine Or.inr ⟨fun n hn hb' => ?_, c2⟩
            by_cases hq : n = i
            · rw [hq] at hb'; omega
            · exact c1 n (by omega) hb'
    · have q := h.gb hs
      refine b_X10_benches_57 (show 2 ≤ 41 - k by omega) F hk ⟨fun _ => ?_, fun hc => ?_⟩
      · rw [← hK]
        obtain ⟨n0, a1, a2, a3⟩ := mbK_at (g := gT T σ) (V := fun m' n => Mb (tS T) (gT T σ) m' (some n)) (l := ls) (tS T) hex
        rw [← hMe] at a3
        have a4 : val n0 = Mb (tS T) (gT T σ) m ls := (hvn n0).symm.trans a3
        refine ⟨rfl, hs, h73, ?_⟩
        rcases hinv with ⟨n, c1, c2, c3, c4, c5, c6, c7, c8, c9⟩ | ⟨c1, c2, c3⟩
        · have b1 := mbK_ge (g := gT T σ) (V := fun m' n => Mb (tS T) (gT T σ) m' (some n)) (l := ls) (tS T) c1 c2
          rw [← hMe] at b1
          have b2 : val n ≤ Mb (tS T) (gT T σ) m ls := by rw [← hvn n]; exact b1
          have b3 := c4 n0 a1 a2
          have ev : val n = Mb (tS T) (gT T σ) m ls := by omega
          have efb : fbN (tS T) (gT T σ) m ls = n := by
            have : fs (fbP (tS T) (gT T σ) m ls) (tS T) = n := by
              refine fs_is c1 ?_ (fun n' hn' => ?_)
              · unfold fbP
                rw [decide_eq_true c2, decide_eq_true ((hvn n).trans ev)]; rfl
              · unfold fbP
                by_cases hb' : m / 2 ^ n' % 2 = 0
                · have := c3 n' hn' hb'
                  have hne : ¬ (jG (gT T σ) ls n' + Mb (tS T) (gT T σ) (m ||| 2 ^ n') (some n') = Mb (tS T) (gT T σ) m ls) := by
                    rw [hvn n', ← ev]
                    omega
                  rw [decide_eq_false hne, Bool.and_false]
                · rw [decide_eq_false hb', Bool.false_and]
            unfold fbN
            rw [this, if_pos c1]
          rw [ev] at c5 c6
          refine Or.inl ⟨c5, c6, c7, fun j hj => ?_⟩
          cases j with
          | zero =>
            rw [Nat.add_zero, c8]
            show nI n = oI (some (fbN (tS T) (gT T σ) m ls))
            rw [efb]; rfl
          | succ j =>
            rw [cpB_sh efb, show k + (j + 1) = k + 1 + j by omega]
            exact c9 j (by omega)
        · have := c1 n0 a1 a2
          rw [a4] at this
          exact Or.inr ⟨this, c2, c3⟩
      · rw [q.2.1.1.1] at hc
        exact absurd (nI_le (Nat.le_refl _) (by omega)) hc
end RJ
