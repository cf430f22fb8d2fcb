/-! A work's text: its steps. A step: what, first, second, the place behind it. -/
abbrev En : Type := Nat × Nat × Nat × Nat
abbrev Wq : Type := Nat → Rd → Rd × List En
def sdK (b : Nat → Nat) (a e : Nat) : Nat := if isW b a e (wT 12) then 0 else if isW b a e (wT 13) then 1 else if isW b a e (wT 3) then 2 else if isW b a e (wT 14) then 3 else if isW b a e (wT 15) then 4 else if isW b a e (wT 16) then 5 else if isW b a e (wT 11) then 6 else if isW b a e (wT 17) then 7 else 8
theorem sdK_le (b : Nat → Nat) (a e : Nat) : sdK b a e ≤ 8 := by
  unfold sdK
  repeat' split
  all_goals decide
theorem sdK_lt {b : Nat → Nat} {n a : Nat} (h : sdK b a (we b n a) < 8) : a + 3 ≤ we b n a ∧ a < n := by
  have key : ∃ t, t < 18 ∧ isW b a (we b n a) (wT t) = true := by
    unfold sdK at h
    by_cases c0 : isW b a (we b n a) (wT 12) = true
    · exact ⟨12, by decide, c0⟩
    by_cases c1 : isW b a (we b n a) (wT 13) = true
    · exact ⟨13, by decide, c1⟩
    by_cases c2 : isW b a (we b n a) (wT 3) = true
    · exact ⟨3, by decide, c2⟩
    by_cases c3 : isW b a (we b n a) (wT 14) = true
    · exact ⟨14, by decide, c3⟩
    by_cases c4 : isW b a (we b n a) (wT 15) = true
    · exact ⟨15, by decide, c4⟩
    by_cases c5 : isW b a (we b n a) (wT 16) = true
    · exact ⟨16, by decide, c5⟩
    by_cases c6 : isW b a (we b n a) (wT 11) = true
    · exact ⟨11, by decide, c6⟩
    by_cases c7 : isW b a (we b n a) (wT 17) = true
    · exact ⟨17, by decide, c7⟩
    rw [if_neg c0, if_neg c1, if_neg c2, if_neg c3, if_neg c4, if_neg c5, if_neg c6, if_neg c7] at h
    omega
  obtain ⟨t, ht, hw⟩ := key
  have := isW_let ht hw
  exact ⟨this.2.2.2, this.1⟩
/-- a step's number lies below this -/
def moH (T : Tx) (k : Nat) : Nat := if k = 7 then 61 else if k = 0 ∨ k = 5 then tN T else tS T
def sf1 (b : Nat → Nat) (n : Nat) (T : Tx) (k e : Nat) : Rd × Nat := if k = 1 ∨ k = 2 ∨ k = 6 then ((0, e), 0) else figF b n 0 (moH T k) (0, e)
def sf2 (b : Nat → Nat) (n : Nat) (T : Tx) (k e : Nat) : Rd × Nat := if k = 5 then figF b n 0 6 (sf1 b n T k e).1 else ((sf1 b n T k e).1, 0)
def sf3 (b : Nat → Nat) (n : Nat) (T : Tx) (S : Wq) (c k e : Nat) : Rd × List En := if k = 7 then (sgnF b n 93 (S (c + 1) (sgnF b n 91 (sf2 b n T k e).1)).1, (S (c + 1) (sgnF b n 91 (sf2 b n T k e).1)).2) else ((sf2 b n T k e).1, [])
def stF (b : Nat → Nat) (n : Nat) (T : Tx) (room : Bool) (S : Wq) (c a : Nat) : Rd × List En :=
  if sdK b a (we b n a) = 8 then ((1, a), [])
  else if sdK b a (we b n a) = 7 ∧ room = false then ((3, a), [])
  else (sgnF b n 59 (sf3 b n T S c (sdK b a (we b n a)) (we b n a)).1, (sdK b a (we b n a), (sf1 b n T (sdK b a (we b n a)) (we b n a)).2, (sf2 b n T (sdK b a (we b n a)) (we b n a)).2, c + 1 + (sf3 b n T S c (sdK b a (we b n a)) (we b n a)).2.length) :: (sf3 b n T S c (sdK b a (we b n a)) (we b n a)).2)
def wsL (b : Nat → Nat) (n : Nat) (St : Nat → Nat → Rd × List En) : Nat → Wq
  | 0, _, s => (s, [])
  | f + 1, c, s => if s.1 = 0 ∧ sk b n s.2 < n ∧ b (sk b n s.2) ≠ 93 then
      ((wsL b n St f (c + (St c (sk b n s.2)).2.length) (St c (sk b n s.2)).1).1, (St c (sk b n s.2)).2 ++ (wsL b n St f (c + (St c (sk b n s.2)).2.length) (St c (sk b n s.2)).1).2)
    else (pkS b n s, [])
def wsF (b : Nat → Nat) (n : Nat) (T : Tx) : Nat → Wq
  | 0 => wsL b n (stF b n T false (fun _ s => (s, []))) 150
  | d + 1 => wsL b n (stF b n T true (wsF b n T d)) 150
/-- a work's text -/
def wkF (b : Nat → Nat) (n : Nat) (T : Tx) : Rd × List En :=
  if (wsF b n T 6 0 (0, 0)).1.1 = 0 ∧ sk b n (wsF b n T 6 0 (0, 0)).1.2 < n then ((1, sk b n (wsF b n T 6 0 (0, 0)).1.2), []) else (pkS b n (wsF b n T 6 0 (0, 0)).1, (wsF b n T 6 0 (0, 0)).2)
theorem wsL_x {b : Nat → Nat} {n : Nat} {St : Nat → Nat → Rd × List En} {f c : Nat} {s : Rd} (hs : s.1 ≠ 0) : wsL b n St f c s = (s, []) := by
  cases f with
  | zero => rfl
  | succ f => rw [wsL, if_neg (fun z => hs z.1), pkS_x hs]
theorem wsF_x {b : Nat → Nat} {n : Nat} {T : Tx} {d c : Nat} {s : Rd} (hs : s.1 ≠ 0) : wsF b n T d c s = (s, []) := by
  cases d with
  | zero => exact wsL_x hs
  | succ d => exact wsL_x hs
/-- what an entry of a program must be -/
def EnOk (T : Tx) (c z i : Nat) (e : En) : Prop := e.1 < 8 ∧ (e.1 = 0 ∨ e.1 = 5 → e.2.1 < tN T) ∧ (e.1 = 3 ∨ e.1 = 4 → e.2.1 < tS T) ∧ (e.1 = 5 → e.2.2.1 < 6) ∧ (e.1 = 7 → e.2.1 ≤ 60) ∧ c + i < e.2.2.2 ∧ e.2.2.2 ≤ z ∧ (e.1 ≠ 7 → e.2.2.2 = c + i + 1)
def SgOk (T : Tx) (c : Nat) (L : List En) : Prop := ∀ i e, L[i]? = some e → EnOk T c (c + L.length) i e
theorem SgOk.nil {T : Tx} {c : Nat} : SgOk T c [] := fun i e h => by cases h
theorem SgOk.app {T : Tx} {c : Nat} {L L' : List En} (h : SgOk T c L) (h' : SgOk T (c + L.length) L') : SgOk T c (L ++ L') := by
  intro i e hi
  rw [List.length_append]
  by_cases hl : i < L.length
  · rw [List.getElem?_append_left hl] at hi
    obtain ⟨a1, a2, a3, a4, a5, a6, a7, a8⟩ := h i e hi
    exact ⟨a1, a2, a3, a4, a5, a6, by omega, a8⟩
  · rw [List.getElem?_append_right (by omega)] at hi
    obtain ⟨a1, a2, a3, a4, a5, a6, a7, a8⟩ := h' _ e hi
    exact ⟨a1, a2, a3, a4, a5, by omega, by omega, fun q => by have := a8 q; omega⟩
theorem SgOk.cons {T : Tx} {c : Nat} {L : List En} {e : En} (h : SgOk T (c + 1) L) (he : EnOk T c (c + 1 + L.length) 0 e) : SgOk T c (e :: L) := by
  intro i x hi
  have hlen : (e :: L).length = L.length + 1 := rfl
  rw [hlen]
  cases i with
  | zero =>
    cases hi
    obtain ⟨a1, a2, a3, a4, a5, a6, a7, a8⟩ := he
    exact ⟨a1, a2, a3, a4, a5, a6, by omega, a8⟩
  | succ i =>
    have hi : L[i]? = some x := hi
    obtain ⟨a1, a2, a3, a4, a5, a6, a7, a8⟩ := h i x hi
    exact ⟨a1, a2, a3, a4, a5, by omega, by omega, fun q => by have := a8 q; omega⟩
theorem sf1_ok {b : Nat → Nat} {n : Nat} {T : Tx} {k e : Nat} (h : (sf1 b n T k e).1.1 = 0) : e ≤ (sf1 b n T k e).1.2 ∧ (k = 0 ∨ k = 5 → (sf1 b n T k e).2 < tN T) ∧ (k = 3 ∨ k = 4 → (sf1 b n T k e).2 < tS T) ∧ (k = 7 → (sf1 b n T k e).2 ≤ 60) := by
  unfold sf1 at h ⊢
  by_cases hc : k = 1 ∨ k = 2 ∨ k = 6
  · rw [if_pos hc]
    exact ⟨Nat.le_refl _, fun q => by omega, fun q => by omega, fun q => by omega⟩
  · rw [if_neg hc] at h ⊢
    have o := figF_ok h
    have o4 : e < (figF b n 0 (moH T k) (0, e)).1.2 := o.2.2.2.1
    have o2 := o.2.2.1
    refine ⟨Nat.le_of_lt o4, fun q => ?_, fun q => ?_, fun q => ?_⟩
    · have e1 : moH T k = tN T := by unfold moH; rw [if_neg (by omega), if_pos q]
      omega
    · have e1 : moH T k = tS T := by unfold moH; rw [if_neg (by omega), if_neg (by omega)]
      omega
    · have e1 : moH T k = 61 := by unfold moH; rw [if_pos q]
      omega
theorem sf2_ok {b : Nat → Nat} {n : Nat} {T : Tx} {k e : Nat} (h : (sf2 b n T k e).1.1 = 0) : (sf1 b n T k e).1.1 = 0 ∧ e ≤ (sf2 b n T k e).1.2 ∧ (k = 5 → (sf2 b n T k e).2 < 6) := by
  unfold sf2 at h ⊢
  by_cases hc : k = 5
  · rw [if_pos hc] at h ⊢
    have o := figF_ok h
    have o1 := sf1_ok o.1
    exact ⟨o.1, by omega, fun _ => o.2.2.1⟩
  · rw [if_neg hc] at h ⊢
    exact ⟨h, (sf1_ok h).1, fun q => absurd q hc⟩
/-- what an inner reader must keep -/
def WqOk (T : Tx) (S : Wq) : Prop := ∀ c s, (s.1 ≠ 0 → (S c s).1 = s) ∧ ((S c s).1.1 = 0 → s.1 = 0 ∧ s.2 + 4 * (S c s).2.length ≤ (S c s).1.2 ∧ SgOk T c (S c s).2)
theorem sf3_ok {b : Nat → Nat} {n : Nat} {T : Tx} {S : Wq} (hS : WqOk T S) {c k e : Nat} (h : (sf3 b n T S c k e).1.1 = 0) : (sf2 b n T k e).1.1 = 0 ∧ e + 4 * (sf3 b n T S c k e).2.length ≤ (sf3 b n T S c k e).1.2 ∧ SgOk T (c + 1) (sf3 b n T S c k e).2 ∧ (k ≠ 7 → (sf3 b n T S c k e).2 = []) := by
  unfold sf3 at h ⊢
  by_cases hc : k = 7
  · rw [if_pos hc] at h ⊢
    have o := sgnF_ok h
    obtain ⟨p1, p2, p3⟩ := (hS (c + 1) (sgnF b n 91 (sf2 b n T k e).1)).2 o.1
    have q := sgnF_ok p1
    have q2 := sf2_ok q.1
    refine ⟨q.1, ?_, p3, fun z => absurd hc z⟩
    have o2 := o.2.1
    have q3 := q.2.1
    show e + 4 * (S (c + 1) (sgnF b n 91 (sf2 b n T k e).1)).2.length ≤ (sgnF b n 93 (S (c + 1) (sgnF b n 91 (sf2 b n T k e).1)).1).2
    omega
  · rw [if_neg hc] at h ⊢
    exact ⟨h, by have := (sf2_ok h).2.1; show e + 4 * 0 ≤ _; omega, SgOk.nil, fun _ => rfl⟩
theorem stF_ok {b : Nat → Nat} {n : Nat} {T : Tx} {room : Bool} {S : Wq} (hS : WqOk T S) {c a : Nat} (h : (stF b n T room S c a).1.1 = 0) : a + 4 * (stF b n T room S c a).2.length ≤ (stF b n T room S c a).1.2 ∧ 1 ≤ (stF b n T room S c a).2.length ∧ SgOk T c (stF b n T room S c a).2 := by
  unfold stF at h ⊢
  by_cases h8 : sdK b a (we b n a) = 8
  · rw [if_pos h8] at h
    exact absurd h (by show ¬ (1 : Nat) = 0; decide)
  · rw [if_neg h8] at h ⊢
    by_cases h7 : sdK b a (we b n a) = 7 ∧ room = false
    · rw [if_pos h7] at h
      exact absurd h (by show ¬ (3 : Nat) = 0; decide)
    · rw [if_neg h7] at h ⊢
      have hle := sdK_le b a (we b n a)
      have hlt := sdK_lt (b := b) (n := n) (a := a) (by omega)
      generalize sdK b a (we b n a) = k at *
      have o := sgnF_ok h
      obtain ⟨p1, p2, p3, p4⟩ := sf3_ok hS o.1
      obtain ⟨q1, q2, q3⟩ := sf2_ok p1
      obtain ⟨r1, r2, r3, r4⟩ := sf1_ok q1
      have o2 := o.2.1
      refine ⟨?_, by show 1 ≤ (sf3 b n T S c k (we b n a)).2.length + 1; omega, SgOk.cons p3 ⟨by show k < 8; omega, r2, r3, q3, r4, by show c + 0 < c + 1 + _; omega, Nat.le_refl _, fun z => ?_⟩⟩
      · show a + 4 * ((sf3 b n T S c k (we b n a)).2.length + 1) ≤ (sgnF b n 59 (sf3 b n T S c k (we b n a)).1).2
        omega
      · show c + 1 + (sf3 b n T S c k (we b n a)).2.length = c + 0 + 1
        rw [p4 z]
        rfl
theorem wsL_ok {b : Nat → Nat} {n : Nat} {T : Tx} {room : Bool} {S : Wq} (hS : WqOk T S) : ∀ f, WqOk T (wsL b n (stF b n T room S) f)
  | 0 => fun c s => ⟨fun _ => rfl, fun h => ⟨h, by show s.2 + 4 * 0 ≤ s.2; omega, SgOk.nil⟩⟩
  | f + 1 => fun c s => by
    refine ⟨fun hs => by rw [wsL_x hs], fun h => ?_⟩
    rw [wsL] at h ⊢
    by_cases hc : s.1 = 0 ∧ sk b n s.2 < n ∧ b (sk b n s.2) ≠ 93
    · rw [if_pos hc] at h ⊢
      obtain ⟨i1, i2⟩ := wsL_ok (b := b) (n := n) (room := room) hS f (c + (stF b n T room S c (sk b n s.2)).2.length) (stF b n T room S c (sk b n s.2)).1
      obtain ⟨j1, j2, j3⟩ := i2 h
      obtain ⟨k1, k2, k3⟩ := stF_ok hS j1
      have hge := sk_ge b n s.2
      refine ⟨hc.1, ?_, k3.app j3⟩
      show s.2 + 4 * ((stF b n T room S c (sk b n s.2)).2 ++ _).length ≤ (wsL b n (stF b n T room S) f (c + (stF b n T room S c (sk b n s.2)).2.length) (stF b n T room S c (sk b n s.2)).1).1.2
      rw [List.length_append]
      omega
    · rw [if_neg hc] at h ⊢
      have h0 : s.1 = 0 := by
        by_cases q : s.1 = 0
        · exact q
        · have h : (pkS b n s).1 = 0 := h
          rw [pkS_x q] at h; exact h
      have hge := sk_ge b n s.2
      refine ⟨h0, ?_, SgOk.nil⟩
      show s.2 + 4 * 0 ≤ (pkS b n s).2
      rw [pkS, if_neg (fun z => z h0)]
      show s.2 + 4 * 0 ≤ sk b n s.2
      omega
theorem wsF_ok {b : Nat → Nat} {n : Nat} {T : Tx} : ∀ d, WqOk T (wsF b n T d)
  | 0 => wsL_ok (fun c s => ⟨fun _ => rfl, fun h => ⟨h, by show s.2 + 4 * 0 ≤ s.2; omega, SgOk.nil⟩⟩) 150
  | d + 1 => wsL_ok (wsF_ok d) 150
/-- the whole program -/
theorem wkF_ok {b : Nat → Nat} {n : Nat} {T : Tx} (h : (wkF b n T).1.1 = 0) : 4 * (wkF b n T).2.length ≤ (wkF b n T).1.2 ∧ SgOk T 0 (wkF b n T).2 := by
  unfold wkF at h ⊢
  by_cases hc : (wsF b n T 6 0 (0, 0)).1.1 = 0 ∧ sk b n (wsF b n T 6 0 (0, 0)).1.2 < n
  · rw [if_pos hc] at h
    exact absurd h (by show ¬ (1 : Nat) = 0; decide)
  · rw [if_neg hc] at h ⊢
    have h0 : (wsF b n T 6 0 (0, 0)).1.1 = 0 := by
      by_cases q : (wsF b n T 6 0 (0, 0)).1.1 = 0
      · exact q
      · have h : (pkS b n (wsF b n T 6 0 (0, 0)).1).1 = 0 := h
        rw [pkS_x q] at h; exact h
    obtain ⟨-, p2, p3⟩ := (wsF_ok (b := b) (n := n) (T := T) 6 0 (0, 0)).2 h0
    have hge := sk_ge b n (wsF b n T 6 0 (0, 0)).1.2
    refine ⟨?_, p3⟩
    show 4 * (wsF b n T 6 0 (0, 0)).2.length ≤ (pkS b n (wsF b n T 6 0 (0, 0)).1).2
    rw [pkS, if_neg (fun z => z h0)]
    show _ ≤ sk b n (wsF b n T 6 0 (0, 0)).1.2
    have p2 : 0 + 4 * (wsF b n T 6 0 (0, 0)).2.length ≤ (wsF b n T 6 0 (0, 0)).1.2 := p2
    omega
