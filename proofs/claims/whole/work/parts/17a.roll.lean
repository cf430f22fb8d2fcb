/-! The choir's text: what a clause adds to a roll; the class. -/
def T00 : Tx := ((0, 0, 0, 5), (fun _ => 0, fun _ => 0, fun _ => 0), (fun _ => 0, fun _ => 0), (fun _ => 0, fun _ => 0))
def addS (T : Tx) (v p q : Nat) : Tx := ((tS T + 1, tN T, tL T, tB T), (upd T.2.1.1 (tS T) (nI v), upd T.2.1.2.1 (tS T) (nI p), upd T.2.1.2.2 (tS T) (nI q)), T.2.2)
def addN (T : Tx) (v p : Nat) : Tx := ((tS T, tN T + 1, tL T, tB T), T.2.1, (upd T.2.2.1.1 (tN T) (nI v), upd T.2.2.1.2 (tN T) (nI p)), T.2.2.2)
def addL (T : Tx) (v p : Nat) : Tx := ((tS T, tN T, tL T + 1, tB T), T.2.1, T.2.2.1, (upd T.2.2.2.1 (tL T) (nI v), upd T.2.2.2.2 (tL T) (nI p)))
def setB (T : Tx) (v : Nat) : Tx := ((tS T, tN T, tL T, nI v), T.2)
def siF (b : Nat → Nat) (n : Nat) (room : Bool) (T : Tx) (a : Nat) (s : Rd) : Rd × Tx :=
  if room = false ∨ 7 ≤ tS T then (flF 3 a s, T)
  else ((figF b n 1 31 (figF b n 0 61 (figF b n 0 6 s).1).1).1, addS T (figF b n 0 6 s).2 (figF b n 0 61 (figF b n 0 6 s).1).2 (figF b n 1 31 (figF b n 0 61 (figF b n 0 6 s).1).1).2)
def noF (b : Nat → Nat) (n : Nat) (room : Bool) (T : Tx) (a : Nat) (s : Rd) : Rd × Tx :=
  if room = false ∨ 20 ≤ tN T then (flF 3 a s, T)
  else ((figF b n 1 10 (figF b n 0 6 s).1).1, addN T (figF b n 0 6 s).2 (figF b n 1 10 (figF b n 0 6 s).1).2)
def lkR (b : Nat → Nat) (n : Nat) (room : Bool) (T : Tx) (a : Nat) (s : Rd) : Rd × Tx :=
  if room = false ∨ 12 ≤ tL T then (flF 3 a s, T)
  else ((figF b n 0 6 (figF b n 0 (tN T) s).1).1, addL T (figF b n 0 (tN T) s).2 (figF b n 0 6 (figF b n 0 (tN T) s).1).2)
def reF (b : Nat → Nat) (n : Nat) (room : Bool) (T : Tx) (a : Nat) (s : Rd) : Rd × Tx :=
  if room = false then (flF 3 a s, T) else ((figF b n 0 31 s).1, setB T (figF b n 0 31 s).2)
/-- which clause: singer, note, like, rest; 4: none -/
def kdC (b : Nat → Nat) (a e : Nat) : Nat := if isW b a e (wT 0) then 0 else if isW b a e (wT 1) then 1 else if isW b a e (wT 2) then 2 else if isW b a e (wT 3) then 3 else 4
def cl1 (b : Nat → Nat) (n : Nat) (room : Bool) (T : Tx) (a : Nat) (s : Rd) : Nat → Rd × Tx
  | 0 => siF b n room T a s
  | 1 => noF b n room T a s
  | 2 => lkR b n room T a s
  | 3 => reF b n room T a s
  | _ => (flF 1 a s, T)
/-- a clause, read from behind its blanks at a -/
def clF (b : Nat → Nat) (n : Nat) (room : Bool) (T : Tx) (a : Nat) : Rd × Tx :=
  (sgnF b n 59 (cl1 b n room T a (0, we b n a) (kdC b a (we b n a))).1, (cl1 b n room T a (0, we b n a) (kdC b a (we b n a))).2)
/-- the clauses, the k-th first -/
def chL (b : Nat → Nat) (n : Nat) : Nat → Nat → Tx → Rd → Rd × Tx
  | 0, _, T, s => (s, T)
  | f + 1, k, T, s => if s.1 = 0 ∧ sk b n s.2 < n then chL b n f (k + 1) (clF b n (decide (k < 60)) T (sk b n s.2)).2 (clF b n (decide (k < 60)) T (sk b n s.2)).1 else (pkS b n s, T)
/-- a choir's text: its roll, or where it fails -/
def chF (b : Nat → Nat) (n : Nat) : Rd × Tx := chL b n 62 0 T00 (0, 0)
theorem cl1_room {b : Nat → Nat} {n a : Nat} {T : Tx} {p : Nat} : ∀ k, (cl1 b n false T a (0, p) k).1.1 ≠ 0
  | 0 => by show (siF b n false T a (0, p)).1.1 ≠ 0; rw [siF, if_pos (Or.inl rfl)]; show ¬ (3 : Nat) = 0; decide
  | 1 => by show (noF b n false T a (0, p)).1.1 ≠ 0; rw [noF, if_pos (Or.inl rfl)]; show ¬ (3 : Nat) = 0; decide
  | 2 => by show (lkR b n false T a (0, p)).1.1 ≠ 0; rw [lkR, if_pos (Or.inl rfl)]; show ¬ (3 : Nat) = 0; decide
  | 3 => by show (reF b n false T a (0, p)).1.1 ≠ 0; rw [reF, if_pos rfl]; show ¬ (3 : Nat) = 0; decide
  | k + 4 => by show ¬ (1 : Nat) = 0; decide
theorem clF_room {b : Nat → Nat} {n a : Nat} {T : Tx} : (clF b n false T a).1.1 ≠ 0 := by
  unfold clF
  rw [sgnF_x (cl1_room _)]
  exact cl1_room _
theorem clF_lt {b : Nat → Nat} {n k a : Nat} {T : Tx} (h : (clF b n (decide (k < 60)) T a).1.1 = 0) : k < 60 := by
  by_cases hk : k < 60
  · exact hk
  · rw [decide_eq_false hk] at h
    exact absurd h clF_room
theorem kdC_lt (b : Nat → Nat) (a e : Nat) : kdC b a e < 5 := by
  unfold kdC
  split
  · decide
  · split
    · decide
    · split
      · decide
      · split <;> decide
theorem Tok.addS {T : Tx} {v p q : Nat} (h : Tok T) (hS : tS T < 7) (hv : v < 6) (hp : p ≤ 60) (hq1 : 1 ≤ q) (hq : q ≤ 30) : Tok (addS T v p q) := by
  obtain ⟨h1, h2, h3, h4, h5, h6, h7⟩ := h
  refine ⟨hS, h2, h3, fun s hs => ?_, h5, h6, h7⟩
  have hs : s < tS T + 1 := hs
  by_cases e : s = tS T
  · subst e
    exact ⟨⟨v, hv, pk_us⟩, ⟨p, hp, pk_us⟩, q, hq1, hq, pk_us⟩
  · obtain ⟨⟨v1, a1, a2⟩, ⟨v2, b1, b2⟩, v3, c1, c2, c3⟩ := h4 s (by omega)
    exact ⟨⟨v1, a1, (pk_un e).trans a2⟩, ⟨v2, b1, (pk_un e).trans b2⟩, v3, c1, c2, (pk_un e).trans c3⟩
theorem Tok.addN {T : Tx} {v p : Nat} (h : Tok T) (hN : tN T < 20) (hv : v < 6) (hp1 : 1 ≤ p) (hp : p ≤ 9) : Tok (addN T v p) := by
  obtain ⟨h1, h2, h3, h4, h5, h6, h7⟩ := h
  refine ⟨h1, hN, h3, h4, fun s hs => ?_, fun k hk => ?_, h7⟩
  · have hs : s < tN T + 1 := hs
    by_cases e : s = tN T
    · subst e
      exact ⟨⟨v, hv, pk_us⟩, p, hp1, hp, pk_us⟩
    · obtain ⟨⟨v1, a1, a2⟩, v3, c1, c2, c3⟩ := h5 s (by omega)
      exact ⟨⟨v1, a1, (pk_un e).trans a2⟩, v3, c1, c2, (pk_un e).trans c3⟩
  · obtain ⟨⟨v1, a1, a2⟩, c⟩ := h6 k hk
    exact ⟨⟨v1, by show v1 < tN T + 1; omega, a2⟩, c⟩
theorem Tok.addL {T : Tx} {v p : Nat} (h : Tok T) (hL : tL T < 12) (hv : v < tN T) (hp : p < 6) : Tok (addL T v p) := by
  obtain ⟨h1, h2, h3, h4, h5, h6, h7⟩ := h
  refine ⟨h1, h2, hL, h4, h5, fun s hs => ?_, h7⟩
  have hs : s < tL T + 1 := hs
  by_cases e : s = tL T
  · subst e
    exact ⟨⟨v, hv, pk_us⟩, p, hp, pk_us⟩
  · obtain ⟨⟨v1, a1, a2⟩, v3, c1, c3⟩ := h6 s (by omega)
    exact ⟨⟨v1, a1, (pk_un e).trans a2⟩, v3, c1, (pk_un e).trans c3⟩
theorem Tok.setB {T : Tx} {v : Nat} (h : Tok T) (hv : v ≤ 30) : Tok (setB T v) := by
  obtain ⟨h1, h2, h3, h4, h5, h6, h7⟩ := h
  exact ⟨h1, h2, h3, h4, h5, h6, v, hv, rfl⟩
theorem Tok00 : Tok T00 := ⟨by decide, by decide, by decide, fun s hs => absurd hs (Nat.not_lt_zero _), fun s hs => absurd hs (Nat.not_lt_zero _), fun s hs => absurd hs (Nat.not_lt_zero _), 5, by decide, by decide⟩
theorem siF_tok {b : Nat → Nat} {n a : Nat} {room : Bool} {T : Tx} {s : Rd} (h : Tok T) (ho : (siF b n room T a s).1.1 = 0) (h0 : s.1 = 0) : Tok (siF b n room T a s).2 := by
  unfold siF at ho ⊢
  by_cases hc : room = false ∨ 7 ≤ tS T
  · rw [if_pos hc]; exact h
  · rw [if_neg hc] at ho ⊢
    have o3 := figF_ok ho
    have o2 := figF_ok o3.1
    have o1 := figF_ok o2.1
    exact h.addS (by omega) (by omega) (by omega) (by omega) (by omega)
theorem noF_tok {b : Nat → Nat} {n a : Nat} {room : Bool} {T : Tx} {s : Rd} (h : Tok T) (ho : (noF b n room T a s).1.1 = 0) : Tok (noF b n room T a s).2 := by
  unfold noF at ho ⊢
  by_cases hc : room = false ∨ 20 ≤ tN T
  · rw [if_pos hc]; exact h
  · rw [if_neg hc] at ho ⊢
    have o2 := figF_ok ho
    have o1 := figF_ok o2.1
    exact h.addN (by omega) (by omega) (by omega) (by omega)
theorem lkR_tok {b : Nat → Nat} {n a : Nat} {room : Bool} {T : Tx} {s : Rd} (h : Tok T) (ho : (lkR b n room T a s).1.1 = 0) : Tok (lkR b n room T a s).2 := by
  unfold lkR at ho ⊢
  by_cases hc : room = false ∨ 12 ≤ tL T
  · rw [if_pos hc]; exact h
  · rw [if_neg hc] at ho ⊢
    have o2 := figF_ok ho
    have o1 := figF_ok o2.1
    exact h.addL (by omega) (by omega) (by omega)
theorem reF_tok {b : Nat → Nat} {n a : Nat} {room : Bool} {T : Tx} {s : Rd} (h : Tok T) (ho : (reF b n room T a s).1.1 = 0) : Tok (reF b n room T a s).2 := by
  unfold reF at ho ⊢
  by_cases hc : room = false
  · rw [if_pos hc]; exact h
  · rw [if_neg hc] at ho ⊢
    have o1 := figF_ok ho
    exact h.setB (by omega)
theorem clF_tok {b : Nat → Nat} {n a : Nat} {room : Bool} {T : Tx} (h : Tok T) (ho : (clF b n room T a).1.1 = 0) : Tok (clF b n room T a).2 := by
  unfold clF at ho ⊢
  have ho := (sgnF_ok ho).1
  generalize kdC b a (we b n a) = k at *
  match k with
  | 0 => exact siF_tok h ho rfl
  | 1 => exact noF_tok h ho
  | 2 => exact lkR_tok h ho
  | 3 => exact reF_tok h ho
  | k + 4 => exact h
theorem chL_tok {b : Nat → Nat} {n : Nat} : ∀ f k T s, Tok T → (chL b n f k T s).1.1 = 0 → Tok (chL b n f k T s).2 := by
  intro f
  induction f with
  | zero => intro k T s h _; exact h
  | succ f ih =>
    intro k T s h ho
    rw [chL] at ho ⊢
    by_cases hc : s.1 = 0 ∧ sk b n s.2 < n
    · rw [if_pos hc] at ho ⊢
      by_cases h1 : (clF b n (decide (k < 60)) T (sk b n s.2)).1.1 = 0
      · exact ih _ _ _ (clF_tok h h1) ho
      · exfalso
        have key : ∀ f k T s, s.1 ≠ 0 → (chL b n f k T s).1.1 ≠ 0 := by
          intro f k T s hs
          cases f with
          | zero => exact hs
          | succ f => rw [chL, if_neg (fun z => hs z.1), pkS_x hs]; exact hs
        exact key _ _ _ _ h1 ho
    · rw [if_neg hc]; exact h
theorem wf_off {T : Tx} {m : Nat} (h : Tok T) (hm : tN T ≤ m) (hm31 : m < 2 ^ 31) : ∀ k, k ≤ tL T → wf T m k = (1 : Int32) <<< (nv T m &&& 31)
  | 0, _ => rfl
  | k + 1, hk => by
    obtain ⟨⟨v, hv, he⟩, -⟩ := h.2.2.2.2.2.1 k (by omega)
    have h2 := h.2.1
    rw [wf, if_neg, wf_off h hm hm31 k (by omega)]
    rw [he, nI_eq (by omega) hm31]
    omega
theorem wf_congr {T T' : Tx} {m : Nat} (h1 : nv T' m = nv T m) : ∀ k, (∀ i, i < k → kn T' i = kn T i ∧ kv T' i = kv T i) → wf T' m k = wf T m k
  | 0, _ => by rw [wf, wf, h1]
  | k + 1, hk => by
    obtain ⟨a, c⟩ := hk k (by omega)
    rw [wf, wf, a, c, wf_congr h1 k (fun i hi => hk i (by omega))]
