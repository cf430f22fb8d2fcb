/-! Reading a text b of n bytes. A reader's status (f, x): f = 0: it stands at place x; else a fault f at place x. -/
abbrev Rd : Type := Nat × Nat
def rnA (P : Nat → Bool) : Nat → Nat → Nat
  | 0, p => p
  | d + 1, p => if P p then rnA P d (p + 1) else p
/-- the end of the run of places with P from p on -/
def rn (P : Nat → Bool) (n p : Nat) : Nat := rnA P (n - p) p
theorem rn_y {P : Nat → Bool} {n p : Nat} (h : p < n) (hp : P p = true) : rn P n p = rn P n (p + 1) := by
  unfold rn
  rw [show n - p = (n - (p + 1)) + 1 by omega, rnA, if_pos hp]
theorem rn_n {P : Nat → Bool} {n p : Nat} (h : ¬ (p < n ∧ P p = true)) : rn P n p = p := by
  unfold rn
  cases hd : n - p with
  | zero => rfl
  | succ d => rw [rnA, if_neg (fun q => h ⟨by omega, q⟩)]
theorem rnA_fact (P : Nat → Bool) : ∀ d p, p ≤ rnA P d p ∧ rnA P d p ≤ p + d ∧ (rnA P d p < p + d → P (rnA P d p) = false) ∧ ∀ i, p ≤ i → i < rnA P d p → P i = true := by
  intro d
  induction d with
  | zero => intro p; exact ⟨Nat.le_refl _, Nat.le_refl _, fun h => absurd h (Nat.lt_irrefl _), fun i h1 h2 => absurd h2 (by show ¬ i < p; omega)⟩
  | succ d ih =>
    intro p
    rw [rnA]
    by_cases h : P p = true
    · rw [if_pos h]
      obtain ⟨a, b, c, e⟩ := ih (p + 1)
      refine ⟨by omega, by omega, fun q => c (by omega), fun i h1 h2 => ?_⟩
      by_cases hq : i = p
      · rw [hq]; exact h
      · exact e i (by omega) h2
    · rw [if_neg h]
      exact ⟨Nat.le_refl _, by omega, fun _ => Bool.eq_false_iff.mpr h, fun i h1 h2 => absurd h2 (by omega)⟩
theorem rn_ge (P : Nat → Bool) (n p : Nat) : p ≤ rn P n p := (rnA_fact P (n - p) p).1
theorem rn_le {P : Nat → Bool} {n p : Nat} (h : p ≤ n) : rn P n p ≤ n := by
  have := (rnA_fact P (n - p) p).2.1
  unfold rn
  omega
theorem rn_stop {P : Nat → Bool} {n p : Nat} (h : rn P n p < n) : P (rn P n p) = false := by
  by_cases hp : p ≤ n
  · refine (rnA_fact P (n - p) p).2.2.1 ?_
    show rn P n p < p + (n - p)
    omega
  · have := rn_ge P n p
    omega
theorem rn_in {P : Nat → Bool} {n p i : Nat} (h1 : p ≤ i) (h2 : i < rn P n p) : P i = true := (rnA_fact P (n - p) p).2.2.2 i h1 h2
theorem rn_idem (P : Nat → Bool) (n p : Nat) : rn P n (rn P n p) = rn P n p := by
  apply rn_n
  rintro ⟨h1, h2⟩
  rw [rn_stop h1] at h2
  cases h2
def isB (b : Nat → Nat) (i : Nat) : Bool := b i == 32
def isD (b : Nat → Nat) (i : Nat) : Bool := decide (48 ≤ b i) && decide (b i ≤ 57)
def isL (b : Nat → Nat) (i : Nat) : Bool := decide (97 ≤ b i) && decide (b i ≤ 122)
/-- behind the blanks -/
def sk (b : Nat → Nat) (n p : Nat) : Nat := rn (isB b) n p
theorem sk_ge (b : Nat → Nat) (n p : Nat) : p ≤ sk b n p := rn_ge _ _ _
theorem sk_le {b : Nat → Nat} {n p : Nat} (h : p ≤ n) : sk b n p ≤ n := rn_le h
theorem sk_idem (b : Nat → Nat) (n p : Nat) : sk b n (sk b n p) = sk b n p := rn_idem _ _ _
/-- the end of the word at p -/
def we (b : Nat → Nat) (n p : Nat) : Nat := rn (isL b) n p
theorem we_ge (b : Nat → Nat) (n p : Nat) : p ≤ we b n p := rn_ge _ _ _
theorem we_le {b : Nat → Nat} {n p : Nat} (h : p ≤ n) : we b n p ≤ n := rn_le h
def dvA (b : Nat → Nat) : Nat → Nat → Nat → Nat
  | 0, _, v => v
  | d + 1, p, v => if isD b p then dvA b d (p + 1) (min 100000 (10 * v + (b p - 48))) else v
/-- the number whose figures begin at p, behind v -/
def dv (b : Nat → Nat) (n p v : Nat) : Nat := dvA b (n - p) p v
theorem dv_y {b : Nat → Nat} {n p v : Nat} (h : p < n) (hp : isD b p = true) : dv b n p v = dv b n (p + 1) (min 100000 (10 * v + (b p - 48))) := by
  unfold dv
  rw [show n - p = (n - (p + 1)) + 1 by omega, dvA, if_pos hp]
theorem dv_n {b : Nat → Nat} {n p v : Nat} (h : ¬ (p < n ∧ isD b p = true)) : dv b n p v = v := by
  unfold dv
  cases hd : n - p with
  | zero => rfl
  | succ d => rw [dvA, if_neg (fun q => h ⟨by omega, q⟩)]
theorem dvA_le (b : Nat → Nat) : ∀ d p v, v ≤ 100000 → dvA b d p v ≤ 100000 := by
  intro d
  induction d with
  | zero => intro p v h; exact h
  | succ d ih =>
    intro p v h
    rw [dvA]
    split
    · exact ih _ _ (Nat.min_le_left _ _)
    · exact h
theorem dv_le {b : Nat → Nat} {n p v : Nat} (h : v ≤ 100000) : dv b n p v ≤ 100000 := dvA_le b _ _ _ h
/-- a number of at least lo, below H -/
def figF (b : Nat → Nat) (n lo H : Nat) (s : Rd) : Rd × Nat :=
  if s.1 ≠ 0 then (s, 0)
  else if rn (isD b) n (sk b n s.2) = sk b n s.2 then ((1, sk b n s.2), 0)
  else if lo ≤ dv b n (sk b n s.2) 0 ∧ dv b n (sk b n s.2) 0 < H then ((0, rn (isD b) n (sk b n s.2)), dv b n (sk b n s.2) 0)
  else ((2, sk b n s.2), 0)
/-- a sign -/
def sgnF (b : Nat → Nat) (n c : Nat) (s : Rd) : Rd := if s.1 ≠ 0 then s else if sk b n s.2 < n ∧ b (sk b n s.2) = c then (0, sk b n s.2 + 1) else (1, sk b n s.2)
def pkS (b : Nat → Nat) (n : Nat) (s : Rd) : Rd := if s.1 ≠ 0 then s else (0, sk b n s.2)
def pkV (b : Nat → Nat) (n : Nat) (s : Rd) : Int32 := if s.1 ≠ 0 then -1 else if sk b n s.2 < n then nI (b (sk b n s.2)) else -1
/-- the first fault counts -/
def flF (f x : Nat) (s : Rd) : Rd := if s.1 ≠ 0 then s else (f, x)
/-- the letters between s and e are the word L -/
def isW (b : Nat → Nat) (s e : Nat) (L : List Nat) : Bool := decide (e = s + L.length ∧ ∀ i, i < L.length → b (s + i) = L.getD i 0)
theorem isW_is {b : Nat → Nat} {s e : Nat} {L : List Nat} : isW b s e L = true ↔ e = s + L.length ∧ ∀ i, i < L.length → b (s + i) = L.getD i 0 := by
  unfold isW
  exact decide_eq_true_iff
theorem isW_uniq {b : Nat → Nat} {s e : Nat} {L L' : List Nat} (h : isW b s e L = true) (h' : isW b s e L' = true) : L = L' := by
  obtain ⟨a1, a2⟩ := isW_is.mp h
  obtain ⟨b1, b2⟩ := isW_is.mp h'
  have hl : L.length = L'.length := by omega
  apply List.ext_getElem hl
  intro i h1 h2
  have e1 := a2 i h1
  have e2 := b2 i h2
  rw [e1] at e2
  rw [List.getD_eq_getElem?_getD, List.getD_eq_getElem?_getD, List.getElem?_eq_getElem h1, List.getElem?_eq_getElem h2] at e2
  exact e2
theorem figF_x {b : Nat → Nat} {n lo H : Nat} {s : Rd} (h : s.1 ≠ 0) : figF b n lo H s = (s, 0) := if_pos h
theorem sgnF_x {b : Nat → Nat} {n c : Nat} {s : Rd} (h : s.1 ≠ 0) : sgnF b n c s = s := if_pos h
theorem pkS_x {b : Nat → Nat} {n : Nat} {s : Rd} (h : s.1 ≠ 0) : pkS b n s = s := if_pos h
theorem flF_x {f x : Nat} {s : Rd} (h : s.1 ≠ 0) : flF f x s = s := if_pos h
/-- what an ok number is -/
theorem figF_ok {b : Nat → Nat} {n lo H : Nat} {s : Rd} (h : (figF b n lo H s).1.1 = 0) : s.1 = 0 ∧ lo ≤ (figF b n lo H s).2 ∧ (figF b n lo H s).2 < H ∧ s.2 < (figF b n lo H s).1.2 ∧ (figF b n lo H s).2 ≤ 100000 := by
  unfold figF at h ⊢
  by_cases h0 : s.1 ≠ 0
  · rw [if_pos h0] at h
    exact absurd h h0
  · rw [if_neg h0] at h ⊢
    by_cases h1 : rn (isD b) n (sk b n s.2) = sk b n s.2
    · rw [if_pos h1] at h
      exact absurd h (by show ¬ (1 : Nat) = 0; decide)
    · rw [if_neg h1] at h ⊢
      by_cases h2 : lo ≤ dv b n (sk b n s.2) 0 ∧ dv b n (sk b n s.2) 0 < H
      · rw [if_pos h2]
        refine ⟨Classical.not_not.mp h0, h2.1, h2.2, ?_, dv_le (by omega)⟩
        have a1 := sk_ge b n s.2
        have a2 := rn_ge (isD b) n (sk b n s.2)
        show s.2 < rn (isD b) n (sk b n s.2)
        omega
      · rw [if_neg h2] at h
        exact absurd h (by show ¬ (2 : Nat) = 0; decide)
theorem sgnF_ok {b : Nat → Nat} {n c : Nat} {s : Rd} (h : (sgnF b n c s).1 = 0) : s.1 = 0 ∧ s.2 < (sgnF b n c s).2 ∧ sk b n s.2 < n ∧ b (sk b n s.2) = c ∧ sgnF b n c s = (0, sk b n s.2 + 1) := by
  unfold sgnF at h ⊢
  by_cases h0 : s.1 ≠ 0
  · rw [if_pos h0] at h
    exact absurd h h0
  · rw [if_neg h0] at h ⊢
    by_cases h1 : sk b n s.2 < n ∧ b (sk b n s.2) = c
    · rw [if_pos h1]
      have a1 := sk_ge b n s.2
      exact ⟨Classical.not_not.mp h0, by show s.2 < sk b n s.2 + 1; omega, h1.1, h1.2, rfl⟩
    · rw [if_neg h1] at h
      exact absurd h (by show ¬ (1 : Nat) = 0; decide)
/-- a status within the text -/
def Rk (n : Nat) (s : Rd) : Prop := s.1 ≤ 3 ∧ s.2 ≤ n
theorem figF_k {b : Nat → Nat} {n lo H : Nat} {s : Rd} (h : Rk n s) : Rk n (figF b n lo H s).1 := by
  unfold figF
  have a1 := sk_le (b := b) h.2
  have a2 := rn_le (P := isD b) a1
  split
  · exact h
  · split
    · exact ⟨by show (1 : Nat) ≤ 3; decide, a1⟩
    · split
      · exact ⟨by show (0 : Nat) ≤ 3; decide, a2⟩
      · exact ⟨by show (2 : Nat) ≤ 3; decide, a1⟩
theorem sgnF_k {b : Nat → Nat} {n c : Nat} {s : Rd} (h : Rk n s) : Rk n (sgnF b n c s) := by
  unfold sgnF
  have a1 := sk_le (b := b) h.2
  split
  · exact h
  · split
    · rename_i h1
      exact ⟨by show (0 : Nat) ≤ 3; decide, h1.1⟩
    · exact ⟨by show (1 : Nat) ≤ 3; decide, a1⟩
theorem pkS_k {b : Nat → Nat} {n : Nat} {s : Rd} (h : Rk n s) : Rk n (pkS b n s) := by
  unfold pkS
  split
  · exact h
  · exact ⟨by show (0 : Nat) ≤ 3; decide, sk_le h.2⟩
theorem flF_k {n f x : Nat} {s : Rd} (h : Rk n s) (hf : f ≤ 3) (hx : x ≤ n) : Rk n (flF f x s) := by
  unfold flF
  split
  · exact h
  · exact ⟨hf, hx⟩
theorem hz_sb : ∀ m, m < 256 → (sb8 m &&& 255 = nI m) ∧ (sb8 m = 32 ↔ m = 32) ∧ ((sb8 m < 97 ∨ 122 < sb8 m) ↔ ¬ (97 ≤ m ∧ m ≤ 122)) ∧ ((sb8 m < 48 ∨ 57 < sb8 m) ↔ ¬ (48 ≤ m ∧ m ≤ 57)) ∧ (m < 128 → sb8 m = nI m) := by decide +kernel
