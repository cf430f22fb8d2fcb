/-! Help for the contracts: counting down, calls with a known answer, what stays, small numbers. -/
theorem up_to {P : Nat → Prop} (n : Nat) (hs : ∀ i, i < n → P (i + 1) → P i) (hn : P n) : P 0 := by
  have key : ∀ d i, i + d = n → P i := by
    intro d
    induction d with
    | zero => intro i h; have : i = n := by omega
              rw [this]; exact hn
    | succ d ih => intro i h; exact hs i (by omega) (ih (i + 1) (by omega))
  exact key n 0 (by omega)
theorem up_from {P : Nat → Prop} (a n : Nat) (ha : a ≤ n) (hs : ∀ i, a ≤ i → i < n → P (i + 1) → P i) (hn : P n) : P a := by
  have key : ∀ d i, a ≤ i → i + d = n → P i := by
    intro d
    induction d with
    | zero => intro i _ h; have : i = n := by omega
              rw [this]; exact hn
    | succ d ih => intro i h1 h; exact hs i h1 (by omega) (ih (i + 1) (by omega) (by omega))
  exact key (n - a) a (Nat.le_refl _) (by omega)
section HC
variable {l : Launch} {G : Gx} {k mc : Nat} {y : MethodName} {cc : ByteArray} {nL : Nat} {rt : Option FieldType} {w w0 : Wd} {as : List Value} {X : String → Wd → Prop}
/-- a call with a known int answer and world -/
theorem con_i {v : Int32} {Fm : Int32 → Wd → Prop} (h : Con l G k mc y cc nL rt w as (fun r w' => r = some (.int v) ∧ w' = w0) (fun _ _ => False)) (hk : Fm v w0) : Con l G k mc y cc nL rt w as (fun r w' => ∃ v : Int32, r = some (.int v) ∧ Fm v w') X :=
  con_mono h (fun _ _ h => ⟨v, h.1, by rw [h.2]; exact hk⟩) (fun _ _ h => h.elim)
theorem con_iP {v : Int32} {P : Wd → Prop} {Fm : Int32 → Wd → Prop} (h : Con l G k mc y cc nL rt w as (fun r w' => r = some (.int v) ∧ P w') (fun _ _ => False)) (hk : ∀ w', P w' → Fm v w') : Con l G k mc y cc nL rt w as (fun r w' => ∃ v : Int32, r = some (.int v) ∧ Fm v w') X :=
  con_mono h (fun _ w' h => ⟨v, h.1, hk w' h.2⟩) (fun _ _ h => h.elim)
theorem con_l {v : Int64} {Fm : Int64 → Wd → Prop} (h : Con l G k mc y cc nL rt w as (fun r w' => r = some (.long v) ∧ w' = w0) (fun _ _ => False)) (hk : Fm v w0) : Con l G k mc y cc nL rt w as (fun r w' => ∃ v : Int64, r = some (.long v) ∧ Fm v w') X :=
  con_mono h (fun _ _ h => ⟨v, h.1, by rw [h.2]; exact hk⟩) (fun _ _ h => h.elim)
theorem con_v {Fm : Wd → Prop} (h : Con l G k mc y cc nL rt w as (fun r w' => r = none ∧ w' = w0) (fun _ _ => False)) (hk : Fm w0) : Con l G k mc y cc nL rt w as (fun r w' => r = none ∧ Fm w') X :=
  con_mono h (fun _ _ h => ⟨h.1, by rw [h.2]; exact hk⟩) (fun _ _ h => h.elim)
theorem con_vP {P : Wd → Prop} {Fm : Wd → Prop} (h : Con l G k mc y cc nL rt w as (fun r w' => r = none ∧ P w') (fun _ _ => False)) (hk : ∀ w', P w' → Fm w') : Con l G k mc y cc nL rt w as (fun r w' => r = none ∧ Fm w') X :=
  con_mono h (fun _ w' h => ⟨h.1, hk w' h.2⟩) (fun _ _ h => h.elim)
end HC
/-- nothing has changed but ints that S names (and the reference's long row) -/
def Sm (S : Nat → Nat → Nat → Prop) (w w' : Wd) : Prop := (∀ κ j k, ¬ S κ j k → w'.1 κ j k = w.1 κ j k) ∧ (∀ κ j k, κ ≠ 75 → w'.2.1 κ j k = w.2.1 κ j k) ∧ w'.2.2 = w.2.2
theorem Sm.rf {S : Nat → Nat → Nat → Prop} {w : Wd} : Sm S w w := ⟨fun _ _ _ _ => rfl, fun _ _ _ _ => rfl, rfl⟩
theorem Sm.tr {S : Nat → Nat → Nat → Prop} {w w1 w2 : Wd} (h : Sm S w w1) (h2 : Sm S w1 w2) : Sm S w w2 := ⟨fun κ j k q => (h2.1 κ j k q).trans (h.1 κ j k q), fun κ j k q => (h2.2.1 κ j k q).trans (h.2.1 κ j k q), h2.2.2.trans h.2.2⟩
theorem Sm.mono {S S' : Nat → Nat → Nat → Prop} {w w1 : Wd} (h : Sm S w w1) (hs : ∀ κ j k, S κ j k → S' κ j k) : Sm S' w w1 := ⟨fun κ j k q => h.1 κ j k (fun z => q (hs κ j k z)), h.2⟩
theorem Sm.set {S : Nat → Nat → Nat → Prop} {w w1 : Wd} {κ j k : Nat} {v : Int32} (h0 : Sm S w w1) (h : S κ j k) : Sm S w (setI w1 κ j k v) :=
  h0.tr ⟨fun a b c q => if_neg (fun z => q (by rw [z.1, z.2.1, z.2.2]; exact h)), fun _ _ _ _ => rfl, rfl⟩
theorem Sm.setR {S : Nat → Nat → Nat → Prop} {w w1 : Wd} {κ j : Nat} {f : Nat → Int32} (h0 : Sm S w w1) (h : ∀ k, S κ j k) : Sm S w (setR w1 κ j f) := by
  refine h0.tr ⟨fun a b c q => ?_, fun _ _ _ _ => rfl, rfl⟩
  show (if a = κ ∧ b = j then f else w1.1 a b) c = _
  rw [if_neg (fun z => q (by rw [z.1, z.2]; exact h c))]
theorem Sm.row {S : Nat → Nat → Nat → Prop} {w w1 : Wd} (h : Sm S w w1) {κ j : Nat} (hn : ∀ k, ¬ S κ j k) : w1.1 κ j = w.1 κ j := funext fun k => h.1 κ j k (hn k)
abbrev noX : String → Wd → Prop := fun _ _ => False
def bI (b : Bool) : Int32 := if b then 1 else 0
theorem bI_nar (b : Bool) : narrow .boolean (.int (bI b)) = .int (bI b) := by cases b <;> rfl
theorem bI_t {b : Bool} : bI b = 0 ↔ b = false := by cases b <;> decide
theorem setI_eq (w : Wd) (κ j k : Nat) (v : Int32) : (setI w κ j k v).1 κ j k = v := by simp [setI]
theorem setI_ne {w : Wd} {κ j k a b c : Nat} {v : Int32} (h : ¬ (a = κ ∧ b = j ∧ c = k)) : (setI w κ j k v).1 a b c = w.1 a b c := if_neg h
theorem setI_1 (w : Wd) (κ j k : Nat) (v : Int32) (a b c : Nat) : (setI w κ j k v).1 a b c = if a = κ ∧ b = j ∧ c = k then v else w.1 a b c := rfl
theorem setR_1 (w : Wd) (κ j : Nat) (f : Nat → Int32) (a b c : Nat) : (setR w κ j f).1 a b c = if a = κ ∧ b = j then f c else w.1 a b c := by
  show (if a = κ ∧ b = j then f else w.1 a b) c = _
  split <;> rfl
theorem setI_row {w : Wd} {κ j k a b : Nat} {v : Int32} (h : ¬ (a = κ ∧ b = j)) : (setI w κ j k v).1 a b = w.1 a b := by
  funext c
  exact if_neg (fun z => h ⟨z.1, z.2.1⟩)
theorem setI_2 (w : Wd) (κ j k : Nat) (v : Int32) : (setI w κ j k v).2 = w.2 := rfl
theorem setR_row {w : Wd} {κ j a b : Nat} {f : Nat → Int32} (h : ¬ (a = κ ∧ b = j)) : (setR w κ j f).1 a b = w.1 a b := if_neg h
/-! folds -/
def sm (f : Nat → Int32) : Nat → Int32
  | 0 => 0
  | n + 1 => sm f n + f n
/-- bit i of n -/
def b1 (i : Nat) : Int32 := (1 : Int32) <<< (nI i &&& 31)
def ob (p : Nat → Bool) : Nat → Int32
  | 0 => 0
  | n + 1 => if p n then ob p n ||| b1 n else ob p n
/-- the first below n with p, or n -/
def fs (p : Nat → Bool) : Nat → Nat
  | 0 => 0
  | n + 1 => if fs p n < n then fs p n else if p n then n else n + 1
/-- the best so far, -1 at first: a later one only if it is better -/
def bs (better : Nat → Nat → Bool) : Nat → Option Nat
  | 0 => none
  | n + 1 => match bs better n with
    | none => some n
    | some b => if better n b then some n else some b
def oI : Option Nat → Int32
  | none => -1
  | some n => nI n
theorem sm_congr {f g : Nat → Int32} {n : Nat} (h : ∀ i, i < n → f i = g i) : sm f n = sm g n := by
  induction n with
  | zero => rfl
  | succ n ih => rw [sm, sm, ih (fun i hi => h i (by omega)), h n (by omega)]
theorem sm_0 {f : Nat → Int32} {n m : Nat} (hm : n ≤ m) (h : ∀ i, n ≤ i → i < m → f i = 0) : sm f m = sm f n := by
  induction m with
  | zero => rw [show n = 0 by omega]
  | succ m ih =>
    by_cases hq : n = m + 1
    · rw [hq]
    · rw [sm, ih (by omega) (fun i h1 h2 => h i h1 (by omega)), h m (by omega) (by omega)]
      exact Int32.add_zero _
theorem ob_congr {p q : Nat → Bool} {n : Nat} (h : ∀ i, i < n → p i = q i) : ob p n = ob q n := by
  induction n with
  | zero => rfl
  | succ n ih => rw [ob, ob, ih (fun i hi => h i (by omega)), h n (by omega)]
theorem fs_le (p : Nat → Bool) (n : Nat) : fs p n ≤ n := by
  induction n with
  | zero => exact Nat.le_refl _
  | succ n ih =>
    rw [fs]
    split
    · omega
    · split <;> omega
theorem fs_lt {p : Nat → Bool} {n : Nat} (h : fs p n < n) : p (fs p n) = true ∧ ∀ i, i < fs p n → p i = false := by
  induction n with
  | zero => exact absurd h (Nat.not_lt_zero _)
  | succ n ih =>
    rw [fs] at h ⊢
    split
    · rename_i h1
      exact ih h1
    · rename_i h1
      rw [if_neg h1] at h
      split
      · rename_i h2
        refine ⟨h2, fun i hi => ?_⟩
        have he : fs p n = n := by have := fs_le p n; omega
        have key : ∀ m, fs p m = m → ∀ i, i < m → p i = false := by
          intro m
          induction m with
          | zero => intro _ i hi; exact absurd hi (Nat.not_lt_zero _)
          | succ m ihm =>
            intro he i hi
            rw [fs] at he
            have := fs_le p m
            split at he
            · omega
            · split at he
              · omega
              · rename_i h3 h4
                by_cases hq : i = m
                · rw [hq]; exact Bool.eq_false_iff.mpr h4
                · exact ihm (by omega) i (by omega)
        exact key n he i hi
      · rename_i h2
        rw [if_neg h2] at h
        omega
theorem fs_eq {p : Nat → Bool} {n : Nat} (h : fs p n = n) : ∀ i, i < n → p i = false := by
  induction n with
  | zero => intro i hi; exact absurd hi (Nat.not_lt_zero _)
  | succ m ihm =>
    intro i hi
    rw [fs] at h
    have := fs_le p m
    split at h
    · omega
    · split at h
      · omega
      · rename_i h3 h4
        by_cases hq : i = m
        · rw [hq]; exact Bool.eq_false_iff.mpr h4
        · exact ihm (by omega) i (by omega)
theorem fs_is {p : Nat → Bool} {n k : Nat} (hk : k < n) (h : p k = true) (hb : ∀ i, i < k → p i = false) : fs p n = k := by
  have hle := fs_le p n
  by_cases hlt : fs p n < n
  · obtain ⟨h1, h2⟩ := fs_lt hlt
    rcases Nat.lt_trichotomy (fs p n) k with q | q | q
    · rw [hb _ q] at h1; cases h1
    · exact q
    · rw [h2 _ q] at h; cases h
  · have := fs_eq (show fs p n = n by omega) k hk
    rw [h] at this; cases this
theorem fs_none {p : Nat → Bool} {n : Nat} (h : ∀ i, i < n → p i = false) : fs p n = n := by
  have hle := fs_le p n
  by_cases hlt : fs p n < n
  · have := (fs_lt hlt).1
    rw [h _ hlt] at this; cases this
  · omega
theorem fs_congr {p q : Nat → Bool} {n : Nat} (h : ∀ i, i < n → p i = q i) : fs p n = fs q n := by
  induction n with
  | zero => rfl
  | succ n ih => rw [fs, fs, ih (fun i hi => h i (by omega)), h n (by omega)]
theorem bs_lt {f : Nat → Nat → Bool} {n b : Nat} (h : bs f n = some b) : b < n := by
  induction n generalizing b with
  | zero => cases h
  | succ n ih =>
    rw [bs] at h
    cases hb : bs f n with
    | none => rw [hb] at h; cases h; omega
    | some c =>
      rw [hb] at h
      have := ih hb
      simp only at h
      split at h <;> cases h <;> omega
theorem bs_congr {f g : Nat → Nat → Bool} {n : Nat} (h : ∀ i j, i < n → j < i → f i j = g i j) : bs f n = bs g n := by
  induction n with
  | zero => rfl
  | succ n ih =>
    rw [bs, bs, ih (fun i j hi hj => h i j (by omega) hj)]
    cases hb : bs g n with
    | none => rfl
    | some b => simp only; rw [h n b (by omega) (bs_lt hb)]
theorem nI_neg1 {n : Nat} (h : n < 2 ^ 31) : ¬ nI n = -1 := by
  intro q
  have h1 := congrArg Int32.toInt q
  rw [nI_toInt h] at h1
  have h2 : (-1 : Int32).toInt = -1 := by decide
  omega
