/-! What a choir is: the roll T, the law E, a state row s (57 places, as the reference has them); and how the class holds them. -/
abbrev Tx : Type := (Nat × Nat × Nat × Int32) × ((Nat → Int32) × (Nat → Int32) × (Nat → Int32)) × ((Nat → Int32) × (Nat → Int32)) × ((Nat → Int32) × (Nat → Int32))
abbrev Ex : Type := (Nat → Int32) → Int32
abbrev Sg : Type := Nat → Int32
abbrev tS (T : Tx) : Nat := T.1.1
abbrev tN (T : Tx) : Nat := T.1.2.1
abbrev tL (T : Tx) : Nat := T.1.2.2.1
abbrev tB (T : Tx) : Int32 := T.1.2.2.2
abbrev sv (T : Tx) (s : Nat) : Int32 := T.2.1.1 s
abbrev sp (T : Tx) (s : Nat) : Int32 := T.2.1.2.1 s
abbrev sb (T : Tx) (s : Nat) : Int32 := T.2.1.2.2 s
abbrev nv (T : Tx) (n : Nat) : Int32 := T.2.2.1.1 n
abbrev nl (T : Tx) (n : Nat) : Int32 := T.2.2.1.2 n
abbrev kn (T : Tx) (k : Nat) : Int32 := T.2.2.2.1 k
abbrev kv (T : Tx) (k : Nat) : Int32 := T.2.2.2.2 k
def Tok (T : Tx) : Prop := tS T ≤ 7 ∧ tN T ≤ 20 ∧ tL T ≤ 12 ∧ (∀ s, s < tS T → (∃ v, v < 6 ∧ sv T s = nI v) ∧ (∃ v, v ≤ 60 ∧ sp T s = nI v) ∧ ∃ v, 1 ≤ v ∧ v ≤ 30 ∧ sb T s = nI v) ∧ (∀ n, n < tN T → (∃ v, v < 6 ∧ nv T n = nI v) ∧ ∃ v, 1 ≤ v ∧ v ≤ 9 ∧ nl T n = nI v) ∧ (∀ k, k < tL T → (∃ v, v < tN T ∧ kn T k = nI v) ∧ ∃ v, v < 6 ∧ kv T k = nI v) ∧ ∃ v, v ≤ 30 ∧ tB T = nI v
/-- the vowels that note n may be worded with, by the first k likes -/
def wf (T : Tx) (n : Nat) : Nat → Int32
  | 0 => (1 : Int32) <<< (nv T n &&& 31)
  | k + 1 => if kn T k = nI n then wf T n k ||| ((1 : Int32) <<< (kv T k &&& 31)) else wf T n k
def clampE (x : Int32) : Int32 := if x < 0 then 0 else if 30 < x then 30 else x
def fct (T : Tx) (σ : Sg) (n s : Nat) : Nat → Int32
  | 0 => nl T n
  | 1 => sp T s
  | 2 => σ s
  | 3 => σ (14 + s)
  | 4 => nI n
  | 5 => σ (35 + n)
  | 6 => σ 56
  | 7 => nI s
  | _ => 0
/-- a law reads eight facts alone -/
def Eok (E : Ex) : Prop := ∀ f g : Nat → Int32, (∀ k, k < 8 → f k = g k) → E f = E g
def tk (T : Tx) (E : Ex) (σ : Sg) (n s : Nat) : Int32 := clampE (E (fct T σ n s))
def canS (T : Tx) (E : Ex) (σ : Sg) (n s : Nat) : Bool := (sv T s == σ (35 + n)) && (σ (7 + s) == 0) && decide (tk T E σ n s ≤ σ s)
def sbF (T : Tx) (E : Ex) (σ : Sg) (n : Nat) : Nat := fs (canS T E σ n) (tS T)
def sbI (T : Tx) (E : Ex) (σ : Sg) (n : Nat) : Int32 := if sbF T E σ n < tS T then nI (sbF T E σ n) else -1
/-- singer s has sung note n -/
def sung1 (T : Tx) (E : Ex) (σ : Sg) (n s : Nat) : Sg := fun q => if q = s then σ q - tk T E σ n s else if q = 14 + s ∨ q = 28 + s then σ q + 1 else σ q
def singF (T : Tx) (E : Ex) (σ : Sg) (n : Nat) : Sg := if sbF T E σ n < tS T then sung1 T E σ n (sbF T E σ n) else σ
/-- the first k notes of the hymn: the state, who was heard (bits) -/
def hymF (T : Tx) (E : Ex) (σ : Sg) : Nat → Sg × Int32
  | 0 => (σ, 0)
  | k + 1 =>
    let p := hymF T E σ k
    if sbF T E p.1 k < tS T then (singF T E p.1 k, p.2 ||| b1 k) else (fun q => if q = 55 then p.1 55 + 1 else p.1 q, p.2)
/-! how the class holds a state -/
def SceneC (w : Wd) (j : Nat) (σ : Sg) (N : Nat) : Prop :=
  w.1 5 j 0 = σ 56 ∧ w.1 5 j 2 = σ 55 ∧ (∀ s, s < 7 → w.1 17 j s = σ s ∧ w.1 18 j s = σ (14 + s) ∧ w.1 19 j s = σ (21 + s) ∧ w.1 20 j s = σ (28 + s)) ∧ (∀ n, n < N → w.1 21 j n = σ (35 + n)) ∧
  ∃ m, m < 128 ∧ w.1 5 j 1 = nI m ∧ ∀ s, s < 7 → σ (7 + s) = nI (m / 2 ^ s % 2)
def RollC (w : Wd) (r : Nat) (T : Tx) : Prop :=
  w.1 7 r 0 = nI (tS T) ∧ w.1 7 r 1 = nI (tN T) ∧ w.1 7 r 2 = nI (tL T) ∧ w.1 7 r 3 = tB T ∧ (∀ s, s < tS T → w.1 25 r s = sv T s ∧ w.1 26 r s = sp T s ∧ w.1 27 r s = sb T s) ∧
  (∀ n, n < tN T → w.1 28 r n = nv T n ∧ w.1 29 r n = nl T n ∧ w.1 30 r n = wf T n (tL T)) ∧ ∀ k, k < tL T → w.1 31 r k = kn T k ∧ w.1 32 r k = kv T k
/-- the value of two joined -/
def jn (what a b : Int32) : Int32 :=
  if what = 43 then a + b else if what = 45 then a - b else if what = 42 then a * b else if what = 47 then (if b = 0 then 0 else a / b) else if what = 37 then (if b = 0 then 0 else a - a / b * b)
  else if what = 9 then (if a < b then a else b) else (if b < a then a else b)
/-- the values of the first n nodes -/
def lvl (kd fi se f : Nat → Int32) : Nat → Nat → Int32
  | 0 => fun _ => 0
  | n + 1 => upd (lvl kd fi se f n) n (if kd n < 8 then f (kd n).toNatClampNeg else if kd n = 8 then fi n else jn (kd n) (lvl kd fi se f n (fi n).toNatClampNeg) (lvl kd fi se f n (se n).toNatClampNeg))
def ndOk (kd a b : Int32) (i : Nat) : Prop := (∃ k, k < 8 ∧ kd = nI k) ∨ kd = 8 ∨ (8 < kd ∧ (∃ p, p < i ∧ a = nI p) ∧ ∃ q, q < i ∧ b = nI q)
def LawC (w : Wd) (r : Nat) (E : Ex) : Prop :=
  ∃ n, 1 ≤ n ∧ n ≤ 150 ∧ w.1 8 r 5 = nI n ∧ (∀ i, i < n → ndOk (w.1 34 r i) (w.1 35 r i) (w.1 36 r i) i) ∧ ∀ f, E f = lvl (w.1 34 r) (w.1 35 r) (w.1 36 r) f n (n - 1)
/-! they stay where their cells stay -/
theorem SceneC.mv {w w' : Wd} {j : Nat} {σ : Sg} {N : Nat} {S : Nat → Nat → Nat → Prop} (h : SceneC w j σ N) (hs : Sm S w w') (hn : ∀ κ k, κ = 5 ∨ (17 ≤ κ ∧ κ ≤ 21) → ¬ S κ j k) : SceneC w' j σ N := by
  obtain ⟨h1, h2, h3, h4, m, h5, h6, h7⟩ := h
  refine ⟨(hs.1 _ _ _ (hn 5 0 (Or.inl rfl))).trans h1, (hs.1 _ _ _ (hn 5 2 (Or.inl rfl))).trans h2, fun s hs7 => ?_, fun n hN => (hs.1 _ _ _ (hn 21 n (Or.inr (by omega)))).trans (h4 n hN), m, h5, (hs.1 _ _ _ (hn 5 1 (Or.inl rfl))).trans h6, h7⟩
  obtain ⟨a, b, c, d⟩ := h3 s hs7
  exact ⟨(hs.1 _ _ _ (hn 17 s (Or.inr (by omega)))).trans a, (hs.1 _ _ _ (hn 18 s (Or.inr (by omega)))).trans b, (hs.1 _ _ _ (hn 19 s (Or.inr (by omega)))).trans c, (hs.1 _ _ _ (hn 20 s (Or.inr (by omega)))).trans d⟩
theorem RollC.mv {w w' : Wd} {r : Nat} {T : Tx} {S : Nat → Nat → Nat → Prop} (h : RollC w r T) (hs : Sm S w w') (hn : ∀ κ k, κ = 7 ∨ (25 ≤ κ ∧ κ ≤ 32) → ¬ S κ r k) : RollC w' r T := by
  obtain ⟨h1, h2, h3, h4, h5, h6, h7⟩ := h
  have e : ∀ κ k, (κ = 7 ∨ (25 ≤ κ ∧ κ ≤ 32)) → w'.1 κ r k = w.1 κ r k := fun κ k q => hs.1 κ r k (hn κ k q)
  refine ⟨(e 7 0 (by omega)).trans h1, (e 7 1 (by omega)).trans h2, (e 7 2 (by omega)).trans h3, (e 7 3 (by omega)).trans h4, fun s q => ?_, fun n q => ?_, fun k q => ?_⟩
  · obtain ⟨a, b, c⟩ := h5 s q
    exact ⟨(e 25 s (by omega)).trans a, (e 26 s (by omega)).trans b, (e 27 s (by omega)).trans c⟩
  · obtain ⟨a, b, c⟩ := h6 n q
    exact ⟨(e 28 n (by omega)).trans a, (e 29 n (by omega)).trans b, (e 30 n (by omega)).trans c⟩
  · obtain ⟨a, b⟩ := h7 k q
    exact ⟨(e 31 k (by omega)).trans a, (e 32 k (by omega)).trans b⟩
theorem LawC.mv {w w' : Wd} {r : Nat} {E : Ex} {S : Nat → Nat → Nat → Prop} (h : LawC w r E) (hs : Sm S w w') (hn : ∀ κ k, κ = 8 ∨ (34 ≤ κ ∧ κ ≤ 36) → ¬ S κ r k) : LawC w' r E := by
  obtain ⟨n, h1, h2, h3, h4, h5⟩ := h
  have e : ∀ κ, (κ = 8 ∨ (34 ≤ κ ∧ κ ≤ 36)) → w'.1 κ r = w.1 κ r := fun κ q => funext fun k => hs.1 κ r k (hn κ k q)
  refine ⟨n, h1, h2, by rw [e 8 (by omega)]; exact h3, ?_, ?_⟩
  · rw [e 34 (by omega), e 35 (by omega), e 36 (by omega)]
    exact h4
  · rw [e 34 (by omega), e 35 (by omega), e 36 (by omega)]
    exact h5
theorem lvl_lt {kd fi se f : Nat → Int32} {n q : Nat} (h : q < n) : lvl kd fi se f (n + 1) q = lvl kd fi se f n q := by
  rw [lvl]
  exact pk_un (by omega)
theorem lvl_at {kd fi se f : Nat → Int32} {n : Nat} : lvl kd fi se f (n + 1) n = (if kd n < 8 then f (kd n).toNatClampNeg else if kd n = 8 then fi n else jn (kd n) (lvl kd fi se f n (fi n).toNatClampNeg) (lvl kd fi se f n (se n).toNatClampNeg)) := by
  rw [lvl]
  exact pk_us
theorem lvl_f {kd fi se : Nat → Int32} {f g : Nat → Int32} (hfg : ∀ k, k < 8 → f k = g k) : ∀ n, (∀ i, i < n → ndOk (kd i) (fi i) (se i) i) → ∀ q, lvl kd fi se f n q = lvl kd fi se g n q := by
  intro n
  induction n with
  | zero => intro _ q; rfl
  | succ n ih =>
    intro hok q
    have ih := ih (fun i hi => hok i (by omega))
    have e : lvl kd fi se f n = lvl kd fi se g n := funext ih
    rw [lvl, lvl, e]
    congr 1
    by_cases h8 : kd n < 8
    · rw [if_pos h8, if_pos h8]
      rcases hok n (by omega) with ⟨k, hk, h⟩ | h | ⟨h, -⟩
      · rw [h, nI_clamp (by omega)]
        exact hfg k hk
      · rw [h] at h8; exact absurd h8 (by decide)
      · exact absurd (Int32.lt_trans h h8) (by decide)
    · rw [if_neg h8, if_neg h8]
theorem LawC.ok {w : Wd} {r : Nat} {E : Ex} (h : LawC w r E) : Eok E := by
  obtain ⟨n, h1, h2, h3, h4, h5⟩ := h
  intro f g hfg
  rw [h5, h5]
  exact lvl_f hfg n h4 _
