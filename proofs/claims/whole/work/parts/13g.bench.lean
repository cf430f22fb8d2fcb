/-! The bench: the best seats behind a set, and the class's table of them. -/
abbrev Gn : Type := Nat → Nat → Nat
def jG (g : Gn) : Option Nat → Nat → Nat
  | none, _ => 0
  | some l, n => g l n
def mbK (g : Gn) (V : Nat → Nat → Nat) (m : Nat) (l : Option Nat) : Nat → Nat
  | 0 => 0
  | n + 1 => if m / 2 ^ n % 2 = 0 then max (mbK g V m l n) (jG g l n + V (m ||| 2 ^ n) n) else mbK g V m l n
def mbF (S : Nat) (g : Gn) : Nat → Nat → Option Nat → Nat
  | 0 => fun _ _ => 0
  | f + 1 => fun m l => mbK g (fun m' n => mbF S g f m' (some n)) m l S
def Mb (S : Nat) (g : Gn) (m : Nat) (l : Option Nat) : Nat := mbF S g 128 m l
theorem mbK_congr {g : Gn} {V W : Nat → Nat → Nat} {m : Nat} {l : Option Nat} {k : Nat} (h : ∀ n, n < k → m / 2 ^ n % 2 = 0 → V (m ||| 2 ^ n) n = W (m ||| 2 ^ n) n) : mbK g V m l k = mbK g W m l k := by
  induction k with
  | zero => rfl
  | succ k ih =>
    rw [mbK, mbK, ih (fun n hn => h n (by omega))]
    by_cases hq : m / 2 ^ k % 2 = 0
    · rw [if_pos hq, if_pos hq, h k (by omega) hq]
    · rw [if_neg hq, if_neg hq]
theorem mbK_full {g : Gn} {V : Nat → Nat → Nat} {m : Nat} {l : Option Nat} {k : Nat} (h : ∀ n, n < k → m / 2 ^ n % 2 = 1) : mbK g V m l k = 0 := by
  induction k with
  | zero => rfl
  | succ k ih => rw [mbK, if_neg (by rw [h k (by omega)]; decide), ih (fun n hn => h n (by omega))]
theorem hz_full : ∀ S, S < 8 → ∀ n, n < 7 → n < S → (2 ^ S - 1) / 2 ^ n % 2 = 1 := by decide +kernel
theorem hz_ins : ∀ m, m < 128 → ∀ n, n < 7 → m / 2 ^ n % 2 = 0 → m ||| 2 ^ n = m + 2 ^ n := by decide +kernel
theorem or_lt {S m n : Nat} (hm : m < 2 ^ S) (hn : n < S) : m ||| 2 ^ n < 2 ^ S := Nat.or_lt_two_pow hm (Nat.pow_lt_pow_right (by decide) hn)
theorem mbF_st {S : Nat} (hS : S ≤ 7) (g : Gn) : ∀ f f' m l, m < 2 ^ S → 2 ^ S - 1 - m ≤ f → 2 ^ S - 1 - m ≤ f' → mbF S g f m l = mbF S g f' m l := by
  have h128 := p2_7 hS
  have full : ∀ m, m < 2 ^ S → 2 ^ S - 1 - m ≤ 0 → ∀ V l, mbK g V m l S = 0 := by
    intro m h1 h2 V l
    have : m = 2 ^ S - 1 := by omega
    rw [this]
    exact mbK_full (fun n hn => hz_full S (by omega) n (by omega) hn)
  intro f
  induction f with
  | zero =>
    intro f' m l hm h1 h2
    cases f' with
    | zero => rfl
    | succ f' => exact (full m hm (by omega) _ _).symm
  | succ f ih =>
    intro f' m l hm h1 h2
    cases f' with
    | zero => exact full m hm (by omega) _ _
    | succ f' =>
      refine mbK_congr (fun n hn hq => ih f' _ _ (or_lt hm hn) ?_ ?_)
      · have := hz_ins m (by omega) n (by omega) hq
        have := Nat.two_pow_pos n
        omega
      · have := hz_ins m (by omega) n (by omega) hq
        have := Nat.two_pow_pos n
        omega
theorem Mb_eq {S : Nat} (hS : S ≤ 7) (g : Gn) {m : Nat} {l : Option Nat} (hm : m < 2 ^ S) : Mb S g m l = mbK g (fun m' n => Mb S g m' (some n)) m l S := by
  have h128 := p2_7 hS
  show mbK g (fun m' n => mbF S g 127 m' (some n)) m l S = _
  exact mbK_congr (fun n hn hq => mbF_st hS g 127 128 _ _ (or_lt hm hn) (by omega) (by omega))
theorem mbK_le {g : Gn} {V : Nat → Nat → Nat} {m : Nat} {l : Option Nat} {B C : Nat} (hg : ∀ a b, g a b ≤ B) (hV : ∀ a b, V a b ≤ C) : ∀ k, mbK g V m l k ≤ B + C := by
  intro k
  induction k with
  | zero => exact Nat.zero_le _
  | succ k ih =>
    rw [mbK]
    split
    · have h1 : jG g l k ≤ B := by
        cases l with
        | none => exact Nat.zero_le _
        | some a => exact hg a k
      have h2 := hV (m ||| 2 ^ k) k
      omega
    · exact ih
theorem mbF_le {S : Nat} {g : Gn} {B : Nat} (hg : ∀ a b, g a b ≤ B) : ∀ f m l, mbF S g f m l ≤ B * f := by
  intro f
  induction f with
  | zero => intro m l; exact Nat.zero_le _
  | succ f ih =>
    intro m l
    have := mbK_le (g := g) (V := fun m' n => mbF S g f m' (some n)) (m := m) (l := l) hg (fun a b => ih a (some b)) S
    rw [Nat.mul_succ]
    show mbK g _ m l S ≤ _
    omega
theorem Mb_le {S : Nat} {g : Gn} (hg : ∀ a b, g a b ≤ 20) (m : Nat) (l : Option Nat) : Mb S g m l ≤ 2560 := mbF_le hg 128 m l
/-- the first of the best -/
def fbP (S : Nat) (g : Gn) (m : Nat) (l : Option Nat) (n : Nat) : Bool := decide (m / 2 ^ n % 2 = 0) && decide (jG g l n + Mb S g (m ||| 2 ^ n) (some n) = Mb S g m l)
def fbN (S : Nat) (g : Gn) (m : Nat) (l : Option Nat) : Nat := if fs (fbP S g m l) S < S then fs (fbP S g m l) S else 0
def stB (S : Nat) (g : Gn) : Nat → Nat × Option Nat
  | 0 => (0, none)
  | j + 1 => ((stB S g j).1 ||| 2 ^ fbN S g (stB S g j).1 (stB S g j).2, some (fbN S g (stB S g j).1 (stB S g j).2))
theorem fbN_lt {S : Nat} {g : Gn} {m : Nat} {l : Option Nat} (h0 : 0 < S) : fbN S g m l < S := by
  unfold fbN
  split <;> omega
theorem stB_lt {S : Nat} {g : Gn} (h0 : 0 < S) : ∀ j, (stB S g j).1 < 2 ^ S := by
  intro j
  induction j with
  | zero => exact Nat.two_pow_pos S
  | succ j ih => exact or_lt ih (fbN_lt h0)
/-- how often two singers are handed to each other -/
def gT (T : Tx) (σ : Sg) (a b : Nat) : Nat := if sv T a = sv T b then 0 else cn1 (hdm σ (sv T a) (sv T b)) (min (tN T - 1) 20)
theorem gT_le (T : Tx) (σ : Sg) (a b : Nat) : gT T σ a b ≤ 20 := by
  unfold gT
  split
  · omega
  · have := cn1_n (hdm σ (sv T a) (sv T b)) (min (tN T - 1) 20)
    omega
theorem hdF_cn (σ : Sg) (v u : Int32) : ∀ k, hdF σ v u k = nI (cn1 (hdm σ v u) k) := by
  intro k
  induction k with
  | zero => rfl
  | succ k ih =>
    rw [hdF, cn1, ih]
    cases hdm σ v u k
    · exact Int32.add_zero _
    · exact nI_add _ 1
theorem hdO_g {T : Tx} (hT : Tok T) (σ : Sg) (a b : Nat) : hdO T σ (sv T a) (sv T b) = nI (gT T σ a b) := by
  have hN := hT.2.1
  unfold hdO gT
  split
  · rfl
  · rw [hdF_cn, Nat.min_eq_left (by omega)]
/-- the class's bench is laid out -/
def BnC (w : Wd) (S : Nat) (g : Gn) : Prop := w.1 6 0 0 = nI S ∧ ∀ a b, a < S → b < S → w.1 22 0 (a * 7 + b) = nI (g a b)
def BnT (w : Wd) (S : Nat) (g : Gn) (c : Nat) : Prop := ∀ m a, c < m → m < 2 ^ S → a < S → w.1 23 0 (m * 7 + a) = nI (Mb S g m (some a))
theorem mx_nI {a b : Nat} (ha : a < 2 ^ 31) (hb : b < 2 ^ 31) : (if nI a < nI b then nI b else nI a) = nI (max a b) := by
  by_cases h : a < b
  · rw [if_pos (nI_lt h hb), Nat.max_eq_right (by omega)]
  · rw [if_neg (nI_nlt (by omega) ha), Nat.max_eq_left (by omega)]
section QI
variable {l : Launch} {G : Gx} {w : Wd} {S : Nat} {g : Gn}
theorem c_worth (hl : l.stackTraces = false) {m n : Nat} {a : Option Nat} (hS : S ≤ 7) (hb : BnC w S g) (hm : m < 2 ^ S) (hn : n < S) (ha : ∀ x, a = some x → x < S) (ht : w.1 23 0 ((m ||| 2 ^ n) * 7 + n) = nI (Mb S g (m ||| 2 ^ n) (some n))) :
    C_X0_worth l G w [.ref (G.2.1 6 0), .int (nI m), .int (oI a), .int (nI n)] (fun r w' => r = some (.int (nI (jG g a n + Mb S g (m ||| 2 ^ n) (some n)))) ∧ w' = w) noX := by
  have h128 := p2_7 hS
  have hlt := or_lt hm hn
  refine e_X0_worth hl (fun M kk hM hk F => ?_)
  have e7 : (7 : Int32) = nI 7 := rfl
  have ei : (nI m ||| ((1 : Int32) <<< (nI n &&& 31))) * (7 : Int32) + nI n = nI ((m ||| 2 ^ n) * 7 + n) := by
    have := b1_nI n (by omega)
    unfold b1 at this
    rw [this, fb_or, e7, nI_mul, nI_add]
  have f20 : ∀ v : Nat, v = jG g a n → Z M G 0 (fun r w' => r = some (.int (nI (jG g a n + Mb S g (m ||| 2 ^ n) (some n)))) ∧ w' = w) noX w 20 [some (.ref (G.2.1 6 0)), some (.int (nI m)), none, some (.int (nI n)), none] [.int (nI v)] := by
    intro v hv
    refine b_X0_worth_20 F hk ?_
    rw [ei]
    refine ⟨vp_in_nI (by omega) (by decide), ?_, rfl⟩
    rw [nI_clamp (by omega), ht, nI_add, hv]
  cases a with
  | none => exact ⟨fun hc => absurd rfl hc, fun _ => f20 0 rfl⟩
  | some x =>
    have hx := ha x rfl
    have e2 : oI (some x) * (7 : Int32) + nI n = nI (x * 7 + n) := by
      show nI x * (7 : Int32) + nI n = _
      rw [e7, nI_mul, nI_add]
    refine ⟨fun _ => ?_, fun hc => absurd (Classical.not_not.mp hc) (nI_neg1 (show x < 2 ^ 31 by omega))⟩
    rw [e2]
    refine ⟨vp_in_nI (by omega) (by decide), ?_⟩
    rw [nI_clamp (by omega), hb.2 x n hx hn]
    exact f20 _ rfl
theorem c_mostBehind (hl : l.stackTraces = false) {m : Nat} {a : Option Nat} (hS : S ≤ 7) (hg : ∀ a b, g a b ≤ 20) (hb : BnC w S g) (hm : m < 2 ^ S) (ha : ∀ x, a = some x → x < S) (ht : ∀ n, n < S → m / 2 ^ n % 2 = 0 → w.1 23 0 ((m ||| 2 ^ n) * 7 + n) = nI (Mb S g (m ||| 2 ^ n) (some n))) :
    C_X0_mostBehind l G w [.ref (G.2.1 6 0), .int (nI m), .int (oI a)] (fun r w' => r = some (.int (nI (Mb S g m a))) ∧ w' = w) noX := by
  have h128 := p2_7 hS
  refine e_X0_mostBehind hl (fun M kk hM hk F => ?_)
  subst hM
  refine up_to (P := fun i => Z M G 0 (fun r w' => r = some (.int (nI (Mb S g m a))) ∧ w' = w) noX w 5 [some (.ref (G.2.1 6 0)), some (.int (nI m)), some (.int (oI a)), some (.int (nI (mbK g (fun m' n => Mb S g m' (some n)) m a i))), some (.int (nI i))] []) S (fun i hi ih => ?_) ?_
  · refine b_X0_mostBehind_5 F hk ⟨fun hc => ?_, fun _ => ?_⟩
    · rw [hb.1] at hc
      exact absurd hc (nI_ge hi (by omega))
    · rw [hz_bit m (by omega) i (by omega), ← nI_succ]
      rw [mbK] at ih
      rcases bit01 m i with q | q
      · rw [if_pos q] at ih
        rw [q]
        refine ⟨fun hc => absurd rfl hc, fun _ => con_i (c_worth hl hS hb hm hi ha (ht i hi q)) ?_⟩
        have l1 := mbK_le (g := g) (V := fun m' n => Mb S g m' (some n)) (m := m) (l := a) hg (fun x y => Mb_le hg x (some y)) i
        have l2 : jG g a i ≤ 20 := by
          cases a with
          | none => exact Nat.zero_le _
          | some x => exact hg x i
        have l3 := Mb_le (S := S) hg (m ||| 2 ^ i) (some i)
        rw [mx_nI (by omega) (by omega)]
        exact ih
      · rw [if_neg (by omega)] at ih
        rw [q]
        exact ⟨fun _ => ih, fun hc => absurd (by decide) hc⟩
  · refine b_X0_mostBehind_5 F hk ⟨fun _ => ⟨by rw [Mb_eq hS g hm], rfl⟩, fun hc => ?_⟩
    rw [hb.1] at hc
    exact absurd (nI_le (Nat.le_refl _) (by omega)) hc
theorem c_fill (hl : l.stackTraces = false) (hS : S ≤ 7) (hg : ∀ a b, g a b ≤ 20) (hb : BnC w S g) : C_X0_fill l G w [.ref (G.2.1 6 0)] (fun r w' => r = none ∧ BnT w' S g 0 ∧ Sm (fun κ _ _ => κ = 23) w w') noX := by
  have h128 := p2_7 hS
  have hp2 := Nat.two_pow_pos S
  refine e_X0_fill hl (fun M kk hM hk F => ?_)
  subst hM
  rw [hb.1, (hz_are S (by omega)).1]
  generalize hK : (fun r w' => r = none ∧ BnT w' S g 0 ∧ Sm (fun κ _ _ => κ = 23) w w' : Option Value → Wd → Prop) = K
  have key : ∀ c, c < 2 ^ S → ∀ w', Sm (fun κ _ _ => κ = 23) w w' → BnT w' S g c → Z M G 0 K noX w' 9 [some (.ref (G.2.1 6 0)), some (.int (nI c)), none] [] := by
    intro c
    induction c with
    | zero => intro _ w' hs ht; exact b_X0_fill_9 F hk ⟨fun _ => by rw [← hK]; exact ⟨rfl, ht, hs⟩, fun hc => absurd (by decide) hc⟩
    | succ c ihc =>
      intro hc w' hs ht
      refine b_X0_fill_9 F hk ⟨fun h => absurd h (nI_nle (by omega) (by omega)), fun _ => ?_⟩
      refine up_to (P := fun i => ∀ w2, Sm (fun κ _ _ => κ = 23) w w2 → BnT w2 S g (c + 1) → (∀ a, a < i → w2.1 23 0 ((c + 1) * 7 + a) = nI (Mb S g (c + 1) (some a))) → Z M G 0 K noX w2 15 [some (.ref (G.2.1 6 0)), some (.int (nI (c + 1))), some (.int (nI i))] []) S (fun i hi ih w2 hs2 ht2 ha2 => ?_) (fun w2 hs2 ht2 ha2 => ?_) w' hs ht (fun a ha => absurd ha (Nat.not_lt_zero _))
      · have hb2 : BnC w2 S g := ⟨(hs2.1 6 0 0 (by show ¬ 6 = 23; decide)).trans hb.1, fun a b h1 h2 => (hs2.1 22 0 _ (by show ¬ 22 = 23; decide)).trans (hb.2 a b h1 h2)⟩
        refine b_X0_fill_15 F hk ⟨fun h => ?_, fun _ => con_i (c_mostBehind hl (a := some i) hS hg hb2 hc (fun x hx => by cases hx; exact hi) (fun n hn hq => ?_)) ?_⟩
        · rw [hb2.1] at h
          exact absurd h (nI_ge hi (by omega))
        · have := hz_ins (c + 1) (by omega) n (by omega) hq
          have := Nat.two_pow_pos n
          exact ht2 _ n (by omega) (or_lt hc hn) hn
        · have e7 : (7 : Int32) = nI 7 := rfl
          rw [e7, nI_mul, nI_add, nI_clamp (by omega), ← nI_succ]
          refine ⟨vp_in_nI (by omega) (by decide), fun w3 hw3 => ih w3 (by rw [hw3]; exact hs2.set rfl) (fun m a h1 h2 h3 => ?_) (fun a ha => ?_)⟩
          · rw [hw3, setI_ne (by omega)]
            exact ht2 m a h1 h2 h3
          · by_cases hq : a = i
            · rw [hw3, hq, setI_eq]
            · rw [hw3, setI_ne (by omega)]
              exact ha2 a (by omega)
      · refine b_X0_fill_15 F hk ⟨fun _ => ?_, fun h => ?_⟩
        · rw [← Int32.sub_eq_add_neg, nI_pred]
          refine ihc (by omega) w2 hs2 (fun m a h1 h2 h3 => ?_)
          by_cases hq : m = c + 1
          · rw [hq]; exact ha2 a h3
          · exact ht2 m a (by omega) h2 h3
        · rw [hs2.1 6 0 0 (by show ¬ 6 = 23; decide), hb.1] at h
          exact absurd (nI_le (Nat.le_refl _) (by omega)) h
  exact key (2 ^ S - 1) (by omega) w Sm.rf (fun m a h1 h2 _ => by omega)
theorem BnT.at {w : Wd} {S : Nat} {g : Gn} (h : BnT w S g 0) (hS : S ≤ 7) {m n : Nat} (hm : m < 2 ^ S) (hn : n < S) (hq : m / 2 ^ n % 2 = 0) : w.1 23 0 ((m ||| 2 ^ n) * 7 + n) = nI (Mb S g (m ||| 2 ^ n) (some n)) := by
  have h128 := p2_7 hS
  have := hz_ins m (by omega) n (by omega) hq
  have := Nat.two_pow_pos n
  exact h _ n (by omega) (or_lt hm hn) hn
theorem c_most (hl : l.stackTraces = false) (hS : S ≤ 7) (hg : ∀ a b, g a b ≤ 20) (hb : BnC w S g) (ht : BnT w S g 0) : C_X0_most l G w [.ref (G.2.1 6 0)] (fun r w' => r = some (.int (nI (Mb S g 0 none))) ∧ w' = w) noX := by
  refine e_X0_most hl (fun M kk hM hk F => ?_)
  subst hM
  exact con_i (c_mostBehind hl (m := 0) (a := none) hS hg hb (Nat.two_pow_pos S) (fun x hx => by cases hx) (fun n hn hq => ht.at hS (Nat.two_pow_pos S) hn hq)) ⟨rfl, rfl⟩
theorem c_firstBest (hl : l.stackTraces = false) {m : Nat} {a : Option Nat} (hS : S ≤ 7) (hg : ∀ a b, g a b ≤ 20) (hb : BnC w S g) (ht : BnT w S g 0) (hm : m < 2 ^ S) (ha : ∀ x, a = some x → x < S) : C_X0_firstBest l G w [.ref (G.2.1 6 0), .int (nI m), .int (oI a)] (fun r w' => r = some (.int (nI (fbN S g m a))) ∧ w' = w) noX := by
  have h128 := p2_7 hS
  refine e_X0_firstBest hl (fun M kk hM hk F => ?_)
  subst hM
  refine con_i (c_mostBehind hl hS hg hb hm ha (fun n hn hq => ht.at hS hm hn hq)) ?_
  refine up_to (P := fun i => (∀ k, k < i → fbP S g m a k = false) → Z M G 0 (fun r w' => r = some (.int (nI (fbN S g m a))) ∧ w' = w) noX w 10 [some (.ref (G.2.1 6 0)), some (.int (nI m)), some (.int (oI a)), some (.int (nI (Mb S g m a))), some (.int (nI i))] []) S (fun i hi ih hno => ?_) (fun hno => ?_) (fun k hk => absurd hk (Nat.not_lt_zero _))
  · refine b_X0_firstBest_10 F hk ⟨fun hc => ?_, fun _ => ?_⟩
    · rw [hb.1] at hc
      exact absurd hc (nI_ge hi (by omega))
    · rw [hz_bit m (by omega) i (by omega), ← nI_succ]
      have nxt : fbP S g m a i = false → Z M G 0 (fun r w' => r = some (.int (nI (fbN S g m a))) ∧ w' = w) noX w 10 [some (.ref (G.2.1 6 0)), some (.int (nI m)), some (.int (oI a)), some (.int (nI (Mb S g m a))), some (.int (nI (i + 1)))] [] := by
        intro hf
        refine ih (fun k hk2 => ?_)
        by_cases hq : k = i
        · rw [hq]; exact hf
        · exact hno k (by omega)
      rcases bit01 m i with q | q
      · rw [q]
        refine ⟨fun hc => absurd rfl hc, fun _ => con_i (c_worth hl hS hb hm hi ha (ht.at hS hm hi q)) ?_⟩
        have l2 : jG g a i ≤ 20 := by
          cases a with
          | none => exact Nat.zero_le _
          | some x => exact hg x i
        have l3 := Mb_le (S := S) hg (m ||| 2 ^ i) (some i)
        have l4 := Mb_le (S := S) hg m a
        rw [nI_eq (by omega) (by omega)]
        refine ⟨fun hne => nxt ?_, fun he => ⟨?_, rfl⟩⟩
        · unfold fbP
          rw [decide_eq_false hne, Bool.and_false]
        · have hp : fbP S g m a i = true := by
            unfold fbP
            rw [decide_eq_true q, decide_eq_true (Classical.not_not.mp he)]
            rfl
          have := fs_is hi hp hno
          unfold fbN
          rw [this, if_pos hi]
      · rw [q]
        refine ⟨fun _ => nxt ?_, fun hc => absurd (by decide) hc⟩
        unfold fbP
        rw [decide_eq_false (by omega)]
        rfl
  · refine b_X0_firstBest_10 F hk ⟨fun _ => ⟨?_, rfl⟩, fun hc => ?_⟩
    · unfold fbN
      rw [fs_none hno, if_neg (Nat.lt_irrefl _)]
      rfl
    · rw [hb.1] at hc
      exact absurd (nI_le (Nat.le_refl _) (by omega)) hc
theorem c_at (hl : l.stackTraces = false) {p : Nat} (hS : S ≤ 7) (hg : ∀ a b, g a b ≤ 20) (hb : BnC w S g) (ht : BnT w S g 0) (hp : p < S) : C_X0_at l G w [.ref (G.2.1 6 0), .int (nI p)] (fun r w' => r = some (.int (oI (stB S g (p + 1)).2)) ∧ w' = w) noX := by
  have h128 := p2_7 hS
  refine e_X0_at hl (fun M kk hM hk F => ?_)
  subst hM
  refine up_to (P := fun i => Z M G 0 (fun r w' => r = some (.int (oI (stB S g (p + 1)).2)) ∧ w' = w) noX w 7 [some (.ref (G.2.1 6 0)), some (.int (nI p)), some (.int (nI (stB S g i).1)), some (.int (oI (stB S g i).2)), some (.int (nI i)), none] []) (p + 1) (fun i hi ih => ?_) ?_
  · refine b_X0_at_7 F hk ⟨fun hc => absurd hc (nI_nlt (by omega) (by omega)), fun _ => ⟨fun hc => ?_, fun _ => ?_⟩⟩
    · rw [hb.1] at hc
      exact absurd hc (nI_ge (by omega) (by omega))
    · have hlt := stB_lt (g := g) (show 0 < S by omega) i
      have hfl := fbN_lt (S := S) (g := g) (m := (stB S g i).1) (l := (stB S g i).2) (by omega)
      refine con_i (c_firstBest hl hS hg hb ht hlt (fun x hx => ?_)) ?_
      · cases i with
        | zero => cases hx
        | succ i => cases hx; exact fbN_lt (by omega)
      · have := b1_nI (fbN S g (stB S g i).1 (stB S g i).2) (by omega)
        unfold b1 at this
        rw [this, fb_or, ← nI_succ]
        exact ih
  · exact b_X0_at_7 F hk ⟨fun _ => ⟨rfl, rfl⟩, fun hc => absurd (nI_lt (by omega) (by omega)) hc⟩
variable {T : Tx} {E : Ex} {σ : Sg}
theorem c_fillBench (hl : l.stackTraces = false) (h : CQ w T E σ) : C_X9_fillBench l G w [.ref (G.2.1 0 0)] (fun r w' => r = none ∧ BnC w' (tS T) (gT T σ) ∧ BnT w' (tS T) (gT T σ) 0 ∧ Sm GC w w') noX := by
  have hS := h.1.1
  refine e_X9_fillBench hl (fun M kk hM hk F => ?_)
  subst hM
  rw [h.2.1.2.2.1.1]
  intro w1 hw1
  have hr := h.2.1.1
  generalize hrr : w.2.2 2 0 0 = r at *
  have h6 : w1.1 6 0 0 = nI (tS T) := by rw [hw1]; exact setI_eq _ _ _ _ _
  have hs1 : Sm (fun κ _ _ => κ = 6 ∨ κ = 22) w w1 := by rw [hw1]; exact Sm.rf.set (Or.inl rfl)
  have hG : ∀ κ j k, (κ = 6 ∨ κ = 22) → GC κ j k := by intro κ j k q; unfold GC; omega
  refine up_to (P := fun i => ∀ w', Sm (fun κ _ _ => κ = 6 ∨ κ = 22) w w' → w'.1 6 0 0 = nI (tS T) → (∀ a b, a < i → b < tS T → w'.1 22 0 (a * 7 + b) = nI (gT T σ a b)) → Z M G 0 (fun r w' => r = none ∧ BnC w' (tS T) (gT T σ) ∧ BnT w' (tS T) (gT T σ) 0 ∧ Sm GC w w') noX w' 21 [some (.ref (G.2.1 0 0)), some (.ref (G.2.1 7 r)), some (.int (nI i)), none] []) (tS T) (fun i hi ih w' hs h6' hrow => ?_) (fun w' hs h6' hrow => ?_) w1 hs1 h6 (fun a b ha => absurd ha (Nat.not_lt_zero _))
  · have q := h.mvS hs hG
    have e7 := q.2.1.2.2.1
    rw [hs.2.2, hrr] at e7
    refine b_X9_fillBench_21 hr F hk ⟨fun hc => ?_, fun _ => ?_⟩
    · rw [e7.1] at hc
      exact absurd hc (nI_ge hi (by omega))
    · refine up_to (P := fun k => ∀ w2, Sm (fun κ _ _ => κ = 6 ∨ κ = 22) w w2 → w2.1 6 0 0 = nI (tS T) → (∀ a b, a < i → b < tS T → w2.1 22 0 (a * 7 + b) = nI (gT T σ a b)) → (∀ b, b < k → w2.1 22 0 (i * 7 + b) = nI (gT T σ i b)) → Z M G 0 (fun r w' => r = none ∧ BnC w' (tS T) (gT T σ) ∧ BnT w' (tS T) (gT T σ) 0 ∧ Sm GC w w') noX w2 31 [some (.ref (G.2.1 0 0)), some (.ref (G.2.1 7 r)), some (.int (nI i)), some (.int (nI k))] []) (tS T) (fun k hk2 ih2 w2 hs2 h62 hrow2 hr2 => ?_) (fun w2 hs2 h62 hrow2 hr2 => ?_) w' hs h6' hrow (fun b hb => absurd hb (Nat.not_lt_zero _))
      · have q2 := h.mvS hs2 hG
        have e72 := q2.2.1.2.2.1
        rw [hs2.2.2, hrr] at e72
        refine b_X9_fillBench_31 hr F hk ⟨fun hc => ?_, fun _ => ⟨vp_in_nI (by omega) (by decide), vp_in_nI (by omega) (by decide), ?_⟩⟩
        · rw [e72.1] at hc
          exact absurd hc (nI_ge hk2 (by omega))
        · rw [nI_clamp (by omega), nI_clamp (by omega), (e72.2.2.2.2.1 i hi).1, (e72.2.2.2.2.1 k hk2).1]
          refine con_i (c_handedOn hl q2) ?_
          have e7 : (7 : Int32) = nI 7 := rfl
          rw [e7, nI_mul, nI_add, nI_clamp (by omega), ← nI_succ, hdO_g h.1]
          refine ⟨vp_in_nI (by omega) (by decide), fun w3 hw3 => ih2 w3 (by rw [hw3]; exact hs2.set (Or.inr rfl)) (by rw [hw3, setI_ne (by omega)]; exact h62) (fun a b ha hb => ?_) (fun b hb => ?_)⟩
          · rw [hw3, setI_ne (by omega)]
            exact hrow2 a b ha hb
          · by_cases hq : b = k
            · rw [hw3, hq, setI_eq]
            · rw [hw3, setI_ne (by omega)]
              exact hr2 b (by omega)
      · have q2 := h.mvS hs2 hG
        have e72 := q2.2.1.2.2.1
        rw [hs2.2.2, hrr] at e72
        refine b_X9_fillBench_31 hr F hk ⟨fun _ => ?_, fun hc => ?_⟩
        · rw [← nI_succ]
          refine ih w2 hs2 h62 (fun a b ha hb => ?_)
          by_cases hq : a = i
          · rw [hq]; exact hr2 b hb
          · exact hrow2 a b (by omega) hb
        · rw [e72.1] at hc
          exact absurd (nI_le (Nat.le_refl _) (by omega)) hc
  · have q := h.mvS hs hG
    have e7 := q.2.1.2.2.1
    rw [hs.2.2, hrr] at e7
    refine b_X9_fillBench_21 hr F hk ⟨fun _ => ?_, fun hc => ?_⟩
    · have hbc : BnC w' (tS T) (gT T σ) := ⟨h6', hrow⟩
      refine con_vP (c_fill hl hS (gT_le T σ) hbc) (fun w2 h2 => ⟨rfl, ⟨?_, fun a b ha hb => ?_⟩, h2.1, (hs.mono hG).tr (h2.2.mono (fun κ j k q => by unfold GC; omega))⟩)
      · exact (h2.2.1 6 0 0 (by show ¬ 6 = 23; decide)).trans h6'
      · exact (h2.2.1 22 0 _ (by show ¬ 22 = 23; decide)).trans (hrow a b ha hb)
    · rw [e7.1] at hc
      exact absurd (nI_le (Nat.le_refl _) (by omega)) hc
theorem c_bench (hl : l.stackTraces = false) (h : CQ w T E σ) : C_X9_bench l G w [.ref (G.2.1 0 0)] (KC w true (nI (Mb (tS T) (gT T σ) 0 none))) noX := by
  refine e_X9_bench hl (fun M kk hM hk F => ?_)
  subst hM
  exact con_vP (c_fillBench hl h) (fun w2 h2 => con_i (c_most hl h.1.1 (gT_le T σ) h2.1 h2.2.1) ⟨rfl, rfl, h2.2.2⟩)
theorem c_benched (hl : l.stackTraces = false) {v : Int32} (h : CQ w T E σ) : C_X9_benched l G w [.ref (G.2.1 0 0), .int v] (KC w (decide (0 ≤ v)) (if v < nI (tS T) then oI (stB (tS T) (gT T σ) (v.toNatClampNeg + 1)).2 else -1)) (XT w (decide (0 ≤ v))) := by
  have hS := h.1.1
  refine e_X9_benched hl (fun M kk hM hk F => ?_)
  subst hM
  have f10 : ∀ b : Bool, decide (0 ≤ v) = b → Z M G 0 (KC w (decide (0 ≤ v)) (if v < nI (tS T) then oI (stB (tS T) (gT T σ) (v.toNatClampNeg + 1)).2 else -1)) (XT w (decide (0 ≤ v))) w 10 [some (.ref (G.2.1 0 0)), some (.int v)] [.int (bI b), .ref (G.2.1 0 0)] := by
    intro b hb
    refine b_X9_benched_10 F hk (con_dem hl (fun h1 => ?_) (fun h1 => ⟨hb.trans h1, rfl, rfl⟩))
    rw [h.2.1.2.2.1.1]
    have hbt := hb.trans h1
    obtain ⟨p, hp, rfl⟩ := nI_of (Int32.not_lt.mpr (of_decide_eq_true hbt))
    rw [nI_clamp hp]
    refine ⟨fun hlt => ?_, fun hlt => ⟨hbt, by rw [if_neg hlt], Sm.rf⟩⟩
    have hpS := (nI_ltI hp (show tS T < 2 ^ 31 by omega)).mp hlt
    refine con_vP (c_fillBench hl h) (fun w2 h2 => con_i (c_at hl hS (gT_le T σ) h2.1 h2.2.1 hpS) ⟨hbt, by rw [if_pos hlt], h2.2.2⟩)
  refine ⟨fun hc => f10 false (decide_eq_false (Int32.not_le.mpr hc)), fun hc => f10 true (decide_eq_true (Int32.not_lt.mp hc))⟩
end QI
