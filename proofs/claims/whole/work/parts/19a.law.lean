/-! A law's text: what it comes to, as a function of the facts. -/
abbrev Pq : Type := Rd → Rd × Ex
def zE : Ex := fun _ => 0
/-- which fact a word names; 8: none -/
def faF (b : Nat → Nat) (a e : Nat) : Nat := if isW b a e (wT 6) then 0 else if isW b a e (wT 7) then 1 else if isW b a e (wT 8) then 2 else if isW b a e (wT 9) then 3 else if isW b a e (wT 1) then 4 else if isW b a e (wT 10) then 5 else if isW b a e (wT 11) then 6 else if isW b a e (wT 0) then 7 else 8
def inF (b : Nat → Nat) (n : Nat) (room : Bool) (S : Pq) (a : Nat) : Rd × Ex := if room then (sgnF b n 41 (S (0, a + 1)).1, (S (0, a + 1)).2) else ((3, a), zE)
def paF (b : Nat → Nat) (n : Nat) (room : Bool) (S : Pq) (a e k : Nat) : Rd × Ex :=
  if room then (sgnF b n 93 (S (sgnF b n 44 (S (sgnF b n 91 (0, e))).1)).1, fun f => jn (nI k) ((S (sgnF b n 91 (0, e))).2 f) ((S (sgnF b n 44 (S (sgnF b n 91 (0, e))).1)).2 f)) else ((3, a), zE)
def un1 (b : Nat → Nat) (n : Nat) (room : Bool) (S : Pq) (a : Nat) : Rd × Ex :=
  if a < n ∧ isD b a = true then ((figF b n 0 1000 (0, a)).1, fun _ => nI (figF b n 0 1000 (0, a)).2)
  else if a < n ∧ b a = 40 then inF b n room S a
  else if isW b a (we b n a) (wT 4) = true then paF b n room S a (we b n a) 9
  else if isW b a (we b n a) (wT 5) = true then paF b n room S a (we b n a) 10
  else if faF b a (we b n a) < 8 then ((0, we b n a), fun f => f (faF b a (we b n a))) else ((1, a), zE)
def unF (b : Nat → Nat) (n : Nat) (room : Bool) (S : Pq) : Pq := fun s => if s.1 ≠ 0 then (s, zE) else un1 b n room S (sk b n s.2)
def isS1 (c : Nat) : Bool := c == 42 || c == 47 || c == 37
def isS2 (c : Nat) : Bool := c == 43 || c == 45
/-- further members, joined by signs of q -/
def loF (b : Nat → Nat) (n : Nat) (q : Nat → Bool) (U : Pq) : Nat → Rd × Ex → Rd × Ex
  | 0, r => r
  | f + 1, r => if r.1.1 ≠ 0 then r else if sk b n r.1.2 < n ∧ q (b (sk b n r.1.2)) = true then loF b n q U f ((U (0, sk b n r.1.2 + 1)).1, fun g => jn (nI (b (sk b n r.1.2))) (r.2 g) ((U (0, sk b n r.1.2 + 1)).2 g)) else ((0, sk b n r.1.2), r.2)
def prF (b : Nat → Nat) (n : Nat) (U : Pq) : Pq := fun s => loF b n isS1 U 150 (U s)
def suG (b : Nat → Nat) (n : Nat) (U : Pq) : Pq := fun s => loF b n isS2 U 150 (U s)
/-- a sum in which d more may be opened -/
def smF (b : Nat → Nat) (n : Nat) : Nat → Pq
  | 0 => suG b n (prF b n (unF b n false (fun s => (s, zE))))
  | d + 1 => suG b n (prF b n (unF b n true (smF b n d)))
/-- a law's text -/
def laF (b : Nat → Nat) (n : Nat) : Rd × Ex :=
  if (smF b n 6 (0, 0)).1.1 = 0 ∧ sk b n (smF b n 6 (0, 0)).1.2 < n then ((1, sk b n (smF b n 6 (0, 0)).1.2), zE) else (pkS b n (smF b n 6 (0, 0)).1, (smF b n 6 (0, 0)).2)
/-- failing stays failing -/
def Pf (P : Pq) : Prop := ∀ s : Rd, s.1 ≠ 0 → (P s).1 = s
theorem unF_f {b : Nat → Nat} {n : Nat} {room : Bool} {S : Pq} : Pf (unF b n room S) := fun s h => by unfold unF; rw [if_pos h]
theorem loF_f {b : Nat → Nat} {n : Nat} {q : Nat → Bool} {U : Pq} : ∀ f r, r.1.1 ≠ 0 → loF b n q U f r = r
  | 0, r, _ => rfl
  | f + 1, r, h => by rw [loF, if_pos h]
theorem prF_f {b : Nat → Nat} {n : Nat} {U : Pq} (h : Pf U) : Pf (prF b n U) := fun s hs => by
  unfold prF
  rw [loF_f 150 (U s) (by rw [h s hs]; exact hs), h s hs]
theorem suG_f {b : Nat → Nat} {n : Nat} {U : Pq} (h : Pf U) : Pf (suG b n U) := fun s hs => by
  unfold suG
  rw [loF_f 150 (U s) (by rw [h s hs]; exact hs), h s hs]
theorem smF_f {b : Nat → Nat} {n : Nat} : ∀ d, Pf (smF b n d)
  | 0 => suG_f (prF_f unF_f)
  | d + 1 => suG_f (prF_f unF_f)
theorem faF_le (b : Nat → Nat) (a e : Nat) : faF b a e ≤ 8 := by
  unfold faF
  repeat' split
  all_goals decide
/-- a word begins with a letter -/
theorem isW_let {b : Nat → Nat} {n a t : Nat} (ht : t < 18) (h : isW b a (we b n a) (wT t) = true) : a < n ∧ 97 ≤ b a ∧ b a ≤ 122 ∧ a + 3 ≤ we b n a := by
  obtain ⟨h1, h2⟩ := isW_is.mp h
  obtain ⟨t1, t2, t3, t4⟩ := wT_s t ht
  have hlt : a < rn (isL b) n a := by show a < we b n a; omega
  have hL := isL_iff.mp (rn_in (P := isL b) (n := n) (Nat.le_refl a) hlt)
  refine ⟨?_, hL.1, hL.2, by omega⟩
  by_cases hq : a < n
  · exact hq
  · exfalso
    have : we b n a = a := rn_n (fun z => hq z.1)
    omega
theorem isW_nn {b : Nat → Nat} {n t : Nat} (ht : t < 18) : isW b n n (wT t) = false := by
  refine Bool.eq_false_iff.mpr (fun z => ?_)
  obtain ⟨t1, t2, t3, t4⟩ := wT_s t ht
  have := (isW_is.mp z).1
  omega
/-! the values of nodes -/
theorem lvl_cg {kd fi se kd' fi' se' f : Nat → Int32} : ∀ m, (∀ i, i < m → kd' i = kd i ∧ fi' i = fi i ∧ se' i = se i) → lvl kd' fi' se' f m = lvl kd fi se f m
  | 0, _ => rfl
  | m + 1, h => by
    obtain ⟨a, b, c⟩ := h m (by omega)
    rw [lvl, lvl, lvl_cg m (fun i hi => h i (by omega)), a, b, c]
theorem lvl_up {kd fi se f : Nat → Int32} {q m : Nat} (h : q < m) : ∀ d, lvl kd fi se f (m + d) q = lvl kd fi se f m q
  | 0 => rfl
  | d + 1 => by
    rw [show m + (d + 1) = (m + d) + 1 by omega, lvl_lt (by omega)]
    exact lvl_up h d
/-- how the class holds c nodes under way -/
def NdC (w : Wd) (r : Nat) (s : Rd) (c : Nat) : Prop := w.1 8 r 5 = nI c ∧ c ≤ 150 ∧ (s.1 = 0 → c ≤ s.2 ∧ ∀ i, i < c → ndOk (w.1 34 r i) (w.1 35 r i) (w.1 36 r i) i)
def GN (r κ b k : Nat) : Prop := GT κ b k ∨ (b = r ∧ (κ = 8 ∨ (34 ≤ κ ∧ κ ≤ 36)))
theorem GT_GN {r : Nat} : ∀ κ b k, GT κ b k → GN r κ b k := fun _ _ _ h => Or.inl h
theorem GT3_GN {r : Nat} : ∀ κ b k, GT3 κ b k → GN r κ b k := fun _ _ _ h => Or.inl (GT3_GT _ _ _ h)
theorem NdC.t {w w' : Wd} {r c : Nat} {s s' : Rd} {S : Nat → Nat → Nat → Prop} (h : NdC w r s c) (hs : Sm S w w') (hS : ∀ κ b k, S κ b k → κ = 1) (h0 : s'.1 = 0 → s.1 = 0 ∧ s.2 ≤ s'.2) : NdC w' r s' c := by
  obtain ⟨h1, h2, h3⟩ := h
  refine ⟨(hs.oth hS (by decide)).trans h1, h2, fun z => ?_⟩
  obtain ⟨z1, z2⟩ := h0 z
  obtain ⟨q1, q2⟩ := h3 z1
  refine ⟨by omega, fun i hi => ?_⟩
  rw [hs.oth hS (by decide), hs.oth hS (by decide), hs.oth hS (by decide)]
  exact q2 i hi
/-- what comes out of a reader of the class's law -/
def NP (b : Nat → Nat) (n r : Nat) (w : Wd) (s : Rd) (c : Nat) (R : Rd × Ex) : Option Value → Wd → Prop := fun v w' => ∃ (x : Int32) (c' : Nat), v = some (.int x) ∧ RC w' b n R.1 ∧ NdC w' r R.1 c' ∧
  (R.1.1 = 0 → c < c' ∧ c' + s.2 ≤ c + R.1.2 ∧ x = nI (c' - 1) ∧ (∀ i, i < c → w'.1 34 r i = w.1 34 r i ∧ w'.1 35 r i = w.1 35 r i ∧ w'.1 36 r i = w.1 36 r i) ∧ ∀ f, lvl (w'.1 34 r) (w'.1 35 r) (w'.1 36 r) f c' (c' - 1) = R.2 f) ∧ Sm (GN r) w w'
def LwH (l : Launch) (G : Gx) (b : Nat → Nat) (n r : Nat) (lev : Nat) (y : MethodName) (cc : ByteArray) (nL : Nat) (op : Nat) (P : Pq) : Prop :=
  ∀ (w : Wd) (s : Rd) (c : Nat), RC w b n s → NdC w r s c → Con l G lev 0 y cc nL (some .int) w [.ref (G.2.1 8 r), .ref (G.2.1 1 0), .int (nI op)] (NP b n r w s c (P s)) noX
theorem con_lev {l : Launch} {G : Gx} {k k2 mc : Nat} {y : MethodName} {cc : ByteArray} {nL : Nat} {rt : Option FieldType} {w : Wd} {as : List Value} {K : Option Value → Wd → Prop} {X : String → Wd → Prop} (h : Con l G k mc y cc nL rt w as K X) (hk : k ≤ k2) : Con l G k2 mc y cc nL rt w as K X := fun k' hk' => h k' (Nat.le_trans hk hk')
section LA2
variable {l : Launch} {G : Gx} {w : Wd} {b : Nat → Nat} {n r : Nat} {s : Rd} {c : Nat}
theorem c_lawAddX (hl : l.stackTraces = false) {p0 p1 p2 : Int32} (hr : r < 2) (hc : c ≤ 150) (h : w.1 8 r 5 = nI c) : C_X2_add l G w [.ref (G.2.1 8 r), .int p0, .int p1, .int p2] (fun v w' => (∃ x : Int32, v = some (.int x)) ∧ (∃ c', c' ≤ 150 ∧ w'.1 8 r 5 = nI c') ∧ Sm (fun κ b _ => b = r ∧ (κ = 8 ∨ (34 ≤ κ ∧ κ ≤ 36))) w w') noX := by
  by_cases hlt : c < 150
  · refine con_mono (c_lawAdd hl hr hlt h) ?_ (fun _ _ h => h)
    rintro _ _ ⟨rfl, rfl⟩
    refine ⟨⟨_, rfl⟩, ⟨c + 1, by omega, setI_eq _ _ _ _ _⟩, (((Sm.rf.set (by omega)).set (by omega)).set (by omega)).set (by omega)⟩
  · refine e_X2_add hr hl (fun M kk hM hk F => ?_)
    rw [h]
    refine ⟨fun hq => absurd hq (nI_nlt (b := 150) (by omega) (by omega)), fun _ => ⟨⟨0, rfl⟩, ⟨c, hc, rfl⟩, Sm.rf⟩⟩
/-- a fact's name -/
theorem c_factNamed (hl : l.stackTraces = false) {a e : Nat} (h : RC w b n s) (hae : a ≤ e) (hen : e ≤ n) (h4 : w.1 1 0 4 = nI a) (h3 : w.1 1 0 3 = nI e) : C_X2_factNamed l G w [.ref (G.2.1 1 0)] (fun v w' => v = some (.int (if faF b a e < 8 then nI (faF b a e) else -1)) ∧ w' = w) noX := by
  have tt : ∀ {x : Bool}, ¬ x = false → x = true := fun {x} q => by cases x; exact absurd rfl q; rfl
  refine e_X2_factNamed hl (fun M kk hM hk F => ?_)
  subst hM
  refine con_i (c_says hl (t := 6) (by decide) h hae hen h4 h3) ?_
  rw [bI_t]
  refine ⟨fun c0 => con_i (c_says hl (t := 7) (by decide) h hae hen h4 h3) ?_, fun c0 => ⟨by unfold faF; rw [tt c0]; rfl, rfl⟩⟩
  rw [bI_t]
  refine ⟨fun c1 => con_i (c_says hl (t := 8) (by decide) h hae hen h4 h3) ?_, fun c1 => ⟨by unfold faF; rw [c0, tt c1]; rfl, rfl⟩⟩
  rw [bI_t]
  refine ⟨fun c2 => con_i (c_says hl (t := 9) (by decide) h hae hen h4 h3) ?_, fun c2 => ⟨by unfold faF; rw [c0, c1, tt c2]; rfl, rfl⟩⟩
  rw [bI_t]
  refine ⟨fun c3 => con_i (c_says hl (t := 1) (by decide) h hae hen h4 h3) ?_, fun c3 => ⟨by unfold faF; rw [c0, c1, c2, tt c3]; rfl, rfl⟩⟩
  rw [bI_t]
  refine ⟨fun c4 => con_i (c_says hl (t := 10) (by decide) h hae hen h4 h3) ?_, fun c4 => ⟨by unfold faF; rw [c0, c1, c2, c3, tt c4]; rfl, rfl⟩⟩
  rw [bI_t]
  refine ⟨fun c5 => con_i (c_says hl (t := 11) (by decide) h hae hen h4 h3) ?_, fun c5 => ⟨by unfold faF; rw [c0, c1, c2, c3, c4, tt c5]; rfl, rfl⟩⟩
  rw [bI_t]
  refine ⟨fun c6 => con_i (c_says hl (t := 0) (by decide) h hae hen h4 h3) ?_, fun c6 => ⟨by unfold faF; rw [c0, c1, c2, c3, c4, c5, tt c6]; rfl, rfl⟩⟩
  rw [bI_t]
  exact ⟨fun c7 => ⟨by unfold faF; rw [c0, c1, c2, c3, c4, c5, c6, c7]; rfl, rfl⟩, fun c7 => ⟨by unfold faF; rw [c0, c1, c2, c3, c4, c5, c6, tt c7]; rfl, rfl⟩⟩
end LA2
