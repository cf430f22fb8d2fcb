/-! The calculus: Z says that the machine, at a place of a method's body with a world, locals and stack, comes to a good end; Con is a method's contract. -/
def GW : List Cond := lw_tbl.filter goodWord
theorem GW_of {w : Cond} (h : w ∈ lw_tbl) (hg : goodWord w = true) : w ∈ GW := List.mem_filter.mpr ⟨h, hg⟩
theorem GW_t {w : Cond} (i : Nat) (h : tables_1[i]? = some w) (hg : goodWord w = true) : w ∈ GW := GW_of (List.mem_append_right _ (List.mem_of_getElem? h)) hg
theorem GW_p {w : Cond} (i : Nat) (h : (k2_sels lw_privs)[i]? = some w) (hg : goodWord w = true) : w ∈ GW := GW_of (List.mem_append_left _ (List.mem_of_getElem? h)) hg
theorem GW_good {w : Cond} (h : w ∈ GW) : goodWord w = true := (List.mem_filter.mp h).2
abbrev Mx : Type := Program × Launch × Env × Room × State × MethodId × Array Value × List Frame × Method × Code
abbrev mP (M : Mx) : Program := M.1
abbrev mL (M : Mx) : Launch := M.2.1
abbrev mE (M : Mx) : Env := M.2.2.1
abbrev mR (M : Mx) : Room := M.2.2.2.1
abbrev mS (M : Mx) : State := M.2.2.2.2.1
abbrev mM (M : Mx) : MethodId := M.2.2.2.2.2.1
abbrev mA (M : Mx) : Array Value := M.2.2.2.2.2.2.1
abbrev mB (M : Mx) : List Frame := M.2.2.2.2.2.2.2.1
abbrev mT (M : Mx) : Method := M.2.2.2.2.2.2.2.2.1
abbrev mC (M : Mx) : Code := M.2.2.2.2.2.2.2.2.2
/-- what may be written: all that came since the law's entry -/
def AA (G : Gx) : Nat → Prop := fun q => G.2.2.2.1 ≤ q
def tysG (G : Gx) : List (ClassId × FieldType) := [(G.2.2.1 0, .int), (G.2.2.1 1, .byte), (G.2.2.1 2, .long), (G.2.2.1 3, .object "VowelChoir$Scene"), (G.2.2.1 4, .object "VowelChoir$Life"), (G.2.2.1 5, .array .int)]
def PW (w : Wd) : Prop := ∀ κ j k : Nat, fk κ k = 2 → j < cnt κ → w.2.2 κ j k < 2
/-- the texts: length, bytes -/
def sLen : List Nat := [6, 4, 4, 4, 5, 4, 6, 3, 4, 4, 5, 3, 4, 4, 6, 4, 4, 5, 24, 28]
def sByt : List (List Int32) := [[115,105,110,103,101,114], [110,111,116,101], [108,105,107,101], [114,101,115,116], [108,101,97,115,116], [109,111,115,116], [108,101,110,103,116,104], [112,97,121], [108,101,102,116], [115,117,110,103], [118,111,119,101,108], [100,97,121], [115,105,110,103], [104,121,109,110], [104,111,97,114,115,101], [99,117,114,101], [119,111,114,100], [97,103,97,105,110],
  [110,111,116,32,119,104,97,116,32,116,104,105,115,32,99,97,108,108,32,116,97,107,101,115], [110,111,32,115,117,99,104,32,115,105,110,103,101,114,44,32,110,111,116,101,32,111,114,32,108,105,107,101]]
def sTx : List String := ["singer", "note", "like", "rest", "least", "most", "length", "pay", "left", "sung", "vowel", "day", "sing", "hymn", "hoarse", "cure", "word", "again", "not what this call takes", "no such singer, note or like"]
def nIae : String := "java/lang/IllegalArgumentException"
def nNse : String := "java/util/NoSuchElementException"
/-- words of the exceptions' classes that no step changes, though they aren't among the good ones -/
def exW : List Cond := [.castable nIae nIae, .castable nNse nNse, .declares (Bundle.initS "java/lang/RuntimeException"), .declares (Bundle.initS "java/lang/Exception"), .declares (Bundle.initS Bundle.tN)]
theorem exW_face : ∀ c ∈ exW, (c.keepsFace && c.onTables) = true := by decide +kernel
theorem exW_move {s U : State} (hW : s.WarmedH U.vm) {c : Cond} (hc : c ∈ exW) (h : va_Nw c s) : va_Nw c U := by
  have h1 := exW_face c hc
  simp only [Bool.and_eq_true] at h1
  exact va_tabs (A := #[]) (u := s.setVm U.vm) h1.2 rfl (Cond.before_shiftedFace (State.Shifted.of_warmed hW) c h1.1 h)
def Bs (G : Gx) (U : State) : Prop :=
  va_K G.1 vwCl (tysG G) U ∧ G.2.2.2.1 ≤ U.heap.size ∧ vx_Zq Bundle.tN "UNASSIGNED_STACK" Bundle.steD (AA G) U U.heap ∧ vx_Zq Bundle.tN "SUPPRESSED_SENTINEL" Bundle.listD (AA G) U U.heap ∧
  vk_S 20 sLen sByt G.2.2.2.2.1 G.2.2.2.2.2 (AA G) U U.heap ∧ (∀ q ∈ sRefs, vk_R q.1 q.2.1 (sTx.getD q.2.2 "") (G.2.2.2.2.1 q.2.2) U) ∧
  (∀ c ∈ exW, va_Nw c U) ∧ va_Nc nIae nNse U ∧ va_Z "java/lang/String" "COMPACT_STRINGS" "Z" (.int 1) (AA G) U U.heap ∧ va_Zq "jdk/internal/util/Preconditions" "SIOOBE_FORMATTER" "Ljava/util/function/BiFunction;" (AA G) U U.heap
def Hp (G : Gx) (w : Wd) (H : Heap) : Prop := va_P G.1 vwCl (LL G w) H ∧ va_D (AA G) (LL G w) ∧ PW w
def rl (k mc : Nat) : Room := { frames := k, cells := mc, slots := 6 * mc, locals := 40 * k }
def QK (G : Gx) (K : Option Value → Wd → Prop) : Array Value → State → Outcome → State → Prop := fun _ st o t => ∃ (r : Option Value) (w' : Wd), o = .returned r ∧ K r w' ∧ Hp G w' t.heap ∧ va_F (AA G) st t
def XK (G : Gx) (X : String → Wd → Prop) : String → State → State → Prop := fun E st t => ∃ w' : Wd, X E w' ∧ Hp G w' t.heap ∧ va_F (AA G) st t
def wsU (y : MethodName) (cc : ByteArray) (nL : Nat) (rt : Option FieldType) : List Cond := Cond.code y cc nL rt :: GW
/-- the contract of a method, called with so many frames of room at least, from a world w with these arguments: it returns r with a world w', 'K r w'', or throws an E, 'X E w'' -/
def Con (l : Launch) (G : Gx) (k mc : Nat) (y : MethodName) (cc : ByteArray) (nL : Nat) (rt : Option FieldType) (w : Wd) (as : List Value) (K : Option Value → Wd → Prop) (X : String → Wd → Prop) : Prop :=
  ∀ k' : Nat, k ≤ k' → vx_Met l y (wsU y cc nL rt) (rl k' mc) (va_Pc as (fun U => Bs G U ∧ Hp G w U.heap)) (QK G K) (XK G X) mc (6 * mc) (AA G)
/-! locals -/
def lg : List (Option Value) → Nat → Option Value
  | [], _ => none
  | x :: _, 0 => x
  | _ :: t, i + 1 => lg t i
def c2 : Option Value → Bool
  | some v => v.category == 2
  | none => false
def lput : List (Option Value) → Nat → Value → List (Option Value)
  | [], _, _ => []
  | _ :: t, 0, v => some v :: t
  | x :: t, i + 1, v => (match i with | 0 => (bif c2 x then none else x) | _ => x) :: lput t i v
def ltop : List (Option Value) → List (Option Value)
  | [] => []
  | _ :: t => none :: t
def lput2 : List (Option Value) → Nat → Value → List (Option Value)
  | [], _, _ => []
  | _ :: t, 0, v => some v :: ltop t
  | x :: t, i + 1, v => (match i with | 0 => (bif c2 x then none else x) | _ => x) :: lput2 t i v
def lhas (ls : Array Slot) (l : List (Option Value)) : Prop := ls.size = l.length ∧ lv_wf ls ∧ ∀ (i : Nat) (v : Value), lg l i = some v → ls[i]? = some (.val v)
def lasc : Nat → List (Option Value) → List (Nat × Value)
  | _, [] => []
  | i, none :: t => lasc (i + 1) t
  | i, some v :: t => (i, v) :: lasc (i + 1) t
theorem lasc_mem : ∀ (l : List (Option Value)) (n i : Nat) (v : Value), (i, v) ∈ lasc n l ↔ n ≤ i ∧ lg l (i - n) = some v
  | [], n, i, v => by simp [lasc, lg]
  | none :: t, n, i, v => by
    rw [lasc, lasc_mem t (n + 1) i v]
    constructor
    · rintro ⟨h1, h2⟩
      refine ⟨by omega, ?_⟩
      rw [show i - n = (i - (n + 1)) + 1 by omega]
      exact h2
    · rintro ⟨h1, h2⟩
      by_cases h : i = n
      · subst h
        rw [Nat.sub_self] at h2
        cases h2
      · refine ⟨by omega, ?_⟩
        rw [show i - n = (i - (n + 1)) + 1 by omega] at h2
        exact h2
  | some u :: t, n, i, v => by
    rw [lasc, List.mem_cons, lasc_mem t (n + 1) i v]
    constructor
    · rintro (h | ⟨h1, h2⟩)
      · cases h
        exact ⟨Nat.le_refl _, by rw [Nat.sub_self]; rfl⟩
      · refine ⟨by omega, ?_⟩
        rw [show i - n = (i - (n + 1)) + 1 by omega]
        exact h2
    · rintro ⟨h1, h2⟩
      by_cases h : i = n
      · subst h
        rw [Nat.sub_self] at h2
        cases h2
        exact Or.inl rfl
      · refine Or.inr ⟨by omega, ?_⟩
        rw [show i - n = (i - (n + 1)) + 1 by omega] at h2
        exact h2
theorem lhas_lv {ls : Array Slot} {l : List (Option Value)} (h : lhas ls l) : lv_has ls l.length (lasc 0 l) := by
  refine ⟨h.1, h.2.1, fun q hq => ?_⟩
  obtain ⟨i, v⟩ := q
  have := (lasc_mem l 0 i v).mp hq
  exact h.2.2 i v (by simpa using this.2)
theorem lput_len : ∀ (l : List (Option Value)) (i : Nat) (v : Value), (lput l i v).length = l.length
  | [], _, _ => rfl
  | _ :: _, 0, _ => rfl
  | x :: t, i + 1, v => by simp [lput, lput_len t i v]
theorem lput2_len : ∀ (l : List (Option Value)) (i : Nat) (v : Value), (lput2 l i v).length = l.length
  | [], _, _ => rfl
  | [_], 0, _ => rfl
  | _ :: _ :: _, 0, _ => rfl
  | x :: t, i + 1, v => by simp [lput2, lput2_len t i v]
theorem lput_at : ∀ (l : List (Option Value)) (i : Nat) (v u : Value) (k : Nat), lg (lput l i v) k = some u → (k = i ∧ u = v) ∨ (k ≠ i ∧ lg l k = some u ∧ ¬ (k + 1 = i ∧ u.category = 2))
  | [], _, _, _, k, h => by cases k <;> simp [lput, lg] at h
  | x :: t, 0, v, u, 0, h => by simp [lput, lg] at h; exact Or.inl ⟨rfl, h.symm⟩
  | x :: t, 0, v, u, k + 1, h => by
    simp [lput, lg] at h
    exact Or.inr ⟨by omega, h, by omega⟩
  | x :: t, i + 1, v, u, 0, h => by
    refine Or.inr ⟨by omega, ?_⟩
    cases i with
    | zero =>
      simp only [lput, lg] at h
      cases x with
      | none => simp [c2] at h
      | some z =>
        by_cases hz : z.category = 2
        · simp [c2, hz] at h
        · simp only [c2, beq_eq_false_iff_ne.mpr hz, cond_false, Option.some.injEq] at h
          subst h
          exact ⟨rfl, by omega⟩
    | succ i =>
      simp only [lput, lg] at h
      exact ⟨h, by omega⟩
  | x :: t, i + 1, v, u, k + 1, h => by
    simp only [lput, lg] at h
    rcases lput_at t i v u k h with ⟨h1, h2⟩ | ⟨h1, h2, h3⟩
    · exact Or.inl ⟨by omega, h2⟩
    · exact Or.inr ⟨by omega, h2, fun q => h3 ⟨by omega, q.2⟩⟩
theorem ltop_at (t : List (Option Value)) (k : Nat) (u : Value) (h : lg (ltop t) k = some u) : k ≠ 0 ∧ lg t k = some u := by
  cases t with
  | nil => simp [ltop, lg] at h
  | cons x t =>
    cases k with
    | zero => simp [ltop, lg] at h
    | succ k => exact ⟨by omega, by simpa [ltop, lg] using h⟩
theorem lput2_at : ∀ (l : List (Option Value)) (i : Nat) (v u : Value) (k : Nat), lg (lput2 l i v) k = some u → (k = i ∧ u = v) ∨ (k ≠ i ∧ k ≠ i + 1 ∧ lg l k = some u ∧ ¬ (k + 1 = i ∧ u.category = 2))
  | [], _, _, _, k, h => by cases k <;> simp [lput2, lg] at h
  | x :: t, 0, v, u, 0, h => by simp [lput2, lg] at h; exact Or.inl ⟨rfl, h.symm⟩
  | x :: t, 0, v, u, k + 1, h => by
    simp only [lput2, lg] at h
    obtain ⟨h1, h2⟩ := ltop_at t k u h
    exact Or.inr ⟨by omega, by omega, h2, by omega⟩
  | x :: t, i + 1, v, u, 0, h => by
    refine Or.inr ⟨by omega, by omega, ?_⟩
    cases i with
    | zero =>
      simp only [lput2, lg] at h
      cases x with
      | none => simp [c2] at h
      | some z =>
        by_cases hz : z.category = 2
        · simp [c2, hz] at h
        · simp only [c2, beq_eq_false_iff_ne.mpr hz, cond_false, Option.some.injEq] at h
          subst h
          exact ⟨rfl, by omega⟩
    | succ i =>
      simp only [lput2, lg] at h
      exact ⟨h, by omega⟩
  | x :: t, i + 1, v, u, k + 1, h => by
    simp only [lput2, lg] at h
    rcases lput2_at t i v u k h with ⟨h1, h2⟩ | ⟨h1, h4, h2, h3⟩
    · exact Or.inl ⟨by omega, h2⟩
    · exact Or.inr ⟨by omega, by omega, h2, fun q => h3 ⟨by omega, q.2⟩⟩
theorem lhas_put {ls' : Array Slot} {l : List (Option Value)} {i : Nat} {v : Value} (h : lv_has ls' l.length ((i, v) :: (lasc 0 l).filter (fun q => !(q.1 == i) && !(q.1 + 1 == i && q.2.category == 2)))) : lhas ls' (lput l i v) := by
  refine ⟨by rw [lput_len]; exact h.1, h.2.1, fun k u hk => ?_⟩
  rcases lput_at l i v u k hk with ⟨h1, h2⟩ | ⟨h1, h2, h3⟩
  · subst h1; subst h2
    exact h.2.2 (k, u) (List.mem_cons_self)
  · refine h.2.2 (k, u) (List.mem_cons_of_mem _ (List.mem_filter.mpr ⟨(lasc_mem l 0 k u).mpr ⟨Nat.zero_le _, by simpa using h2⟩, ?_⟩))
    simp only [Bool.and_eq_true, Bool.not_eq_true', beq_eq_false_iff_ne]
    refine ⟨h1, ?_⟩
    rw [Bool.and_eq_false_iff]
    by_cases hq : k + 1 = i
    · exact Or.inr (beq_eq_false_iff_ne.mpr (fun z => h3 ⟨hq, z⟩))
    · exact Or.inl (beq_eq_false_iff_ne.mpr hq)
theorem lhas_put2 {ls' : Array Slot} {l : List (Option Value)} {i : Nat} {v : Value} (h : lv_has ls' l.length ((i, v) :: (lasc 0 l).filter (fun q => !(q.1 == i) && (!(q.1 == i + 1) && !(q.1 + 1 == i && q.2.category == 2))))) : lhas ls' (lput2 l i v) := by
  refine ⟨by rw [lput2_len]; exact h.1, h.2.1, fun k u hk => ?_⟩
  rcases lput2_at l i v u k hk with ⟨h1, h2⟩ | ⟨h1, h4, h2, h3⟩
  · subst h1; subst h2
    exact h.2.2 (k, u) (List.mem_cons_self)
  · refine h.2.2 (k, u) (List.mem_cons_of_mem _ (List.mem_filter.mpr ⟨(lasc_mem l 0 k u).mpr ⟨Nat.zero_le _, by simpa using h2⟩, ?_⟩))
    simp only [Bool.and_eq_true, Bool.not_eq_true', beq_eq_false_iff_ne]
    refine ⟨h1, h4, ?_⟩
    rw [Bool.and_eq_false_iff]
    by_cases hq : k + 1 = i
    · exact Or.inr (beq_eq_false_iff_ne.mpr (fun z => h3 ⟨hq, z⟩))
    · exact Or.inl (beq_eq_false_iff_ne.mpr hq)
/-- the locals at a method's entry -/
def lent : List Value → List (Option Value)
  | [] => []
  | v :: t => if v.category = 2 then some v :: none :: lent t else some v :: lent t
theorem lent_at : ∀ (as : List Value) (n k : Nat) (v : Value), lg (lent as) k = some v → (n + k, v) ∈ lv_args n as
  | [], n, k, v, h => by simp [lent, lg] at h
  | u :: t, n, k, v, h => by
    unfold lent at h
    rw [lv_args]
    split at h
    · rename_i hc
      cases k with
      | zero => cases h; exact List.mem_cons_self
      | succ k =>
        cases k with
        | zero => cases h
        | succ k =>
          have := lent_at t (n + 2) k v h
          rw [if_pos hc]
          exact List.mem_cons_of_mem _ (by rw [show n + (k + 1 + 1) = n + 2 + k by omega]; exact this)
    · rename_i hc
      cases k with
      | zero => cases h; exact List.mem_cons_self
      | succ k =>
        have := lent_at t (n + 1) k v h
        rw [if_neg hc]
        exact List.mem_cons_of_mem _ (by rw [show n + (k + 1) = n + 1 + k by omega]; exact this)
theorem lg_app : ∀ (a b : List (Option Value)) (k : Nat) (v : Value), lg (a ++ List.replicate b.length none) k = some v → lg a k = some v
  | [], b, k, v, h => by
    exfalso
    have : ∀ (n k : Nat), lg (List.replicate n none) k = none := by
      intro n
      induction n with
      | zero => intro k; cases k <;> rfl
      | succ n ih => intro k; cases k with
        | zero => rfl
        | succ k => exact ih k
    rw [List.nil_append, this] at h
    cases h
  | x :: a, b, 0, v, h => h
  | x :: a, b, k + 1, v, h => lg_app a b k v h
