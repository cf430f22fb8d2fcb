/-! A program is gone through: state, steps begun, done, refused. -/
abbrev Rx : Type := Sg × Nat × Nat × Nat
def tick (x : Rx) : Rx := (x.1, x.2.1 + 1, x.2.2)
def dost (T : Tx) (E : Ex) (e : En) (x : Rx) : Rx := ((doF T E e x.1).1, x.2.1, if (doF T E e x.1).2 then x.2.2.1 + 1 else x.2.2.1, if (doF T E e x.1).2 then x.2.2.2 else x.2.2.2 + 1)
def repF (f : Rx → Rx) : Nat → Rx → Rx
  | 0, x => x
  | k + 1, x => if x.2.1 < 200 then repF f k (f x) else x
def walkF (T : Tx) (E : Ex) (L : List En) (inner : Nat → Nat → Rx → Rx) (to : Nat) : Nat → Nat → Rx → Rx
  | 0, _, x => x
  | f + 1, a, x => if a < to ∧ x.2.1 < 200 then (if (L.getD a (0, 0, 0, 0)).1 = 7 then walkF T E L inner to f (L.getD a (0, 0, 0, 0)).2.2.2 (repF (inner (a + 1) (L.getD a (0, 0, 0, 0)).2.2.2) (L.getD a (0, 0, 0, 0)).2.1 (tick x)) else walkF T E L inner to f (a + 1) (dost T E (L.getD a (0, 0, 0, 0)) (tick x))) else x
def goF (T : Tx) (E : Ex) (L : List En) : Nat → Nat → Nat → Rx → Rx
  | 0, _, _, x => x
  | d + 1, a, z, x => walkF T E L (goF T E L d) z 200 a x
/-- what holds of a run under way -/
def xOk (B : Nat) (T : Tx) (x : Rx) : Prop := x.2.1 ≤ 200 ∧ sOk (B + 20 * x.2.1) T x.1
theorem xOk.tick {B : Nat} {T : Tx} {x : Rx} (h : xOk B T x) (hx : x.2.1 < 200) : x.2.1 + 1 ≤ 200 ∧ sOk (B + 20 * x.2.1) T (tick x).1 ∧ xOk B T (tick x) := ⟨hx, h.2, hx, h.2.mono (by show B + 20 * x.2.1 ≤ B + 20 * (x.2.1 + 1); omega)⟩
theorem dost_ok {B c z i : Nat} {T : Tx} {E : Ex} {x : Rx} {e : En} (hT : Tok T) (he : EnOk T c z i e) (h : xOk B T x) (hx : x.2.1 < 200) : xOk B T (dost T E e (tick x)) := by
  refine ⟨hx, ?_⟩
  have := doF_ok (E := E) hT he h.2
  show sOk (B + 20 * (x.2.1 + 1)) T (doF T E e x.1).1
  exact this.mono (by omega)
/-- runs go on: never fewer begun, and they keep what holds -/
def gOk (B : Nat) (T : Tx) (g : Rx → Rx) : Prop := ∀ x, xOk B T x → xOk B T (g x) ∧ x.2.1 ≤ (g x).2.1
theorem repF_ok {B : Nat} {T : Tx} {g : Rx → Rx} (hg : gOk B T g) : ∀ k, gOk B T (repF g k)
  | 0 => fun x h => ⟨h, Nat.le_refl _⟩
  | k + 1 => fun x h => by
    rw [repF]
    split
    · obtain ⟨h1, h2⟩ := hg x h
      obtain ⟨h3, h4⟩ := repF_ok hg k (g x) h1
      exact ⟨h3, Nat.le_trans h2 h4⟩
    · exact ⟨h, Nat.le_refl _⟩
theorem getD_ok {T : Tx} {L : List En} (hL : SgOk T 0 L) {a : Nat} (ha : a < L.length) : EnOk T 0 L.length a (L.getD a (0, 0, 0, 0)) := by
  have e : L[a]? = some (L.getD a (0, 0, 0, 0)) := by
    rw [List.getD_eq_getElem?_getD, List.getElem?_eq_getElem ha]
    rfl
  have := hL a _ e
  rw [Nat.zero_add] at this
  exact this
theorem walkF_ok {B : Nat} {T : Tx} {E : Ex} {L : List En} (hT : Tok T) (hL : SgOk T 0 L) {inner : Nat → Nat → Rx → Rx} {z : Nat} (hz : z ≤ L.length) (hi : ∀ a y, y ≤ L.length → gOk B T (inner a y)) : ∀ f a, gOk B T (walkF T E L inner z f a)
  | 0, a => fun x h => ⟨h, Nat.le_refl _⟩
  | f + 1, a => fun x h => by
    rw [walkF]
    by_cases hc : a < z ∧ x.2.1 < 200
    · rw [if_pos hc]
      have he := getD_ok hL (show a < L.length by omega)
      by_cases h7 : (L.getD a (0, 0, 0, 0)).1 = 7
      · rw [if_pos h7]
        have hend : (L.getD a (0, 0, 0, 0)).2.2.2 ≤ L.length := by have := he.2.2.2.2.2.2.1; omega
        obtain ⟨h1, h2⟩ := repF_ok (hi (a + 1) _ hend) (L.getD a (0, 0, 0, 0)).2.1 (tick x) (h.tick hc.2).2.2
        obtain ⟨h3, h4⟩ := walkF_ok hT hL hz hi f _ _ h1
        refine ⟨h3, ?_⟩
        have h2 : x.2.1 + 1 ≤ _ := h2
        omega
      · rw [if_neg h7]
        obtain ⟨h3, h4⟩ := walkF_ok (E := E) hT hL hz hi f (a + 1) _ (dost_ok (E := E) hT he h hc.2)
        refine ⟨h3, ?_⟩
        have h4 : x.2.1 + 1 ≤ _ := h4
        omega
    · rw [if_neg hc]
      exact ⟨h, Nat.le_refl _⟩
theorem goF_s {T : Tx} {E : Ex} {L : List En} {d a z : Nat} {x : Rx} : goF T E L (d + 1) a z x = walkF T E L (goF T E L d) z 200 a x := rfl
theorem goF_ok {B : Nat} {T : Tx} {E : Ex} {L : List En} (hT : Tok T) (hL : SgOk T 0 L) : ∀ d a z, z ≤ L.length → gOk B T (goF T E L d a z) := by
  intro d
  induction d with
  | zero => intro a z _ x h; exact ⟨h, Nat.le_refl _⟩
  | succ d ih =>
    intro a z hz x h
    rw [goF_s]
    generalize 200 = f
    exact walkF_ok hT hL hz (fun a y hy => ih a y hy) f a x h
def GXc (κ b k : Nat) : Prop := GJ 0 κ b k ∨ (κ = 3 ∧ (k = 1 ∨ k = 2 ∨ k = 3))
def XC (w : Wd) (T : Tx) (x : Rx) : Prop := SceneC w 0 x.1 (tN T) ∧ w.1 3 0 3 = nI x.2.1 ∧ w.1 3 0 1 = nI x.2.2.1 ∧ w.1 3 0 2 = nI x.2.2.2
def GXm (κ b k : Nat) : Prop := NJ 0 κ b k ∨ (κ = 40 ∧ (k = 35 ∨ k = 39 ∨ k = 40))
def XM (w : Wd) (x : Rx) : Prop := w.1 69 0 = x.1 ∧ w.1 40 0 39 = nI x.2.1 ∧ w.1 40 0 40 = nI x.2.2.1 ∧ w.1 40 0 35 = nI x.2.2.2
section XB
variable {l : Launch} {G : Gx} {T : Tx} {E : Ex} {L : List En} {B : Nat}
theorem seg_getD {w : Wd} (h : segC w 0 L) {a : Nat} (ha : a < L.length) : w.1 11 0 a = nI (L.getD a (0, 0, 0, 0)).1 ∧ w.1 12 0 a = nI (L.getD a (0, 0, 0, 0)).2.1 ∧ w.1 13 0 a = nI (L.getD a (0, 0, 0, 0)).2.2.1 ∧ w.1 14 0 a = nI (L.getD a (0, 0, 0, 0)).2.2.2 := by
  have e : L[a]? = some (L.getD a (0, 0, 0, 0)) := by
    rw [List.getD_eq_getElem?_getD, List.getElem?_eq_getElem ha]
    rfl
  have := h a _ e
  rw [Nat.zero_add] at this
  exact this
theorem segM_getD {w : Wd} (h : segM w 0 L) {a : Nat} (ha : a < L.length) : w.1 68 a 0 = nI (L.getD a (0, 0, 0, 0)).1 ∧ ((L.getD a (0, 0, 0, 0)).1 = 0 ∨ (L.getD a (0, 0, 0, 0)).1 = 3 ∨ (L.getD a (0, 0, 0, 0)).1 = 4 ∨ (L.getD a (0, 0, 0, 0)).1 = 5 ∨ (L.getD a (0, 0, 0, 0)).1 = 7 → w.1 68 a 1 = nI (L.getD a (0, 0, 0, 0)).2.1) ∧ ((L.getD a (0, 0, 0, 0)).1 = 5 → w.1 68 a 2 = nI (L.getD a (0, 0, 0, 0)).2.2.1) ∧ w.1 68 a 3 = nI (L.getD a (0, 0, 0, 0)).2.2.2 := by
  have e : L[a]? = some (L.getD a (0, 0, 0, 0)) := by
    rw [List.getD_eq_getElem?_getD, List.getElem?_eq_getElem ha]
    rfl
  have := h a _ e
  rw [Nat.zero_add] at this
  exact this
theorem segC.mv {w w' : Wd} {c : Nat} {S : Nat → Nat → Nat → Prop} (h : segC w c L) (hs : Sm S w w') (hn : ∀ κ k, 11 ≤ κ → κ ≤ 14 → ¬ S κ 0 k) : segC w' c L := fun i e hi => by
  obtain ⟨a1, a2, a3, a4⟩ := h i e hi
  exact ⟨(hs.1 11 0 _ (hn 11 _ (by decide) (by decide))).trans a1, (hs.1 12 0 _ (hn 12 _ (by decide) (by decide))).trans a2, (hs.1 13 0 _ (hn 13 _ (by decide) (by decide))).trans a3, (hs.1 14 0 _ (hn 14 _ (by decide) (by decide))).trans a4⟩
theorem segM.mv {w w' : Wd} {c : Nat} {S : Nat → Nat → Nat → Prop} (h : segM w c L) (hs : Sm S w w') (hn : ∀ x k, ¬ S 68 x k) : segM w' c L := h.cg (fun x y _ _ => hs.1 68 x y (hn x y))
theorem c_perform (hl : l.stackTraces = false) (hB : B ≤ 90000) (hT : Tok T) (hL : SgOk T 0 L) (hlen : L.length ≤ 37) : ∀ d a z, a ≤ L.length → L.length - a ≤ d → z ≤ L.length → ∀ (w : Wd) (x : Rx), StC w T E → segC w 0 L → XC w T x → xOk B T x → Con l G (8 + d) 0 yX4_perform cX4_perform 7 none w [.ref (G.2.1 3 0), .ref (G.2.1 2 0), .ref (G.2.1 5 0), .int (nI a), .int (nI z)] (fun v w' => v = none ∧ XC w' T (goF T E L d a z x) ∧ Sm GXc w w') noX := by
  intro d
  induction d with
  | zero =>
    intro a z haL had hz w x hst hsg hx hok
    refine e_X4_perform (by decide) (kr := 7) (by decide) hl (fun M kk hM hk F => ?_)
    exact b_X4_perform_3 (by decide) (by decide) F hk ⟨fun _ => ⟨rfl, hx, Sm.rf⟩, fun hc => absurd (nI_le (by omega) (by omega)) hc⟩
  | succ d ihd =>
    intro a0 z ha0 had hz w x0 hst0 hsg0 hx0 hok0
    refine e_X4_perform (by decide) (kr := 8 + d) (by omega) hl (fun M kk hM hk F => ?_)
    generalize hK : (fun v w' => v = none ∧ XC w' T (goF T E L (d + 1) a0 z x0) ∧ Sm GXc w w' : Option Value → Wd → Prop) = K
    have hfin : goF T E L (d + 1) a0 z x0 = walkF T E L (goF T E L d) z 200 a0 x0 := rfl
    rw [hfin] at hK
    subst hM
    have key : ∀ f a (x : Rx) (w' : Wd), a0 ≤ a → a ≤ L.length → 200 ≤ f + x.2.1 → walkF T E L (goF T E L d) z f a x = walkF T E L (goF T E L d) z 200 a0 x0 → XC w' T x → xOk B T x → Sm GXc w w' → Z M G 0 K noX w' 3 [some (.ref (G.2.1 3 0)), some (.ref (G.2.1 2 0)), some (.ref (G.2.1 5 0)), none, some (.int (nI z)), some (.int (nI a)), none] [] := by
      intro f
      induction f with
      | zero =>
        intro a x w' haa haL hfx hwk hx hok hs
        refine b_X4_perform_3 (by decide) (by omega) F hk ?_
        have c200 : ((200 : Int32) ≤ nI x.2.1) := nI_le (a := 200) (by omega) (by have := hok.1; omega)
        have hwk : x = _ := hwk
        have fin : K none w' := by rw [← hK, ← hwk]; exact ⟨rfl, hx, hs⟩
        rw [hx.2.1]
        exact ⟨fun _ => fin, fun _ => ⟨fun _ => fin, fun q => absurd c200 q⟩⟩
      | succ f ihf =>
        intro a x w' haa haL hfx hwk hx hok hs
        have h200 := hok.1
        have hst : StC w' T E := hst0.mv hs (fun κ b k q => by unfold GXc GJ; omega)
        have hsg : segC w' 0 L := hsg0.mv hs (fun κ k h1 h2 => by unfold GXc GJ; omega)
        refine b_X4_perform_3 (by decide) (by omega) F hk ?_
        have c200 : ((200 : Int32) ≤ nI x.2.1) ↔ 200 ≤ x.2.1 := nI_leI (a := 200) (by decide) (by omega)
        rw [hx.2.1, c200, nI_leI (by omega) (by omega)]
        have fin : ¬ (a < z ∧ x.2.1 < 200) → K none w' := by
          intro hc
          rw [walkF, if_neg hc] at hwk
          rw [← hK, ← hwk]
          exact ⟨rfl, hx, hs⟩
        refine ⟨fun hc => fin (by omega), fun hc => ⟨fun hc2 => fin (by omega), fun hc2 w1 hw1 => ?_⟩⟩
        have hcc : a < z ∧ x.2.1 < 200 := by omega
        have haL' : a < L.length := by omega
        rw [← nI_succ] at hw1
        have s01 : Sm GXc w' w1 := by rw [hw1]; exact Sm.rf.set (by unfold GXc; omega)
        have hst1 : StC w1 T E := hst.mv s01 (fun κ b k q => by unfold GXc GJ; omega)
        have hsg1 : segC w1 0 L := hsg.mv s01 (fun κ k h1 h2 => by unfold GXc GJ; omega)
        have hx1 : XC w1 T (tick x) := by
          obtain ⟨y1, y2, y3, y4⟩ := hx
          refine ⟨y1.mv (S := fun κ _ _ => κ = 3) (by rw [hw1]; exact Sm.rf.set rfl) (fun κ k q => by omega), by rw [hw1, setI_eq]; rfl, by rw [hw1, setI_ne (by omega)]; exact y3, by rw [hw1, setI_ne (by omega)]; exact y4⟩
        obtain ⟨g1, g2, g3, g4⟩ := seg_getD hsg1 haL'
        have he := getD_ok hL haL'
        have hok1 := (hok.tick hcc.2).2.2
        have s1 := hs.tr s01
        rw [walkF, if_pos hcc] at hwk
        generalize hee : L.getD a (0, 0, 0, 0) = e at *
        rw [nI_clamp (by omega), g1]
        have he8 := he.1
        have z7 : (nI e.1 = 7) ↔ e.1 = 7 := nI_eq (b := 7) (by omega) (by decide)
        rw [z7]
        refine ⟨vp_in_nI (by omega) (by decide), fun hn7 => ?_, fun h7 => ?_⟩
        · rw [if_neg hn7] at hwk
          have hsb : sOk (B + 20 * x.2.1) T (tick x).1 := hok.2
          refine con_iP (c_doStep hl (E := E) (L := L) (B := B + 20 * x.2.1) (σ := (tick x).1) (by omega) hT hst1 hx1.1 hsb (by omega) he hn7 g1 g2 g3) (fun w3 k3 => ?_)
          have hok3 := dost_ok (E := E) hT he hok hcc.2
          have s13 : Sm GXc w1 w3 := k3.2.mono (fun κ b k q => Or.inl q)
          have b3 : w3.1 3 0 3 = nI (x.2.1 + 1) := (k3.2.1 3 0 3 (by unfold GJ; omega)).trans hx1.2.1
          have d3 : w3.1 3 0 1 = nI x.2.2.1 := (k3.2.1 3 0 1 (by unfold GJ; omega)).trans hx1.2.2.1
          have r3 : w3.1 3 0 2 = nI x.2.2.2 := (k3.2.1 3 0 2 (by unfold GJ; omega)).trans hx1.2.2.2
          rw [bI_t]
          have hsc3 : SceneC w3 0 (doF T E e x.1).1 (tN T) := k3.1
          refine ⟨fun hv w4 hw4 => ?_, fun hv w4 hw4 => ?_⟩
          · have hv : (doF T E e x.1).2 = false := hv
            rw [r3, ← nI_succ] at hw4
            have ed : dost T E e (tick x) = ((doF T E e x.1).1, x.2.1 + 1, x.2.2.1, x.2.2.2 + 1) := by
              unfold dost tick
              simp [hv]
            rw [← nI_succ]
            refine ihf (a + 1) (dost T E e (tick x)) w4 (by omega) (by omega) (by rw [ed]; show 200 ≤ f + (x.2.1 + 1); omega) hwk ?_ hok3 (by rw [hw4]; exact (s1.tr s13).set (by unfold GXc; omega))
            rw [ed]
            exact ⟨hsc3.mv (S := fun κ _ _ => κ = 3) (by rw [hw4]; exact Sm.rf.set rfl) (fun κ k q => by omega), by rw [hw4, setI_ne (by omega)]; exact b3, by rw [hw4, setI_ne (by omega)]; exact d3, by rw [hw4, setI_eq]⟩
          · have hv : (doF T E e x.1).2 = true := by
              cases hq : (doF T E e x.1).2 with
              | false => exact absurd hq hv
              | true => rfl
            rw [d3, ← nI_succ] at hw4
            have ed : dost T E e (tick x) = ((doF T E e x.1).1, x.2.1 + 1, x.2.2.1 + 1, x.2.2.2) := by
              unfold dost tick
              simp [hv]
            rw [← nI_succ]
            refine ihf (a + 1) (dost T E e (tick x)) w4 (by omega) (by omega) (by rw [ed]; show 200 ≤ f + (x.2.1 + 1); omega) hwk ?_ hok3 (by rw [hw4]; exact (s1.tr s13).set (by unfold GXc; omega))
            rw [ed]
            exact ⟨hsc3.mv (S := fun κ _ _ => κ = 3) (by rw [hw4]; exact Sm.rf.set rfl) (fun κ k q => by omega), by rw [hw4, setI_ne (by omega)]; exact b3, by rw [hw4, setI_eq], by rw [hw4, setI_ne (by omega)]; exact r3⟩
        · have h7 := Classical.not_not.mp h7
          rw [if_pos h7] at hwk
          have he60 := he.2.2.2.2.1 h7
          have heb : a < e.2.2.2 := by have := he.2.2.2.2.2.1; omega
          have hel : e.2.2.2 ≤ L.length := he.2.2.2.2.2.2.1
          have hin := goF_ok (B := B) (E := E) hT hL d (a + 1) e.2.2.2 hel
          have key2 : ∀ m j (y : Rx) (w2 : Wd), m + j = e.2.1 → repF (goF T E L d (a + 1) e.2.2.2) m y = repF (goF T E L d (a + 1) e.2.2.2) e.2.1 (tick x) → x.2.1 + 1 ≤ y.2.1 → XC w2 T y → xOk B T y → Sm GXc w w2 → Z M G 0 K noX w2 45 [some (.ref (G.2.1 3 0)), some (.ref (G.2.1 2 0)), some (.ref (G.2.1 5 0)), none, some (.int (nI z)), some (.int (nI a)), some (.int (nI j))] [] := by
            intro m
            induction m with
            | zero =>
              intro j y w2 hmj hrep hby hy hoky s2
              have hsg2 : segC w2 0 L := hsg0.mv s2 (fun κ k h1 h2 => by unfold GXc GJ; omega)
              obtain ⟨i1, i2, i3, i4⟩ := seg_getD hsg2 haL'
              rw [hee] at i2 i4
              refine b_X4_perform_45 (by decide) (by omega) F hk ?_
              rw [nI_clamp (by omega), i2, i4]
              refine ⟨vp_in_nI (by omega) (by decide), fun _ => ⟨vp_in_nI (by omega) (by decide), ?_⟩, fun q => absurd (nI_le (by omega) (by omega)) q⟩
              have hrep : y = _ := hrep
              rw [← hrep] at hwk
              exact ihf e.2.2.2 y w2 (by omega) hel (by omega) hwk hy hoky s2
            | succ m ihm =>
              intro j y w2 hmj hrep hby hy hoky s2
              have hsg2 : segC w2 0 L := hsg0.mv s2 (fun κ k h1 h2 => by unfold GXc GJ; omega)
              have hst2 : StC w2 T E := hst0.mv s2 (fun κ b k q => by unfold GXc GJ; omega)
              obtain ⟨i1, i2, i3, i4⟩ := seg_getD hsg2 haL'
              rw [hee] at i2 i4
              have hy200 := hoky.1
              refine b_X4_perform_45 (by decide) (by omega) F hk ?_
              have d200 : ((200 : Int32) ≤ nI y.2.1) ↔ 200 ≤ y.2.1 := nI_leI (a := 200) (by decide) (by omega)
              rw [nI_clamp (by omega), i2, i4, hy.2.1, d200]
              have hvi : vp_in (nI a) 150 := vp_in_nI (by omega) (by decide)
              refine ⟨hvi, fun q => absurd q (nI_ge (show j < e.2.1 by omega) (by omega)), fun _ => ⟨fun q => ⟨hvi, ?_⟩, fun q => ⟨hvi, ?_⟩⟩⟩
              · rw [repF, if_neg (by omega)] at hrep
                rw [← hrep] at hwk
                exact ihf e.2.2.2 y w2 (by omega) hel (by omega) hwk hy hoky s2
              · rw [repF, if_pos (by omega)] at hrep
                rw [← nI_succ]
                refine con_mono (con_lev (ihd (a + 1) e.2.2.2 (by omega) (by omega) hel w2 y hst2 hsg2 hy hoky) (Nat.le_refl _)) ?_ (fun _ _ q => q.elim)
                rintro _ w4 ⟨rfl, k4⟩
                refine ⟨rfl, ?_⟩
                obtain ⟨o1, o2⟩ := hin y hoky
                rw [← nI_succ]
                exact ihm (j + 1) _ w4 (by omega) hrep (by omega) k4.1 o1 (s2.tr k4.2)
          exact key2 e.2.1 0 (tick x) w1 (by omega) rfl (Nat.le_refl _) hx1 hok1 s1
    exact key 200 a0 x0 w (Nat.le_refl _) ha0 (by omega) rfl hx0 hok0 Sm.rf
theorem m_goes (hl : l.stackTraces = false) (hB : B ≤ 90000) (hT : Tok T) (hok' : Eok E) (hL : SgOk T 0 L) (hlen : L.length ≤ 37) : ∀ d a z, a ≤ L.length → L.length - a ≤ d → z ≤ L.length → ∀ (w : Wd) (x : Rx), StM w T E → segM w 0 L → XM w x → xOk B T x → Con l G (11 + d) 0 yX10_goes cX10_goes 5 none w [.ref (G.2.1 40 0), .int (nI a), .int (nI z)] (fun v w' => v = none ∧ XM w' (goF T E L d a z x) ∧ Sm GXm w w') noX := by
  intro d
  induction d with
  | zero =>
    intro a z haL had hz w x hst hsg hx hok
    refine e_X10_goes (kr := 10) (by decide) hl (fun M kk hM hk F => ?_)
    exact b_X10_goes_2 (by decide) F hk ⟨fun _ => ⟨rfl, hx, Sm.rf⟩, fun hc => absurd (nI_le (by omega) (by omega)) hc⟩
  | succ d ihd =>
    intro a0 z ha0 had hz w x0 hst0 hsg0 hx0 hok0
    refine e_X10_goes (kr := 11 + d) (by omega) hl (fun M kk hM hk F => ?_)
    generalize hK : (fun v w' => v = none ∧ XM w' (goF T E L (d + 1) a0 z x0) ∧ Sm GXm w w' : Option Value → Wd → Prop) = K
    have hfin : goF T E L (d + 1) a0 z x0 = walkF T E L (goF T E L d) z 200 a0 x0 := rfl
    rw [hfin] at hK
    subst hM
    have stmv : ∀ {w'}, Sm GXm w w' → StM w' T E := fun hs => hst0.mv hs (fun κ b k q => by unfold GXm NJ; omega) (by unfold GXm NJ; omega)
    have sgmv : ∀ {w'}, Sm GXm w w' → segM w' 0 L := fun hs => hsg0.mv hs (fun x k => by unfold GXm NJ; omega)
    have key : ∀ f a (x : Rx) (w' : Wd), a0 ≤ a → a ≤ L.length → 200 ≤ f + x.2.1 → walkF T E L (goF T E L d) z f a x = walkF T E L (goF T E L d) z 200 a0 x0 → XM w' x → xOk B T x → Sm GXm w w' → Z M G 0 K noX w' 2 [some (.ref (G.2.1 40 0)), none, some (.int (nI z)), some (.int (nI a)), none] [] := by
      intro f
      induction f with
      | zero =>
        intro a x w' haa haL hfx hwk hx hok hs
        refine b_X10_goes_2 (by omega) F hk ?_
        have c200 : ((200 : Int32) ≤ nI x.2.1) := nI_le (a := 200) (by omega) (by have := hok.1; omega)
        have hwk : x = _ := hwk
        have fin : K none w' := by rw [← hK, ← hwk]; exact ⟨rfl, hx, hs⟩
        rw [hx.2.1]
        exact ⟨fun _ => fin, fun _ => ⟨fun _ => fin, fun q => absurd c200 q⟩⟩
      | succ f ihf =>
        intro a x w' haa haL hfx hwk hx hok hs
        have h200 := hok.1
        refine b_X10_goes_2 (by omega) F hk ?_
        have c200 : ((200 : Int32) ≤ nI x.2.1) ↔ 200 ≤ x.2.1 := nI_leI (a := 200) (by decide) (by omega)
        rw [hx.2.1, c200, nI_leI (by omega) (by omega)]
        have fin : ¬ (a < z ∧ x.2.1 < 200) → K none w' := by
          intro hc
          rw [walkF, if_neg hc] at hwk
          rw [← hK, ← hwk]
          exact ⟨rfl, hx, hs⟩
        refine ⟨fun hc => fin (by omega), fun hc => ⟨fun hc2 => fin (by omega), fun hc2 w1 hw1 => ?_⟩⟩
        have hcc : a < z ∧ x.2.1 < 200 := by omega
        have haL' : a < L.length := by omega
        rw [← nI_succ] at hw1
        have s01 : Sm GXm w' w1 := by rw [hw1]; exact Sm.rf.set (by unfold GXm; omega)
        have s1 := hs.tr s01
        have hx1 : XM w1 (tick x) := by
          obtain ⟨y1, y2, y3, y4⟩ := hx
          refine ⟨by rw [hw1, setI_row (by omega)]; exact y1, by rw [hw1, setI_eq]; rfl, by rw [hw1, setI_ne (by omega)]; exact y3, by rw [hw1, setI_ne (by omega)]; exact y4⟩
        obtain ⟨g1, g2, g3, g4⟩ := segM_getD (sgmv s1) haL'
        have he := getD_ok hL haL'
        have hok1 := (hok.tick hcc.2).2.2
        rw [walkF, if_pos hcc] at hwk
        generalize hee : L.getD a (0, 0, 0, 0) = e at *
        rw [nI_clamp (by omega), g1]
        have he8 := he.1
        have z7 : (nI e.1 = 7) ↔ e.1 = 7 := nI_eq (b := 7) (by omega) (by decide)
        rw [z7]
        have hvi : vp_in (nI a) 80 := vp_in_nI (by omega) (by decide)
        refine ⟨hvi, fun hn7 => ⟨hvi, ?_⟩, fun h7 => ?_⟩
        · rw [if_neg hn7] at hwk
          have hbe : e.2.2.2 = a + 1 := by have := he.2.2.2.2.2.2.2 hn7; omega
          refine con_iP (m_does hl (E := E) (L := L) (σ := (tick x).1) hT (stmv s1) hok' hx1.1 (by omega) he hn7 g1 g2 g3) (fun w3 k3 => ?_)
          have hok3 := dost_ok (E := E) hT he hok hcc.2
          have s13 : Sm GXm w1 w3 := k3.2.mono (fun κ b k q => Or.inl q)
          have s3 := s1.tr s13
          have b3 : w3.1 40 0 39 = nI (x.2.1 + 1) := (k3.2.1 40 0 39 (by unfold NJ; omega)).trans hx1.2.1
          have d3 : w3.1 40 0 40 = nI x.2.2.1 := (k3.2.1 40 0 40 (by unfold NJ; omega)).trans hx1.2.2.1
          have r3 : w3.1 40 0 35 = nI x.2.2.2 := (k3.2.1 40 0 35 (by unfold NJ; omega)).trans hx1.2.2.2
          have q3 : w3.1 69 0 = (doF T E e x.1).1 := k3.1
          rw [d3]
          show (bI (doF T E e x.1).2 = 0 → _) ∧ _
          rw [bI_t]
          refine ⟨fun hv => ?_, fun hv => ?_⟩
          · refine b_X10_goes_121 (by omega) F hk (fun w4 hw4 => ⟨fun _ w5 hw5 => ⟨hvi, ?_⟩, fun q => absurd (bI_t.mpr hv) q⟩)
            have e35 : w4.1 40 0 35 = nI x.2.2.2 := by rw [hw4, setI_ne (by omega)]; exact r3
            rw [e35, ← nI_succ] at hw5
            rw [Int32.add_zero] at hw4
            have s5 : Sm GXm w w5 := by rw [hw5, hw4]; exact (s3.set (by unfold GXm; omega)).set (by unfold GXm; omega)
            obtain ⟨i1, i2, i3, i4⟩ := segM_getD (sgmv s5) haL'
            rw [hee] at i4
            rw [nI_clamp (by omega), i4, hbe]
            have ed : dost T E e (tick x) = ((doF T E e x.1).1, x.2.1 + 1, x.2.2.1, x.2.2.2 + 1) := by
              unfold dost tick
              simp [hv]
            refine ihf (a + 1) (dost T E e (tick x)) w5 (by omega) (by omega) (by rw [ed]; show 200 ≤ f + (x.2.1 + 1); omega) hwk ?_ hok3 s5
            rw [ed]
            exact ⟨by rw [hw5, setI_row (by omega), hw4, setI_row (by omega)]; exact q3, by rw [hw5, setI_ne (by omega), hw4, setI_ne (by omega)]; exact b3, by rw [hw5, setI_ne (by omega), hw4, setI_eq], by rw [hw5, setI_eq]⟩
          · have hv' : (doF T E e x.1).2 = true := by
              cases hq : (doF T E e x.1).2 with
              | false => exact absurd (bI_t.mpr hq) hv
              | true => rfl
            refine b_X10_goes_121 (by omega) F hk (fun w4 hw4 => ⟨fun q => absurd q hv, fun _ w5 hw5 => ⟨hvi, ?_⟩⟩)
            have e35 : w4.1 40 0 35 = nI x.2.2.2 := by rw [hw4, setI_ne (by omega)]; exact r3
            rw [e35, Int32.add_zero] at hw5
            rw [← nI_succ] at hw4
            have s5 : Sm GXm w w5 := by rw [hw5, hw4]; exact (s3.set (by unfold GXm; omega)).set (by unfold GXm; omega)
            obtain ⟨i1, i2, i3, i4⟩ := segM_getD (sgmv s5) haL'
            rw [hee] at i4
            rw [nI_clamp (by omega), i4, hbe]
            have ed : dost T E e (tick x) = ((doF T E e x.1).1, x.2.1 + 1, x.2.2.1 + 1, x.2.2.2) := by
              unfold dost tick
              simp [hv']
            refine ihf (a + 1) (dost T E e (tick x)) w5 (by omega) (by omega) (by rw [ed]; show 200 ≤ f + (x.2.1 + 1); omega) hwk ?_ hok3 s5
            rw [ed]
            exact ⟨by rw [hw5, setI_row (by omega), hw4, setI_row (by omega)]; exact q3, by rw [hw5, setI_ne (by omega), hw4, setI_ne (by omega)]; exact b3, by rw [hw5, setI_ne (by omega), hw4, setI_eq], by rw [hw5, setI_eq]⟩
        · have h7 := Classical.not_not.mp h7
          rw [if_pos h7] at hwk
          have he60 := he.2.2.2.2.1 h7
          have heb : a < e.2.2.2 := by have := he.2.2.2.2.2.1; omega
          have hel : e.2.2.2 ≤ L.length := he.2.2.2.2.2.2.1
          have hin := goF_ok (B := B) (E := E) hT hL d (a + 1) e.2.2.2 hel
          have key2 : ∀ m j (y : Rx) (w2 : Wd), m + j = e.2.1 → repF (goF T E L d (a + 1) e.2.2.2) m y = repF (goF T E L d (a + 1) e.2.2.2) e.2.1 (tick x) → x.2.1 + 1 ≤ y.2.1 → XM w2 y → xOk B T y → Sm GXm w w2 → Z M G 0 K noX w2 43 [some (.ref (G.2.1 40 0)), none, some (.int (nI z)), some (.int (nI a)), some (.int (nI j))] [] := by
            intro m
            induction m with
            | zero =>
              intro j y w2 hmj hrep hby hy hoky s2
              obtain ⟨i1, i2, i3, i4⟩ := segM_getD (sgmv s2) haL'
              rw [hee] at i2 i4
              have i2 := i2 (by omega)
              refine b_X10_goes_43 (by omega) F hk ?_
              rw [nI_clamp (by omega), i2, i4]
              refine ⟨hvi, fun _ => ⟨hvi, ?_⟩, fun q => absurd (nI_le (by omega) (by omega)) q⟩
              have hrep : y = _ := hrep
              rw [← hrep] at hwk
              exact ihf e.2.2.2 y w2 (by omega) hel (by omega) hwk hy hoky s2
            | succ m ihm =>
              intro j y w2 hmj hrep hby hy hoky s2
              obtain ⟨i1, i2, i3, i4⟩ := segM_getD (sgmv s2) haL'
              rw [hee] at i2 i4
              have i2 := i2 (by omega)
              have hy200 := hoky.1
              refine b_X10_goes_43 (by omega) F hk ?_
              have d200 : ((200 : Int32) ≤ nI y.2.1) ↔ 200 ≤ y.2.1 := nI_leI (a := 200) (by decide) (by omega)
              rw [nI_clamp (by omega), i2, i4, hy.2.1, d200]
              refine ⟨hvi, fun q => absurd q (nI_ge (show j < e.2.1 by omega) (by omega)), fun _ => ⟨fun q => ⟨hvi, ?_⟩, fun q => ⟨hvi, ?_⟩⟩⟩
              · rw [repF, if_neg (by omega)] at hrep
                rw [← hrep] at hwk
                exact ihf e.2.2.2 y w2 (by omega) hel (by omega) hwk hy hoky s2
              · rw [repF, if_pos (by omega)] at hrep
                rw [← nI_succ]
                refine con_mono (con_lev (ihd (a + 1) e.2.2.2 (by omega) (by omega) hel w2 y (stmv s2) (sgmv s2) hy hoky) (Nat.le_refl _)) ?_ (fun _ _ q => q.elim)
                rintro _ w4 ⟨rfl, k4⟩
                refine ⟨rfl, ?_⟩
                obtain ⟨o1, o2⟩ := hin y hoky
                rw [← nI_succ]
                exact ihm (j + 1) _ w4 (by omega) hrep (by omega) k4.1 o1 (s2.tr k4.2)
          exact key2 e.2.1 0 (tick x) w1 (by omega) rfl (Nat.le_refl _) hx1 hok1 s1
    exact key 200 a0 x0 w (Nat.le_refl _) ha0 (by omega) rfl hx0 hok0 Sm.rf
end XB
