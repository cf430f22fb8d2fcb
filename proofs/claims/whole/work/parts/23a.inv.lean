/-! What holds of both sides between two calls of the law. -/
/-- the told choir, its law, the state, the states before, the images, the book, the tape's bytes and how many, fault's place, refused steps, refusals -/
abbrev Pv : Type := Tx × Ex × Sg × List Sg × List (Sg × List Sg) × Bk × (Nat → Nat) × Nat × Int32 × Int32 × Int32 × Int32
abbrev vT (P : Pv) : Tx := P.1
abbrev vE (P : Pv) : Ex := P.2.1
abbrev vσ (P : Pv) : Sg := P.2.2.1
abbrev vB (P : Pv) : List Sg := P.2.2.2.1
abbrev vI (P : Pv) : List (Sg × List Sg) := P.2.2.2.2.1
abbrev vL (P : Pv) : Bk := P.2.2.2.2.2.1
abbrev vb (P : Pv) : Nat → Nat := P.2.2.2.2.2.2.1
abbrev vz (P : Pv) : Nat := P.2.2.2.2.2.2.2.1
abbrev vp (P : Pv) : Int32 := P.2.2.2.2.2.2.2.2.1
abbrev vr (P : Pv) : Int32 := P.2.2.2.2.2.2.2.2.2.1
abbrev vf (P : Pv) : Int32 := P.2.2.2.2.2.2.2.2.2.2.1
abbrev vt (P : Pv) : Int32 := P.2.2.2.2.2.2.2.2.2.2.2
def lOk (T : Tx) (σ : Sg) (bf : List Sg) : Prop := sOk (4000 * bf.length) T σ ∧ ∀ (i : Nat) (τ : Sg), bf[i]? = some τ → sOk (4000 * i) T τ
/-- of both -/
def IS (P : Pv) : Prop := Tok (vT P) ∧ lOk (vT P) (vσ P) (vB P) ∧ (vB P).length ≤ 16 ∧ (vI P).length ≤ 3 ∧ (∀ (i : Nat) (x : Sg × List Sg), (vI P)[i]? = some x → lOk (vT P) x.1 x.2 ∧ x.2.length ≤ 16) ∧ vz P ≤ 600 ∧ (∀ i, i < vz P → vb P i < 256) ∧ Eok (vE P) ∧ BookOk (vL P) (tN (vT P))
/-- which of two each turning reference names -/
def PC (w : Wd) : Prop := w.2.2 0 0 8 < 2 ∧ w.2.2 2 0 0 < 2 ∧ w.2.2 0 0 8 ≠ w.2.2 2 0 0 ∧ w.2.2 0 0 9 < 2 ∧ w.2.2 2 0 1 < 2 ∧ w.2.2 0 0 9 ≠ w.2.2 2 0 1 ∧ w.2.2 0 0 10 < 2 ∧ w.2.2 0 0 11 < 2 ∧ w.2.2 0 0 10 ≠ w.2.2 0 0 11
/-- of the class -/
def IC1 (P : Pv) (w : Wd) : Prop := StC w (vT P) (vE P) ∧ PC w ∧ LifeC w 0 (vσ P) (vB P) (tN (vT P)) ∧ w.1 0 0 12 = nI (vI P).length ∧ (∀ (i : Nat) (x : Sg × List Sg), (vI P)[i]? = some x → LifeC w (1 + i) x.1 x.2 (tN (vT P))) ∧ BookC w (w.2.2 0 0 10) (vL P)
def IC0 (P : Pv) (w : Wd) : Prop := IC1 P w ∧ w.1 1 0 0 = nI (vz P) ∧ (∀ i, i < vz P → w.1 10 0 i = sb8 (vb P i)) ∧ w.1 1 0 2 = vp P ∧ w.1 0 0 13 = vr P
def IC (P : Pv) (w : Wd) : Prop := IC0 P w ∧ w.1 0 0 15 = vf P ∧ w.1 0 0 16 = vt P
/-- of the reference -/
def IM0 (P : Pv) (w : Wd) : Prop := StM w (vT P) (vE P) ∧ LifeM w (vσ P) (vB P) ∧ (∀ j, Jk (w.1 69 j)) ∧ w.1 40 0 36 = nI (vI P).length ∧ (∀ (i : Nat) (x : Sg × List Sg), (vI P)[i]? = some x → KeptM w i x.1 x.2) ∧ BookM w (vL P) ∧
  w.1 40 0 1 = nI (vz P) ∧ (∀ i, i < vz P → w.1 41 0 i = nI (vb P i)) ∧ w.1 40 0 3 = vp P ∧ w.1 40 0 35 = vr P
def IM (P : Pv) (w : Wd) : Prop := IM0 P w ∧ w.1 42 0 0 = vf P ∧ w.1 42 0 1 = vt P
def Iv (w : Wd) : Prop := ∃ P : Pv, IS P ∧ IC P w ∧ IM P w
theorem vl_lt {α : Type} {xs : List α} {i : Nat} {x : α} (h : xs[i]? = some x) : i < xs.length := (List.getElem?_eq_some_iff.mp h).1
/-- the class's part stays, when nothing of it is written -/
def cK1 (w : Wd) (κ b k : Nat) : Prop := ((κ = 7 ∨ (25 ≤ κ ∧ κ ≤ 32)) ∧ b = w.2.2 2 0 0) ∨ ((κ = 8 ∨ (34 ≤ κ ∧ κ ≤ 36)) ∧ b = w.2.2 2 0 1) ∨ κ = 4 ∨ ((κ = 5 ∨ (17 ≤ κ ∧ κ ≤ 21)) ∧ b < 68) ∨ (κ = 9 ∧ b = w.2.2 0 0 10) ∨ (κ = 0 ∧ k = 12)
theorem IC1.mv {P : Pv} {w w' : Wd} {S : Nat → Nat → Nat → Prop} (h : IC1 P w) (hI : IS P) (hs : Sm S w w') (hS : ∀ κ b k, cK1 w κ b k → ¬ S κ b k) : IC1 P w' := by
  obtain ⟨⟨s1, s2, s3, s4⟩, h2, h3, h4, h5, h6⟩ := h
  have hb := hs.2.2
  have g : ∀ κ b k, cK1 w κ b k → w'.1 κ b k = w.1 κ b k := fun κ b k q => hs.1 κ b k (hS κ b k q)
  refine ⟨?_, (by unfold PC; rw [hb]; exact h2), h3.mv hs (fun k => hS 4 0 k (by unfold cK1; omega)) (fun κ b k q1 q2 q => hS κ b k (by unfold cK1; omega)), (g 0 0 12 (by unfold cK1; omega)).trans h4, fun i x hx => ?_, ?_⟩
  · unfold StC
    rw [hb]
    exact ⟨s1, s2, s3.mv hs (fun κ k q => hS κ _ k (Or.inl ⟨q, rfl⟩)), s4.mv hs (fun κ k q => hS κ _ k (Or.inr (Or.inl ⟨q, rfl⟩)))⟩
  · have hi := vl_lt hx
    have h3' := hI.2.2.2.1
    exact (h5 i x hx).mv hs (fun k => hS 4 _ k (by unfold cK1; omega)) (fun κ b k q1 q2 q => hS κ b k (by unfold cK1; omega))
  · rw [hb]
    exact ⟨(g 9 _ 0 (by unfold cK1; omega)).trans h6.1, (g 9 _ 1 (by unfold cK1; omega)).trans h6.2⟩
def cKeep (κ b k : Nat) : Prop := κ = 7 ∨ (25 ≤ κ ∧ κ ≤ 32) ∨ κ = 8 ∨ (34 ≤ κ ∧ κ ≤ 36) ∨ κ = 4 ∨ ((κ = 5 ∨ (17 ≤ κ ∧ κ ≤ 21)) ∧ b < 68) ∨ κ = 9 ∨ (κ = 1 ∧ (k = 0 ∨ k = 2)) ∨ κ = 10 ∨ (κ = 0 ∧ (k = 12 ∨ k = 13))
theorem IC0.mv {P : Pv} {w w' : Wd} {S : Nat → Nat → Nat → Prop} (h : IC0 P w) (hI : IS P) (hs : Sm S w w') (hS : ∀ κ b k, cKeep κ b k → ¬ S κ b k) : IC0 P w' := by
  obtain ⟨h1, h7, h8, h9, h10⟩ := h
  have g : ∀ κ b k, cKeep κ b k → w'.1 κ b k = w.1 κ b k := fun κ b k q => hs.1 κ b k (hS κ b k q)
  exact ⟨h1.mv hI hs (fun κ b k q => hS κ b k (by unfold cK1 at q; unfold cKeep; omega)), (g 1 0 0 (by unfold cKeep; omega)).trans h7, fun i hi => (g 10 0 i (by unfold cKeep; omega)).trans (h8 i hi), (g 1 0 2 (by unfold cKeep; omega)).trans h9, (g 0 0 13 (by unfold cKeep; omega)).trans h10⟩
theorem IC.gc {P : Pv} {w w' : Wd} (h : IC P w) (hI : IS P) (hs : Sm GC w w') : IC P w' :=
  ⟨h.1.mv hI hs (fun κ b k q => by unfold cKeep at q; unfold GC; omega), (hs.1 0 0 15 (by unfold GC; omega)).trans h.2.1, (hs.1 0 0 16 (by unfold GC; omega)).trans h.2.2⟩
theorem IC.far {P : Pv} {w w' : Wd} {S : Nat → Nat → Nat → Prop} (h : IC P w) (hI : IS P) (hs : Sm S w w') (hS : ∀ κ b k, S κ b k → 40 ≤ κ) : IC P w' :=
  ⟨h.1.mv hI hs (fun κ b k q z => by have := hS κ b k z; unfold cKeep at q; omega), (hs.1 0 0 15 (fun z => by have := hS _ _ _ z; omega)).trans h.2.1, (hs.1 0 0 16 (fun z => by have := hS _ _ _ z; omega)).trans h.2.2⟩
def mKeep (κ b k : Nat) : Prop := κ = 44 ∨ κ = 48 ∨ κ = 52 ∨ κ = 56 ∨ κ = 58 ∨ (κ = 40 ∧ (k = 1 ∨ k = 3 ∨ k = 19 ∨ k = 33 ∨ k = 34 ∨ k = 35 ∨ k = 36)) ∨ (κ = 69 ∧ b ≠ 1) ∨ κ = 72 ∨ κ = 62 ∨ κ = 41
theorem IM0.mv {P : Pv} {w w' : Wd} {S : Nat → Nat → Nat → Prop} (h : IM0 P w) (hs : Sm S w w') (hS : ∀ κ b k, mKeep κ b k → ¬ S κ b k) (hj : Jk (w'.1 69 1)) : IM0 P w' := by
  obtain ⟨h1, h2, h3, h4, h5, h6, h7, h8, h9, h10⟩ := h
  have g : ∀ κ b k, mKeep κ b k → w'.1 κ b k = w.1 κ b k := fun κ b k q => hs.1 κ b k (hS κ b k q)
  have g69 : ∀ j, j ≠ 1 → w'.1 69 j = w.1 69 j := fun j hj => funext fun q => g 69 j q (by unfold mKeep; omega)
  refine ⟨h1.mv hs (fun κ b k q => hS κ b k (by unfold mKeep; omega)) (hS 40 0 19 (by unfold mKeep; omega)), ⟨(g 40 0 34 (by unfold mKeep; omega)).trans h2.1, h2.2.1, (g69 0 (by omega)).trans h2.2.2.1, fun i τ hi => (g69 _ (by omega)).trans (h2.2.2.2 i τ hi)⟩, fun j => ?_, (g 40 0 36 (by unfold mKeep; omega)).trans h4, fun i x hx => ?_, ⟨(g 40 0 33 (by unfold mKeep; omega)).trans h6.1, h6.2.1, fun i x hx => ⟨(g 62 i 0 (by unfold mKeep; omega)).trans (h6.2.2 i x hx).1, (g 62 i 1 (by unfold mKeep; omega)).trans (h6.2.2 i x hx).2⟩⟩, (g 40 0 1 (by unfold mKeep; omega)).trans h7, fun i hi => (g 41 0 i (by unfold mKeep; omega)).trans (h8 i hi), (g 40 0 3 (by unfold mKeep; omega)).trans h9, (g 40 0 35 (by unfold mKeep; omega)).trans h10⟩
  · by_cases e : j = 1
    · rw [e]; exact hj
    · rw [g69 j e]; exact h3 j
  · obtain ⟨k1, k2, k3, k4⟩ := h5 i x hx
    exact ⟨(g 72 i 0 (by unfold mKeep; omega)).trans k1, k2, fun q hq => (g 72 i _ (by unfold mKeep; omega)).trans (k3 q hq), fun a τ ha q hq => (g 72 i _ (by unfold mKeep; omega)).trans (k4 a τ ha q hq)⟩
theorem IM.gm {P : Pv} {w w' : Wd} (h : IM P w) (hs : Sm GM w w') (hj : Jk (w'.1 69 1)) : IM P w' :=
  ⟨h.1.mv hs (fun κ b k q => by unfold mKeep at q; unfold GM; omega) hj, (hs.1 42 0 0 (by unfold GM; omega)).trans h.2.1, (hs.1 42 0 1 (by unfold GM; omega)).trans h.2.2⟩
theorem IM.near {P : Pv} {w w' : Wd} {S : Nat → Nat → Nat → Prop} (h : IM P w) (hs : Sn S w w') (hS : ∀ κ b k, S κ b k → κ < 40) : IM P w' := by
  have hs' : Sm S w (w'.1, w'.2.1, w.2.2) := ⟨hs.1, hs.2, rfl⟩
  have hn : ∀ κ b k, 40 ≤ κ → ¬ S κ b k := fun κ b k q z => by have := hS κ b k z; omega
  have hj : Jk (w'.1 69 1) := by
    rw [show w'.1 69 1 = w.1 69 1 from funext fun q => hs.1 69 1 q (hn 69 1 q (by omega))]
    exact h.1.2.2.1 1
  have hm : IM0 P (w'.1, w'.2.1, w.2.2) := h.1.mv hs' (fun κ b k q => hn κ b k (by unfold mKeep at q; omega)) hj
  exact ⟨hm, (hs.1 42 0 0 (hn _ _ _ (by omega))).trans h.2.1, (hs.1 42 0 1 (hn _ _ _ (by omega))).trans h.2.2⟩
theorem IM.out {P : Pv} {w : Wd} {v : Int64} (h : IM P w) : IM P (setL w 80 0 0 v) := h
theorem IC.out {P : Pv} {w : Wd} {v : Int64} (h : IC P w) : IC P (setL w 80 0 0 v) := h
theorem iq {P : Pv} {w : Wd} (hS : IS P) (hM : IM P w) : RQ w (vT P) (vE P) (vσ P) := ⟨hS.1, hM.1.1, hS.2.2.2.2.2.2.2.1, hM.1.2.1.2.2.1, hS.2.1.1.1, hM.1.2.2.1 1⟩
theorem cq {P : Pv} {w : Wd} (hS : IS P) (hC : IC P w) : CQ w (vT P) (vE P) (vσ P) := ⟨hS.1, hC.1.1.1, hC.1.1.2.2.1.2.2.1⟩
theorem cb {P : Pv} {w : Wd} (hS : IS P) (hC : IC P w) : CB w (vT P) (vL P) := ⟨hC.1.1.2.1.2.2.2.2.2.2.1, hC.1.1.2.2.2.2.2, hS.2.2.2.2.2.2.2.2⟩
theorem ipd {P : Pv} (hS : IS P) : Pd (vT P) (vσ P) := hS.2.1.1.2.1
theorem itd {P : Pv} (hS : IS P) : Td 100000 (vT P) (vσ P) := hS.2.1.1.2.2.mono (by have := hS.2.2.1; omega)
theorem ibm {P : Pv} {w : Wd} (hM : IM P w) : BookM w (vL P) := hM.1.2.2.2.2.2.1
theorem ibo {P : Pv} (hS : IS P) : BookOk (vL P) (tN (vT P)) := hS.2.2.2.2.2.2.2.2
/-- one refusal more -/
def pT (P : Pv) : Pv := (vT P, vE P, vσ P, vB P, vI P, vL P, vb P, vz P, vp P, vr P, vf P, vt P + 1)
def pF (P : Pv) : Pv := (vT P, vE P, vσ P, vB P, vI P, vL P, vb P, vz P, vp P, vr P, vf P + 1, vt P)
theorem sm_I {w : Wd} {κ j k : Nat} {v : Int32} : Sm (fun a b c => a = κ ∧ b = j ∧ c = k) w (setI w κ j k v) := Sm.rf.set ⟨rfl, rfl, rfl⟩
theorem IC.bT {P : Pv} {w : Wd} (h : IC P w) (hI : IS P) : IC (pT P) (bumpT w) :=
  ⟨IC0.mv (P := P) h.1 hI sm_I (fun κ b k q z => by unfold cKeep at q; omega), (setI_ne (by omega)).trans h.2.1, by unfold bumpT; rw [setI_eq, h.2.2]; rfl⟩
theorem IC.bF {P : Pv} {w : Wd} (h : IC P w) (hI : IS P) : IC (pF P) (bumpF w) :=
  ⟨IC0.mv (P := P) h.1 hI sm_I (fun κ b k q z => by unfold cKeep at q; omega), by unfold bumpF; rw [setI_eq, h.2.1]; rfl, (setI_ne (by omega)).trans h.2.2⟩
theorem bpM_sm {w : Wd} {what : Int32} {rs : Nat} : Sm (fun κ b k => (κ = 40 ∧ k = 0) ∨ (κ = 42 ∧ b = 0 ∧ k = rs)) w (bpM (cl0 w) what rs) :=
  ((Sm.rf.set (Or.inl ⟨rfl, rfl⟩)).set (Or.inl ⟨rfl, rfl⟩)).set (Or.inr ⟨rfl, rfl, rfl⟩)
theorem bpM_0 {w : Wd} {what : Int32} {rs : Nat} : (bpM (cl0 w) what rs).1 40 0 0 = what := by
  unfold bpM
  rw [setI_ne (by omega), setI_eq]
theorem bpM_r {w : Wd} {what : Int32} {rs : Nat} : (bpM (cl0 w) what rs).1 42 0 rs = w.1 42 0 rs + 1 := by
  unfold bpM cl0
  rw [setI_eq, setI_ne (by omega)]
theorem IM.b0 {P : Pv} {w : Wd} {what : Int32} {rs : Nat} (h : IM P w) : IM0 P (bpM (cl0 w) what rs) := by
  refine h.1.mv bpM_sm (fun κ b k q z => by unfold mKeep at q; omega) ?_
  rw [show (bpM (cl0 w) what rs).1 69 1 = w.1 69 1 from funext fun q => bpM_sm.1 69 1 q (by omega)]
  exact h.1.2.2.1 1
theorem IM.bT {P : Pv} {w : Wd} {what : Int32} (h : IM P w) : IM (pT P) (bpM (cl0 w) what 1) :=
  ⟨h.b0, (bpM_sm.1 42 0 0 (by omega)).trans h.2.1, by rw [bpM_r, h.2.2]; rfl⟩
theorem IM.bF {P : Pv} {w : Wd} {what : Int32} (h : IM P w) : IM (pF P) (bpM (cl0 w) what 0) :=
  ⟨h.b0, by rw [bpM_r, h.2.1]; rfl, (bpM_sm.1 42 0 1 (by omega)).trans h.2.2⟩
