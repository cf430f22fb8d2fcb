/-! The book: who may have been hoarse, what to listen for; what is told. -/
abbrev Bk : Type := List (Nat × Bool)
def akB (L : Bk) (n : Nat) : Bool := L.any (fun x => x.1 == n)
def hdB (L : Bk) (n : Nat) : Bool := L.any (fun x => x.1 == n && x.2)
def BookOk (L : Bk) (N : Nat) : Prop := (∀ x, x ∈ L → x.1 < N) ∧ L.Pairwise (fun x y => x.1 ≠ y.1)
def BookC (w : Wd) (r : Nat) (L : Bk) : Prop := w.1 9 r 0 = ob (akB L) 20 ∧ w.1 9 r 1 = ob (hdB L) 20
def fitB (L : Bk) (p : Nat → Bool) : Bool := L.all (fun x => p x.1 == x.2)
theorem ak_mem {L : Bk} {n : Nat} (h : akB L n = true) : ∃ b, (n, b) ∈ L := by
  unfold akB at h
  rw [List.any_eq_true] at h
  obtain ⟨x, h1, h2⟩ := h
  exact ⟨x.2, by rw [← beq_iff_eq.mp h2]; exact h1⟩
theorem mem_ak {L : Bk} {x : Nat × Bool} (h : x ∈ L) : akB L x.1 = true := by
  unfold akB
  rw [List.any_eq_true]
  exact ⟨x, h, beq_self_eq_true _⟩
theorem hd_mem {L : Bk} {n : Nat} (h : hdB L n = true) : (n, true) ∈ L := by
  unfold hdB at h
  rw [List.any_eq_true] at h
  obtain ⟨x, h1, h2⟩ := h
  rw [Bool.and_eq_true] at h2
  have e : x = (n, true) := Prod.ext (beq_iff_eq.mp h2.1) h2.2
  rw [← e]; exact h1
theorem mem_hd {L : Bk} {n : Nat} (h : (n, true) ∈ L) : hdB L n = true := by
  unfold hdB
  rw [List.any_eq_true]
  exact ⟨_, h, by rw [beq_self_eq_true]; rfl⟩
theorem bk_one {L : Bk} (h : L.Pairwise (fun x y => x.1 ≠ y.1)) {n : Nat} {b c : Bool} (h1 : (n, b) ∈ L) (h2 : (n, c) ∈ L) : b = c := by
  induction L with
  | nil => cases h1
  | cons x L ih =>
    rw [List.pairwise_cons] at h
    rcases List.mem_cons.mp h1 with q1 | q1 <;> rcases List.mem_cons.mp h2 with q2 | q2
    · rw [← q2] at q1; exact congrArg Prod.snd q1
    · have := h.1 _ q2
      rw [← q1] at this; exact absurd rfl this
    · have := h.1 _ q1
      rw [← q2] at this; exact absurd rfl this
    · exact ih h.2 q1 q2
theorem hd_is {L : Bk} {N : Nat} (hL : BookOk L N) {n : Nat} {b : Bool} (h : (n, b) ∈ L) : hdB L n = b := by
  cases b with
  | true => exact mem_hd h
  | false =>
    cases hq : hdB L n with
    | false => rfl
    | true => exact bk_one hL.2 (hd_mem hq) h
theorem obN_tb {p : Nat → Bool} {n i : Nat} : (obN p n).testBit i = (decide (i < n) && p i) := by
  by_cases h : i < n
  · rw [Nat.testBit_eq_decide_div_mod_eq, obN_dig h, decide_eq_true h, Bool.true_and]
    cases p i <;> rfl
  · rw [decide_eq_false h, Bool.false_and]
    exact Nat.testBit_lt_two_pow (Nat.lt_of_lt_of_le (obN_lt p n) (Nat.pow_le_pow_right (by decide) (by omega)))
theorem ob_and {p q : Nat → Bool} {a b : Nat} (ha : a ≤ 31) (hb : b ≤ 31) : ob p a &&& ob q b = ob (fun n => decide (n < a) && p n && q n) b := by
  rw [ob_nI ha, ob_nI hb, ob_nI hb, fb_and]
  congr 1
  apply Nat.eq_of_testBit_eq
  intro i
  rw [Nat.testBit_and, obN_tb, obN_tb, obN_tb]
  cases decide (i < a) <;> cases decide (i < b) <;> cases p i <;> cases q i <;> rfl
theorem ob_inj {p q : Nat → Bool} {n : Nat} (hn : n ≤ 30) (h : ob p n = ob q n) : ∀ i, i < n → p i = q i := by
  have h31 : 2 ^ n ≤ 2 ^ 30 := Nat.pow_le_pow_right (by decide) hn
  have l1 := obN_lt p n
  have l2 := obN_lt q n
  rw [ob_nI (by omega), ob_nI (by omega), nI_eq (by omega) (by omega)] at h
  intro i hi
  have := congrArg (fun x => x.testBit i) h
  simp only [obN_tb, decide_eq_true hi, Bool.true_and] at this
  exact this
theorem fit_iff {L : Bk} {N : Nat} (hL : BookOk L N) (hN : N ≤ 20) (p : Nat → Bool) : (ob p N &&& ob (akB L) 20 = ob (hdB L) 20) ↔ fitB L p = true := by
  rw [ob_and (by omega) (by decide)]
  unfold fitB
  rw [List.all_eq_true]
  constructor
  · intro h x hx
    have h1 := ob_inj (by decide) h x.1 (by have := hL.1 x hx; omega)
    simp only [decide_eq_true (hL.1 x hx), mem_ak hx, Bool.true_and, Bool.and_true] at h1
    rw [h1, hd_is hL (b := x.2) hx]
    exact beq_self_eq_true _
  · intro h
    refine ob_congr (fun n hn => ?_)
    cases ha : akB L n with
    | false =>
      rw [Bool.and_false]
      cases hh : hdB L n with
      | false => rfl
      | true =>
        have := mem_ak (hd_mem hh)
        rw [ha] at this
        cases this
    | true =>
      obtain ⟨b, hb⟩ := ak_mem ha
      have h2 := beq_iff_eq.mp (h _ hb)
      rw [hd_is hL hb, decide_eq_true (hL.1 _ hb), Bool.true_and, Bool.and_true]
      exact h2
theorem cn1_ins {p : Nat → Bool} {a M : Nat} (ha : a < M) (hp : p a = false) : cn1 (fun n => a == n || p n) M = cn1 p M + 1 := by
  have key : ∀ m, cn1 (fun n => a == n || p n) m = cn1 p m + if a < m then 1 else 0 := by
    intro m
    induction m with
    | zero => rfl
    | succ m ih =>
      rw [cn1, cn1, ih]
      by_cases hq : a = m
      · subst hq
        rw [hp, beq_self_eq_true, Bool.true_or, if_pos rfl, if_neg (Nat.lt_irrefl _), if_neg (by decide), if_pos (by omega)]
      · rw [beq_eq_false_iff_ne.mpr hq, Bool.false_or]
        by_cases hlt : a < m
        · rw [if_pos hlt, if_pos (show a < m + 1 by omega)]
          split <;> omega
        · rw [if_neg hlt, if_neg (show ¬ a < m + 1 by omega)]
          rfl
  rw [key M, if_pos ha]
theorem cn1_len {L : Bk} {N : Nat} (hL : BookOk L N) (hN : N ≤ 20) : cn1 (akB L) 20 = L.length := by
  have key : ∀ L : Bk, (∀ x, x ∈ L → x.1 < 20) → L.Pairwise (fun x y => x.1 ≠ y.1) → cn1 (akB L) 20 = L.length := by
    intro L
    induction L with
    | nil => intro _ _; decide
    | cons x L ih =>
      intro h1 h2
      rw [List.pairwise_cons] at h2
      have ih := ih (fun y hy => h1 y (List.mem_cons_of_mem _ hy)) h2.2
      have e : akB (x :: L) = fun n => x.1 == n || akB L n := rfl
      have hx : akB L x.1 = false := by
        cases hq : akB L x.1 with
        | false => rfl
        | true =>
          obtain ⟨b, hb⟩ := ak_mem hq
          exact absurd rfl (h2.1 (x.1, b) hb)
      rw [e, cn1_ins (h1 x List.mem_cons_self) hx, ih, List.length_cons]
  exact key L (fun x hx => Nat.lt_of_lt_of_le (hL.1 x hx) hN) hL.2
theorem sh_ar0 : ∀ n, n < 31 → ((nI n &&& 31).toBitVec.smod 32).toNat = n := by decide +kernel
theorem sh_ar {x n : Nat} (hx : x < 2 ^ 31) (hn : n < 31) : nI x >>> (nI n &&& 31) = nI (x / 2 ^ n) := by
  apply Int32.toBitVec_inj.mp
  rw [Int32.toBitVec_shiftRight]
  show BitVec.sshiftRight (BitVec.ofNat 32 x) ((nI n &&& 31).toBitVec.smod 32).toNat = BitVec.ofNat 32 (x / 2 ^ n)
  rw [sh_ar0 n hn]
  have hm : (BitVec.ofNat 32 x).msb = false := by
    rw [BitVec.msb_eq_decide, BitVec.toNat_ofNat, Nat.mod_eq_of_lt (by omega)]
    exact decide_eq_false (by omega)
  rw [BitVec.sshiftRight_eq_of_msb_false hm]
  apply BitVec.eq_of_toNat_eq
  have h2 : x / 2 ^ n ≤ x := Nat.div_le_self _ _
  rw [BitVec.toNat_ushiftRight, BitVec.toNat_ofNat, BitVec.toNat_ofNat, Nat.mod_eq_of_lt (by omega), Nat.mod_eq_of_lt (by omega), Nat.shiftRight_eq_div_pow]
theorem bit_at {x n : Nat} (hx : x < 2 ^ 31) (hn : n < 31) : (nI x >>> (nI n &&& 31)) &&& 1 = nI (x / 2 ^ n % 2) := by
  rw [sh_ar hx hn]
  have e : nI (x / 2 ^ n) &&& 1 = nI (x / 2 ^ n &&& 1) := fb_and _ 1
  rw [e, Nat.and_one_is_mod]
theorem bit_ob {p : Nat → Bool} {a n : Nat} (ha : a ≤ 30) (hn : n < 31) : (ob p a >>> (nI n &&& 31)) &&& 1 = bI (decide (n < a) && p n) := by
  have h31 : 2 ^ a ≤ 2 ^ 30 := Nat.pow_le_pow_right (by decide) ha
  have l1 := obN_lt p a
  rw [ob_nI (by omega), bit_at (by omega) hn]
  have e := obN_tb (p := p) (n := a) (i := n)
  rw [Nat.testBit_eq_decide_div_mod_eq] at e
  rw [← e]
  rcases bit01 (obN p a) n with q | q
  · rw [q]; rfl
  · rw [q]; rfl
/-- set m may have been hoarse -/
def fitM (T : Tx) (E : Ex) (σ : Sg) (L : Bk) (m : Nat) : Bool := fitB L (hp T E (hwS T σ m))
def whB (T : Tx) (E : Ex) (σ : Sg) (L : Bk) : Nat → Option Nat
  | 0 => none
  | m + 1 => if fitM T E σ L m && fwr m (whB T E σ L m) then some m else whB T E σ L m
theorem whB_lt {T : Tx} {E : Ex} {σ : Sg} {L : Bk} {n b : Nat} (h : whB T E σ L n = some b) : b < n := by
  induction n with
  | zero => cases h
  | succ n ih =>
    rw [whB] at h
    split at h
    · cases h; omega
    · have := ih h
      omega
theorem cn1_n (p : Nat → Bool) (n : Nat) : cn1 p n ≤ n := by
  induction n with
  | zero => exact Nat.le_refl _
  | succ n ih => rw [cn1]; split <;> omega
theorem cn1_and (p q : Nat → Bool) (n : Nat) : cn1 (fun m => p m && q m) n ≤ cn1 p n := by
  induction n with
  | zero => exact Nat.le_refl _
  | succ n ih =>
    rw [cn1, cn1]
    cases p n <;> cases q n <;> simp <;> omega
def tlN (T : Tx) (E : Ex) (σ : Sg) (L : Bk) (n m : Nat) : Nat := cn1 (fun m => fitM T E σ L m && (decide (n < tN T) && hp T E (hwS T σ m) n)) m
/-- how many may stay, at worst -/
def stN (T : Tx) (E : Ex) (σ : Sg) (L : Bk) (n : Nat) : Nat := max (tlN T E σ L n (2 ^ tS T)) (cn1 (fitM T E σ L) (2 ^ tS T) - tlN T E σ L n (2 ^ tS T))
def liF (T : Tx) (E : Ex) (σ : Sg) (L : Bk) : Nat → Option Nat × Int32
  | 0 => (none, -1)
  | n + 1 => if !akB L n && ((liF T E σ L n).1.isNone || decide (nI (stN T E σ L n) < (liF T E σ L n).2)) then (some n, nI (stN T E σ L n)) else liF T E σ L n
def CB (w : Wd) (T : Tx) (L : Bk) : Prop := w.2.2 0 0 10 < 2 ∧ BookC w (w.2.2 0 0 10) L ∧ BookOk L (tN T)
theorem CB.mv {w w' : Wd} {T : Tx} {L : Bk} (h : CB w T L) (hs : Sm GC w w') : CB w' T L := by
  obtain ⟨h1, h2, h3⟩ := h
  unfold CB
  rw [hs.2.2]
  exact ⟨h1, ⟨(hs.1 9 _ 0 (by unfold GC; omega)).trans h2.1, (hs.1 9 _ 1 (by unfold GC; omega)).trans h2.2⟩, h3⟩
def tdF (T : Tx) (σ : Sg) (L : Bk) (rf o : Int32) : Int32 :=
  if o = 0 then nI (tS T) else if o = 1 then nI (tN T) else if o = 2 then nI (tL T) else if o = 3 then σ 56 else if o = 4 then hbF σ (tS T) else if o = 5 then σ 55
  else if o = 6 then sm (fun s => σ (14 + s)) (tS T) else if o = 7 then sm (fun s => σ (21 + s)) (tS T) else if o = 8 then sm σ (tS T) else if o = 9 then nI L.length else if o = 10 then rf
  else ob (fun n => !(σ (35 + n) == nv T n)) (tN T)
section QH
variable {l : Launch} {G : Gx} {w : Wd} {T : Tx} {E : Ex} {σ : Sg} {L : Bk}
theorem c_fits (hl : l.stackTraces = false) {r : Nat} {N : Nat} {p : Nat → Bool} (hr : r < 2) (hB : BookC w r L) (hL : BookOk L N) (hN : N ≤ 20) : C_X1_fits l G w [.ref (G.2.1 9 r), .int (ob p N)] (fun r w' => r = some (.int (bI (fitB L p))) ∧ w' = w) noX := by
  refine e_X1_fits hr hl (fun M kk hM hk F => ?_)
  rw [hB.1, hB.2, fit_iff hL hN]
  refine ⟨fun h => ⟨?_, rfl⟩, fun h => ⟨?_, rfl⟩⟩
  · rw [Bool.eq_false_iff.mpr h]; rfl
  · rw [Classical.not_not.mp h]; rfl
theorem c_who (hl : l.stackTraces = false) {v : Int32} (h : CQ w T E σ) (hpd : Pd T σ) (hb : CB w T L) : C_X9_who l G w [.ref (G.2.1 0 0), .int v] (KC w (okB v 0 1) (if v = 0 then nI (cn1 (fitM T E σ L) (2 ^ tS T)) else oI (whB T E σ L (2 ^ tS T)))) (XT w (okB v 0 1)) := by
  have hS := h.1.1
  have hN := h.1.2.1
  have h128 := p2_7 hS
  refine e_X9_who hl (fun M kk hM hk F => ?_)
  subst hM
  refine con_i (c_within hl) (con_dem hl (fun h1 => ?_) (fun h1 => ⟨h1, rfl, rfl⟩))
  rw [h.2.1.2.2.1.1, (hz_are (tS T) (by omega)).2]
  refine up_to (P := fun m => ∀ w', Sm GC w w' → Z M G 1 _ _ w' 31 [some (.ref (G.2.1 0 0)), some (.int v), some (.int (nI (cn1 (fitM T E σ L) m))), some (.int (oI (whB T E σ L m))), some (.int (nI (2 ^ tS T))), some (.int (nI m))] []) (2 ^ tS T) (fun m hm ih w' hs => ?_) (fun w' hs => ?_) w Sm.rf
  · have q := h.mv hs
    refine b_X9_who_31 F hk ⟨fun hc => absurd hc (nI_ge hm (by omega)), fun _ => con_iP (c_heardWithout hl q hpd hm) (fun w2 h2 => ?_)⟩
    have hs2 := hs.tr (h2.mono GJ_GC)
    have b1 := hb.mv hs
    have b2 := hb.mv hs2
    rw [hym_ob, ← h2.2.2]
    refine con_i (c_fits hl b2.1 b2.2.1 b2.2.2 hN) ?_
    have ih := ih w2 hs2
    have e1 : cn1 (fitM T E σ L) (m + 1) = if fitM T E σ L m then cn1 (fitM T E σ L) m + 1 else cn1 (fitM T E σ L) m := rfl
    have e2 : whB T E σ L (m + 1) = if fitM T E σ L m && fwr m (whB T E σ L m) then some m else whB T E σ L m := rfl
    rw [e1, e2] at ih
    rw [← nI_succ, ← nI_succ]
    refine ⟨fun h3 => ?_, fun h3 => ?_⟩
    · have h4 : fitM T E σ L m = true := bI_not.mp h3
      rw [h4, if_pos rfl, Bool.true_and] at ih
      cases hw : whB T E σ L m with
      | none =>
        rw [hw] at ih
        exact ⟨fun _ => ih, fun hc => absurd rfl hc⟩
      | some c =>
        have hc := whB_lt hw
        rw [hw] at ih
        refine ⟨fun hq => absurd hq (nI_neg1 (show c < 2 ^ 31 by omega)), fun _ => con_i (c_bitCount hl) (con_i (c_bitCount hl) ?_)⟩
        rw [bc_7 (show m < 128 by omega), show bc (oI (some c)) = nI (popN c 7) from bc_7 (by omega)]
        have l1 := popN_le m 7
        have l2 := popN_le c 7
        have ef : fwr m (some c) = decide (popN m 7 < popN c 7) := rfl
        rw [ef] at ih
        refine ⟨fun hle => ?_, fun hle => ?_⟩
        · rw [nI_leI (by omega) (by omega)] at hle
          rw [decide_eq_false (by omega)] at ih
          exact ih
        · rw [nI_leI (by omega) (by omega)] at hle
          rw [decide_eq_true (by omega)] at ih
          exact ih
    · have h4 : fitM T E σ L m = false := bI_0 (Classical.not_not.mp h3)
      rw [h4] at ih
      exact ih
  · refine b_X9_who_31 F hk ⟨fun _ => ⟨fun h3 => ⟨h1, ?_, hs⟩, fun h3 => ⟨h1, ?_, hs⟩⟩, fun hc => absurd (nI_le (Nat.le_refl _) (by omega)) hc⟩
    · rw [if_neg h3]
    · rw [if_pos (Classical.not_not.mp h3)]
theorem c_tallyHeard (hl : l.stackTraces = false) (h : CQ w T E σ) (hpd : Pd T σ) (hb : CB w T L) : C_X9_tallyHeard l G w [.ref (G.2.1 0 0)] (fun r w' => r = some (.int (nI (cn1 (fitM T E σ L) (2 ^ tS T)))) ∧ (∀ n, n < 20 → w'.1 24 0 n = nI (tlN T E σ L n (2 ^ tS T))) ∧ Sm GC w w') noX := by
  have hS := h.1.1
  have hN := h.1.2.1
  have h128 := p2_7 hS
  refine e_X9_tallyHeard hl (fun M kk hM hk F => ?_)
  subst hM
  generalize hK : (fun r w' => r = some (Value.int (nI (cn1 (fitM T E σ L) (2 ^ tS T)))) ∧ (∀ n, n < 20 → w'.1 24 0 n = nI (tlN T E σ L n (2 ^ tS T))) ∧ Sm GC w w' : Option Value → Wd → Prop) = K
  have f38 : ∀ m, m ≤ 2 ^ tS T → ∀ w', Sm GC w w' → (∀ n, n < 20 → w'.1 24 0 n = nI (tlN T E σ L n m)) → Z M G 0 K noX w' 38 [some (.ref (G.2.1 0 0)), some (.int (nI (cn1 (fitM T E σ L) m))), some (.int (nI (2 ^ tS T))), some (.int (nI m)), none, none] [] := by
    intro m hm
    refine up_from (P := fun m => ∀ w', Sm GC w w' → (∀ n, n < 20 → w'.1 24 0 n = nI (tlN T E σ L n m)) → Z M G 0 K noX w' 38 [some (.ref (G.2.1 0 0)), some (.int (nI (cn1 (fitM T E σ L) m))), some (.int (nI (2 ^ tS T))), some (.int (nI m)), none, none] []) m (2 ^ tS T) hm (fun m _ hm ih w' hs ht => ?_) (fun w' hs ht => ?_)
    · have q := h.mv hs
      refine b_X9_tallyHeard_38 F hk ⟨fun hc => absurd hc (nI_ge hm (by omega)), fun _ => con_iP (c_heardWithout hl q hpd hm) (fun w2 h2 => ?_)⟩
      have hs2 := hs.tr (h2.mono GJ_GC)
      have b2 := hb.mv hs2
      rw [hym_ob]
      refine con_i (c_fits hl b2.1 b2.2.1 b2.2.2 hN) ?_
      have e1 : cn1 (fitM T E σ L) (m + 1) = if fitM T E σ L m then cn1 (fitM T E σ L) m + 1 else cn1 (fitM T E σ L) m := rfl
      have e2 : ∀ n, tlN T E σ L n (m + 1) = if fitM T E σ L m && (decide (n < tN T) && hp T E (hwS T σ m) n) then tlN T E σ L n m + 1 else tlN T E σ L n m := fun _ => rfl
      have ht2 : ∀ n, n < 20 → w2.1 24 0 n = nI (tlN T E σ L n m) := fun n hn => (h2.1 24 0 n (by unfold GJ; omega)).trans (ht n hn)
      rw [← nI_succ, ← nI_succ]
      refine ⟨fun h3 => ?_, fun h3 => ?_⟩
      · have h4 : fitM T E σ L m = true := bI_not.mp h3
        rw [e1, h4, if_pos rfl] at ih
        refine up_to (P := fun i => ∀ w3, Sm GC w w3 → (∀ n, n < i → w3.1 24 0 n = nI (tlN T E σ L n (m + 1))) → (∀ n, i ≤ n → n < 20 → w3.1 24 0 n = nI (tlN T E σ L n m)) → Z M G 0 K noX w3 71 [some (.ref (G.2.1 0 0)), some (.int (nI (cn1 (fitM T E σ L) m + 1))), some (.int (nI (2 ^ tS T))), some (.int (nI m)), some (.int (ob (hp T E (hwS T σ m)) (tN T))), some (.int (nI i))] []) 20 (fun i hi ih2 w3 hs3 ha hb3 => ?_) (fun w3 hs3 ha hb3 => ?_) w2 hs2 (fun n hn => absurd hn (Nat.not_lt_zero _)) (fun n _ hn => ht2 n hn)
        · have hii : vp_in (nI i) 20 := vp_in_nI hi (by decide)
          refine b_X9_tallyHeard_71 F hk ⟨fun hc => absurd hc (nI_ge hi (by decide)), fun _ => ⟨hii, hii, fun w4 hw4 => ?_⟩⟩
          rw [nI_clamp (by omega), bit_ob (by omega) (by omega), hb3 i (Nat.le_refl _) hi] at hw4
          rw [← nI_succ]
          refine ih2 w4 (by rw [hw4]; exact hs3.set (by unfold GC; omega)) (fun n hn => ?_) (fun n h5 h6 => ?_)
          · by_cases hq : n = i
            · subst hq
              rw [hw4, setI_eq, e2, h4, Bool.true_and]
              cases (decide (n < tN T) && hp T E (hwS T σ m) n)
              · exact Int32.add_zero _
              · exact nI_add _ 1
            · rw [hw4, setI_ne (by omega)]
              exact ha n (by omega)
          · rw [hw4, setI_ne (by omega)]
            exact hb3 n (by omega) h6
        · refine b_X9_tallyHeard_71 F hk ⟨fun _ => ?_, fun hc => absurd (by decide) hc⟩
          rw [← nI_succ]
          exact ih w3 hs3 (fun n hn => ha n hn)
      · have h4 : fitM T E σ L m = false := bI_0 (Classical.not_not.mp h3)
        rw [e1, h4, if_neg (by decide)] at ih
        refine ih w2 hs2 (fun n hn => ?_)
        rw [e2, h4, Bool.false_and, if_neg (by decide)]
        exact ht2 n hn
    · exact b_X9_tallyHeard_38 F hk ⟨fun _ => by rw [← hK]; exact ⟨rfl, ht, hs⟩, fun hc => absurd (nI_le (Nat.le_refl _) (by omega)) hc⟩
  refine up_to (P := fun i => ∀ w', Sm GC w w' → (∀ n, n < i → w'.1 24 0 n = 0) → Z M G 0 K noX w' 2 [some (.ref (G.2.1 0 0)), some (.int (nI i)), none, none, none, none] []) 20 (fun i hi ih w' hs hz => ?_) (fun w' hs hz => ?_) w Sm.rf (fun n hn => absurd hn (Nat.not_lt_zero _))
  · refine b_X9_tallyHeard_2 F hk ⟨fun hc => absurd hc (nI_ge hi (by decide)), fun _ => ⟨vp_in_nI hi (by decide), fun w2 hw2 => ?_⟩⟩
    rw [← nI_succ]
    rw [nI_clamp (by omega)] at hw2
    refine ih w2 (by rw [hw2]; exact hs.set (by unfold GC; omega)) (fun n hn => ?_)
    by_cases hq : n = i
    · rw [hw2, hq, setI_eq]
    · rw [hw2, setI_ne (by omega)]
      exact hz n (by omega)
  · have q := h.mv hs
    refine b_X9_tallyHeard_2 F hk ⟨fun _ => ?_, fun hc => absurd (by decide) hc⟩
    rw [q.2.1.2.2.1.1, (hz_are (tS T) (by omega)).2]
    exact f38 0 (Nat.zero_le _) w' hs (fun n hn => hz n hn)
theorem c_listen (hl : l.stackTraces = false) {v : Int32} (h : CQ w T E σ) (hpd : Pd T σ) (hb : CB w T L) : C_X9_listen l G w [.ref (G.2.1 0 0), .int v] (KC w (okB v 0 1) (if v = 0 then oI (liF T E σ L (tN T)).1 else (liF T E σ L (tN T)).2)) (XT w (okB v 0 1)) := by
  have hS := h.1.1
  have hN := h.1.2.1
  have h128 := p2_7 hS
  refine e_X9_listen hl (fun M kk hM hk F => ?_)
  subst hM
  refine con_i (c_within hl) (con_dem hl (fun h1 => ?_) (fun h1 => ⟨h1, rfl, rfl⟩))
  refine con_iP (c_tallyHeard hl h hpd hb) (fun w2 h2 => ?_)
  have q := h.mv h2.2
  have b2 := hb.mv h2.2
  have hcn := cn1_n (fitM T E σ L) (2 ^ tS T)
  generalize hK : KC w (okB v 0 1) (if v = 0 then oI (liF T E σ L (tN T)).1 else (liF T E σ L (tN T)).2) = K
  generalize hX : XT w (okB v 0 1) = X
  refine up_to (P := fun i => Z M G 1 K X w2 23 [some (.ref (G.2.1 0 0)), some (.int v), some (.int (nI (cn1 (fitM T E σ L) (2 ^ tS T)))), some (.int (oI (liF T E σ L i).1)), some (.int (liF T E σ L i).2), some (.int (nI i)), none, none] []) (tN T) (fun i hi ih => ?_) ?_
  · have hii : vp_in (nI i) 20 := vp_in_nI (by omega) (by decide)
    have ht := h2.1 i (by omega)
    have hle : tlN T E σ L i (2 ^ tS T) ≤ cn1 (fitM T E σ L) (2 ^ tS T) := cn1_and _ _ _
    have er : liF T E σ L (i + 1) = if !akB L i && ((liF T E σ L i).1.isNone || decide (nI (stN T E σ L i) < (liF T E σ L i).2)) then (some i, nI (stN T E σ L i)) else liF T E σ L i := rfl
    rw [er] at ih
    have es : (if nI (tlN T E σ L i (2 ^ tS T)) < nI (cn1 (fitM T E σ L) (2 ^ tS T)) - nI (tlN T E σ L i (2 ^ tS T)) then nI (cn1 (fitM T E σ L) (2 ^ tS T)) - nI (tlN T E σ L i (2 ^ tS T)) else nI (tlN T E σ L i (2 ^ tS T))) = nI (stN T E σ L i) := by
      rw [fb_sub hle]
      unfold stN
      by_cases hlt : tlN T E σ L i (2 ^ tS T) < cn1 (fitM T E σ L) (2 ^ tS T) - tlN T E σ L i (2 ^ tS T)
      · rw [if_pos (nI_lt hlt (by omega)), Nat.max_eq_right (by omega)]
      · rw [if_neg (nI_nlt (by omega) (by omega)), Nat.max_eq_left (by omega)]
    have f79 : ∀ b : Bool, akB L i = !b → Z M G 1 K X w2 79 [some (.ref (G.2.1 0 0)), some (.int v), some (.int (nI (cn1 (fitM T E σ L) (2 ^ tS T)))), some (.int (oI (liF T E σ L i).1)), some (.int (liF T E σ L i).2), some (.int (nI i)), some (.int (nI (stN T E σ L i))), none] [.int (bI b)] := by
      intro b hb3
      rw [hb3, Bool.not_not] at ih
      refine b_X9_listen_79 F hk ?_
      rw [← nI_succ]
      refine ⟨fun h3 => ?_, fun h3 => ?_⟩
      · rw [bI_0 h3] at ih
        exact ih
      · rw [bI_not.mp h3, Bool.true_and] at ih
        cases hq : (liF T E σ L i).1 with
        | none =>
          rw [hq] at ih
          exact ⟨fun _ => ih, fun hc => absurd rfl hc⟩
        | some c =>
          have hc31 : ¬ oI (some c) = -1 := by
            have : ∀ n c, (liF T E σ L n).1 = some c → c < n := by
              intro n
              induction n with
              | zero => intro c hc; cases hc
              | succ n ihn =>
                intro c hc
                have er2 : liF T E σ L (n + 1) = if !akB L n && ((liF T E σ L n).1.isNone || decide (nI (stN T E σ L n) < (liF T E σ L n).2)) then (some n, nI (stN T E σ L n)) else liF T E σ L n := rfl
                rw [er2] at hc
                split at hc
                · cases hc; omega
                · have := ihn c hc
                  omega
            have := this i c hq
            exact nI_neg1 (by omega)
          refine ⟨fun hz => absurd hz hc31, fun _ => ?_⟩
          have en : (some c : Option Nat).isNone = false := rfl
          rw [hq, en, Bool.false_or] at ih
          refine ⟨fun hle2 => ?_, fun hle2 => ?_⟩
          · rw [decide_eq_false (Int32.not_lt.mpr hle2), if_neg (by decide), hq] at ih
            exact ih
          · rw [decide_eq_true (Int32.not_le.mp hle2), if_pos rfl] at ih
            exact ih
    refine b_X9_listen_23 F hk ⟨fun hc => ?_, fun _ => ⟨hii, hii, ?_⟩⟩
    · rw [q.2.1.2.2.1.2.1] at hc
      exact absurd hc (nI_ge hi (by omega))
    · rw [b2.2.1.1, bit_ob (by decide) (by omega), nI_clamp (by omega), ht, es, decide_eq_true (show i < 20 by omega), Bool.true_and]
      refine ⟨fun h3 => f79 false (bI_not.mp h3), fun h3 => f79 true (bI_0 (Classical.not_not.mp h3))⟩
  · refine b_X9_listen_23 F hk ⟨fun _ => ⟨fun h3 => ?_, fun h3 => ?_⟩, fun hc => ?_⟩
    · rw [← hK]
      exact ⟨h1, by rw [if_neg h3], h2.2⟩
    · rw [← hK]
      exact ⟨h1, by rw [if_pos (Classical.not_not.mp h3)], h2.2⟩
    · rw [q.2.1.2.2.1.2.1] at hc
      exact absurd (nI_le (Nat.le_refl _) (by omega)) hc
theorem c_told (hl : l.stackTraces = false) {o : Int32} (h : CQ w T E σ) (hpd : Pd T σ) (hb : CB w T L) : C_X9_told l G w [.ref (G.2.1 0 0), .int o] (KC w (okB o 0 11) (tdF T σ L (w.1 0 0 13) o)) (XT w (okB o 0 11)) := by
  have hS := h.1.1
  have hN := h.1.2.1
  have hR := h.2.1.2.2.1
  refine e_X9_told hl (fun M kk hM hk F => ?_)
  subst hM
  refine con_i (c_within hl) (con_dem hl (fun h1 => ?_) (fun h1 => ⟨h1, rfl, rfl⟩))
  have t7 : ∀ κ, κ = 17 ∨ κ = 18 ∨ κ = 19 → ka κ = some (0, 7) := by
    rintro κ (rfl | rfl | rfl) <;> rfl
  refine ⟨fun q => ⟨h1, ?_, Sm.rf⟩, fun q => ⟨h1, ?_, Sm.rf⟩, fun q => ⟨h1, ?_, Sm.rf⟩, fun q => ⟨h1, ?_, Sm.rf⟩, fun q => ⟨h1, ?_, Sm.rf⟩, fun q => ⟨h1, ?_, Sm.rf⟩, fun q => con_i (c_total hl (m := 7) rfl (by decide) (by decide)) ⟨h1, ?_, Sm.rf⟩, fun q => con_i (c_total hl (m := 7) rfl (by decide) (by decide)) ⟨h1, ?_, Sm.rf⟩, fun q => con_i (c_total hl (m := 7) rfl (by decide) (by decide)) ⟨h1, ?_, Sm.rf⟩, fun q => con_i (c_bitCount hl) ⟨h1, ?_, Sm.rf⟩, fun q => ⟨h1, ?_, Sm.rf⟩, fun q => con_i (c_wordedAnew hl h) ⟨h1, ?_, Sm.rf⟩⟩
  · rw [hR.1, q]; rfl
  · rw [hR.2.1, q]; rfl
  · rw [hR.2.2.1, q]; rfl
  · rw [h.2.2.1, q]; rfl
  · rw [hb_mask h.1 hpd h.2.2, q]; rfl
  · rw [h.2.2.2.1, q]; rfl
  · rw [sm_congr (fun s hs => (h.2.2.2.2.1 s hs).2.1), hpd.sm14 h.1, q]; rfl
  · rw [sm_congr (fun s hs => (h.2.2.2.2.1 s hs).2.2.1), hpd.sm21 h.1, q]; rfl
  · rw [sm_congr (fun s hs => (h.2.2.2.2.1 s hs).1), hpd.sm0 h.1, q]; rfl
  · rw [hb.2.1.1, bc_ob (by decide), cn1_len hb.2.2 hN, q]; rfl
  · rw [q]; rfl
  · obtain ⟨q0, q1, q2, q3, q4, q5, q6, q7, q8, q9, q10⟩ := q
    unfold tdF
    rw [if_neg q0, if_neg q1, if_neg q2, if_neg q3, if_neg q4, if_neg q5, if_neg q6, if_neg q7, if_neg q8, if_neg q9, if_neg q10]
theorem c_status (hl : l.stackTraces = false) {v : Int32} : C_X9_status l G w [.ref (G.2.1 0 0), .int v] (fun r w' => r = some (.int (if v = 0 then w.1 0 0 15 else if v = 1 then w.1 0 0 16 else -1)) ∧ w' = w) noX := by
  refine e_X9_status hl (fun M kk hM hk F => ⟨fun h => ⟨fun h2 => ⟨?_, rfl⟩, fun h2 => ⟨?_, rfl⟩⟩, fun h => ⟨?_, rfl⟩⟩)
  · rw [if_neg h, if_neg h2]
  · rw [if_neg h, if_pos (Classical.not_not.mp h2)]
  · rw [if_pos (Classical.not_not.mp h)]
theorem c_count (hl : l.stackTraces = false) {v : Int32} : C_X9_count l G w [.ref (G.2.1 0 0), .int v] (fun r w' => r = some (.int (if v = 0 then w.1 0 0 12 else if v = 1 then w.1 1 0 0 else if v = 2 then w.1 4 0 0 else -1)) ∧ w' = w) noX := by
  refine e_X9_count hl (fun M kk hM hk F => ⟨fun h => ⟨?_, rfl⟩, fun h => ⟨?_, rfl⟩, fun h => ⟨?_, rfl⟩, fun h => ⟨?_, rfl⟩⟩)
  · rw [if_pos h]
  · rw [h]; rfl
  · rw [h]; rfl
  · rw [if_neg h.1, if_neg h.2.1, if_neg h.2.2]
theorem c_fault (hl : l.stackTraces = false) : C_X9_fault l G w [.ref (G.2.1 0 0)] (fun r w' => r = some (.int (w.1 1 0 2)) ∧ w' = w) noX :=
  e_X9_fault hl (fun M kk hM hk F => ⟨rfl, rfl⟩)
end QH
