/-! The reference reads a work. -/
theorem ok_w12 : okL (wT 12) 19 9 14 7 0 0 := by unfold okL; decide +kernel
theorem ok_w13 : okL (wT 13) 8 25 13 14 0 0 := by unfold okL; decide +kernel
theorem ok_w14 : okL (wT 14) 8 15 1 18 19 5 := by unfold okL; decide +kernel
theorem ok_w15 : okL (wT 15) 3 21 18 5 0 0 := by unfold okL; decide +kernel
theorem ok_w16 : okL (wT 16) 23 15 18 4 0 0 := by unfold okL; decide +kernel
theorem ok_w17 : okL (wT 17) 1 7 1 9 14 0 := by unfold okL; decide +kernel
def segM (w : Wd) (c : Nat) (L : List En) : Prop := ∀ i e, L[i]? = some e → w.1 68 (c + i) 0 = nI e.1 ∧ (e.1 = 0 ∨ e.1 = 3 ∨ e.1 = 4 ∨ e.1 = 5 ∨ e.1 = 7 → w.1 68 (c + i) 1 = nI e.2.1) ∧ (e.1 = 5 → w.1 68 (c + i) 2 = nI e.2.2.1) ∧ w.1 68 (c + i) 3 = nI e.2.2.2
def GPm (κ _b k : Nat) : Prop := (κ = 40 ∧ (k = 4 ∨ k = 5 ∨ k = 6 ∨ k = 8 ∨ k = 28)) ∨ κ = 68
theorem GR_GPm : ∀ κ b k, GR κ b k → GPm κ b k := by
  intro κ b k h
  unfold GR at h
  unfold GPm
  omega
theorem GR4_GPm : ∀ κ b k, GR4 κ b k → GPm κ b k := fun κ b k h => GR_GPm κ b k (GR4_GR κ b k h)
theorem G8_GPm : ∀ κ b k, G8 κ b k → GPm κ b k := by
  intro κ b k h
  unfold G8 at h
  unfold GPm
  omega
theorem segM.cg {w w' : Wd} {c : Nat} {L : List En} (h : segM w c L) (e : ∀ x y, c ≤ x → x < c + L.length → w'.1 68 x y = w.1 68 x y) : segM w' c L := fun i x hi => by
  have hl := (List.getElem?_eq_some_iff.mp hi).1
  rw [e _ 0 (by omega) (by omega), e _ 1 (by omega) (by omega), e _ 2 (by omega) (by omega), e _ 3 (by omega) (by omega)]
  exact h i x hi
def WM (b : Nat → Nat) (n op : Nat) (w : Wd) (c : Nat) (R : Rd × List En) (w' : Wd) : Prop := RM w' b n R.1 ∧ (R.1.1 = 0 → w'.1 40 0 28 = nI (c + R.2.length) ∧ w'.1 40 0 8 = nI op ∧ (∀ i y, i < c → w'.1 68 i y = w.1 68 i y) ∧ segM w' c R.2) ∧ Sm GPm w w'
/-- the step's reader, with d more to open -/
def stD (b : Nat → Nat) (n : Nat) (T : Tx) : Nat → Nat → Nat → Rd × List En
  | 0 => stF b n T false (fun _ s => (s, []))
  | d + 1 => stF b n T true (wsF b n T d)
theorem wsF_D {b : Nat → Nat} {n : Nat} {T : Tx} : ∀ d, wsF b n T d = wsL b n (stD b n T d) 150
  | 0 => rfl
  | d + 1 => rfl
def MsH (l : Launch) (G : Gx) (b : Nat → Nat) (n : Nat) (T : Tx) (lev op : Nat) (P : Nat → Nat → Rd × List En) : Prop :=
  ∀ (w : Wd) (a c : Nat), RM w b n (0, a) → sk b n a = a → w.1 44 0 0 = nI (tS T) → w.1 44 0 1 = nI (tN T) → w.1 40 0 28 = nI c → 4 * c ≤ a → w.1 40 0 8 = nI op → Con l G lev 0 yX10_readsStep cX10_readsStep 3 none w [.ref (G.2.1 40 0)] (fun v w' => v = none ∧ WM b n op w c (P c a) w') noX
theorem stF_end {b : Nat → Nat} {n : Nat} {T : Tx} {room : Bool} {S : Wq} {c : Nat} : stF b n T room S c n = ((1, n), []) := by
  have e : we b n n = n := rn_n (fun z => by omega)
  have k : sdK b n (we b n n) = 8 := by
    rw [e]
    unfold sdK
    rw [isW_nn (by decide), isW_nn (by decide), isW_nn (by decide), isW_nn (by decide), isW_nn (by decide), isW_nn (by decide), isW_nn (by decide), isW_nn (by decide)]
    rfl
  unfold stF
  rw [if_pos k]
theorem stD_end {b : Nat → Nat} {n : Nat} {T : Tx} {c : Nat} : ∀ d, stD b n T d c n = ((1, n), [])
  | 0 => stF_end
  | d + 1 => stF_end
theorem stD_ok {b : Nat → Nat} {n : Nat} {T : Tx} {c a : Nat} : ∀ d, (stD b n T d c a).1.1 = 0 → a + 4 * (stD b n T d c a).2.length ≤ (stD b n T d c a).1.2 ∧ 1 ≤ (stD b n T d c a).2.length
  | 0 => fun h => by
    have := stF_ok (fun c s => ⟨fun _ => rfl, fun h => ⟨h, by show s.2 + 4 * 0 ≤ s.2; omega, SgOk.nil⟩⟩) h
    exact ⟨this.1, this.2.1⟩
  | d + 1 => fun h => by
    have := stF_ok (wsF_ok d) h
    exact ⟨this.1, this.2.1⟩
theorem wsL_pk {b : Nat → Nat} {n : Nat} {D : Nat → Nat → Rd × List En} {f c : Nat} {s : Rd} : wsL b n D (f + 1) c (pkS b n s) = wsL b n D (f + 1) c s := by
  by_cases y : s.1 ≠ 0
  · rw [pkS_x y]
  · have y1 : s.1 = 0 := Classical.not_not.mp y
    have e0 : pkS b n s = (0, sk b n s.2) := by rw [pkS, if_neg y]
    have eL : ∀ s : Rd, wsL b n D (f + 1) c s = if s.1 = 0 ∧ sk b n s.2 < n ∧ b (sk b n s.2) ≠ 93 then ((wsL b n D f (c + (D c (sk b n s.2)).2.length) (D c (sk b n s.2)).1).1, (D c (sk b n s.2)).2 ++ (wsL b n D f (c + (D c (sk b n s.2)).2.length) (D c (sk b n s.2)).1).2) else (pkS b n s, []) := fun s => rfl
    rw [eL, eL s, e0]
    show (if (0 : Nat) = 0 ∧ sk b n (sk b n s.2) < n ∧ b (sk b n (sk b n s.2)) ≠ 93 then ((wsL b n D f (c + (D c (sk b n (sk b n s.2))).2.length) (D c (sk b n (sk b n s.2))).1).1, (D c (sk b n (sk b n s.2))).2 ++ (wsL b n D f (c + (D c (sk b n (sk b n s.2))).2.length) (D c (sk b n (sk b n s.2))).1).2) else (pkS b n (0, sk b n s.2), [])) = _
    rw [sk_idem, pkS_0 (sk_idem b n _), y1]
section WB
variable {l : Launch} {G : Gx} {w : Wd} {b : Nat → Nat} {n : Nat} {T : Tx}
theorem m_stepHere (hl : l.stackTraces = false) {a : Nat} (h : RM w b n (0, a)) (ha : sk b n a = a) : C_X10_stepHere l G w [.ref (G.2.1 40 0)] (fun r w' => r = some (.int (if sdK b a (we b n a) < 8 then nI (sdK b a (we b n a)) else -1)) ∧ RM w' b n (0, a) ∧ Sm GR4 w w') noX := by
  have tt : ∀ {x : Bool}, ¬ x = false → x = true := fun {x} q => by cases x; exact absurd rfl q; rfl
  refine e_X10_stepHere hl (fun M kk hM hk F => ?_)
  subst hM
  refine con_iP (m_isWord hl ok_w12 h) (fun w2 k2 => ?_)
  rw [nxW_0 ha, bI_t]
  rw [pkS_0 ha] at k2
  refine ⟨fun c0 => ?_, fun c0 => ⟨by unfold sdK; rw [tt c0]; rfl, k2⟩⟩
  refine con_iP (m_isWord hl ok_w13 k2.1) (fun w4 k4 => ?_)
  rw [nxW_0 ha, bI_t]
  rw [pkS_0 ha] at k4
  have k4' := And.intro k4.1 (k2.2.tr k4.2)
  refine ⟨fun c1 => ?_, fun c1 => ⟨by unfold sdK; rw [c0, tt c1]; rfl, k4'⟩⟩
  refine con_iP (m_isWord hl ok_w3 k4.1) (fun w6 k6 => ?_)
  rw [nxW_0 ha, bI_t]
  rw [pkS_0 ha] at k6
  have k6' := And.intro k6.1 (k4'.2.tr k6.2)
  refine ⟨fun c2 => ?_, fun c2 => ⟨by unfold sdK; rw [c0, c1, tt c2]; rfl, k6'⟩⟩
  refine con_iP (m_isWord hl ok_w14 k6.1) (fun w8 k8 => ?_)
  rw [nxW_0 ha, bI_t]
  rw [pkS_0 ha] at k8
  have k8' := And.intro k8.1 (k6'.2.tr k8.2)
  refine ⟨fun c3 => ?_, fun c3 => ⟨by unfold sdK; rw [c0, c1, c2, tt c3]; rfl, k8'⟩⟩
  refine con_iP (m_isWord hl ok_w15 k8.1) (fun w10 k10 => ?_)
  rw [nxW_0 ha, bI_t]
  rw [pkS_0 ha] at k10
  have k10' := And.intro k10.1 (k8'.2.tr k10.2)
  refine ⟨fun c4 => ?_, fun c4 => ⟨by unfold sdK; rw [c0, c1, c2, c3, tt c4]; rfl, k10'⟩⟩
  refine con_iP (m_isWord hl ok_w16 k10.1) (fun w12 k12 => ?_)
  rw [nxW_0 ha, bI_t]
  rw [pkS_0 ha] at k12
  have k12' := And.intro k12.1 (k10'.2.tr k12.2)
  refine ⟨fun c5 => ?_, fun c5 => ⟨by unfold sdK; rw [c0, c1, c2, c3, c4, tt c5]; rfl, k12'⟩⟩
  refine con_iP (m_isWord hl ok_w11 k12.1) (fun w14 k14 => ?_)
  rw [nxW_0 ha, bI_t]
  rw [pkS_0 ha] at k14
  have k14' := And.intro k14.1 (k12'.2.tr k14.2)
  refine ⟨fun c6 => ?_, fun c6 => ⟨by unfold sdK; rw [c0, c1, c2, c3, c4, c5, tt c6]; rfl, k14'⟩⟩
  refine con_iP (m_isWord hl ok_w17 k14.1) (fun w16 k16 => ?_)
  rw [nxW_0 ha, bI_t]
  rw [pkS_0 ha] at k16
  have k16' := And.intro k16.1 (k14'.2.tr k16.2)
  exact ⟨fun c7 => ⟨by unfold sdK; rw [c0, c1, c2, c3, c4, c5, c6, c7]; rfl, k16'⟩, fun c7 => ⟨by unfold sdK; rw [c0, c1, c2, c3, c4, c5, c6, tt c7]; rfl, k16'⟩⟩
theorem RM.g28 {w w' : Wd} {st : Rd} {v : Int32} (h : RM w b n st) (hw : w' = setI w 40 0 28 v) : RM w' b n st := h.mv (S := fun κ _ k => κ = 40 ∧ k = 28) (by rw [hw]; exact Sm.rf.set ⟨rfl, rfl⟩) (fun k q z => by omega) (fun k z => by omega)
theorem m_readsStep (hl : l.stackTraces = false) {lev op : Nat} {room : Bool} {D : Nat → Nat → Rd × List En} {S : Wq} (hn150 : n ≤ 150) (hop : op ≤ 6) (hlev : 6 ≤ lev) (hT : Tok T) (hroom : room = decide (op < 6)) (hS : op < 6 → MsH l G b n T lev (op + 1) D ∧ S = wsL b n D 150) (hDe : ∀ c, D c n = ((1, n), [])) (hDo : ∀ c a, (D c a).1.1 = 0 → a + 4 * (D c a).2.length ≤ (D c a).1.2 ∧ 1 ≤ (D c a).2.length) : MsH l G b n T (lev + 1) op (stF b n T room S) := by
  intro w a c h ha h44 h441 h28 hca h8
  have han : a ≤ n := h.2.2.2.2.1.2
  have hb := h.2.1
  have hS7 := hT.1
  have hN20 := hT.2.1
  have hc80 : c < 80 := by omega
  refine e_X10_readsStep hlev hl (fun M kk hM hk F => ?_)
  generalize hK : (fun v w' => v = none ∧ WM b n op w c (stF b n T room S c a) w' : Option Value → Wd → Prop) = K
  subst hM
  refine con_iP (m_stepHere hl h ha) (fun w2 k2 => ?_)
  have he := we_ge b n a
  have hen := we_le (b := b) han
  have hk8 := sdK_le b a (we b n a)
  have hlt3 : sdK b a (we b n a) < 8 → a + 3 ≤ we b n a := fun z => (sdK_lt z).1
  have s2 : Sm GPm w w2 := k2.2.mono GR4_GPm
  have e4 : w2.1 40 0 4 = nI a := (k2.1.2.2.2.2.2.2.1 rfl).2
  have e8 : w2.1 40 0 8 = nI op := (k2.2.1 40 0 8 (by unfold GR4; omega)).trans h8
  generalize hkk : sdK b a (we b n a) = k at *
  rw [e4]
  have z7 : ∀ j : Nat, j < 8 → ((nI k = nI j) ↔ k = j) := fun j hj => nI_eq (by omega) (by omega)
  by_cases h8' : k < 8
  · rw [if_pos h8']
    have h3 := hlt3 h8'
    refine ⟨fun _ => ?_, fun q => absurd (Classical.not_not.mp q) (nI_neg1 (by omega))⟩
    -- the step itself, once its room is seen; o the number open now
    have at33 : ∀ (w3 : Wd) (o : Nat), ¬ (k = 7 ∧ room = false) → RM w3 b n (0, a) → (∀ κ x y, κ ≠ 40 → w3.1 κ x y = w.1 κ x y) → w3.1 40 0 28 = nI c → w3.1 40 0 8 = nI o → (k = 7 → o = op + 1 ∧ op < 6) → (k ≠ 7 → o = op) → Sm GPm w w3 → Z M G 0 K noX w3 33 [some (.ref (G.2.1 40 0)), some (.int (nI k)), none] [] := by
      intro w3 o hnr R3 o3 g28 g8 hk7 hkn s3
      have est : stF b n T room S c a = (sgnF b n 59 (sf3 b n T S c k (we b n a)).1, (k, (sf1 b n T k (we b n a)).2, (sf2 b n T k (we b n a)).2, c + 1 + (sf3 b n T S c k (we b n a)).2.length) :: (sf3 b n T S c k (we b n a)).2) := by
        unfold stF
        rw [hkk, if_neg (by omega), if_neg hnr]
      refine b_X10_readsStep_33 hlev F hk ?_
      rw [R3.zero]
      refine ⟨fun _ => ?_, fun z => absurd rfl z⟩
      refine con_vP (m_skipWord hl R3) (fun w4 k4 => ?_)
      have f28 : w4.1 40 0 28 = nI c := (k4.2.1 40 0 28 (by unfold GR4; omega)).trans g28
      rw [f28, nI_clamp (by omega), ← nI_succ]
      refine ⟨vp_in_nI hc80 (by decide), fun w5 hw5 w6 hw6 => ?_⟩
      have R6 : RM w6 b n (0, we b n a) := (k4.1.g28 hw5).row hw6 (by decide) (by decide)
      have s6 : Sm GPm w w6 := by rw [hw6, hw5]; exact ((s3.tr (k4.2.mono GR4_GPm)).set (by unfold GPm; omega)).set (by unfold GPm; omega)
      have o6 : ∀ κ x y, κ ≠ 40 → w6.1 κ x y = if κ = 68 ∧ x = c ∧ y = 0 then nI k else w.1 κ x y := fun κ x y hκ => by
        rw [hw6, setI_1, hw5, setI_ne (by omega), k4.2.oth40 (fun _ _ _ q => q.1) hκ, o3 κ x y hκ]
      have y28 : w6.1 40 0 28 = nI (c + 1) := by rw [hw6, setI_ne (by omega), hw5, setI_eq]
      have y8 : w6.1 40 0 8 = nI o := by rw [hw6, setI_ne (by omega), hw5, setI_ne (by omega), k4.2.1 40 0 8 (by unfold GR4; omega)]; exact g8
      have hy2 : c < cnt 68 := hc80
      -- its end
      have at207 : ∀ w7, RM w7 b n (sf3 b n T S c k (we b n a)).1 → Sm GPm w w7 → ((sf3 b n T S c k (we b n a)).1.1 = 0 → w7.1 40 0 28 = nI (c + 1 + (sf3 b n T S c k (we b n a)).2.length) ∧ w7.1 40 0 8 = nI op ∧ (∀ i y, i < c → w7.1 68 i y = w.1 68 i y) ∧ w7.1 68 c 0 = nI k ∧ (k = 0 ∨ k = 3 ∨ k = 4 ∨ k = 5 ∨ k = 7 → w7.1 68 c 1 = nI (sf1 b n T k (we b n a)).2) ∧ (k = 5 → w7.1 68 c 2 = nI (sf2 b n T k (we b n a)).2) ∧ segM w7 (c + 1) (sf3 b n T S c k (we b n a)).2) → Z M G 0 K noX w7 207 [some (.ref (G.2.1 40 0)), none, some (.ref (G.2.1 68 c))] [] := by
        intro w7 R7 s7 hok
        refine b_X10_readsStep_207 hlev hy2 F hk (fun w8 hw8 => ?_)
        have R8 := R7.row hw8 (by decide) (by decide)
        refine con_vP (m_sign hl (c := 59) (by decide) R8) (fun w9 k9 => ?_)
        rw [← hK, est]
        refine ⟨rfl, k9.1, fun z => ?_, (by rw [hw8]; exact s7.set (by unfold GPm; omega) : Sm GPm w w8).tr (k9.2.mono GR_GPm)⟩
        obtain ⟨q1, q8, q2, q3, q4, q5, q6⟩ := hok (sgnF_ok z).1
        have o9 : ∀ x y, w9.1 68 x y = if x = c ∧ y = 3 then w7.1 40 0 28 else w7.1 68 x y := fun x y => by
          rw [k9.2.oth40 GR_40 (by decide), hw8, setI_1]
          simp only [true_and]
        have elen : ((k, (sf1 b n T k (we b n a)).2, (sf2 b n T k (we b n a)).2, c + 1 + (sf3 b n T S c k (we b n a)).2.length) :: (sf3 b n T S c k (we b n a)).2).length = (sf3 b n T S c k (we b n a)).2.length + 1 := rfl
        refine ⟨?_, ?_, fun i y hi => ?_, fun i e hi => ?_⟩
        · rw [k9.2.1 40 0 28 (by unfold GR; omega), hw8, setI_ne (by omega), q1, elen]
          congr 1
          omega
        · rw [k9.2.1 40 0 8 (by unfold GR; omega), hw8, setI_ne (by omega)]
          exact q8
        · rw [o9, if_neg (by omega)]
          exact q2 i y hi
        · cases i with
          | zero =>
            cases hi
            rw [o9, o9, o9, o9, if_neg (by omega), if_neg (by omega), if_neg (by omega), if_pos ⟨rfl, rfl⟩]
            exact ⟨q3, q4, q5, q1⟩
          | succ i =>
            have hi : (sf3 b n T S c k (we b n a)).2[i]? = some e := hi
            have := q6 i e hi
            rw [show c + (i + 1) = c + 1 + i by omega, o9, o9, o9, o9, if_neg (by omega), if_neg (by omega), if_neg (by omega), if_neg (by omega)]
            exact this
      -- behind the first number (not of again)
      have at120 : ∀ w7, k ≠ 7 → RM w7 b n (sf1 b n T k (we b n a)).1 → Sm GPm w w7 → w7.1 40 0 28 = nI (c + 1) → w7.1 40 0 8 = nI op → (∀ x y, x ≠ c → w7.1 68 x y = w.1 68 x y) → w7.1 68 c 0 = nI k → (k = 0 ∨ k = 3 ∨ k = 4 ∨ k = 5 → w7.1 68 c 1 = nI (sf1 b n T k (we b n a)).2) → Z M G 0 K noX w7 120 [some (.ref (G.2.1 40 0)), some (.int (nI k)), some (.ref (G.2.1 68 c))] [] := by
        intro w7 hk7' R7 s7 p28 p8 po p0 p1
        have e3 : sf3 b n T S c k (we b n a) = ((sf2 b n T k (we b n a)).1, []) := by unfold sf3; rw [if_neg hk7']
        have go134 : ∀ w8, RM w8 b n (sf2 b n T k (we b n a)).1 → Sm GPm w w8 → w8.1 40 0 28 = nI (c + 1) → w8.1 40 0 8 = nI op → (∀ x y, x ≠ c → w8.1 68 x y = w.1 68 x y) → w8.1 68 c 0 = nI k → (k = 0 ∨ k = 3 ∨ k = 4 ∨ k = 5 → w8.1 68 c 1 = nI (sf1 b n T k (we b n a)).2) → (k = 5 → w8.1 68 c 2 = nI (sf2 b n T k (we b n a)).2) → Z M G 0 K noX w8 134 [some (.ref (G.2.1 40 0)), some (.int (nI k)), some (.ref (G.2.1 68 c))] [] := by
          intro w8 R8 s8 u28 u8 uo u0 u1 u2
          refine b_X10_readsStep_134 hlev hy2 F hk ⟨fun _ => ?_, fun q => absurd ((z7 7 (by decide)).mp (Classical.not_not.mp q)) hk7'⟩
          refine at207 w8 (by rw [e3]; exact R8) s8 (fun _ => ?_)
          rw [e3]
          exact ⟨u28, u8, fun i y hi => uo i y (by omega), u0, fun q => u1 (by omega), u2, fun i e hi => by cases hi⟩
        refine b_X10_readsStep_120 hlev hy2 F hk ⟨fun q => ?_, fun q => ?_⟩
        · have q : ¬ k = 5 := fun z => q ((z7 5 (by decide)).mpr z)
          have e2 : sf2 b n T k (we b n a) = ((sf1 b n T k (we b n a)).1, 0) := by unfold sf2; rw [if_neg q]
          exact go134 w7 (by rw [e2]; exact R7) s7 p28 p8 po p0 p1 (fun z => absurd z q)
        · have q : k = 5 := (z7 5 (by decide)).mp (Classical.not_not.mp q)
          have e2 : sf2 b n T k (we b n a) = figF b n 0 6 (sf1 b n T k (we b n a)).1 := by unfold sf2; rw [if_pos q]
          refine con_iP (m_number hl (lo := 0) (H := 6) (by decide) (by decide) R7) (fun w8 k8 w9 hw9 => ?_)
          rw [← e2] at k8 hw9
          have R9 := k8.1.row hw9 (by decide) (by decide)
          have o9 : ∀ x y, w9.1 68 x y = if x = c ∧ y = 2 then nI (sf2 b n T k (we b n a)).2 else w7.1 68 x y := fun x y => by
            rw [hw9, setI_1, k8.2.oth40 GR_40 (by decide)]
            simp only [true_and]
          refine go134 w9 R9 (by rw [hw9]; exact (s7.tr (k8.2.mono GR_GPm)).set (by unfold GPm; omega)) ?_ ?_ (fun x y hx => ?_) ?_ (fun z => ?_) (fun _ => ?_)
          · rw [hw9, setI_ne (by omega), k8.2.1 40 0 28 (by unfold GR; omega)]; exact p28
          · rw [hw9, setI_ne (by omega), k8.2.1 40 0 8 (by unfold GR; omega)]; exact p8
          · rw [o9, if_neg (by omega)]; exact po x y hx
          · rw [o9, if_neg (by omega)]; exact p0
          · rw [o9, if_neg (by omega)]; exact p1 z
          · rw [o9, if_pos ⟨rfl, rfl⟩]
      have num : ∀ {w8 w9 : Wd} {v : Int32}, Sm GR w6 w8 → w9 = setI w8 68 c 1 v → k ≠ 7 → Sm GPm w w9 ∧ w9.1 40 0 28 = nI (c + 1) ∧ w9.1 40 0 8 = nI op ∧ (∀ x y, x ≠ c → w9.1 68 x y = w.1 68 x y) ∧ w9.1 68 c 0 = nI k ∧ w9.1 68 c 1 = v := fun {w8 w9 v} k8 hw9 hk7' => by
        have o9 : ∀ x y, w9.1 68 x y = if x = c ∧ y = 1 then v else if x = c ∧ y = 0 then nI k else w.1 68 x y := fun x y => by
          rw [hw9, setI_1, k8.oth40 GR_40 (by decide), o6 68 x y (by decide)]
          simp only [true_and]
        refine ⟨by rw [hw9]; exact (s6.tr (k8.mono GR_GPm)).set (by unfold GPm; omega), ?_, ?_, fun x y hx => ?_, ?_, ?_⟩
        · rw [hw9, setI_ne (by omega), k8.1 40 0 28 (by unfold GR; omega)]; exact y28
        · rw [hw9, setI_ne (by omega), k8.1 40 0 8 (by unfold GR; omega), y8, hkn hk7']
        · rw [o9, if_neg (by omega), if_neg (by omega)]
        · rw [o9, if_neg (by omega), if_pos ⟨rfl, rfl⟩]
        · rw [o9, if_pos ⟨rfl, rfl⟩]
      -- again
      have again134 : k = 7 → Z M G 0 K noX w6 134 [some (.ref (G.2.1 40 0)), some (.int (nI k)), some (.ref (G.2.1 68 c))] [] := by
        intro hk7'
        obtain ⟨ho, hop6⟩ := hk7 hk7'
        obtain ⟨hMs, hSw⟩ := hS hop6
        have e1 : sf1 b n T k (we b n a) = figF b n 0 61 (0, we b n a) := by
          unfold sf1 moH
          rw [if_neg (by omega), if_pos hk7']
        have e2 : sf2 b n T k (we b n a) = ((sf1 b n T k (we b n a)).1, 0) := by unfold sf2; rw [if_neg (by omega)]
        have e3 : sf3 b n T S c k (we b n a) = (sgnF b n 93 (S (c + 1) (sgnF b n 91 (sf1 b n T k (we b n a)).1)).1, (S (c + 1) (sgnF b n 91 (sf1 b n T k (we b n a)).1)).2) := by unfold sf3; rw [if_pos hk7', e2]
        refine b_X10_readsStep_134 hlev hy2 F hk ⟨fun q => absurd ((z7 7 (by decide)).mpr hk7') q, fun _ => ?_⟩
        refine con_iP (m_number hl (lo := 0) (H := 61) (by decide) (by decide) R6) (fun w8 k8 w9 hw9 => ?_)
        rw [← e1] at k8 hw9
        have R9 := k8.1.row hw9 (by decide) (by decide)
        have o9 : ∀ x y, w9.1 68 x y = if x = c ∧ y = 1 then nI (sf1 b n T k (we b n a)).2 else if x = c ∧ y = 0 then nI k else w.1 68 x y := fun x y => by
          rw [hw9, setI_1, k8.2.oth40 GR_40 (by decide), o6 68 x y (by decide)]
          simp only [true_and]
        have s9 : Sm GPm w w9 := by rw [hw9]; exact (s6.tr (k8.2.mono GR_GPm)).set (by unfold GPm; omega)
        have v28 : w9.1 40 0 28 = nI (c + 1) := by rw [hw9, setI_ne (by omega), k8.2.1 40 0 28 (by unfold GR; omega)]; exact y28
        have v8 : w9.1 40 0 8 = nI (op + 1) := by rw [hw9, setI_ne (by omega), k8.2.1 40 0 8 (by unfold GR; omega), y8, ho]
        refine con_vP (m_sign hl (c := 91) (by decide) R9) (fun w10 k10 => ?_)
        generalize hs0 : sgnF b n 91 (sf1 b n T k (we b n a)).1 = s0 at *
        have hs0k : s0.1 = 0 → we b n a < s0.2 := fun z => by
          rw [← hs0] at z ⊢
          have q := sgnF_ok z
          have := (sf1_ok q.1).1
          omega
        refine con_vP (m_blanks hl k10.1) (fun w11 k11 => ?_)
        have s11 : Sm GPm w w11 := (s9.tr (k10.2.mono GR_GPm)).tr (k11.2.mono GR4_GPm)
        -- ]
        have at191 : ∀ (w' : Wd) (st : Rd) (L : List En), RM w' b n st → sgnF b n 93 st = sgnF b n 93 (S (c + 1) s0).1 → (st.1 = 0 → L = (S (c + 1) s0).2 ∧ w'.1 40 0 28 = nI (c + 1 + L.length) ∧ w'.1 40 0 8 = nI (op + 1) ∧ (∀ i y, i < c + 1 → w'.1 68 i y = w9.1 68 i y) ∧ segM w' (c + 1) L) → Sm GPm w w' → Z M G 0 K noX w' 191 [some (.ref (G.2.1 40 0)), none, some (.ref (G.2.1 68 c))] [] := by
          intro w' st L R' hsg hok s'
          refine b_X10_readsStep_191 hlev hy2 F hk ?_
          refine con_vP (m_sign hl (c := 93) (by decide) R') (fun w12 k12 w13 hw13 => ?_)
          have R13 := k12.1.g8 hw13
          rw [hsg] at R13
          refine at207 w13 (by rw [e3]; exact R13) (by rw [hw13]; exact (s'.tr (k12.2.mono GR_GPm)).set (by unfold GPm; omega)) (fun z => ?_)
          rw [e3] at z ⊢
          have z : (sgnF b n 93 (S (c + 1) s0).1).1 = 0 := z
          rw [← hsg] at z
          obtain ⟨u1, u2, u3, u4, u5⟩ := hok (sgnF_ok z).1
          have o13 : ∀ x y, w13.1 68 x y = w'.1 68 x y := fun x y => by rw [hw13, setI_ne (by omega), k12.2.oth40 GR_40 (by decide)]
          refine ⟨?_, ?_, fun i y hi => ?_, ?_, fun _ => ?_, fun z => absurd z (by omega), ?_⟩
          · rw [hw13, setI_ne (by omega), k12.2.1 40 0 28 (by unfold GR; omega), u2, u1]
          · rw [hw13, setI_eq, k12.2.1 40 0 8 (by unfold GR; omega), u3, nI_pred]
          · rw [o13, u4 i y (by omega), o9, if_neg (by omega), if_neg (by omega)]
          · rw [o13, u4 c 0 (by omega), o9, if_neg (by omega), if_pos ⟨rfl, rfl⟩]
          · rw [o13, u4 c 1 (by omega), o9, if_pos ⟨rfl, rfl⟩]
          · rw [← u1]
            exact u5.cg (fun x y _ _ => o13 x y)
        generalize hW : S (c + 1) s0 = W at *
        have hWe : wsL b n D 150 (c + 1) s0 = W := by rw [← hSw]; exact hW
        have key : ∀ f j c' (L : List En) (s' : Rd) (w' : Wd), f + j = 150 → (s'.1 = 0 → j ≤ s'.2 ∧ 4 * c' ≤ s'.2 ∧ c' = c + 1 + L.length ∧ sk b n s'.2 = s'.2) → W.1 = (wsL b n D f c' s').1 → (W.1.1 = 0 → W.2 = L ++ (wsL b n D f c' s').2) → RM w' b n s' → (s'.1 = 0 → w'.1 40 0 28 = nI c' ∧ w'.1 40 0 8 = nI (op + 1) ∧ (∀ i y, i < c + 1 → w'.1 68 i y = w9.1 68 i y) ∧ segM w' (c + 1) L) → Sm GPm w w' → Z M G 0 K noX w' 160 [some (.ref (G.2.1 40 0)), none, some (.ref (G.2.1 68 c))] [] := by
          intro f
          induction f with
          | zero =>
            intro j c' L s' w' hfj hpos h1 h2 R' hok s'm
            have h1 : W.1 = s' := h1
            refine b_X10_readsStep_160 hlev hy2 F hk ?_
            rw [R'.zero]
            refine ⟨fun hz => at191 w' s' L R' (by rw [h1]) (fun z => absurd z hz) s'm, fun hz => ?_⟩
            have hz := Classical.not_not.mp hz
            obtain ⟨p1, p2, p3, p4⟩ := hpos hz
            have hsn : s'.2 = n := by have := R'.2.2.2.2.1.2; omega
            have es : s' = (0, n) := by rw [← hsn, ← hz]
            obtain ⟨u2, u3, u4, u5⟩ := hok hz
            rw [es] at R'
            rw [(R'.2.2.2.2.2.2.1 rfl).2]
            refine con_i (m_byteAt hl (by omega) R') ?_
            have g93 : (btI b n n = (93 : Int32)) ↔ n < n ∧ b n = 93 := btI_c hb n (c := 93) (by decide)
            rw [g93]
            refine ⟨fun q => absurd q.1 (Nat.lt_irrefl _), fun _ => ?_⟩
            have a44 : w'.1 44 0 0 = nI (tS T) := (s'm.1 44 0 0 (by unfold GPm; omega)).trans h44
            have a441 : w'.1 44 0 1 = nI (tN T) := (s'm.1 44 0 1 (by unfold GPm; omega)).trans h441
            refine con_mono (hMs w' n c' R' (rn_n (fun z => by omega)) a44 a441 u2 (by omega) u3) ?_ (fun _ _ q => q.elim)
            rintro _ w12 ⟨rfl, k12⟩
            rw [hDe] at k12
            refine ⟨rfl, ?_⟩
            refine con_vP (m_blanks hl k12.1) (fun w13 k13 => ?_)
            have hne : ¬ ((1, n) : Rd).1 = 0 := by show ¬ (1 : Nat) = 0; decide
            rw [pkS_x hne] at k13
            refine b_X10_readsStep_160 hlev hy2 F hk ?_
            rw [k13.1.zero]
            refine ⟨fun _ => at191 w13 (1, n) [] k13.1 ?_ (fun z => absurd z hne) ((s'm.tr k12.2.2).tr (k13.2.mono GR4_GPm)), fun z => absurd hne z⟩
            rw [h1, es, sgnF_x hne]
            unfold sgnF
            rw [if_neg (fun z => z rfl), if_neg]
            · show (1, n) = (1, sk b n n)
              rw [show sk b n n = n from rn_n (fun z => by omega)]
            · rintro ⟨z, -⟩
              have : sk b n n = n := rn_n (fun z => by omega)
              have z : sk b n n < n := z
              omega
          | succ f ih =>
            intro j c' L s' w' hfj hpos h1 h2 R' hok s'm
            refine b_X10_readsStep_160 hlev hy2 F hk ?_
            rw [R'.zero]
            refine ⟨fun hz => ?_, fun hz => ?_⟩
            · rw [wsL_x hz] at h1
              exact at191 w' s' L R' (by rw [h1]) (fun z => absurd z hz) s'm
            have hz := Classical.not_not.mp hz
            obtain ⟨p1, p2, p3, p4⟩ := hpos hz
            have es : s' = (0, s'.2) := by rw [← hz]
            obtain ⟨u2, u3, u4, u5⟩ := hok hz
            have R0 := R'
            rw [es] at R0
            have hsn : s'.2 ≤ n := R'.2.2.2.2.1.2
            rw [(R'.2.2.2.2.2.2.1 hz).2]
            refine con_i (m_byteAt hl (by omega) R') ?_
            have g93 : (btI b n s'.2 = (93 : Int32)) ↔ s'.2 < n ∧ b s'.2 = 93 := btI_c hb s'.2 (c := 93) (by decide)
            rw [g93]
            have a44 : w'.1 44 0 0 = nI (tS T) := (s'm.1 44 0 0 (by unfold GPm; omega)).trans h44
            have a441 : w'.1 44 0 1 = nI (tN T) := (s'm.1 44 0 1 (by unfold GPm; omega)).trans h441
            refine ⟨fun q => ?_, fun q => ?_⟩
            · rw [wsL, if_neg (fun z => z.2.2 (by rw [p4]; exact q.2))] at h1 h2
              rw [pkS, if_neg (fun z => z hz), p4] at h1
              refine at191 w' (0, s'.2) L R0 (by rw [h1]) (fun z => ⟨?_, by rw [u2, p3], u3, u4, u5⟩) s'm
              have := h2 (by rw [h1])
              rw [this]
              exact (List.append_nil L).symm
            · refine con_mono (hMs w' s'.2 c' R0 p4 a44 a441 u2 p2 u3) ?_ (fun _ _ q => q.elim)
              rintro _ w12 ⟨rfl, k12⟩
              refine ⟨rfl, ?_⟩
              refine con_vP (m_blanks hl k12.1) (fun w13 k13 => ?_)
              have s13 := (s'm.tr k12.2.2).tr (k13.2.mono GR4_GPm)
              by_cases hend : s'.2 = n
              · -- the text ends within
                rw [hend, hDe] at k12 k13
                have hne : ¬ ((1, n) : Rd).1 = 0 := by show ¬ (1 : Nat) = 0; decide
                rw [pkS_x hne] at k13
                rw [wsL, if_neg (fun z => by rw [p4] at z; omega)] at h1
                rw [pkS, if_neg (fun z => z hz), p4, hend] at h1
                refine b_X10_readsStep_160 hlev hy2 F hk ?_
                rw [k13.1.zero]
                refine ⟨fun _ => at191 w13 (1, n) [] k13.1 ?_ (fun z => absurd z hne) s13, fun z => absurd hne z⟩
                have h1 : W.1 = (0, n) := h1
                rw [h1, sgnF_x hne]
                unfold sgnF
                rw [if_neg (fun z => z rfl), if_neg]
                · show (1, n) = (1, sk b n n)
                  rw [show sk b n n = n from rn_n (fun z => by omega)]
                · rintro ⟨z, -⟩
                  have : sk b n n = n := rn_n (fun z => by omega)
                  have z : sk b n n < n := z
                  omega
              · have hq : s'.1 = 0 ∧ sk b n s'.2 < n ∧ b (sk b n s'.2) ≠ 93 := ⟨hz, by rw [p4]; omega, fun z => q ⟨by omega, by rw [← p4]; exact z⟩⟩
                rw [wsL, if_pos hq, p4] at h1 h2
                have hRk := hDo c' s'.2
                generalize hst : D c' s'.2 = R at *
                -- blanks behind a step change nothing of what follows
                have epk : (wsL b n D f (c' + R.2.length) (pkS b n R.1)) = (wsL b n D f (c' + R.2.length) R.1) ∨ (f = 0 ∧ R.1.1 = 0) := by
                  by_cases hR0 : R.1.1 ≠ 0
                  · rw [pkS_x hR0]; exact Or.inl rfl
                  · cases f with
                    | zero => exact Or.inr ⟨rfl, Classical.not_not.mp hR0⟩
                    | succ f => exact Or.inl wsL_pk
                rcases epk with epk | ⟨f0, zR⟩
                · rw [← epk] at h1 h2
                  refine ih (j + 1) (c' + R.2.length) (L ++ R.2) (pkS b n R.1) w13 (by omega) (fun z => ?_) h1 (fun z => by rw [h2 z, List.append_assoc]) k13.1 (fun z => ?_) s13
                  all_goals
                    have zR : R.1.1 = 0 := by
                      by_cases y : R.1.1 = 0
                      · exact y
                      · rw [pkS_x y] at z; exact z
                  · have y := hRk zR
                    have hge := sk_ge b n R.1.2
                    rw [pkS, if_neg (fun z => z zR), List.length_append]
                    refine ⟨?_, ?_, by omega, sk_idem b n _⟩
                    · show j + 1 ≤ sk b n R.1.2
                      omega
                    · show 4 * (c' + R.2.length) ≤ sk b n R.1.2
                      omega
                  · obtain ⟨x1, x2, x3, x4⟩ := k12.2.1 zR
                    have o13 : ∀ x y, w13.1 68 x y = w12.1 68 x y := fun x y => k13.2.oth40 (fun _ _ _ q => q.1) (by decide)
                    refine ⟨?_, ?_, fun i y hi => ?_, fun i e hi => ?_⟩
                    · rw [k13.2.1 40 0 28 (by unfold GR4; omega)]; exact x1
                    · rw [k13.2.1 40 0 8 (by unfold GR4; omega)]; exact x2
                    · rw [o13, x3 i y (by omega)]
                      exact u4 i y hi
                    · by_cases hl' : i < L.length
                      · rw [List.getElem?_append_left hl'] at hi
                        rw [o13, o13, o13, o13, x3 _ 0 (by omega), x3 _ 1 (by omega), x3 _ 2 (by omega), x3 _ 3 (by omega)]
                        exact u5 i e hi
                      · rw [List.getElem?_append_right (by omega)] at hi
                        have := x4 _ e hi
                        rw [show c' + (i - L.length) = c + 1 + i by omega] at this
                        rw [o13, o13, o13, o13]
                        exact this
                · exfalso
                  -- fuel can't run out here
                  have y := hRk zR
                  have := k12.1.2.2.2.2.1.2
                  omega
        have e11 : wsL b n D 150 (c + 1) (pkS b n s0) = W := by
          rw [← hWe]
          exact wsL_pk (f := 149)
        refine key 150 0 (c + 1) [] (pkS b n s0) w11 rfl (fun z => ?_) (by rw [e11]) (fun _ => by rw [e11]; rfl) k11.1 (fun z => ?_) s11
        · have z0 : s0.1 = 0 := by
            by_cases y : s0.1 = 0
            · exact y
            · rw [pkS_x y] at z; exact z
          have q1 := hs0k z0
          have hge := sk_ge b n s0.2
          rw [pkS, if_neg (fun z => z z0)]
          exact ⟨Nat.zero_le _, by show 4 * (c + 1) ≤ sk b n s0.2; omega, rfl, sk_idem b n _⟩
        · refine ⟨?_, ?_, fun i y hi => ?_, fun i e hi => by cases hi⟩
          · rw [k11.2.1 40 0 28 (by unfold GR4; omega), k10.2.1 40 0 28 (by unfold GR; omega)]; exact v28
          · rw [k11.2.1 40 0 8 (by unfold GR4; omega), k10.2.1 40 0 8 (by unfold GR; omega)]; exact v8
          · rw [k11.2.oth40 (fun _ _ _ q => q.1) (by decide), k10.2.oth40 GR_40 (by decide)]
      -- which numbers
      have at94 : k ≠ 0 → k ≠ 5 → Z M G 0 K noX w6 94 [some (.ref (G.2.1 40 0)), some (.int (nI k)), some (.ref (G.2.1 68 c))] [] := by
        intro n0 n5
        have at104 : k = 3 ∨ k = 4 → Z M G 0 K noX w6 104 [some (.ref (G.2.1 40 0)), some (.int (nI k)), some (.ref (G.2.1 68 c))] [] := by
          intro hk34
          have e1 : sf1 b n T k (we b n a) = figF b n 0 (tS T) (0, we b n a) := by
            unfold sf1 moH
            rw [if_neg (by omega), if_neg (by omega), if_neg (by omega)]
          refine b_X10_readsStep_104 hlev hy2 F hk ?_
          rw [o6 44 0 0 (by decide), if_neg (by omega), h44]
          refine con_iP (m_number hl (lo := 0) (H := tS T) (by decide) (by omega) R6) (fun w8 k8 w9 hw9 => ?_)
          rw [← e1] at k8 hw9
          obtain ⟨n1, n2, n3, n4, n5', n6⟩ := num k8.2 hw9 (by omega)
          exact at120 w9 (by omega) (k8.1.row hw9 (by decide) (by decide)) n1 n2 n3 n4 n5' (fun _ => n6)
        refine b_X10_readsStep_94 hlev hy2 F hk ⟨fun q => at104 (Or.inl ((z7 3 (by decide)).mp q)), fun q3 => ⟨fun q4 => ?_, fun q => at104 (Or.inr ((z7 4 (by decide)).mp (Classical.not_not.mp q)))⟩⟩
        have q3 : k ≠ 3 := fun z => q3 ((z7 3 (by decide)).mpr z)
        have q4 : k ≠ 4 := fun z => q4 ((z7 4 (by decide)).mpr z)
        by_cases hk7' : k = 7
        · refine b_X10_readsStep_120 hlev hy2 F hk ⟨fun _ => again134 hk7', fun q => absurd ((z7 5 (by decide)).mp (Classical.not_not.mp q)) n5⟩
        · have e1 : sf1 b n T k (we b n a) = ((0, we b n a), 0) := by
            unfold sf1
            rw [if_pos (by omega)]
          refine at120 w6 hk7' (by rw [e1]; exact R6) s6 y28 (by rw [y8, hkn hk7']) (fun x y hx => ?_) ?_ (fun z => by omega)
          · rw [o6 68 x y (by decide), if_neg (by omega)]
          · rw [o6 68 c 0 (by decide), if_pos ⟨rfl, rfl, rfl⟩]
      have at78 : k = 0 ∨ k = 5 → Z M G 0 K noX w6 78 [some (.ref (G.2.1 40 0)), some (.int (nI k)), some (.ref (G.2.1 68 c))] [] := by
        intro hk05
        have e1 : sf1 b n T k (we b n a) = figF b n 0 (tN T) (0, we b n a) := by
          unfold sf1 moH
          rw [if_neg (by omega), if_neg (by omega), if_pos hk05]
        refine b_X10_readsStep_78 hlev hy2 F hk ?_
        rw [o6 44 0 1 (by decide), if_neg (by omega), h441]
        refine con_iP (m_number hl (lo := 0) (H := tN T) (by decide) (by omega) R6) (fun w8 k8 w9 hw9 => ?_)
        rw [← e1] at k8 hw9
        obtain ⟨n1, n2, n3, n4, n5', n6⟩ := num k8.2 hw9 (by omega)
        refine b_X10_readsStep_94 hlev hy2 F hk ⟨fun q => absurd ((z7 3 (by decide)).mp q) (by omega), fun _ => ⟨fun _ => ?_, fun q => absurd ((z7 4 (by decide)).mp (Classical.not_not.mp q)) (by omega)⟩⟩
        exact at120 w9 (by omega) (k8.1.row hw9 (by decide) (by decide)) n1 n2 n3 n4 n5' (fun _ => n6)
      refine ⟨fun q => at78 (Or.inl ((z7 0 (by decide)).mp q)), fun q0 => ⟨fun q5 => ?_, fun q => at78 (Or.inr ((z7 5 (by decide)).mp (Classical.not_not.mp q)))⟩⟩
      exact at94 (fun z => q0 ((z7 0 (by decide)).mpr z)) (fun z => q5 ((z7 5 (by decide)).mpr z))
    refine b_X10_readsStep_19 hlev F hk ⟨fun q => ?_, fun q => ?_⟩
    · have q : k ≠ 7 := fun z => q ((z7 7 (by decide)).mpr z)
      exact at33 w2 op (fun z => q z.1) k2.1 (fun κ x y hκ => k2.2.oth40 (fun _ _ _ q => q.1) hκ) ((k2.2.1 40 0 28 (by unfold GR4; omega)).trans h28) e8 (fun z => absurd z q) (fun _ => rfl) s2
    · have q : k = 7 := (z7 7 (by decide)).mp (Classical.not_not.mp q)
      refine con_iP (m_opensOne hl k2.1 hop e8) (fun w3 k3 => ?_)
      obtain ⟨k31, k32, k33⟩ := k3
      have s3 := s2.tr (k33.mono G8_GPm)
      rw [bI_t]
      refine ⟨fun hq => ?_, fun hq => ?_⟩
      · have hq : op < 6 := by
          by_cases z : op < 6
          · exact z
          · exact absurd (decide_eq_false z) hq
        rw [if_pos hq] at k31
        refine at33 w3 (op + 1) (fun z => by rw [hroom, decide_eq_true hq] at z; exact absurd z.2 (by decide)) k31 (fun κ x y hκ => ?_) ?_ (k32 hq) (fun _ => ⟨rfl, hq⟩) (fun z => absurd q z) s3
        · rw [k33.1 κ x y (by unfold G8; omega)]
          exact k2.2.oth40 (fun _ _ _ q => q.1) hκ
        · rw [k33.1 40 0 28 (by unfold G8; omega), k2.2.1 40 0 28 (by unfold GR4; omega)]; exact h28
      · have hq : ¬ op < 6 := fun z => hq (fun y => by rw [decide_eq_true z] at y; exact absurd y (by decide))
        rw [if_neg hq] at k31
        have est : stF b n T room S c a = ((3, a), []) := by
          unfold stF
          rw [hkk, if_neg (by omega), if_pos ⟨q, by rw [hroom]; exact decide_eq_false hq⟩]
        rw [← hK, est]
        exact ⟨rfl, k31, fun z => absurd z (by show ¬ (3 : Nat) = 0; decide), s3⟩
  · rw [if_neg h8']
    refine ⟨fun q => absurd rfl q, fun _ => ?_⟩
    have est : stF b n T room S c a = ((1, a), []) := by
      unfold stF
      rw [hkk, if_pos (by omega)]
    refine con_vP (m_wrong hl k2.1 (f := 1) (x := a) (by decide) (by decide) han) (fun w4 k4 => ?_)
    have k41 := k4.1
    rw [flF, if_neg (fun z => z rfl)] at k41
    have s4 := s2.tr (k4.2.1.mono GR_GPm)
    refine b_X10_readsStep_19 hlev F hk ⟨fun _ => b_X10_readsStep_33 hlev F hk ?_, fun q => absurd (Classical.not_not.mp q) (by decide)⟩
    rw [k41.zero]
    refine ⟨fun z => absurd z (by show ¬ (1 : Nat) = 0; decide), fun _ => ?_⟩
    rw [← hK, est]
    exact ⟨rfl, k41, fun z => absurd z (by show ¬ (1 : Nat) = 0; decide), s4⟩
theorem m_steps (hl : l.stackTraces = false) (hn150 : n ≤ 150) (hT : Tok T) : ∀ d, d ≤ 6 → MsH l G b n T (7 + d) (6 - d) (stD b n T d)
  | 0, _ => m_readsStep (lev := 6) (op := 6) (D := stD b n T 0) hl hn150 (by decide) (by decide) hT rfl (fun h => absurd h (by decide)) (fun c => stD_end 0) (fun c a => stD_ok 0)
  | d + 1, hd => by
    have hs := m_steps hl hn150 hT d (by omega)
    exact m_readsStep (lev := 7 + d) (op := 6 - (d + 1)) (room := true) (D := stD b n T d) (S := wsF b n T d) hl hn150 (by omega) (by omega) hT (decide_eq_true (by omega)).symm (fun _ => ⟨by rw [show 6 - (d + 1) + 1 = 6 - d by omega]; exact hs, wsF_D d⟩) (fun c => stD_end d) (fun c a => stD_ok d)
end WB
