/-! The class: does the word that was read say this text? -/
def wTx : List (List Nat) := [[115,105,110,103,101,114], [110,111,116,101], [108,105,107,101], [114,101,115,116], [108,101,97,115,116], [109,111,115,116], [108,101,110,103,116,104], [112,97,121], [108,101,102,116], [115,117,110,103], [118,111,119,101,108], [100,97,121], [115,105,110,103], [104,121,109,110], [104,111,97,114,115,101], [99,117,114,101], [119,111,114,100], [97,103,97,105,110]]
def wT (t : Nat) : List Nat := wTx.getD t []
theorem wT_s : ∀ t, t < 18 → sLen.getD t 0 = (wT t).length ∧ (wT t).length ≤ 6 ∧ 3 ≤ (wT t).length ∧ ∀ i, i < (wT t).length → (sByt.getD t []).getD i 0 = nI ((wT t).getD i 0) ∧ (wT t).getD i 0 < 128 := by decide +kernel
theorem wT_inj : ∀ t, t < 18 → ∀ u, u < 18 → wT t = wT u → t = u := by decide +kernel
section TD
variable {l : Launch} {G : Gx} {w : Wd} {b : Nat → Nat} {n : Nat} {s : Rd}
theorem c_says (hl : l.stackTraces = false) {t a e : Nat} (ht : t < 18) (h : RC w b n s) (hae : a ≤ e) (hen : e ≤ n) (h4 : w.1 1 0 4 = nI a) (h3 : w.1 1 0 3 = nI e) : C_X8_says l G w [.ref (G.2.1 1 0), .ref (G.2.2.2.2.1 t)] (fun r w' => r = some (.int (bI (isW b a e (wT t)))) ∧ w' = w) noX := by
  obtain ⟨hn, hb, -, h10, -⟩ := h
  obtain ⟨t1, t2, t2', t3⟩ := wT_s t ht
  have t20 : t < 20 := by omega
  refine e_X8_says t20 hl (fun M kk hM hk F => ?_)
  subst hM
  refine con_i (c_length hl t20) ?_
  have e1 : nI e - nI a = nI (e - a) := by
    have : e = (e - a) + a := by omega
    rw [this, nI_subc]
    congr 1
    omega
  rw [t1, h3, h4, e1, nI_eq (by omega) (by omega)]
  refine ⟨fun hq => ?_, fun hq => ⟨?_, rfl⟩⟩
  · have key : ∀ d i, (wT t).length - i = d → i ≤ (wT t).length → (∀ j, j < i → b (a + j) = (wT t).getD j 0) → Z M G 0 (fun r w' => r = some (Value.int (bI (isW b a e (wT t)))) ∧ w' = w) noX w 20 [some (.ref (G.2.1 1 0)), some (.ref (G.2.2.2.2.1 t)), some (.int (nI i))] [] := by
      intro d
      induction d with
      | zero =>
        intro i hd hi hj
        refine b_X8_says_20 t20 F hk (con_i (c_length hl t20) ?_)
        rw [t1, nI_leI (by omega) (by omega)]
        refine ⟨fun _ => ⟨?_, rfl⟩, fun hc => absurd (by omega) hc⟩
        rw [isW_is.mpr ⟨by omega, fun j hj2 => hj j (by omega)⟩]
        rfl
      | succ d ih =>
        intro i hd hi hj
        refine b_X8_says_20 t20 F hk (con_i (c_length hl t20) ?_)
        rw [t1, nI_leI (by omega) (by omega), h4, nI_add, nI_clamp (by omega), h10 (a + i) (by omega)]
        refine ⟨fun hc => absurd hc (by omega), fun _ => ⟨vp_in_nI (by omega) (by decide), con_i (c_charAt hl t20 (i := i) (by omega)) ?_⟩⟩
        obtain ⟨q1, q2⟩ := t3 i (by omega)
        rw [q1, sb8_eq (hb _ (by omega)) q2, ← nI_succ]
        refine ⟨fun hc => ih (i + 1) (by omega) (by omega) (fun j hj2 => ?_), fun hc => ⟨?_, rfl⟩⟩
        · by_cases hji : j = i
          · rw [hji]; exact hc
          · exact hj j (by omega)
        · have : isW b a e (wT t) = false := Bool.eq_false_iff.mpr (fun z => hc ((isW_is.mp z).2 i (by omega)))
          rw [this]
          rfl
    exact key _ 0 rfl (by omega) (fun j hj => absurd hj (Nat.not_lt_zero _))
  · have : isW b a e (wT t) = false := Bool.eq_false_iff.mpr (fun z => hq (by have := (isW_is.mp z).1; omega))
    rw [this]
    rfl
end TD
