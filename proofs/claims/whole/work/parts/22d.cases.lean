/-! The cases of the law's switch (written by program): what a case asks of both sides, and that the law then goes on. -/
theorem ix_at {i c : Nat} {v : Int32} (hv : v = nI c) (h : i + c < 2 ^ 31) : (nI i + v).toNatClampNeg = i + c ∧ ¬ nI i + v < 0 := by
  rw [hv, nI_add]
  exact ⟨nI_clamp h, nI_pos h⟩
theorem lg_cmp_self (x : Int64) : lg_cmp x x = 0 := by
  unfold lg_cmp
  rw [if_neg (by simp), if_pos rfl]
def lB (G : Gx) (b i : Nat) : List (Option Value) := [some (.ref b), some (.ref (G.2.1 0 0)), some (.ref (G.2.1 40 0)), some (.ref (G.2.1 80 0)), some (.int (nI i)), none, none, none]
section QC
variable {M : Mx} {G : Gx} {b L : Nat} {xs : Nat → Int32} {Qp : State → Prop} {n ns : Nat} {w : Wd} {i : Nat} {INV : Wd → Prop}

theorem q_feed (F : FL M G b L xs) (hi : i + 9 ≤ L) (hL : L ≤ 576) (hn : n + 16 ≤ 600128) (hns : ns + 96 ≤ 7301098)
    (h : C_X9_feed (mL M) G w [.ref (G.2.1 0 0), .int (xs (i + 1)), .int (xs (i + 2)), .int (xs (i + 3)), .int (xs (i + 4)), .int (xs (i + 5))] (fun r w1 => ∃ v, r = some (.int v) ∧ C_X10_feed (mL M) G w1 [.ref (G.2.1 40 0), .int (xs (i + 1)), .int (xs (i + 2)), .int (xs (i + 3)), .int (xs (i + 4)), .int (xs (i + 5))] (fun r2 w2 => r2 = some (.int v) ∧ INV w2) noX) noX)
    (hK : ∀ w2, INV w2 → ZL M G Qp (n + 16) (ns + 96) w2 2606 (lB G b i) []) : ZL M G Qp n ns w 232 (lB G b i) [] := by
  show ZL M G Qp n ns w 232 [some (.ref b), some (.ref (G.2.1 0 0)), some (.ref (G.2.1 40 0)), some (.ref (G.2.1 80 0)), some (.int (nI i)), none, none, none] []
  refine l_aload_n F dL_law__232 rfl ?_
  refine l_aload_n F dL_law__233 rfl ?_
  refine l_iload F dL_law__234 rfl ?_
  refine l_iconst F 1 dL_law__236 (by decide) ?_
  refine l_iadd F dL_law__237 ?_
  refine l_sld F (i + 1) (ix_at (c := 1) rfl (by omega)).1 (ix_at (c := 1) rfl (by omega)).2 (by omega) dL_law__238 ?_
  refine l_aload_n F dL_law__239 rfl ?_
  refine l_iload F dL_law__240 rfl ?_
  refine l_iconst F 2 dL_law__242 (by decide) ?_
  refine l_iadd F dL_law__243 ?_
  refine l_sld F (i + 2) (ix_at (c := 2) rfl (by omega)).1 (ix_at (c := 2) rfl (by omega)).2 (by omega) dL_law__244 ?_
  refine l_aload_n F dL_law__245 rfl ?_
  refine l_iload F dL_law__246 rfl ?_
  refine l_iconst F 3 dL_law__248 (by decide) ?_
  refine l_iadd F dL_law__249 ?_
  refine l_sld F (i + 3) (ix_at (c := 3) rfl (by omega)).1 (ix_at (c := 3) rfl (by omega)).2 (by omega) dL_law__250 ?_
  refine l_aload_n F dL_law__251 rfl ?_
  refine l_iload F dL_law__252 rfl ?_
  refine l_iconst F 4 dL_law__254 (by decide) ?_
  refine l_iadd F dL_law__255 ?_
  refine l_sld F (i + 4) (ix_at (c := 4) rfl (by omega)).1 (ix_at (c := 4) rfl (by omega)).2 (by omega) dL_law__256 ?_
  refine l_aload_n F dL_law__257 rfl ?_
  refine l_iload F dL_law__258 rfl ?_
  refine l_iconst F 5 dL_law__260 (by decide) ?_
  refine l_iadd F dL_law__261 ?_
  refine l_sld F (i + 5) (ix_at (c := 5) rfl (by omega)).1 (ix_at (c := 5) rfl (by omega)).2 (by omega) dL_law__262 ?_
  refine l_callV F (k' := 2) (mc' := 0) [.int (xs (i + 1)), .int (xs (i + 2)), .int (xs (i + 3)), .int (xs (i + 4)), .int (xs (i + 5))] [] dL_law__263 rfl rfl (by decide) rfl cl_L_121 hy_X9_feed (by decide) (by omega) (by omega) (by decide) (Nat.le_of_ble_eq_true rfl) rfl (con_mono h ?_ (fun _ _ h => h))
  rintro r w1 ⟨v, rfl, hc⟩
  show ZL M G Qp (n + 0) (ns + 6 * 0) w1 266 [some (.ref b), some (.ref (G.2.1 0 0)), some (.ref (G.2.1 40 0)), some (.ref (G.2.1 80 0)), some (.int (nI i)), none, none, none] [.int v]
  refine l_aload_n F dL_law__266 rfl ?_
  refine l_aload_n F dL_law__267 rfl ?_
  refine l_iload F dL_law__268 rfl ?_
  refine l_iconst F 1 dL_law__270 (by decide) ?_
  refine l_iadd F dL_law__271 ?_
  refine l_sld F (i + 1) (ix_at (c := 1) rfl (by omega)).1 (ix_at (c := 1) rfl (by omega)).2 (by omega) dL_law__272 ?_
  refine l_aload_n F dL_law__273 rfl ?_
  refine l_iload F dL_law__274 rfl ?_
  refine l_iconst F 2 dL_law__276 (by decide) ?_
  refine l_iadd F dL_law__277 ?_
  refine l_sld F (i + 2) (ix_at (c := 2) rfl (by omega)).1 (ix_at (c := 2) rfl (by omega)).2 (by omega) dL_law__278 ?_
  refine l_aload_n F dL_law__279 rfl ?_
  refine l_iload F dL_law__280 rfl ?_
  refine l_iconst F 3 dL_law__282 (by decide) ?_
  refine l_iadd F dL_law__283 ?_
  refine l_sld F (i + 3) (ix_at (c := 3) rfl (by omega)).1 (ix_at (c := 3) rfl (by omega)).2 (by omega) dL_law__284 ?_
  refine l_aload_n F dL_law__285 rfl ?_
  refine l_iload F dL_law__286 rfl ?_
  refine l_iconst F 4 dL_law__288 (by decide) ?_
  refine l_iadd F dL_law__289 ?_
  refine l_sld F (i + 4) (ix_at (c := 4) rfl (by omega)).1 (ix_at (c := 4) rfl (by omega)).2 (by omega) dL_law__290 ?_
  refine l_aload_n F dL_law__291 rfl ?_
  refine l_iload F dL_law__292 rfl ?_
  refine l_iconst F 5 dL_law__294 (by decide) ?_
  refine l_iadd F dL_law__295 ?_
  refine l_sld F (i + 5) (ix_at (c := 5) rfl (by omega)).1 (ix_at (c := 5) rfl (by omega)).2 (by omega) dL_law__296 ?_
  refine l_callV F (k' := 1) (mc' := 0) [.int (xs (i + 1)), .int (xs (i + 2)), .int (xs (i + 3)), .int (xs (i + 4)), .int (xs (i + 5))] [.int v] dL_law__297 rfl rfl (by decide) rfl cl_L_125 hy_X10_feed (by decide) (by omega) (by omega) (by decide) (Nat.le_of_ble_eq_true rfl) rfl (con_mono hc ?_ (fun _ _ h => h))
  rintro r w3 ⟨rfl, hv⟩
  show ZL M G Qp (n + 0 + 0) (ns + 6 * 0 + 6 * 0) w3 300 [some (.ref b), some (.ref (G.2.1 0 0)), some (.ref (G.2.1 40 0)), some (.ref (G.2.1 80 0)), some (.int (nI i)), none, none, none] [.int v, .int v]
  refine l_icmp_eq F 2606 dL_law__300 (by decide) ⟨fun _ => ?_, fun hc => absurd rfl hc⟩
  exact l_weak (l_widen (hK w3 hv) (by omega) (by omega)) ⟨rfl, rfl, rfl, rfl, rfl, trivial⟩
theorem q_choir (F : FL M G b L xs) (hi : i + 9 ≤ L) (hL : L ≤ 576) (hn : n + 16 ≤ 600128) (hns : ns + 96 ≤ 7301098)
    (h : C_X9_choir (mL M) G w [.ref (G.2.1 0 0), .int (xs (i + 1))] (fun r w1 => ∃ v, r = some (.int v) ∧ C_X10_choir (mL M) G (setL w1 80 0 0 v.toInt64) [.ref (G.2.1 40 0), .int (xs (i + 1))] (fun r2 w2 => r2 = some (.int v) ∧ w2.1 40 0 0 = 0 ∧ w2.2.1 80 0 0 = v.toInt64 ∧ INV w2) noX) (fun E w1 => E = nIae ∧ C_X10_choir (mL M) G w1 [.ref (G.2.1 40 0), .int (xs (i + 1))] (fun r2 w2 => (∃ v, r2 = some (.int v)) ∧ w2.1 40 0 0 = 1 ∧ INV w2) noX))
    (hK : ∀ w2, INV w2 → ZL M G Qp (n + 16) (ns + 96) w2 2606 (lB G b i) []) : ZL M G Qp n ns w 305 (lB G b i) [] := by
  show ZL M G Qp n ns w 305 [some (.ref b), some (.ref (G.2.1 0 0)), some (.ref (G.2.1 40 0)), some (.ref (G.2.1 80 0)), some (.int (nI i)), none, none, none] []
  have hst : (mL M).stackTraces = false := F.2.2.2.2.2.2.2.2.1
  refine l_aload_n F dL_law__305 rfl ?_
  refine l_aload_n F dL_law__306 rfl ?_
  refine l_iload F dL_law__307 rfl ?_
  refine l_iconst F 1 dL_law__309 (by decide) ?_
  refine l_iadd F dL_law__310 ?_
  refine l_sld F (i + 1) (ix_at (c := 1) rfl (by omega)).1 (ix_at (c := 1) rfl (by omega)).2 (by omega) dL_law__311 ?_
  refine l_aload_n F dL_law__312 rfl ?_
  refine l_callH F (k' := 11) (mc' := 1) [.ref (G.2.1 0 0), .int (xs (i + 1)), .ref (G.2.1 80 0)] [] dL_law__313 rfl kL_choir kY_choir (by decide) (by omega) (by omega) (by decide) (Nat.le_of_ble_eq_true rfl) rfl (conH_mono (k_choir hst F.2.2.2.2.2.2.2.2.2.2.2.2.2 h (fun r w2 h => ⟨h.choose, h.choose_spec.1⟩) (fun E w2 h => h.1)) ?_)
  rintro r w2 (⟨v, w1, ⟨v1, e1, hc⟩, rfl, rfl⟩ | ⟨hx, rfl⟩)
  · cases e1
    show ZL M G Qp (n + 1) (ns + 6 * 1) (setL w1 80 0 0 v.toInt64) 316 [some (.ref b), some (.ref (G.2.1 0 0)), some (.ref (G.2.1 40 0)), some (.ref (G.2.1 80 0)), some (.int (nI i)), none, none, none] [.int 0]
    refine l_istore F dL_law__316 (by show 5 < 8; decide) ?_
    show ZL M G Qp (n + 1) (ns + 6 * 1) (setL w1 80 0 0 v.toInt64) 318 [some (.ref b), some (.ref (G.2.1 0 0)), some (.ref (G.2.1 40 0)), some (.ref (G.2.1 80 0)), some (.int (nI i)), some (.int 0), none, none] []
    refine l_aload_n F dL_law__318 rfl ?_
    refine l_aload_n F dL_law__319 rfl ?_
    refine l_iload F dL_law__320 rfl ?_
    refine l_iconst F 1 dL_law__322 (by decide) ?_
    refine l_iadd F dL_law__323 ?_
    refine l_sld F (i + 1) (ix_at (c := 1) rfl (by omega)).1 (ix_at (c := 1) rfl (by omega)).2 (by omega) dL_law__324 ?_
    refine l_callV F (k' := 7) (mc' := 0) [.int (xs (i + 1))] [] dL_law__325 rfl rfl (by decide) rfl cl_L_131 hy_X10_choir (by decide) (by omega) (by omega) (by decide) (Nat.le_of_ble_eq_true rfl) rfl (con_mono hc ?_ (fun _ _ h => h))
    rintro r w3 ⟨rfl, h0, h1, hv⟩
    show ZL M G Qp (n + 1 + 0) (ns + 6 * 1 + 6 * 0) w3 328 [some (.ref b), some (.ref (G.2.1 0 0)), some (.ref (G.2.1 40 0)), some (.ref (G.2.1 80 0)), some (.int (nI i)), some (.int 0), none, none] [.int v]
    refine l_istore F dL_law__328 (by show 6 < 8; decide) ?_
    show ZL M G Qp (n + 1 + 0) (ns + 6 * 1 + 6 * 0) w3 330 [some (.ref b), some (.ref (G.2.1 0 0)), some (.ref (G.2.1 40 0)), some (.ref (G.2.1 80 0)), some (.int (nI i)), some (.int 0), some (.int v), none] []
    refine l_aload_n F dL_law__330 rfl ?_
    refine l_callV F (k' := 1) (mc' := 0) [] [] dL_law__331 rfl rfl (by decide) rfl cl_L_132 hy_X10_thrown (by decide) (by omega) (by omega) (by decide) (Nat.le_of_ble_eq_true rfl) rfl (e_X10_thrown hst (fun _ _ _ _ _ => ?_))
    show ZL M G Qp (n + 1 + 0 + 0) (ns + 6 * 1 + 6 * 0 + 6 * 0) w3 334 [some (.ref b), some (.ref (G.2.1 0 0)), some (.ref (G.2.1 40 0)), some (.ref (G.2.1 80 0)), some (.int (nI i)), some (.int 0), some (.int v), none] [.int (w3.1 40 0 0)]
    rw [h0]
    refine l_iload F dL_law__334 rfl ?_
    refine l_icmp_eq F 341 dL_law__336 (by decide) ⟨fun _ => ?_, fun hc => absurd rfl hc⟩
    refine l_iload F dL_law__341 rfl ?_
    refine l_if_ne F 358 dL_law__343 (by decide) ⟨fun hc => absurd rfl hc, fun _ => ?_⟩
    refine l_aload_n F dL_law__346 rfl ?_
    refine l_iconst F 0 dL_law__347 (by decide) ?_
    refine l_out F dL_law__348 ?_
    refine l_iload F dL_law__349 rfl ?_
    refine l_i2l F dL_law__351 ?_
    refine l_lcmp F dL_law__352 ?_
    refine l_if_eq F 358 dL_law__353 (by decide) ⟨fun _ => ?_, fun hc => absurd (by rw [h1]; exact lg_cmp_self _) hc⟩
    refine l_goto F 2606 dL_law__358 (by decide) ?_
    exact l_weak (l_widen (hK w3 hv) (by omega) (by omega)) ⟨rfl, rfl, rfl, rfl, rfl, trivial⟩
  · have hc := hx.2
    show ZL M G Qp (n + 1) (ns + 6 * 1) w2 316 [some (.ref b), some (.ref (G.2.1 0 0)), some (.ref (G.2.1 40 0)), some (.ref (G.2.1 80 0)), some (.int (nI i)), none, none, none] [.int 1]
    refine l_istore F dL_law__316 (by show 5 < 8; decide) ?_
    show ZL M G Qp (n + 1) (ns + 6 * 1) w2 318 [some (.ref b), some (.ref (G.2.1 0 0)), some (.ref (G.2.1 40 0)), some (.ref (G.2.1 80 0)), some (.int (nI i)), some (.int 1), none, none] []
    refine l_aload_n F dL_law__318 rfl ?_
    refine l_aload_n F dL_law__319 rfl ?_
    refine l_iload F dL_law__320 rfl ?_
    refine l_iconst F 1 dL_law__322 (by decide) ?_
    refine l_iadd F dL_law__323 ?_
    refine l_sld F (i + 1) (ix_at (c := 1) rfl (by omega)).1 (ix_at (c := 1) rfl (by omega)).2 (by omega) dL_law__324 ?_
    refine l_callV F (k' := 7) (mc' := 0) [.int (xs (i + 1))] [] dL_law__325 rfl rfl (by decide) rfl cl_L_131 hy_X10_choir (by decide) (by omega) (by omega) (by decide) (Nat.le_of_ble_eq_true rfl) rfl (con_mono hc ?_ (fun _ _ h => h))
    rintro r w3 ⟨⟨v, rfl⟩, h0, hv⟩
    show ZL M G Qp (n + 1 + 0) (ns + 6 * 1 + 6 * 0) w3 328 [some (.ref b), some (.ref (G.2.1 0 0)), some (.ref (G.2.1 40 0)), some (.ref (G.2.1 80 0)), some (.int (nI i)), some (.int 1), none, none] [.int v]
    refine l_istore F dL_law__328 (by show 6 < 8; decide) ?_
    show ZL M G Qp (n + 1 + 0) (ns + 6 * 1 + 6 * 0) w3 330 [some (.ref b), some (.ref (G.2.1 0 0)), some (.ref (G.2.1 40 0)), some (.ref (G.2.1 80 0)), some (.int (nI i)), some (.int 1), some (.int v), none] []
    refine l_aload_n F dL_law__330 rfl ?_
    refine l_callV F (k' := 1) (mc' := 0) [] [] dL_law__331 rfl rfl (by decide) rfl cl_L_132 hy_X10_thrown (by decide) (by omega) (by omega) (by decide) (Nat.le_of_ble_eq_true rfl) rfl (e_X10_thrown hst (fun _ _ _ _ _ => ?_))
    show ZL M G Qp (n + 1 + 0 + 0) (ns + 6 * 1 + 6 * 0 + 6 * 0) w3 334 [some (.ref b), some (.ref (G.2.1 0 0)), some (.ref (G.2.1 40 0)), some (.ref (G.2.1 80 0)), some (.int (nI i)), some (.int 1), some (.int v), none] [.int (w3.1 40 0 0)]
    rw [h0]
    refine l_iload F dL_law__334 rfl ?_
    refine l_icmp_eq F 341 dL_law__336 (by decide) ⟨fun _ => ?_, fun hc => absurd rfl hc⟩
    refine l_iload F dL_law__341 rfl ?_
    refine l_if_ne F 358 dL_law__343 (by decide) ⟨fun _ => ?_, fun hc => absurd (show ¬ (1 : Int32) = 0 by decide) hc⟩
    refine l_goto F 2606 dL_law__358 (by decide) ?_
    exact l_weak (l_widen (hK w3 hv) (by omega) (by omega)) ⟨rfl, rfl, rfl, rfl, rfl, trivial⟩
theorem q_law (F : FL M G b L xs) (hi : i + 9 ≤ L) (hL : L ≤ 576) (hn : n + 16 ≤ 600128) (hns : ns + 96 ≤ 7301098)
    (h : C_X9_law (mL M) G w [.ref (G.2.1 0 0), .int (xs (i + 1))] (fun r w1 => ∃ v, r = some (.int v) ∧ C_X10_law (mL M) G (setL w1 80 0 0 v.toInt64) [.ref (G.2.1 40 0), .int (xs (i + 1))] (fun r2 w2 => r2 = some (.int v) ∧ w2.1 40 0 0 = 0 ∧ w2.2.1 80 0 0 = v.toInt64 ∧ INV w2) noX) (fun E w1 => E = nIae ∧ C_X10_law (mL M) G w1 [.ref (G.2.1 40 0), .int (xs (i + 1))] (fun r2 w2 => (∃ v, r2 = some (.int v)) ∧ w2.1 40 0 0 = 1 ∧ INV w2) noX))
    (hK : ∀ w2, INV w2 → ZL M G Qp (n + 16) (ns + 96) w2 2606 (lB G b i) []) : ZL M G Qp n ns w 361 (lB G b i) [] := by
  show ZL M G Qp n ns w 361 [some (.ref b), some (.ref (G.2.1 0 0)), some (.ref (G.2.1 40 0)), some (.ref (G.2.1 80 0)), some (.int (nI i)), none, none, none] []
  have hst : (mL M).stackTraces = false := F.2.2.2.2.2.2.2.2.1
  refine l_aload_n F dL_law__361 rfl ?_
  refine l_aload_n F dL_law__362 rfl ?_
  refine l_iload F dL_law__363 rfl ?_
  refine l_iconst F 1 dL_law__365 (by decide) ?_
  refine l_iadd F dL_law__366 ?_
  refine l_sld F (i + 1) (ix_at (c := 1) rfl (by omega)).1 (ix_at (c := 1) rfl (by omega)).2 (by omega) dL_law__367 ?_
  refine l_aload_n F dL_law__368 rfl ?_
  refine l_callH F (k' := 52) (mc' := 1) [.ref (G.2.1 0 0), .int (xs (i + 1)), .ref (G.2.1 80 0)] [] dL_law__369 rfl kL_law kY_law (by decide) (by omega) (by omega) (by decide) (Nat.le_of_ble_eq_true rfl) rfl (conH_mono (k_law hst F.2.2.2.2.2.2.2.2.2.2.2.2.2 h (fun r w2 h => ⟨h.choose, h.choose_spec.1⟩) (fun E w2 h => h.1)) ?_)
  rintro r w2 (⟨v, w1, ⟨v1, e1, hc⟩, rfl, rfl⟩ | ⟨hx, rfl⟩)
  · cases e1
    show ZL M G Qp (n + 1) (ns + 6 * 1) (setL w1 80 0 0 v.toInt64) 372 [some (.ref b), some (.ref (G.2.1 0 0)), some (.ref (G.2.1 40 0)), some (.ref (G.2.1 80 0)), some (.int (nI i)), none, none, none] [.int 0]
    refine l_istore F dL_law__372 (by show 5 < 8; decide) ?_
    show ZL M G Qp (n + 1) (ns + 6 * 1) (setL w1 80 0 0 v.toInt64) 374 [some (.ref b), some (.ref (G.2.1 0 0)), some (.ref (G.2.1 40 0)), some (.ref (G.2.1 80 0)), some (.int (nI i)), some (.int 0), none, none] []
    refine l_aload_n F dL_law__374 rfl ?_
    refine l_aload_n F dL_law__375 rfl ?_
    refine l_iload F dL_law__376 rfl ?_
    refine l_iconst F 1 dL_law__378 (by decide) ?_
    refine l_iadd F dL_law__379 ?_
    refine l_sld F (i + 1) (ix_at (c := 1) rfl (by omega)).1 (ix_at (c := 1) rfl (by omega)).2 (by omega) dL_law__380 ?_
    refine l_callV F (k' := 48) (mc' := 0) [.int (xs (i + 1))] [] dL_law__381 rfl rfl (by decide) rfl cl_L_138 hy_X10_law (by decide) (by omega) (by omega) (by decide) (Nat.le_of_ble_eq_true rfl) rfl (con_mono hc ?_ (fun _ _ h => h))
    rintro r w3 ⟨rfl, h0, h1, hv⟩
    show ZL M G Qp (n + 1 + 0) (ns + 6 * 1 + 6 * 0) w3 384 [some (.ref b), some (.ref (G.2.1 0 0)), some (.ref (G.2.1 40 0)), some (.ref (G.2.1 80 0)), some (.int (nI i)), some (.int 0), none, none] [.int v]
    refine l_istore F dL_law__384 (by show 6 < 8; decide) ?_
    show ZL M G Qp (n + 1 + 0) (ns + 6 * 1 + 6 * 0) w3 386 [some (.ref b), some (.ref (G.2.1 0 0)), some (.ref (G.2.1 40 0)), some (.ref (G.2.1 80 0)), some (.int (nI i)), some (.int 0), some (.int v), none] []
    refine l_aload_n F dL_law__386 rfl ?_
    refine l_callV F (k' := 1) (mc' := 0) [] [] dL_law__387 rfl rfl (by decide) rfl cl_L_132 hy_X10_thrown (by decide) (by omega) (by omega) (by decide) (Nat.le_of_ble_eq_true rfl) rfl (e_X10_thrown hst (fun _ _ _ _ _ => ?_))
    show ZL M G Qp (n + 1 + 0 + 0) (ns + 6 * 1 + 6 * 0 + 6 * 0) w3 390 [some (.ref b), some (.ref (G.2.1 0 0)), some (.ref (G.2.1 40 0)), some (.ref (G.2.1 80 0)), some (.int (nI i)), some (.int 0), some (.int v), none] [.int (w3.1 40 0 0)]
    rw [h0]
    refine l_iload F dL_law__390 rfl ?_
    refine l_icmp_eq F 397 dL_law__392 (by decide) ⟨fun _ => ?_, fun hc => absurd rfl hc⟩
    refine l_iload F dL_law__397 rfl ?_
    refine l_if_ne F 414 dL_law__399 (by decide) ⟨fun hc => absurd rfl hc, fun _ => ?_⟩
    refine l_aload_n F dL_law__402 rfl ?_
    refine l_iconst F 0 dL_law__403 (by decide) ?_
    refine l_out F dL_law__404 ?_
    refine l_iload F dL_law__405 rfl ?_
    refine l_i2l F dL_law__407 ?_
    refine l_lcmp F dL_law__408 ?_
    refine l_if_eq F 414 dL_law__409 (by decide) ⟨fun _ => ?_, fun hc => absurd (by rw [h1]; exact lg_cmp_self _) hc⟩
    refine l_goto F 2606 dL_law__414 (by decide) ?_
    exact l_weak (l_widen (hK w3 hv) (by omega) (by omega)) ⟨rfl, rfl, rfl, rfl, rfl, trivial⟩
  · have hc := hx.2
    show ZL M G Qp (n + 1) (ns + 6 * 1) w2 372 [some (.ref b), some (.ref (G.2.1 0 0)), some (.ref (G.2.1 40 0)), some (.ref (G.2.1 80 0)), some (.int (nI i)), none, none, none] [.int 1]
    refine l_istore F dL_law__372 (by show 5 < 8; decide) ?_
    show ZL M G Qp (n + 1) (ns + 6 * 1) w2 374 [some (.ref b), some (.ref (G.2.1 0 0)), some (.ref (G.2.1 40 0)), some (.ref (G.2.1 80 0)), some (.int (nI i)), some (.int 1), none, none] []
    refine l_aload_n F dL_law__374 rfl ?_
    refine l_aload_n F dL_law__375 rfl ?_
    refine l_iload F dL_law__376 rfl ?_
    refine l_iconst F 1 dL_law__378 (by decide) ?_
    refine l_iadd F dL_law__379 ?_
    refine l_sld F (i + 1) (ix_at (c := 1) rfl (by omega)).1 (ix_at (c := 1) rfl (by omega)).2 (by omega) dL_law__380 ?_
    refine l_callV F (k' := 48) (mc' := 0) [.int (xs (i + 1))] [] dL_law__381 rfl rfl (by decide) rfl cl_L_138 hy_X10_law (by decide) (by omega) (by omega) (by decide) (Nat.le_of_ble_eq_true rfl) rfl (con_mono hc ?_ (fun _ _ h => h))
    rintro r w3 ⟨⟨v, rfl⟩, h0, hv⟩
    show ZL M G Qp (n + 1 + 0) (ns + 6 * 1 + 6 * 0) w3 384 [some (.ref b), some (.ref (G.2.1 0 0)), some (.ref (G.2.1 40 0)), some (.ref (G.2.1 80 0)), some (.int (nI i)), some (.int 1), none, none] [.int v]
    refine l_istore F dL_law__384 (by show 6 < 8; decide) ?_
    show ZL M G Qp (n + 1 + 0) (ns + 6 * 1 + 6 * 0) w3 386 [some (.ref b), some (.ref (G.2.1 0 0)), some (.ref (G.2.1 40 0)), some (.ref (G.2.1 80 0)), some (.int (nI i)), some (.int 1), some (.int v), none] []
    refine l_aload_n F dL_law__386 rfl ?_
    refine l_callV F (k' := 1) (mc' := 0) [] [] dL_law__387 rfl rfl (by decide) rfl cl_L_132 hy_X10_thrown (by decide) (by omega) (by omega) (by decide) (Nat.le_of_ble_eq_true rfl) rfl (e_X10_thrown hst (fun _ _ _ _ _ => ?_))
    show ZL M G Qp (n + 1 + 0 + 0) (ns + 6 * 1 + 6 * 0 + 6 * 0) w3 390 [some (.ref b), some (.ref (G.2.1 0 0)), some (.ref (G.2.1 40 0)), some (.ref (G.2.1 80 0)), some (.int (nI i)), some (.int 1), some (.int v), none] [.int (w3.1 40 0 0)]
    rw [h0]
    refine l_iload F dL_law__390 rfl ?_
    refine l_icmp_eq F 397 dL_law__392 (by decide) ⟨fun _ => ?_, fun hc => absurd rfl hc⟩
    refine l_iload F dL_law__397 rfl ?_
    refine l_if_ne F 414 dL_law__399 (by decide) ⟨fun _ => ?_, fun hc => absurd (show ¬ (1 : Int32) = 0 by decide) hc⟩
    refine l_goto F 2606 dL_law__414 (by decide) ?_
    exact l_weak (l_widen (hK w3 hv) (by omega) (by omega)) ⟨rfl, rfl, rfl, rfl, rfl, trivial⟩
theorem q_work (F : FL M G b L xs) (hi : i + 9 ≤ L) (hL : L ≤ 576) (hn : n + 16 ≤ 600128) (hns : ns + 96 ≤ 7301098)
    (h : C_X9_work (mL M) G w [.ref (G.2.1 0 0), .int (xs (i + 1))] (fun r w1 => ∃ v, r = some (.int v) ∧ C_X10_work (mL M) G (setL w1 80 0 0 v.toInt64) [.ref (G.2.1 40 0), .int (xs (i + 1))] (fun r2 w2 => r2 = some (.int v) ∧ w2.1 40 0 0 = 0 ∧ w2.2.1 80 0 0 = v.toInt64 ∧ INV w2) noX) (fun E w1 => E = nIae ∧ C_X10_work (mL M) G w1 [.ref (G.2.1 40 0), .int (xs (i + 1))] (fun r2 w2 => (∃ v, r2 = some (.int v)) ∧ w2.1 40 0 0 = 1 ∧ INV w2) noX))
    (hK : ∀ w2, INV w2 → ZL M G Qp (n + 16) (ns + 96) w2 2606 (lB G b i) []) : ZL M G Qp n ns w 417 (lB G b i) [] := by
  show ZL M G Qp n ns w 417 [some (.ref b), some (.ref (G.2.1 0 0)), some (.ref (G.2.1 40 0)), some (.ref (G.2.1 80 0)), some (.int (nI i)), none, none, none] []
  have hst : (mL M).stackTraces = false := F.2.2.2.2.2.2.2.2.1
  refine l_aload_n F dL_law__417 rfl ?_
  refine l_aload_n F dL_law__418 rfl ?_
  refine l_iload F dL_law__419 rfl ?_
  refine l_iconst F 1 dL_law__421 (by decide) ?_
  refine l_iadd F dL_law__422 ?_
  refine l_sld F (i + 1) (ix_at (c := 1) rfl (by omega)).1 (ix_at (c := 1) rfl (by omega)).2 (by omega) dL_law__423 ?_
  refine l_aload_n F dL_law__424 rfl ?_
  refine l_callH F (k' := 52) (mc' := 1) [.ref (G.2.1 0 0), .int (xs (i + 1)), .ref (G.2.1 80 0)] [] dL_law__425 rfl kL_work kY_work (by decide) (by omega) (by omega) (by decide) (Nat.le_of_ble_eq_true rfl) rfl (conH_mono (k_work hst F.2.2.2.2.2.2.2.2.2.2.2.2.2 h (fun r w2 h => ⟨h.choose, h.choose_spec.1⟩) (fun E w2 h => h.1)) ?_)
  rintro r w2 (⟨v, w1, ⟨v1, e1, hc⟩, rfl, rfl⟩ | ⟨hx, rfl⟩)
  · cases e1
    show ZL M G Qp (n + 1) (ns + 6 * 1) (setL w1 80 0 0 v.toInt64) 428 [some (.ref b), some (.ref (G.2.1 0 0)), some (.ref (G.2.1 40 0)), some (.ref (G.2.1 80 0)), some (.int (nI i)), none, none, none] [.int 0]
    refine l_istore F dL_law__428 (by show 5 < 8; decide) ?_
    show ZL M G Qp (n + 1) (ns + 6 * 1) (setL w1 80 0 0 v.toInt64) 430 [some (.ref b), some (.ref (G.2.1 0 0)), some (.ref (G.2.1 40 0)), some (.ref (G.2.1 80 0)), some (.int (nI i)), some (.int 0), none, none] []
    refine l_aload_n F dL_law__430 rfl ?_
    refine l_aload_n F dL_law__431 rfl ?_
    refine l_iload F dL_law__432 rfl ?_
    refine l_iconst F 1 dL_law__434 (by decide) ?_
    refine l_iadd F dL_law__435 ?_
    refine l_sld F (i + 1) (ix_at (c := 1) rfl (by omega)).1 (ix_at (c := 1) rfl (by omega)).2 (by omega) dL_law__436 ?_
    refine l_callV F (k' := 51) (mc' := 0) [.int (xs (i + 1))] [] dL_law__437 rfl rfl (by decide) rfl cl_L_141 hy_X10_work (by decide) (by omega) (by omega) (by decide) (Nat.le_of_ble_eq_true rfl) rfl (con_mono hc ?_ (fun _ _ h => h))
    rintro r w3 ⟨rfl, h0, h1, hv⟩
    show ZL M G Qp (n + 1 + 0) (ns + 6 * 1 + 6 * 0) w3 440 [some (.ref b), some (.ref (G.2.1 0 0)), some (.ref (G.2.1 40 0)), some (.ref (G.2.1 80 0)), some (.int (nI i)), some (.int 0), none, none] [.int v]
    refine l_istore F dL_law__440 (by show 6 < 8; decide) ?_
    show ZL M G Qp (n + 1 + 0) (ns + 6 * 1 + 6 * 0) w3 442 [some (.ref b), some (.ref (G.2.1 0 0)), some (.ref (G.2.1 40 0)), some (.ref (G.2.1 80 0)), some (.int (nI i)), some (.int 0), some (.int v), none] []
    refine l_aload_n F dL_law__442 rfl ?_
    refine l_callV F (k' := 1) (mc' := 0) [] [] dL_law__443 rfl rfl (by decide) rfl cl_L_132 hy_X10_thrown (by decide) (by omega) (by omega) (by decide) (Nat.le_of_ble_eq_true rfl) rfl (e_X10_thrown hst (fun _ _ _ _ _ => ?_))
    show ZL M G Qp (n + 1 + 0 + 0) (ns + 6 * 1 + 6 * 0 + 6 * 0) w3 446 [some (.ref b), some (.ref (G.2.1 0 0)), some (.ref (G.2.1 40 0)), some (.ref (G.2.1 80 0)), some (.int (nI i)), some (.int 0), some (.int v), none] [.int (w3.1 40 0 0)]
    rw [h0]
    refine l_iload F dL_law__446 rfl ?_
    refine l_icmp_eq F 453 dL_law__448 (by decide) ⟨fun _ => ?_, fun hc => absurd rfl hc⟩
    refine l_iload F dL_law__453 rfl ?_
    refine l_if_ne F 470 dL_law__455 (by decide) ⟨fun hc => absurd rfl hc, fun _ => ?_⟩
    refine l_aload_n F dL_law__458 rfl ?_
    refine l_iconst F 0 dL_law__459 (by decide) ?_
    refine l_out F dL_law__460 ?_
    refine l_iload F dL_law__461 rfl ?_
    refine l_i2l F dL_law__463 ?_
    refine l_lcmp F dL_law__464 ?_
    refine l_if_eq F 470 dL_law__465 (by decide) ⟨fun _ => ?_, fun hc => absurd (by rw [h1]; exact lg_cmp_self _) hc⟩
    refine l_goto F 2606 dL_law__470 (by decide) ?_
    exact l_weak (l_widen (hK w3 hv) (by omega) (by omega)) ⟨rfl, rfl, rfl, rfl, rfl, trivial⟩
  · have hc := hx.2
    show ZL M G Qp (n + 1) (ns + 6 * 1) w2 428 [some (.ref b), some (.ref (G.2.1 0 0)), some (.ref (G.2.1 40 0)), some (.ref (G.2.1 80 0)), some (.int (nI i)), none, none, none] [.int 1]
    refine l_istore F dL_law__428 (by show 5 < 8; decide) ?_
    show ZL M G Qp (n + 1) (ns + 6 * 1) w2 430 [some (.ref b), some (.ref (G.2.1 0 0)), some (.ref (G.2.1 40 0)), some (.ref (G.2.1 80 0)), some (.int (nI i)), some (.int 1), none, none] []
    refine l_aload_n F dL_law__430 rfl ?_
    refine l_aload_n F dL_law__431 rfl ?_
    refine l_iload F dL_law__432 rfl ?_
    refine l_iconst F 1 dL_law__434 (by decide) ?_
    refine l_iadd F dL_law__435 ?_
    refine l_sld F (i + 1) (ix_at (c := 1) rfl (by omega)).1 (ix_at (c := 1) rfl (by omega)).2 (by omega) dL_law__436 ?_
    refine l_callV F (k' := 51) (mc' := 0) [.int (xs (i + 1))] [] dL_law__437 rfl rfl (by decide) rfl cl_L_141 hy_X10_work (by decide) (by omega) (by omega) (by decide) (Nat.le_of_ble_eq_true rfl) rfl (con_mono hc ?_ (fun _ _ h => h))
    rintro r w3 ⟨⟨v, rfl⟩, h0, hv⟩
    show ZL M G Qp (n + 1 + 0) (ns + 6 * 1 + 6 * 0) w3 440 [some (.ref b), some (.ref (G.2.1 0 0)), some (.ref (G.2.1 40 0)), some (.ref (G.2.1 80 0)), some (.int (nI i)), some (.int 1), none, none] [.int v]
    refine l_istore F dL_law__440 (by show 6 < 8; decide) ?_
    show ZL M G Qp (n + 1 + 0) (ns + 6 * 1 + 6 * 0) w3 442 [some (.ref b), some (.ref (G.2.1 0 0)), some (.ref (G.2.1 40 0)), some (.ref (G.2.1 80 0)), some (.int (nI i)), some (.int 1), some (.int v), none] []
    refine l_aload_n F dL_law__442 rfl ?_
    refine l_callV F (k' := 1) (mc' := 0) [] [] dL_law__443 rfl rfl (by decide) rfl cl_L_132 hy_X10_thrown (by decide) (by omega) (by omega) (by decide) (Nat.le_of_ble_eq_true rfl) rfl (e_X10_thrown hst (fun _ _ _ _ _ => ?_))
    show ZL M G Qp (n + 1 + 0 + 0) (ns + 6 * 1 + 6 * 0 + 6 * 0) w3 446 [some (.ref b), some (.ref (G.2.1 0 0)), some (.ref (G.2.1 40 0)), some (.ref (G.2.1 80 0)), some (.int (nI i)), some (.int 1), some (.int v), none] [.int (w3.1 40 0 0)]
    rw [h0]
    refine l_iload F dL_law__446 rfl ?_
    refine l_icmp_eq F 453 dL_law__448 (by decide) ⟨fun _ => ?_, fun hc => absurd rfl hc⟩
    refine l_iload F dL_law__453 rfl ?_
    refine l_if_ne F 470 dL_law__455 (by decide) ⟨fun _ => ?_, fun hc => absurd (show ¬ (1 : Int32) = 0 by decide) hc⟩
    refine l_goto F 2606 dL_law__470 (by decide) ?_
    exact l_weak (l_widen (hK w3 hv) (by omega) (by omega)) ⟨rfl, rfl, rfl, rfl, rfl, trivial⟩
theorem q_book (F : FL M G b L xs) (hi : i + 9 ≤ L) (hL : L ≤ 576) (hn : n + 16 ≤ 600128) (hns : ns + 96 ≤ 7301098)
    (h : C_X9_book (mL M) G w [.ref (G.2.1 0 0), .int (xs (i + 1))] (fun r w1 => ∃ v, r = some (.int v) ∧ C_X10_book (mL M) G (setL w1 80 0 0 v.toInt64) [.ref (G.2.1 40 0), .int (xs (i + 1))] (fun r2 w2 => r2 = some (.int v) ∧ w2.1 40 0 0 = 0 ∧ w2.2.1 80 0 0 = v.toInt64 ∧ INV w2) noX) (fun E w1 => E = nIae ∧ C_X10_book (mL M) G w1 [.ref (G.2.1 40 0), .int (xs (i + 1))] (fun r2 w2 => (∃ v, r2 = some (.int v)) ∧ w2.1 40 0 0 = 1 ∧ INV w2) noX))
    (hK : ∀ w2, INV w2 → ZL M G Qp (n + 16) (ns + 96) w2 2606 (lB G b i) []) : ZL M G Qp n ns w 473 (lB G b i) [] := by
  show ZL M G Qp n ns w 473 [some (.ref b), some (.ref (G.2.1 0 0)), some (.ref (G.2.1 40 0)), some (.ref (G.2.1 80 0)), some (.int (nI i)), none, none, none] []
  have hst : (mL M).stackTraces = false := F.2.2.2.2.2.2.2.2.1
  refine l_aload_n F dL_law__473 rfl ?_
  refine l_aload_n F dL_law__474 rfl ?_
  refine l_iload F dL_law__475 rfl ?_
  refine l_iconst F 1 dL_law__477 (by decide) ?_
  refine l_iadd F dL_law__478 ?_
  refine l_sld F (i + 1) (ix_at (c := 1) rfl (by omega)).1 (ix_at (c := 1) rfl (by omega)).2 (by omega) dL_law__479 ?_
  refine l_aload_n F dL_law__480 rfl ?_
  refine l_callH F (k' := 9) (mc' := 1) [.ref (G.2.1 0 0), .int (xs (i + 1)), .ref (G.2.1 80 0)] [] dL_law__481 rfl kL_book kY_book (by decide) (by omega) (by omega) (by decide) (Nat.le_of_ble_eq_true rfl) rfl (conH_mono (k_book hst F.2.2.2.2.2.2.2.2.2.2.2.2.2 h (fun r w2 h => ⟨h.choose, h.choose_spec.1⟩) (fun E w2 h => h.1)) ?_)
  rintro r w2 (⟨v, w1, ⟨v1, e1, hc⟩, rfl, rfl⟩ | ⟨hx, rfl⟩)
  · cases e1
    show ZL M G Qp (n + 1) (ns + 6 * 1) (setL w1 80 0 0 v.toInt64) 484 [some (.ref b), some (.ref (G.2.1 0 0)), some (.ref (G.2.1 40 0)), some (.ref (G.2.1 80 0)), some (.int (nI i)), none, none, none] [.int 0]
    refine l_istore F dL_law__484 (by show 5 < 8; decide) ?_
    show ZL M G Qp (n + 1) (ns + 6 * 1) (setL w1 80 0 0 v.toInt64) 486 [some (.ref b), some (.ref (G.2.1 0 0)), some (.ref (G.2.1 40 0)), some (.ref (G.2.1 80 0)), some (.int (nI i)), some (.int 0), none, none] []
    refine l_aload_n F dL_law__486 rfl ?_
    refine l_aload_n F dL_law__487 rfl ?_
    refine l_iload F dL_law__488 rfl ?_
    refine l_iconst F 1 dL_law__490 (by decide) ?_
    refine l_iadd F dL_law__491 ?_
    refine l_sld F (i + 1) (ix_at (c := 1) rfl (by omega)).1 (ix_at (c := 1) rfl (by omega)).2 (by omega) dL_law__492 ?_
    refine l_callV F (k' := 4) (mc' := 0) [.int (xs (i + 1))] [] dL_law__493 rfl rfl (by decide) rfl cl_L_144 hy_X10_book (by decide) (by omega) (by omega) (by decide) (Nat.le_of_ble_eq_true rfl) rfl (con_mono hc ?_ (fun _ _ h => h))
    rintro r w3 ⟨rfl, h0, h1, hv⟩
    show ZL M G Qp (n + 1 + 0) (ns + 6 * 1 + 6 * 0) w3 496 [some (.ref b), some (.ref (G.2.1 0 0)), some (.ref (G.2.1 40 0)), some (.ref (G.2.1 80 0)), some (.int (nI i)), some (.int 0), none, none] [.int v]
    refine l_istore F dL_law__496 (by show 6 < 8; decide) ?_
    show ZL M G Qp (n + 1 + 0) (ns + 6 * 1 + 6 * 0) w3 498 [some (.ref b), some (.ref (G.2.1 0 0)), some (.ref (G.2.1 40 0)), some (.ref (G.2.1 80 0)), some (.int (nI i)), some (.int 0), some (.int v), none] []
    refine l_aload_n F dL_law__498 rfl ?_
    refine l_callV F (k' := 1) (mc' := 0) [] [] dL_law__499 rfl rfl (by decide) rfl cl_L_132 hy_X10_thrown (by decide) (by omega) (by omega) (by decide) (Nat.le_of_ble_eq_true rfl) rfl (e_X10_thrown hst (fun _ _ _ _ _ => ?_))
    show ZL M G Qp (n + 1 + 0 + 0) (ns + 6 * 1 + 6 * 0 + 6 * 0) w3 502 [some (.ref b), some (.ref (G.2.1 0 0)), some (.ref (G.2.1 40 0)), some (.ref (G.2.1 80 0)), some (.int (nI i)), some (.int 0), some (.int v), none] [.int (w3.1 40 0 0)]
    rw [h0]
    refine l_iload F dL_law__502 rfl ?_
    refine l_icmp_eq F 509 dL_law__504 (by decide) ⟨fun _ => ?_, fun hc => absurd rfl hc⟩
    refine l_iload F dL_law__509 rfl ?_
    refine l_if_ne F 526 dL_law__511 (by decide) ⟨fun hc => absurd rfl hc, fun _ => ?_⟩
    refine l_aload_n F dL_law__514 rfl ?_
    refine l_iconst F 0 dL_law__515 (by decide) ?_
    refine l_out F dL_law__516 ?_
    refine l_iload F dL_law__517 rfl ?_
    refine l_i2l F dL_law__519 ?_
    refine l_lcmp F dL_law__520 ?_
    refine l_if_eq F 526 dL_law__521 (by decide) ⟨fun _ => ?_, fun hc => absurd (by rw [h1]; exact lg_cmp_self _) hc⟩
    refine l_goto F 2606 dL_law__526 (by decide) ?_
    exact l_weak (l_widen (hK w3 hv) (by omega) (by omega)) ⟨rfl, rfl, rfl, rfl, rfl, trivial⟩
  · have hc := hx.2
    show ZL M G Qp (n + 1) (ns + 6 * 1) w2 484 [some (.ref b), some (.ref (G.2.1 0 0)), some (.ref (G.2.1 40 0)), some (.ref (G.2.1 80 0)), some (.int (nI i)), none, none, none] [.int 1]
    refine l_istore F dL_law__484 (by show 5 < 8; decide) ?_
    show ZL M G Qp (n + 1) (ns + 6 * 1) w2 486 [some (.ref b), some (.ref (G.2.1 0 0)), some (.ref (G.2.1 40 0)), some (.ref (G.2.1 80 0)), some (.int (nI i)), some (.int 1), none, none] []
    refine l_aload_n F dL_law__486 rfl ?_
    refine l_aload_n F dL_law__487 rfl ?_
    refine l_iload F dL_law__488 rfl ?_
    refine l_iconst F 1 dL_law__490 (by decide) ?_
    refine l_iadd F dL_law__491 ?_
    refine l_sld F (i + 1) (ix_at (c := 1) rfl (by omega)).1 (ix_at (c := 1) rfl (by omega)).2 (by omega) dL_law__492 ?_
    refine l_callV F (k' := 4) (mc' := 0) [.int (xs (i + 1))] [] dL_law__493 rfl rfl (by decide) rfl cl_L_144 hy_X10_book (by decide) (by omega) (by omega) (by decide) (Nat.le_of_ble_eq_true rfl) rfl (con_mono hc ?_ (fun _ _ h => h))
    rintro r w3 ⟨⟨v, rfl⟩, h0, hv⟩
    show ZL M G Qp (n + 1 + 0) (ns + 6 * 1 + 6 * 0) w3 496 [some (.ref b), some (.ref (G.2.1 0 0)), some (.ref (G.2.1 40 0)), some (.ref (G.2.1 80 0)), some (.int (nI i)), some (.int 1), none, none] [.int v]
    refine l_istore F dL_law__496 (by show 6 < 8; decide) ?_
    show ZL M G Qp (n + 1 + 0) (ns + 6 * 1 + 6 * 0) w3 498 [some (.ref b), some (.ref (G.2.1 0 0)), some (.ref (G.2.1 40 0)), some (.ref (G.2.1 80 0)), some (.int (nI i)), some (.int 1), some (.int v), none] []
    refine l_aload_n F dL_law__498 rfl ?_
    refine l_callV F (k' := 1) (mc' := 0) [] [] dL_law__499 rfl rfl (by decide) rfl cl_L_132 hy_X10_thrown (by decide) (by omega) (by omega) (by decide) (Nat.le_of_ble_eq_true rfl) rfl (e_X10_thrown hst (fun _ _ _ _ _ => ?_))
    show ZL M G Qp (n + 1 + 0 + 0) (ns + 6 * 1 + 6 * 0 + 6 * 0) w3 502 [some (.ref b), some (.ref (G.2.1 0 0)), some (.ref (G.2.1 40 0)), some (.ref (G.2.1 80 0)), some (.int (nI i)), some (.int 1), some (.int v), none] [.int (w3.1 40 0 0)]
    rw [h0]
    refine l_iload F dL_law__502 rfl ?_
    refine l_icmp_eq F 509 dL_law__504 (by decide) ⟨fun _ => ?_, fun hc => absurd rfl hc⟩
    refine l_iload F dL_law__509 rfl ?_
    refine l_if_ne F 526 dL_law__511 (by decide) ⟨fun _ => ?_, fun hc => absurd (show ¬ (1 : Int32) = 0 by decide) hc⟩
    refine l_goto F 2606 dL_law__526 (by decide) ?_
    exact l_weak (l_widen (hK w3 hv) (by omega) (by omega)) ⟨rfl, rfl, rfl, rfl, rfl, trivial⟩
theorem q_fault (F : FL M G b L xs) (hi : i + 9 ≤ L) (hL : L ≤ 576) (hn : n + 16 ≤ 600128) (hns : ns + 96 ≤ 7301098)
    (h : C_X9_fault (mL M) G w [.ref (G.2.1 0 0)] (fun r w1 => ∃ v, r = some (.int v) ∧ C_X10_fault (mL M) G w1 [.ref (G.2.1 40 0)] (fun r2 w2 => r2 = some (.int v) ∧ INV w2) noX) noX)
    (hK : ∀ w2, INV w2 → ZL M G Qp (n + 16) (ns + 96) w2 2606 (lB G b i) []) : ZL M G Qp n ns w 529 (lB G b i) [] := by
  show ZL M G Qp n ns w 529 [some (.ref b), some (.ref (G.2.1 0 0)), some (.ref (G.2.1 40 0)), some (.ref (G.2.1 80 0)), some (.int (nI i)), none, none, none] []
  refine l_aload_n F dL_law__529 rfl ?_
  refine l_callV F (k' := 1) (mc' := 0) [] [] dL_law__530 rfl rfl (by decide) rfl cl_L_145 hy_X9_fault (by decide) (by omega) (by omega) (by decide) (Nat.le_of_ble_eq_true rfl) rfl (con_mono h ?_ (fun _ _ h => h))
  rintro r w1 ⟨v, rfl, hc⟩
  show ZL M G Qp (n + 0) (ns + 6 * 0) w1 533 [some (.ref b), some (.ref (G.2.1 0 0)), some (.ref (G.2.1 40 0)), some (.ref (G.2.1 80 0)), some (.int (nI i)), none, none, none] [.int v]
  refine l_aload_n F dL_law__533 rfl ?_
  refine l_callV F (k' := 1) (mc' := 0) [] [.int v] dL_law__534 rfl rfl (by decide) rfl cl_L_148 hy_X10_fault (by decide) (by omega) (by omega) (by decide) (Nat.le_of_ble_eq_true rfl) rfl (con_mono hc ?_ (fun _ _ h => h))
  rintro r w3 ⟨rfl, hv⟩
  show ZL M G Qp (n + 0 + 0) (ns + 6 * 0 + 6 * 0) w3 537 [some (.ref b), some (.ref (G.2.1 0 0)), some (.ref (G.2.1 40 0)), some (.ref (G.2.1 80 0)), some (.int (nI i)), none, none, none] [.int v, .int v]
  refine l_icmp_eq F 2606 dL_law__537 (by decide) ⟨fun _ => ?_, fun hc => absurd rfl hc⟩
  exact l_weak (l_widen (hK w3 hv) (by omega) (by omega)) ⟨rfl, rfl, rfl, rfl, rfl, trivial⟩
theorem q_undo (F : FL M G b L xs) (hi : i + 9 ≤ L) (hL : L ≤ 576) (hn : n + 16 ≤ 600128) (hns : ns + 96 ≤ 7301098)
    (h : C_X9_undo (mL M) G w [.ref (G.2.1 0 0)] (fun r w1 => ∃ v, r = some (.int v) ∧ C_X10_undo (mL M) G w1 [.ref (G.2.1 40 0)] (fun r2 w2 => r2 = some (.int v) ∧ INV w2) noX) noX)
    (hK : ∀ w2, INV w2 → ZL M G Qp (n + 16) (ns + 96) w2 2606 (lB G b i) []) : ZL M G Qp n ns w 542 (lB G b i) [] := by
  show ZL M G Qp n ns w 542 [some (.ref b), some (.ref (G.2.1 0 0)), some (.ref (G.2.1 40 0)), some (.ref (G.2.1 80 0)), some (.int (nI i)), none, none, none] []
  refine l_aload_n F dL_law__542 rfl ?_
  refine l_callV F (k' := 5) (mc' := 0) [] [] dL_law__543 rfl rfl (by decide) rfl cl_L_149 hy_X9_undo (by decide) (by omega) (by omega) (by decide) (Nat.le_of_ble_eq_true rfl) rfl (con_mono h ?_ (fun _ _ h => h))
  rintro r w1 ⟨v, rfl, hc⟩
  show ZL M G Qp (n + 0) (ns + 6 * 0) w1 546 [some (.ref b), some (.ref (G.2.1 0 0)), some (.ref (G.2.1 40 0)), some (.ref (G.2.1 80 0)), some (.int (nI i)), none, none, none] [.int v]
  refine l_aload_n F dL_law__546 rfl ?_
  refine l_callV F (k' := 2) (mc' := 0) [] [.int v] dL_law__547 rfl rfl (by decide) rfl cl_L_152 hy_X10_undo (by decide) (by omega) (by omega) (by decide) (Nat.le_of_ble_eq_true rfl) rfl (con_mono hc ?_ (fun _ _ h => h))
  rintro r w3 ⟨rfl, hv⟩
  show ZL M G Qp (n + 0 + 0) (ns + 6 * 0 + 6 * 0) w3 550 [some (.ref b), some (.ref (G.2.1 0 0)), some (.ref (G.2.1 40 0)), some (.ref (G.2.1 80 0)), some (.int (nI i)), none, none, none] [.int v, .int v]
  refine l_icmp_eq F 2606 dL_law__550 (by decide) ⟨fun _ => ?_, fun hc => absurd rfl hc⟩
  exact l_weak (l_widen (hK w3 hv) (by omega) (by omega)) ⟨rfl, rfl, rfl, rfl, rfl, trivial⟩
theorem q_told (F : FL M G b L xs) (hi : i + 9 ≤ L) (hL : L ≤ 576) (hn : n + 16 ≤ 600128) (hns : ns + 96 ≤ 7301098)
    (h : C_X9_told (mL M) G w [.ref (G.2.1 0 0), .int (xs (i + 1))] (fun r w1 => ∃ v, r = some (.int v) ∧ C_X10_told (mL M) G (setL w1 80 0 0 v.toInt64) [.ref (G.2.1 40 0), .int (xs (i + 1))] (fun r2 w2 => r2 = some (.int v) ∧ w2.1 40 0 0 = 0 ∧ w2.2.1 80 0 0 = v.toInt64 ∧ INV w2) noX) (fun E w1 => E = nIae ∧ C_X10_told (mL M) G w1 [.ref (G.2.1 40 0), .int (xs (i + 1))] (fun r2 w2 => (∃ v, r2 = some (.int v)) ∧ w2.1 40 0 0 = 1 ∧ INV w2) noX))
    (hK : ∀ w2, INV w2 → ZL M G Qp (n + 16) (ns + 96) w2 2606 (lB G b i) []) : ZL M G Qp n ns w 555 (lB G b i) [] := by
  show ZL M G Qp n ns w 555 [some (.ref b), some (.ref (G.2.1 0 0)), some (.ref (G.2.1 40 0)), some (.ref (G.2.1 80 0)), some (.int (nI i)), none, none, none] []
  have hst : (mL M).stackTraces = false := F.2.2.2.2.2.2.2.2.1
  refine l_aload_n F dL_law__555 rfl ?_
  refine l_aload_n F dL_law__556 rfl ?_
  refine l_iload F dL_law__557 rfl ?_
  refine l_iconst F 1 dL_law__559 (by decide) ?_
  refine l_iadd F dL_law__560 ?_
  refine l_sld F (i + 1) (ix_at (c := 1) rfl (by omega)).1 (ix_at (c := 1) rfl (by omega)).2 (by omega) dL_law__561 ?_
  refine l_aload_n F dL_law__562 rfl ?_
  refine l_callH F (k' := 8) (mc' := 1) [.ref (G.2.1 0 0), .int (xs (i + 1)), .ref (G.2.1 80 0)] [] dL_law__563 rfl kL_told kY_told (by decide) (by omega) (by omega) (by decide) (Nat.le_of_ble_eq_true rfl) rfl (conH_mono (k_told hst F.2.2.2.2.2.2.2.2.2.2.2.2.2 h (fun r w2 h => ⟨h.choose, h.choose_spec.1⟩) (fun E w2 h => h.1)) ?_)
  rintro r w2 (⟨v, w1, ⟨v1, e1, hc⟩, rfl, rfl⟩ | ⟨hx, rfl⟩)
  · cases e1
    show ZL M G Qp (n + 1) (ns + 6 * 1) (setL w1 80 0 0 v.toInt64) 566 [some (.ref b), some (.ref (G.2.1 0 0)), some (.ref (G.2.1 40 0)), some (.ref (G.2.1 80 0)), some (.int (nI i)), none, none, none] [.int 0]
    refine l_istore F dL_law__566 (by show 5 < 8; decide) ?_
    show ZL M G Qp (n + 1) (ns + 6 * 1) (setL w1 80 0 0 v.toInt64) 568 [some (.ref b), some (.ref (G.2.1 0 0)), some (.ref (G.2.1 40 0)), some (.ref (G.2.1 80 0)), some (.int (nI i)), some (.int 0), none, none] []
    refine l_aload_n F dL_law__568 rfl ?_
    refine l_aload_n F dL_law__569 rfl ?_
    refine l_iload F dL_law__570 rfl ?_
    refine l_iconst F 1 dL_law__572 (by decide) ?_
    refine l_iadd F dL_law__573 ?_
    refine l_sld F (i + 1) (ix_at (c := 1) rfl (by omega)).1 (ix_at (c := 1) rfl (by omega)).2 (by omega) dL_law__574 ?_
    refine l_callV F (k' := 2) (mc' := 0) [.int (xs (i + 1))] [] dL_law__575 rfl rfl (by decide) rfl cl_L_155 hy_X10_told (by decide) (by omega) (by omega) (by decide) (Nat.le_of_ble_eq_true rfl) rfl (con_mono hc ?_ (fun _ _ h => h))
    rintro r w3 ⟨rfl, h0, h1, hv⟩
    show ZL M G Qp (n + 1 + 0) (ns + 6 * 1 + 6 * 0) w3 578 [some (.ref b), some (.ref (G.2.1 0 0)), some (.ref (G.2.1 40 0)), some (.ref (G.2.1 80 0)), some (.int (nI i)), some (.int 0), none, none] [.int v]
    refine l_istore F dL_law__578 (by show 6 < 8; decide) ?_
    show ZL M G Qp (n + 1 + 0) (ns + 6 * 1 + 6 * 0) w3 580 [some (.ref b), some (.ref (G.2.1 0 0)), some (.ref (G.2.1 40 0)), some (.ref (G.2.1 80 0)), some (.int (nI i)), some (.int 0), some (.int v), none] []
    refine l_aload_n F dL_law__580 rfl ?_
    refine l_callV F (k' := 1) (mc' := 0) [] [] dL_law__581 rfl rfl (by decide) rfl cl_L_132 hy_X10_thrown (by decide) (by omega) (by omega) (by decide) (Nat.le_of_ble_eq_true rfl) rfl (e_X10_thrown hst (fun _ _ _ _ _ => ?_))
    show ZL M G Qp (n + 1 + 0 + 0) (ns + 6 * 1 + 6 * 0 + 6 * 0) w3 584 [some (.ref b), some (.ref (G.2.1 0 0)), some (.ref (G.2.1 40 0)), some (.ref (G.2.1 80 0)), some (.int (nI i)), some (.int 0), some (.int v), none] [.int (w3.1 40 0 0)]
    rw [h0]
    refine l_iload F dL_law__584 rfl ?_
    refine l_icmp_eq F 591 dL_law__586 (by decide) ⟨fun _ => ?_, fun hc => absurd rfl hc⟩
    refine l_iload F dL_law__591 rfl ?_
    refine l_if_ne F 608 dL_law__593 (by decide) ⟨fun hc => absurd rfl hc, fun _ => ?_⟩
    refine l_aload_n F dL_law__596 rfl ?_
    refine l_iconst F 0 dL_law__597 (by decide) ?_
    refine l_out F dL_law__598 ?_
    refine l_iload F dL_law__599 rfl ?_
    refine l_i2l F dL_law__601 ?_
    refine l_lcmp F dL_law__602 ?_
    refine l_if_eq F 608 dL_law__603 (by decide) ⟨fun _ => ?_, fun hc => absurd (by rw [h1]; exact lg_cmp_self _) hc⟩
    refine l_goto F 2606 dL_law__608 (by decide) ?_
    exact l_weak (l_widen (hK w3 hv) (by omega) (by omega)) ⟨rfl, rfl, rfl, rfl, rfl, trivial⟩
  · have hc := hx.2
    show ZL M G Qp (n + 1) (ns + 6 * 1) w2 566 [some (.ref b), some (.ref (G.2.1 0 0)), some (.ref (G.2.1 40 0)), some (.ref (G.2.1 80 0)), some (.int (nI i)), none, none, none] [.int 1]
    refine l_istore F dL_law__566 (by show 5 < 8; decide) ?_
    show ZL M G Qp (n + 1) (ns + 6 * 1) w2 568 [some (.ref b), some (.ref (G.2.1 0 0)), some (.ref (G.2.1 40 0)), some (.ref (G.2.1 80 0)), some (.int (nI i)), some (.int 1), none, none] []
    refine l_aload_n F dL_law__568 rfl ?_
    refine l_aload_n F dL_law__569 rfl ?_
    refine l_iload F dL_law__570 rfl ?_
    refine l_iconst F 1 dL_law__572 (by decide) ?_
    refine l_iadd F dL_law__573 ?_
    refine l_sld F (i + 1) (ix_at (c := 1) rfl (by omega)).1 (ix_at (c := 1) rfl (by omega)).2 (by omega) dL_law__574 ?_
    refine l_callV F (k' := 2) (mc' := 0) [.int (xs (i + 1))] [] dL_law__575 rfl rfl (by decide) rfl cl_L_155 hy_X10_told (by decide) (by omega) (by omega) (by decide) (Nat.le_of_ble_eq_true rfl) rfl (con_mono hc ?_ (fun _ _ h => h))
    rintro r w3 ⟨⟨v, rfl⟩, h0, hv⟩
    show ZL M G Qp (n + 1 + 0) (ns + 6 * 1 + 6 * 0) w3 578 [some (.ref b), some (.ref (G.2.1 0 0)), some (.ref (G.2.1 40 0)), some (.ref (G.2.1 80 0)), some (.int (nI i)), some (.int 1), none, none] [.int v]
    refine l_istore F dL_law__578 (by show 6 < 8; decide) ?_
    show ZL M G Qp (n + 1 + 0) (ns + 6 * 1 + 6 * 0) w3 580 [some (.ref b), some (.ref (G.2.1 0 0)), some (.ref (G.2.1 40 0)), some (.ref (G.2.1 80 0)), some (.int (nI i)), some (.int 1), some (.int v), none] []
    refine l_aload_n F dL_law__580 rfl ?_
    refine l_callV F (k' := 1) (mc' := 0) [] [] dL_law__581 rfl rfl (by decide) rfl cl_L_132 hy_X10_thrown (by decide) (by omega) (by omega) (by decide) (Nat.le_of_ble_eq_true rfl) rfl (e_X10_thrown hst (fun _ _ _ _ _ => ?_))
    show ZL M G Qp (n + 1 + 0 + 0) (ns + 6 * 1 + 6 * 0 + 6 * 0) w3 584 [some (.ref b), some (.ref (G.2.1 0 0)), some (.ref (G.2.1 40 0)), some (.ref (G.2.1 80 0)), some (.int (nI i)), some (.int 1), some (.int v), none] [.int (w3.1 40 0 0)]
    rw [h0]
    refine l_iload F dL_law__584 rfl ?_
    refine l_icmp_eq F 591 dL_law__586 (by decide) ⟨fun _ => ?_, fun hc => absurd rfl hc⟩
    refine l_iload F dL_law__591 rfl ?_
    refine l_if_ne F 608 dL_law__593 (by decide) ⟨fun _ => ?_, fun hc => absurd (show ¬ (1 : Int32) = 0 by decide) hc⟩
    refine l_goto F 2606 dL_law__608 (by decide) ?_
    exact l_weak (l_widen (hK w3 hv) (by omega) (by omega)) ⟨rfl, rfl, rfl, rfl, rfl, trivial⟩
theorem q_singer (F : FL M G b L xs) (hi : i + 9 ≤ L) (hL : L ≤ 576) (hn : n + 16 ≤ 600128) (hns : ns + 96 ≤ 7301098)
    (h : C_X9_singer (mL M) G w [.ref (G.2.1 0 0), .int (xs (i + 1)), .int (xs (i + 2))] (fun r w1 => ∃ v, r = some (.int v) ∧ C_X10_singer (mL M) G (setL w1 80 0 0 v.toInt64) [.ref (G.2.1 40 0), .int (xs (i + 1)), .int (xs (i + 2))] (fun r2 w2 => r2 = some (.int v) ∧ w2.1 40 0 0 = 0 ∧ w2.2.1 80 0 0 = v.toInt64 ∧ INV w2) noX) (fun E w1 => (E = nNse ∧ C_X10_singer (mL M) G w1 [.ref (G.2.1 40 0), .int (xs (i + 1)), .int (xs (i + 2))] (fun r2 w2 => (∃ v, r2 = some (.int v)) ∧ w2.1 40 0 0 = 1 ∧ INV w2) noX) ∨ (E = nIae ∧ C_X10_singer (mL M) G w1 [.ref (G.2.1 40 0), .int (xs (i + 1)), .int (xs (i + 2))] (fun r2 w2 => (∃ v, r2 = some (.int v)) ∧ w2.1 40 0 0 = 2 ∧ INV w2) noX)))
    (hK : ∀ w2, INV w2 → ZL M G Qp (n + 16) (ns + 96) w2 2606 (lB G b i) []) : ZL M G Qp n ns w 611 (lB G b i) [] := by
  show ZL M G Qp n ns w 611 [some (.ref b), some (.ref (G.2.1 0 0)), some (.ref (G.2.1 40 0)), some (.ref (G.2.1 80 0)), some (.int (nI i)), none, none, none] []
  have hst : (mL M).stackTraces = false := F.2.2.2.2.2.2.2.2.1
  refine l_aload_n F dL_law__611 rfl ?_
  refine l_aload_n F dL_law__612 rfl ?_
  refine l_iload F dL_law__613 rfl ?_
  refine l_iconst F 1 dL_law__615 (by decide) ?_
  refine l_iadd F dL_law__616 ?_
  refine l_sld F (i + 1) (ix_at (c := 1) rfl (by omega)).1 (ix_at (c := 1) rfl (by omega)).2 (by omega) dL_law__617 ?_
  refine l_aload_n F dL_law__618 rfl ?_
  refine l_iload F dL_law__619 rfl ?_
  refine l_iconst F 2 dL_law__621 (by decide) ?_
  refine l_iadd F dL_law__622 ?_
  refine l_sld F (i + 2) (ix_at (c := 2) rfl (by omega)).1 (ix_at (c := 2) rfl (by omega)).2 (by omega) dL_law__623 ?_
  refine l_aload_n F dL_law__624 rfl ?_
  refine l_callH F (k' := 8) (mc' := 2) [.ref (G.2.1 0 0), .int (xs (i + 1)), .int (xs (i + 2)), .ref (G.2.1 80 0)] [] dL_law__625 rfl kL_singer kY_singer (by decide) (by omega) (by omega) (by decide) (Nat.le_of_ble_eq_true rfl) rfl (conH_mono (k_singer hst F.2.2.2.2.2.2.2.2.2.2.2.2.2 h (fun r w2 h => ⟨h.choose, h.choose_spec.1⟩) (fun E w2 h => h.elim (fun q => Or.inl q.1) (fun q => Or.inr q.1))) ?_)
  rintro r w2 (⟨v, w1, ⟨v1, e1, hc⟩, rfl, rfl⟩ | ⟨hx, rfl⟩ | ⟨hx, rfl⟩)
  · cases e1
    show ZL M G Qp (n + 2) (ns + 6 * 2) (setL w1 80 0 0 v.toInt64) 628 [some (.ref b), some (.ref (G.2.1 0 0)), some (.ref (G.2.1 40 0)), some (.ref (G.2.1 80 0)), some (.int (nI i)), none, none, none] [.int 0]
    refine l_istore F dL_law__628 (by show 5 < 8; decide) ?_
    show ZL M G Qp (n + 2) (ns + 6 * 2) (setL w1 80 0 0 v.toInt64) 630 [some (.ref b), some (.ref (G.2.1 0 0)), some (.ref (G.2.1 40 0)), some (.ref (G.2.1 80 0)), some (.int (nI i)), some (.int 0), none, none] []
    refine l_aload_n F dL_law__630 rfl ?_
    refine l_aload_n F dL_law__631 rfl ?_
    refine l_iload F dL_law__632 rfl ?_
    refine l_iconst F 1 dL_law__634 (by decide) ?_
    refine l_iadd F dL_law__635 ?_
    refine l_sld F (i + 1) (ix_at (c := 1) rfl (by omega)).1 (ix_at (c := 1) rfl (by omega)).2 (by omega) dL_law__636 ?_
    refine l_aload_n F dL_law__637 rfl ?_
    refine l_iload F dL_law__638 rfl ?_
    refine l_iconst F 2 dL_law__640 (by decide) ?_
    refine l_iadd F dL_law__641 ?_
    refine l_sld F (i + 2) (ix_at (c := 2) rfl (by omega)).1 (ix_at (c := 2) rfl (by omega)).2 (by omega) dL_law__642 ?_
    refine l_callV F (k' := 3) (mc' := 0) [.int (xs (i + 1)), .int (xs (i + 2))] [] dL_law__643 rfl rfl (by decide) rfl cl_L_159 hy_X10_singer (by decide) (by omega) (by omega) (by decide) (Nat.le_of_ble_eq_true rfl) rfl (con_mono hc ?_ (fun _ _ h => h))
    rintro r w3 ⟨rfl, h0, h1, hv⟩
    show ZL M G Qp (n + 2 + 0) (ns + 6 * 2 + 6 * 0) w3 646 [some (.ref b), some (.ref (G.2.1 0 0)), some (.ref (G.2.1 40 0)), some (.ref (G.2.1 80 0)), some (.int (nI i)), some (.int 0), none, none] [.int v]
    refine l_istore F dL_law__646 (by show 6 < 8; decide) ?_
    show ZL M G Qp (n + 2 + 0) (ns + 6 * 2 + 6 * 0) w3 648 [some (.ref b), some (.ref (G.2.1 0 0)), some (.ref (G.2.1 40 0)), some (.ref (G.2.1 80 0)), some (.int (nI i)), some (.int 0), some (.int v), none] []
    refine l_aload_n F dL_law__648 rfl ?_
    refine l_callV F (k' := 1) (mc' := 0) [] [] dL_law__649 rfl rfl (by decide) rfl cl_L_132 hy_X10_thrown (by decide) (by omega) (by omega) (by decide) (Nat.le_of_ble_eq_true rfl) rfl (e_X10_thrown hst (fun _ _ _ _ _ => ?_))
    show ZL M G Qp (n + 2 + 0 + 0) (ns + 6 * 2 + 6 * 0 + 6 * 0) w3 652 [some (.ref b), some (.ref (G.2.1 0 0)), some (.ref (G.2.1 40 0)), some (.ref (G.2.1 80 0)), some (.int (nI i)), some (.int 0), some (.int v), none] [.int (w3.1 40 0 0)]
    rw [h0]
    refine l_iload F dL_law__652 rfl ?_
    refine l_icmp_eq F 659 dL_law__654 (by decide) ⟨fun _ => ?_, fun hc => absurd rfl hc⟩
    refine l_iload F dL_law__659 rfl ?_
    refine l_if_ne F 676 dL_law__661 (by decide) ⟨fun hc => absurd rfl hc, fun _ => ?_⟩
    refine l_aload_n F dL_law__664 rfl ?_
    refine l_iconst F 0 dL_law__665 (by decide) ?_
    refine l_out F dL_law__666 ?_
    refine l_iload F dL_law__667 rfl ?_
    refine l_i2l F dL_law__669 ?_
    refine l_lcmp F dL_law__670 ?_
    refine l_if_eq F 676 dL_law__671 (by decide) ⟨fun _ => ?_, fun hc => absurd (by rw [h1]; exact lg_cmp_self _) hc⟩
    refine l_goto F 2606 dL_law__676 (by decide) ?_
    exact l_weak (l_widen (hK w3 hv) (by omega) (by omega)) ⟨rfl, rfl, rfl, rfl, rfl, trivial⟩
  · have hc := hx.elim (fun q => q.2) (fun q => absurd q.1 (by decide))
    show ZL M G Qp (n + 2) (ns + 6 * 2) w2 628 [some (.ref b), some (.ref (G.2.1 0 0)), some (.ref (G.2.1 40 0)), some (.ref (G.2.1 80 0)), some (.int (nI i)), none, none, none] [.int 1]
    refine l_istore F dL_law__628 (by show 5 < 8; decide) ?_
    show ZL M G Qp (n + 2) (ns + 6 * 2) w2 630 [some (.ref b), some (.ref (G.2.1 0 0)), some (.ref (G.2.1 40 0)), some (.ref (G.2.1 80 0)), some (.int (nI i)), some (.int 1), none, none] []
    refine l_aload_n F dL_law__630 rfl ?_
    refine l_aload_n F dL_law__631 rfl ?_
    refine l_iload F dL_law__632 rfl ?_
    refine l_iconst F 1 dL_law__634 (by decide) ?_
    refine l_iadd F dL_law__635 ?_
    refine l_sld F (i + 1) (ix_at (c := 1) rfl (by omega)).1 (ix_at (c := 1) rfl (by omega)).2 (by omega) dL_law__636 ?_
    refine l_aload_n F dL_law__637 rfl ?_
    refine l_iload F dL_law__638 rfl ?_
    refine l_iconst F 2 dL_law__640 (by decide) ?_
    refine l_iadd F dL_law__641 ?_
    refine l_sld F (i + 2) (ix_at (c := 2) rfl (by omega)).1 (ix_at (c := 2) rfl (by omega)).2 (by omega) dL_law__642 ?_
    refine l_callV F (k' := 3) (mc' := 0) [.int (xs (i + 1)), .int (xs (i + 2))] [] dL_law__643 rfl rfl (by decide) rfl cl_L_159 hy_X10_singer (by decide) (by omega) (by omega) (by decide) (Nat.le_of_ble_eq_true rfl) rfl (con_mono hc ?_ (fun _ _ h => h))
    rintro r w3 ⟨⟨v, rfl⟩, h0, hv⟩
    show ZL M G Qp (n + 2 + 0) (ns + 6 * 2 + 6 * 0) w3 646 [some (.ref b), some (.ref (G.2.1 0 0)), some (.ref (G.2.1 40 0)), some (.ref (G.2.1 80 0)), some (.int (nI i)), some (.int 1), none, none] [.int v]
    refine l_istore F dL_law__646 (by show 6 < 8; decide) ?_
    show ZL M G Qp (n + 2 + 0) (ns + 6 * 2 + 6 * 0) w3 648 [some (.ref b), some (.ref (G.2.1 0 0)), some (.ref (G.2.1 40 0)), some (.ref (G.2.1 80 0)), some (.int (nI i)), some (.int 1), some (.int v), none] []
    refine l_aload_n F dL_law__648 rfl ?_
    refine l_callV F (k' := 1) (mc' := 0) [] [] dL_law__649 rfl rfl (by decide) rfl cl_L_132 hy_X10_thrown (by decide) (by omega) (by omega) (by decide) (Nat.le_of_ble_eq_true rfl) rfl (e_X10_thrown hst (fun _ _ _ _ _ => ?_))
    show ZL M G Qp (n + 2 + 0 + 0) (ns + 6 * 2 + 6 * 0 + 6 * 0) w3 652 [some (.ref b), some (.ref (G.2.1 0 0)), some (.ref (G.2.1 40 0)), some (.ref (G.2.1 80 0)), some (.int (nI i)), some (.int 1), some (.int v), none] [.int (w3.1 40 0 0)]
    rw [h0]
    refine l_iload F dL_law__652 rfl ?_
    refine l_icmp_eq F 659 dL_law__654 (by decide) ⟨fun _ => ?_, fun hc => absurd rfl hc⟩
    refine l_iload F dL_law__659 rfl ?_
    refine l_if_ne F 676 dL_law__661 (by decide) ⟨fun _ => ?_, fun hc => absurd (show ¬ (1 : Int32) = 0 by decide) hc⟩
    refine l_goto F 2606 dL_law__676 (by decide) ?_
    exact l_weak (l_widen (hK w3 hv) (by omega) (by omega)) ⟨rfl, rfl, rfl, rfl, rfl, trivial⟩
  · have hc := hx.elim (fun q => absurd q.1 (by decide)) (fun q => q.2)
    show ZL M G Qp (n + 2) (ns + 6 * 2) w2 628 [some (.ref b), some (.ref (G.2.1 0 0)), some (.ref (G.2.1 40 0)), some (.ref (G.2.1 80 0)), some (.int (nI i)), none, none, none] [.int 2]
    refine l_istore F dL_law__628 (by show 5 < 8; decide) ?_
    show ZL M G Qp (n + 2) (ns + 6 * 2) w2 630 [some (.ref b), some (.ref (G.2.1 0 0)), some (.ref (G.2.1 40 0)), some (.ref (G.2.1 80 0)), some (.int (nI i)), some (.int 2), none, none] []
    refine l_aload_n F dL_law__630 rfl ?_
    refine l_aload_n F dL_law__631 rfl ?_
    refine l_iload F dL_law__632 rfl ?_
    refine l_iconst F 1 dL_law__634 (by decide) ?_
    refine l_iadd F dL_law__635 ?_
    refine l_sld F (i + 1) (ix_at (c := 1) rfl (by omega)).1 (ix_at (c := 1) rfl (by omega)).2 (by omega) dL_law__636 ?_
    refine l_aload_n F dL_law__637 rfl ?_
    refine l_iload F dL_law__638 rfl ?_
    refine l_iconst F 2 dL_law__640 (by decide) ?_
    refine l_iadd F dL_law__641 ?_
    refine l_sld F (i + 2) (ix_at (c := 2) rfl (by omega)).1 (ix_at (c := 2) rfl (by omega)).2 (by omega) dL_law__642 ?_
    refine l_callV F (k' := 3) (mc' := 0) [.int (xs (i + 1)), .int (xs (i + 2))] [] dL_law__643 rfl rfl (by decide) rfl cl_L_159 hy_X10_singer (by decide) (by omega) (by omega) (by decide) (Nat.le_of_ble_eq_true rfl) rfl (con_mono hc ?_ (fun _ _ h => h))
    rintro r w3 ⟨⟨v, rfl⟩, h0, hv⟩
    show ZL M G Qp (n + 2 + 0) (ns + 6 * 2 + 6 * 0) w3 646 [some (.ref b), some (.ref (G.2.1 0 0)), some (.ref (G.2.1 40 0)), some (.ref (G.2.1 80 0)), some (.int (nI i)), some (.int 2), none, none] [.int v]
    refine l_istore F dL_law__646 (by show 6 < 8; decide) ?_
    show ZL M G Qp (n + 2 + 0) (ns + 6 * 2 + 6 * 0) w3 648 [some (.ref b), some (.ref (G.2.1 0 0)), some (.ref (G.2.1 40 0)), some (.ref (G.2.1 80 0)), some (.int (nI i)), some (.int 2), some (.int v), none] []
    refine l_aload_n F dL_law__648 rfl ?_
    refine l_callV F (k' := 1) (mc' := 0) [] [] dL_law__649 rfl rfl (by decide) rfl cl_L_132 hy_X10_thrown (by decide) (by omega) (by omega) (by decide) (Nat.le_of_ble_eq_true rfl) rfl (e_X10_thrown hst (fun _ _ _ _ _ => ?_))
    show ZL M G Qp (n + 2 + 0 + 0) (ns + 6 * 2 + 6 * 0 + 6 * 0) w3 652 [some (.ref b), some (.ref (G.2.1 0 0)), some (.ref (G.2.1 40 0)), some (.ref (G.2.1 80 0)), some (.int (nI i)), some (.int 2), some (.int v), none] [.int (w3.1 40 0 0)]
    rw [h0]
    refine l_iload F dL_law__652 rfl ?_
    refine l_icmp_eq F 659 dL_law__654 (by decide) ⟨fun _ => ?_, fun hc => absurd rfl hc⟩
    refine l_iload F dL_law__659 rfl ?_
    refine l_if_ne F 676 dL_law__661 (by decide) ⟨fun _ => ?_, fun hc => absurd (show ¬ (2 : Int32) = 0 by decide) hc⟩
    refine l_goto F 2606 dL_law__676 (by decide) ?_
    exact l_weak (l_widen (hK w3 hv) (by omega) (by omega)) ⟨rfl, rfl, rfl, rfl, rfl, trivial⟩
theorem q_note (F : FL M G b L xs) (hi : i + 9 ≤ L) (hL : L ≤ 576) (hn : n + 16 ≤ 600128) (hns : ns + 96 ≤ 7301098)
    (h : C_X9_note (mL M) G w [.ref (G.2.1 0 0), .int (xs (i + 1)), .int (xs (i + 2))] (fun r w1 => ∃ v, r = some (.int v) ∧ C_X10_note (mL M) G (setL w1 80 0 0 v.toInt64) [.ref (G.2.1 40 0), .int (xs (i + 1)), .int (xs (i + 2))] (fun r2 w2 => r2 = some (.int v) ∧ w2.1 40 0 0 = 0 ∧ w2.2.1 80 0 0 = v.toInt64 ∧ INV w2) noX) (fun E w1 => (E = nNse ∧ C_X10_note (mL M) G w1 [.ref (G.2.1 40 0), .int (xs (i + 1)), .int (xs (i + 2))] (fun r2 w2 => (∃ v, r2 = some (.int v)) ∧ w2.1 40 0 0 = 1 ∧ INV w2) noX) ∨ (E = nIae ∧ C_X10_note (mL M) G w1 [.ref (G.2.1 40 0), .int (xs (i + 1)), .int (xs (i + 2))] (fun r2 w2 => (∃ v, r2 = some (.int v)) ∧ w2.1 40 0 0 = 2 ∧ INV w2) noX)))
    (hK : ∀ w2, INV w2 → ZL M G Qp (n + 16) (ns + 96) w2 2606 (lB G b i) []) : ZL M G Qp n ns w 679 (lB G b i) [] := by
  show ZL M G Qp n ns w 679 [some (.ref b), some (.ref (G.2.1 0 0)), some (.ref (G.2.1 40 0)), some (.ref (G.2.1 80 0)), some (.int (nI i)), none, none, none] []
  have hst : (mL M).stackTraces = false := F.2.2.2.2.2.2.2.2.1
  refine l_aload_n F dL_law__679 rfl ?_
  refine l_aload_n F dL_law__680 rfl ?_
  refine l_iload F dL_law__681 rfl ?_
  refine l_iconst F 1 dL_law__683 (by decide) ?_
  refine l_iadd F dL_law__684 ?_
  refine l_sld F (i + 1) (ix_at (c := 1) rfl (by omega)).1 (ix_at (c := 1) rfl (by omega)).2 (by omega) dL_law__685 ?_
  refine l_aload_n F dL_law__686 rfl ?_
  refine l_iload F dL_law__687 rfl ?_
  refine l_iconst F 2 dL_law__689 (by decide) ?_
  refine l_iadd F dL_law__690 ?_
  refine l_sld F (i + 2) (ix_at (c := 2) rfl (by omega)).1 (ix_at (c := 2) rfl (by omega)).2 (by omega) dL_law__691 ?_
  refine l_aload_n F dL_law__692 rfl ?_
  refine l_callH F (k' := 8) (mc' := 2) [.ref (G.2.1 0 0), .int (xs (i + 1)), .int (xs (i + 2)), .ref (G.2.1 80 0)] [] dL_law__693 rfl kL_note kY_note (by decide) (by omega) (by omega) (by decide) (Nat.le_of_ble_eq_true rfl) rfl (conH_mono (k_note hst F.2.2.2.2.2.2.2.2.2.2.2.2.2 h (fun r w2 h => ⟨h.choose, h.choose_spec.1⟩) (fun E w2 h => h.elim (fun q => Or.inl q.1) (fun q => Or.inr q.1))) ?_)
  rintro r w2 (⟨v, w1, ⟨v1, e1, hc⟩, rfl, rfl⟩ | ⟨hx, rfl⟩ | ⟨hx, rfl⟩)
  · cases e1
    show ZL M G Qp (n + 2) (ns + 6 * 2) (setL w1 80 0 0 v.toInt64) 696 [some (.ref b), some (.ref (G.2.1 0 0)), some (.ref (G.2.1 40 0)), some (.ref (G.2.1 80 0)), some (.int (nI i)), none, none, none] [.int 0]
    refine l_istore F dL_law__696 (by show 5 < 8; decide) ?_
    show ZL M G Qp (n + 2) (ns + 6 * 2) (setL w1 80 0 0 v.toInt64) 698 [some (.ref b), some (.ref (G.2.1 0 0)), some (.ref (G.2.1 40 0)), some (.ref (G.2.1 80 0)), some (.int (nI i)), some (.int 0), none, none] []
    refine l_aload_n F dL_law__698 rfl ?_
    refine l_aload_n F dL_law__699 rfl ?_
    refine l_iload F dL_law__700 rfl ?_
    refine l_iconst F 1 dL_law__702 (by decide) ?_
    refine l_iadd F dL_law__703 ?_
    refine l_sld F (i + 1) (ix_at (c := 1) rfl (by omega)).1 (ix_at (c := 1) rfl (by omega)).2 (by omega) dL_law__704 ?_
    refine l_aload_n F dL_law__705 rfl ?_
    refine l_iload F dL_law__706 rfl ?_
    refine l_iconst F 2 dL_law__708 (by decide) ?_
    refine l_iadd F dL_law__709 ?_
    refine l_sld F (i + 2) (ix_at (c := 2) rfl (by omega)).1 (ix_at (c := 2) rfl (by omega)).2 (by omega) dL_law__710 ?_
    refine l_callV F (k' := 7) (mc' := 0) [.int (xs (i + 1)), .int (xs (i + 2))] [] dL_law__711 rfl rfl (by decide) rfl cl_L_162 hy_X10_note (by decide) (by omega) (by omega) (by decide) (Nat.le_of_ble_eq_true rfl) rfl (con_mono hc ?_ (fun _ _ h => h))
    rintro r w3 ⟨rfl, h0, h1, hv⟩
    show ZL M G Qp (n + 2 + 0) (ns + 6 * 2 + 6 * 0) w3 714 [some (.ref b), some (.ref (G.2.1 0 0)), some (.ref (G.2.1 40 0)), some (.ref (G.2.1 80 0)), some (.int (nI i)), some (.int 0), none, none] [.int v]
    refine l_istore F dL_law__714 (by show 6 < 8; decide) ?_
    show ZL M G Qp (n + 2 + 0) (ns + 6 * 2 + 6 * 0) w3 716 [some (.ref b), some (.ref (G.2.1 0 0)), some (.ref (G.2.1 40 0)), some (.ref (G.2.1 80 0)), some (.int (nI i)), some (.int 0), some (.int v), none] []
    refine l_aload_n F dL_law__716 rfl ?_
    refine l_callV F (k' := 1) (mc' := 0) [] [] dL_law__717 rfl rfl (by decide) rfl cl_L_132 hy_X10_thrown (by decide) (by omega) (by omega) (by decide) (Nat.le_of_ble_eq_true rfl) rfl (e_X10_thrown hst (fun _ _ _ _ _ => ?_))
    show ZL M G Qp (n + 2 + 0 + 0) (ns + 6 * 2 + 6 * 0 + 6 * 0) w3 720 [some (.ref b), some (.ref (G.2.1 0 0)), some (.ref (G.2.1 40 0)), some (.ref (G.2.1 80 0)), some (.int (nI i)), some (.int 0), some (.int v), none] [.int (w3.1 40 0 0)]
    rw [h0]
    refine l_iload F dL_law__720 rfl ?_
    refine l_icmp_eq F 727 dL_law__722 (by decide) ⟨fun _ => ?_, fun hc => absurd rfl hc⟩
    refine l_iload F dL_law__727 rfl ?_
    refine l_if_ne F 744 dL_law__729 (by decide) ⟨fun hc => absurd rfl hc, fun _ => ?_⟩
    refine l_aload_n F dL_law__732 rfl ?_
    refine l_iconst F 0 dL_law__733 (by decide) ?_
    refine l_out F dL_law__734 ?_
    refine l_iload F dL_law__735 rfl ?_
    refine l_i2l F dL_law__737 ?_
    refine l_lcmp F dL_law__738 ?_
    refine l_if_eq F 744 dL_law__739 (by decide) ⟨fun _ => ?_, fun hc => absurd (by rw [h1]; exact lg_cmp_self _) hc⟩
    refine l_goto F 2606 dL_law__744 (by decide) ?_
    exact l_weak (l_widen (hK w3 hv) (by omega) (by omega)) ⟨rfl, rfl, rfl, rfl, rfl, trivial⟩
  · have hc := hx.elim (fun q => q.2) (fun q => absurd q.1 (by decide))
    show ZL M G Qp (n + 2) (ns + 6 * 2) w2 696 [some (.ref b), some (.ref (G.2.1 0 0)), some (.ref (G.2.1 40 0)), some (.ref (G.2.1 80 0)), some (.int (nI i)), none, none, none] [.int 1]
    refine l_istore F dL_law__696 (by show 5 < 8; decide) ?_
    show ZL M G Qp (n + 2) (ns + 6 * 2) w2 698 [some (.ref b), some (.ref (G.2.1 0 0)), some (.ref (G.2.1 40 0)), some (.ref (G.2.1 80 0)), some (.int (nI i)), some (.int 1), none, none] []
    refine l_aload_n F dL_law__698 rfl ?_
    refine l_aload_n F dL_law__699 rfl ?_
    refine l_iload F dL_law__700 rfl ?_
    refine l_iconst F 1 dL_law__702 (by decide) ?_
    refine l_iadd F dL_law__703 ?_
    refine l_sld F (i + 1) (ix_at (c := 1) rfl (by omega)).1 (ix_at (c := 1) rfl (by omega)).2 (by omega) dL_law__704 ?_
    refine l_aload_n F dL_law__705 rfl ?_
    refine l_iload F dL_law__706 rfl ?_
    refine l_iconst F 2 dL_law__708 (by decide) ?_
    refine l_iadd F dL_law__709 ?_
    refine l_sld F (i + 2) (ix_at (c := 2) rfl (by omega)).1 (ix_at (c := 2) rfl (by omega)).2 (by omega) dL_law__710 ?_
    refine l_callV F (k' := 7) (mc' := 0) [.int (xs (i + 1)), .int (xs (i + 2))] [] dL_law__711 rfl rfl (by decide) rfl cl_L_162 hy_X10_note (by decide) (by omega) (by omega) (by decide) (Nat.le_of_ble_eq_true rfl) rfl (con_mono hc ?_ (fun _ _ h => h))
    rintro r w3 ⟨⟨v, rfl⟩, h0, hv⟩
    show ZL M G Qp (n + 2 + 0) (ns + 6 * 2 + 6 * 0) w3 714 [some (.ref b), some (.ref (G.2.1 0 0)), some (.ref (G.2.1 40 0)), some (.ref (G.2.1 80 0)), some (.int (nI i)), some (.int 1), none, none] [.int v]
    refine l_istore F dL_law__714 (by show 6 < 8; decide) ?_
    show ZL M G Qp (n + 2 + 0) (ns + 6 * 2 + 6 * 0) w3 716 [some (.ref b), some (.ref (G.2.1 0 0)), some (.ref (G.2.1 40 0)), some (.ref (G.2.1 80 0)), some (.int (nI i)), some (.int 1), some (.int v), none] []
    refine l_aload_n F dL_law__716 rfl ?_
    refine l_callV F (k' := 1) (mc' := 0) [] [] dL_law__717 rfl rfl (by decide) rfl cl_L_132 hy_X10_thrown (by decide) (by omega) (by omega) (by decide) (Nat.le_of_ble_eq_true rfl) rfl (e_X10_thrown hst (fun _ _ _ _ _ => ?_))
    show ZL M G Qp (n + 2 + 0 + 0) (ns + 6 * 2 + 6 * 0 + 6 * 0) w3 720 [some (.ref b), some (.ref (G.2.1 0 0)), some (.ref (G.2.1 40 0)), some (.ref (G.2.1 80 0)), some (.int (nI i)), some (.int 1), some (.int v), none] [.int (w3.1 40 0 0)]
    rw [h0]
    refine l_iload F dL_law__720 rfl ?_
    refine l_icmp_eq F 727 dL_law__722 (by decide) ⟨fun _ => ?_, fun hc => absurd rfl hc⟩
    refine l_iload F dL_law__727 rfl ?_
    refine l_if_ne F 744 dL_law__729 (by decide) ⟨fun _ => ?_, fun hc => absurd (show ¬ (1 : Int32) = 0 by decide) hc⟩
    refine l_goto F 2606 dL_law__744 (by decide) ?_
    exact l_weak (l_widen (hK w3 hv) (by omega) (by omega)) ⟨rfl, rfl, rfl, rfl, rfl, trivial⟩
  · have hc := hx.elim (fun q => absurd q.1 (by decide)) (fun q => q.2)
    show ZL M G Qp (n + 2) (ns + 6 * 2) w2 696 [some (.ref b), some (.ref (G.2.1 0 0)), some (.ref (G.2.1 40 0)), some (.ref (G.2.1 80 0)), some (.int (nI i)), none, none, none] [.int 2]
    refine l_istore F dL_law__696 (by show 5 < 8; decide) ?_
    show ZL M G Qp (n + 2) (ns + 6 * 2) w2 698 [some (.ref b), some (.ref (G.2.1 0 0)), some (.ref (G.2.1 40 0)), some (.ref (G.2.1 80 0)), some (.int (nI i)), some (.int 2), none, none] []
    refine l_aload_n F dL_law__698 rfl ?_
    refine l_aload_n F dL_law__699 rfl ?_
    refine l_iload F dL_law__700 rfl ?_
    refine l_iconst F 1 dL_law__702 (by decide) ?_
    refine l_iadd F dL_law__703 ?_
    refine l_sld F (i + 1) (ix_at (c := 1) rfl (by omega)).1 (ix_at (c := 1) rfl (by omega)).2 (by omega) dL_law__704 ?_
    refine l_aload_n F dL_law__705 rfl ?_
    refine l_iload F dL_law__706 rfl ?_
    refine l_iconst F 2 dL_law__708 (by decide) ?_
    refine l_iadd F dL_law__709 ?_
    refine l_sld F (i + 2) (ix_at (c := 2) rfl (by omega)).1 (ix_at (c := 2) rfl (by omega)).2 (by omega) dL_law__710 ?_
    refine l_callV F (k' := 7) (mc' := 0) [.int (xs (i + 1)), .int (xs (i + 2))] [] dL_law__711 rfl rfl (by decide) rfl cl_L_162 hy_X10_note (by decide) (by omega) (by omega) (by decide) (Nat.le_of_ble_eq_true rfl) rfl (con_mono hc ?_ (fun _ _ h => h))
    rintro r w3 ⟨⟨v, rfl⟩, h0, hv⟩
    show ZL M G Qp (n + 2 + 0) (ns + 6 * 2 + 6 * 0) w3 714 [some (.ref b), some (.ref (G.2.1 0 0)), some (.ref (G.2.1 40 0)), some (.ref (G.2.1 80 0)), some (.int (nI i)), some (.int 2), none, none] [.int v]
    refine l_istore F dL_law__714 (by show 6 < 8; decide) ?_
    show ZL M G Qp (n + 2 + 0) (ns + 6 * 2 + 6 * 0) w3 716 [some (.ref b), some (.ref (G.2.1 0 0)), some (.ref (G.2.1 40 0)), some (.ref (G.2.1 80 0)), some (.int (nI i)), some (.int 2), some (.int v), none] []
    refine l_aload_n F dL_law__716 rfl ?_
    refine l_callV F (k' := 1) (mc' := 0) [] [] dL_law__717 rfl rfl (by decide) rfl cl_L_132 hy_X10_thrown (by decide) (by omega) (by omega) (by decide) (Nat.le_of_ble_eq_true rfl) rfl (e_X10_thrown hst (fun _ _ _ _ _ => ?_))
    show ZL M G Qp (n + 2 + 0 + 0) (ns + 6 * 2 + 6 * 0 + 6 * 0) w3 720 [some (.ref b), some (.ref (G.2.1 0 0)), some (.ref (G.2.1 40 0)), some (.ref (G.2.1 80 0)), some (.int (nI i)), some (.int 2), some (.int v), none] [.int (w3.1 40 0 0)]
    rw [h0]
    refine l_iload F dL_law__720 rfl ?_
    refine l_icmp_eq F 727 dL_law__722 (by decide) ⟨fun _ => ?_, fun hc => absurd rfl hc⟩
    refine l_iload F dL_law__727 rfl ?_
    refine l_if_ne F 744 dL_law__729 (by decide) ⟨fun _ => ?_, fun hc => absurd (show ¬ (2 : Int32) = 0 by decide) hc⟩
    refine l_goto F 2606 dL_law__744 (by decide) ?_
    exact l_weak (l_widen (hK w3 hv) (by omega) (by omega)) ⟨rfl, rfl, rfl, rfl, rfl, trivial⟩
theorem q_like (F : FL M G b L xs) (hi : i + 9 ≤ L) (hL : L ≤ 576) (hn : n + 16 ≤ 600128) (hns : ns + 96 ≤ 7301098)
    (h : C_X9_like (mL M) G w [.ref (G.2.1 0 0), .int (xs (i + 1)), .int (xs (i + 2))] (fun r w1 => ∃ v, r = some (.int v) ∧ C_X10_like (mL M) G (setL w1 80 0 0 v.toInt64) [.ref (G.2.1 40 0), .int (xs (i + 1)), .int (xs (i + 2))] (fun r2 w2 => r2 = some (.int v) ∧ w2.1 40 0 0 = 0 ∧ w2.2.1 80 0 0 = v.toInt64 ∧ INV w2) noX) (fun E w1 => (E = nNse ∧ C_X10_like (mL M) G w1 [.ref (G.2.1 40 0), .int (xs (i + 1)), .int (xs (i + 2))] (fun r2 w2 => (∃ v, r2 = some (.int v)) ∧ w2.1 40 0 0 = 1 ∧ INV w2) noX) ∨ (E = nIae ∧ C_X10_like (mL M) G w1 [.ref (G.2.1 40 0), .int (xs (i + 1)), .int (xs (i + 2))] (fun r2 w2 => (∃ v, r2 = some (.int v)) ∧ w2.1 40 0 0 = 2 ∧ INV w2) noX)))
    (hK : ∀ w2, INV w2 → ZL M G Qp (n + 16) (ns + 96) w2 2606 (lB G b i) []) : ZL M G Qp n ns w 747 (lB G b i) [] := by
  show ZL M G Qp n ns w 747 [some (.ref b), some (.ref (G.2.1 0 0)), some (.ref (G.2.1 40 0)), some (.ref (G.2.1 80 0)), some (.int (nI i)), none, none, none] []
  have hst : (mL M).stackTraces = false := F.2.2.2.2.2.2.2.2.1
  refine l_aload_n F dL_law__747 rfl ?_
  refine l_aload_n F dL_law__748 rfl ?_
  refine l_iload F dL_law__749 rfl ?_
  refine l_iconst F 1 dL_law__751 (by decide) ?_
  refine l_iadd F dL_law__752 ?_
  refine l_sld F (i + 1) (ix_at (c := 1) rfl (by omega)).1 (ix_at (c := 1) rfl (by omega)).2 (by omega) dL_law__753 ?_
  refine l_aload_n F dL_law__754 rfl ?_
  refine l_iload F dL_law__755 rfl ?_
  refine l_iconst F 2 dL_law__757 (by decide) ?_
  refine l_iadd F dL_law__758 ?_
  refine l_sld F (i + 2) (ix_at (c := 2) rfl (by omega)).1 (ix_at (c := 2) rfl (by omega)).2 (by omega) dL_law__759 ?_
  refine l_aload_n F dL_law__760 rfl ?_
  refine l_callH F (k' := 8) (mc' := 2) [.ref (G.2.1 0 0), .int (xs (i + 1)), .int (xs (i + 2)), .ref (G.2.1 80 0)] [] dL_law__761 rfl kL_like kY_like (by decide) (by omega) (by omega) (by decide) (Nat.le_of_ble_eq_true rfl) rfl (conH_mono (k_like hst F.2.2.2.2.2.2.2.2.2.2.2.2.2 h (fun r w2 h => ⟨h.choose, h.choose_spec.1⟩) (fun E w2 h => h.elim (fun q => Or.inl q.1) (fun q => Or.inr q.1))) ?_)
  rintro r w2 (⟨v, w1, ⟨v1, e1, hc⟩, rfl, rfl⟩ | ⟨hx, rfl⟩ | ⟨hx, rfl⟩)
  · cases e1
    show ZL M G Qp (n + 2) (ns + 6 * 2) (setL w1 80 0 0 v.toInt64) 764 [some (.ref b), some (.ref (G.2.1 0 0)), some (.ref (G.2.1 40 0)), some (.ref (G.2.1 80 0)), some (.int (nI i)), none, none, none] [.int 0]
    refine l_istore F dL_law__764 (by show 5 < 8; decide) ?_
    show ZL M G Qp (n + 2) (ns + 6 * 2) (setL w1 80 0 0 v.toInt64) 766 [some (.ref b), some (.ref (G.2.1 0 0)), some (.ref (G.2.1 40 0)), some (.ref (G.2.1 80 0)), some (.int (nI i)), some (.int 0), none, none] []
    refine l_aload_n F dL_law__766 rfl ?_
    refine l_aload_n F dL_law__767 rfl ?_
    refine l_iload F dL_law__768 rfl ?_
    refine l_iconst F 1 dL_law__770 (by decide) ?_
    refine l_iadd F dL_law__771 ?_
    refine l_sld F (i + 1) (ix_at (c := 1) rfl (by omega)).1 (ix_at (c := 1) rfl (by omega)).2 (by omega) dL_law__772 ?_
    refine l_aload_n F dL_law__773 rfl ?_
    refine l_iload F dL_law__774 rfl ?_
    refine l_iconst F 2 dL_law__776 (by decide) ?_
    refine l_iadd F dL_law__777 ?_
    refine l_sld F (i + 2) (ix_at (c := 2) rfl (by omega)).1 (ix_at (c := 2) rfl (by omega)).2 (by omega) dL_law__778 ?_
    refine l_callV F (k' := 2) (mc' := 0) [.int (xs (i + 1)), .int (xs (i + 2))] [] dL_law__779 rfl rfl (by decide) rfl cl_L_165 hy_X10_like (by decide) (by omega) (by omega) (by decide) (Nat.le_of_ble_eq_true rfl) rfl (con_mono hc ?_ (fun _ _ h => h))
    rintro r w3 ⟨rfl, h0, h1, hv⟩
    show ZL M G Qp (n + 2 + 0) (ns + 6 * 2 + 6 * 0) w3 782 [some (.ref b), some (.ref (G.2.1 0 0)), some (.ref (G.2.1 40 0)), some (.ref (G.2.1 80 0)), some (.int (nI i)), some (.int 0), none, none] [.int v]
    refine l_istore F dL_law__782 (by show 6 < 8; decide) ?_
    show ZL M G Qp (n + 2 + 0) (ns + 6 * 2 + 6 * 0) w3 784 [some (.ref b), some (.ref (G.2.1 0 0)), some (.ref (G.2.1 40 0)), some (.ref (G.2.1 80 0)), some (.int (nI i)), some (.int 0), some (.int v), none] []
    refine l_aload_n F dL_law__784 rfl ?_
    refine l_callV F (k' := 1) (mc' := 0) [] [] dL_law__785 rfl rfl (by decide) rfl cl_L_132 hy_X10_thrown (by decide) (by omega) (by omega) (by decide) (Nat.le_of_ble_eq_true rfl) rfl (e_X10_thrown hst (fun _ _ _ _ _ => ?_))
    show ZL M G Qp (n + 2 + 0 + 0) (ns + 6 * 2 + 6 * 0 + 6 * 0) w3 788 [some (.ref b), some (.ref (G.2.1 0 0)), some (.ref (G.2.1 40 0)), some (.ref (G.2.1 80 0)), some (.int (nI i)), some (.int 0), some (.int v), none] [.int (w3.1 40 0 0)]
    rw [h0]
    refine l_iload F dL_law__788 rfl ?_
    refine l_icmp_eq F 795 dL_law__790 (by decide) ⟨fun _ => ?_, fun hc => absurd rfl hc⟩
    refine l_iload F dL_law__795 rfl ?_
    refine l_if_ne F 812 dL_law__797 (by decide) ⟨fun hc => absurd rfl hc, fun _ => ?_⟩
    refine l_aload_n F dL_law__800 rfl ?_
    refine l_iconst F 0 dL_law__801 (by decide) ?_
    refine l_out F dL_law__802 ?_
    refine l_iload F dL_law__803 rfl ?_
    refine l_i2l F dL_law__805 ?_
    refine l_lcmp F dL_law__806 ?_
    refine l_if_eq F 812 dL_law__807 (by decide) ⟨fun _ => ?_, fun hc => absurd (by rw [h1]; exact lg_cmp_self _) hc⟩
    refine l_goto F 2606 dL_law__812 (by decide) ?_
    exact l_weak (l_widen (hK w3 hv) (by omega) (by omega)) ⟨rfl, rfl, rfl, rfl, rfl, trivial⟩
  · have hc := hx.elim (fun q => q.2) (fun q => absurd q.1 (by decide))
    show ZL M G Qp (n + 2) (ns + 6 * 2) w2 764 [some (.ref b), some (.ref (G.2.1 0 0)), some (.ref (G.2.1 40 0)), some (.ref (G.2.1 80 0)), some (.int (nI i)), none, none, none] [.int 1]
    refine l_istore F dL_law__764 (by show 5 < 8; decide) ?_
    show ZL M G Qp (n + 2) (ns + 6 * 2) w2 766 [some (.ref b), some (.ref (G.2.1 0 0)), some (.ref (G.2.1 40 0)), some (.ref (G.2.1 80 0)), some (.int (nI i)), some (.int 1), none, none] []
    refine l_aload_n F dL_law__766 rfl ?_
    refine l_aload_n F dL_law__767 rfl ?_
    refine l_iload F dL_law__768 rfl ?_
    refine l_iconst F 1 dL_law__770 (by decide) ?_
    refine l_iadd F dL_law__771 ?_
    refine l_sld F (i + 1) (ix_at (c := 1) rfl (by omega)).1 (ix_at (c := 1) rfl (by omega)).2 (by omega) dL_law__772 ?_
    refine l_aload_n F dL_law__773 rfl ?_
    refine l_iload F dL_law__774 rfl ?_
    refine l_iconst F 2 dL_law__776 (by decide) ?_
    refine l_iadd F dL_law__777 ?_
    refine l_sld F (i + 2) (ix_at (c := 2) rfl (by omega)).1 (ix_at (c := 2) rfl (by omega)).2 (by omega) dL_law__778 ?_
    refine l_callV F (k' := 2) (mc' := 0) [.int (xs (i + 1)), .int (xs (i + 2))] [] dL_law__779 rfl rfl (by decide) rfl cl_L_165 hy_X10_like (by decide) (by omega) (by omega) (by decide) (Nat.le_of_ble_eq_true rfl) rfl (con_mono hc ?_ (fun _ _ h => h))
    rintro r w3 ⟨⟨v, rfl⟩, h0, hv⟩
    show ZL M G Qp (n + 2 + 0) (ns + 6 * 2 + 6 * 0) w3 782 [some (.ref b), some (.ref (G.2.1 0 0)), some (.ref (G.2.1 40 0)), some (.ref (G.2.1 80 0)), some (.int (nI i)), some (.int 1), none, none] [.int v]
    refine l_istore F dL_law__782 (by show 6 < 8; decide) ?_
    show ZL M G Qp (n + 2 + 0) (ns + 6 * 2 + 6 * 0) w3 784 [some (.ref b), some (.ref (G.2.1 0 0)), some (.ref (G.2.1 40 0)), some (.ref (G.2.1 80 0)), some (.int (nI i)), some (.int 1), some (.int v), none] []
    refine l_aload_n F dL_law__784 rfl ?_
    refine l_callV F (k' := 1) (mc' := 0) [] [] dL_law__785 rfl rfl (by decide) rfl cl_L_132 hy_X10_thrown (by decide) (by omega) (by omega) (by decide) (Nat.le_of_ble_eq_true rfl) rfl (e_X10_thrown hst (fun _ _ _ _ _ => ?_))
    show ZL M G Qp (n + 2 + 0 + 0) (ns + 6 * 2 + 6 * 0 + 6 * 0) w3 788 [some (.ref b), some (.ref (G.2.1 0 0)), some (.ref (G.2.1 40 0)), some (.ref (G.2.1 80 0)), some (.int (nI i)), some (.int 1), some (.int v), none] [.int (w3.1 40 0 0)]
    rw [h0]
    refine l_iload F dL_law__788 rfl ?_
    refine l_icmp_eq F 795 dL_law__790 (by decide) ⟨fun _ => ?_, fun hc => absurd rfl hc⟩
    refine l_iload F dL_law__795 rfl ?_
    refine l_if_ne F 812 dL_law__797 (by decide) ⟨fun _ => ?_, fun hc => absurd (show ¬ (1 : Int32) = 0 by decide) hc⟩
    refine l_goto F 2606 dL_law__812 (by decide) ?_
    exact l_weak (l_widen (hK w3 hv) (by omega) (by omega)) ⟨rfl, rfl, rfl, rfl, rfl, trivial⟩
  · have hc := hx.elim (fun q => absurd q.1 (by decide)) (fun q => q.2)
    show ZL M G Qp (n + 2) (ns + 6 * 2) w2 764 [some (.ref b), some (.ref (G.2.1 0 0)), some (.ref (G.2.1 40 0)), some (.ref (G.2.1 80 0)), some (.int (nI i)), none, none, none] [.int 2]
    refine l_istore F dL_law__764 (by show 5 < 8; decide) ?_
    show ZL M G Qp (n + 2) (ns + 6 * 2) w2 766 [some (.ref b), some (.ref (G.2.1 0 0)), some (.ref (G.2.1 40 0)), some (.ref (G.2.1 80 0)), some (.int (nI i)), some (.int 2), none, none] []
    refine l_aload_n F dL_law__766 rfl ?_
    refine l_aload_n F dL_law__767 rfl ?_
    refine l_iload F dL_law__768 rfl ?_
    refine l_iconst F 1 dL_law__770 (by decide) ?_
    refine l_iadd F dL_law__771 ?_
    refine l_sld F (i + 1) (ix_at (c := 1) rfl (by omega)).1 (ix_at (c := 1) rfl (by omega)).2 (by omega) dL_law__772 ?_
    refine l_aload_n F dL_law__773 rfl ?_
    refine l_iload F dL_law__774 rfl ?_
    refine l_iconst F 2 dL_law__776 (by decide) ?_
    refine l_iadd F dL_law__777 ?_
    refine l_sld F (i + 2) (ix_at (c := 2) rfl (by omega)).1 (ix_at (c := 2) rfl (by omega)).2 (by omega) dL_law__778 ?_
    refine l_callV F (k' := 2) (mc' := 0) [.int (xs (i + 1)), .int (xs (i + 2))] [] dL_law__779 rfl rfl (by decide) rfl cl_L_165 hy_X10_like (by decide) (by omega) (by omega) (by decide) (Nat.le_of_ble_eq_true rfl) rfl (con_mono hc ?_ (fun _ _ h => h))
    rintro r w3 ⟨⟨v, rfl⟩, h0, hv⟩
    show ZL M G Qp (n + 2 + 0) (ns + 6 * 2 + 6 * 0) w3 782 [some (.ref b), some (.ref (G.2.1 0 0)), some (.ref (G.2.1 40 0)), some (.ref (G.2.1 80 0)), some (.int (nI i)), some (.int 2), none, none] [.int v]
    refine l_istore F dL_law__782 (by show 6 < 8; decide) ?_
    show ZL M G Qp (n + 2 + 0) (ns + 6 * 2 + 6 * 0) w3 784 [some (.ref b), some (.ref (G.2.1 0 0)), some (.ref (G.2.1 40 0)), some (.ref (G.2.1 80 0)), some (.int (nI i)), some (.int 2), some (.int v), none] []
    refine l_aload_n F dL_law__784 rfl ?_
    refine l_callV F (k' := 1) (mc' := 0) [] [] dL_law__785 rfl rfl (by decide) rfl cl_L_132 hy_X10_thrown (by decide) (by omega) (by omega) (by decide) (Nat.le_of_ble_eq_true rfl) rfl (e_X10_thrown hst (fun _ _ _ _ _ => ?_))
    show ZL M G Qp (n + 2 + 0 + 0) (ns + 6 * 2 + 6 * 0 + 6 * 0) w3 788 [some (.ref b), some (.ref (G.2.1 0 0)), some (.ref (G.2.1 40 0)), some (.ref (G.2.1 80 0)), some (.int (nI i)), some (.int 2), some (.int v), none] [.int (w3.1 40 0 0)]
    rw [h0]
    refine l_iload F dL_law__788 rfl ?_
    refine l_icmp_eq F 795 dL_law__790 (by decide) ⟨fun _ => ?_, fun hc => absurd rfl hc⟩
    refine l_iload F dL_law__795 rfl ?_
    refine l_if_ne F 812 dL_law__797 (by decide) ⟨fun _ => ?_, fun hc => absurd (show ¬ (2 : Int32) = 0 by decide) hc⟩
    refine l_goto F 2606 dL_law__812 (by decide) ?_
    exact l_weak (l_widen (hK w3 hv) (by omega) (by omega)) ⟨rfl, rfl, rfl, rfl, rfl, trivial⟩
theorem q_takes (F : FL M G b L xs) (hi : i + 9 ≤ L) (hL : L ≤ 576) (hn : n + 16 ≤ 600128) (hns : ns + 96 ≤ 7301098)
    (h : C_X9_takes (mL M) G w [.ref (G.2.1 0 0), .int (xs (i + 1)), .int (xs (i + 2))] (fun r w1 => ∃ v, r = some (.int v) ∧ C_X10_takes (mL M) G (setL w1 80 0 0 v.toInt64) [.ref (G.2.1 40 0), .int (xs (i + 1)), .int (xs (i + 2))] (fun r2 w2 => r2 = some (.int v) ∧ w2.1 40 0 0 = 0 ∧ w2.2.1 80 0 0 = v.toInt64 ∧ INV w2) noX) (fun E w1 => E = nNse ∧ C_X10_takes (mL M) G w1 [.ref (G.2.1 40 0), .int (xs (i + 1)), .int (xs (i + 2))] (fun r2 w2 => (∃ v, r2 = some (.int v)) ∧ w2.1 40 0 0 = 1 ∧ INV w2) noX))
    (hK : ∀ w2, INV w2 → ZL M G Qp (n + 16) (ns + 96) w2 2606 (lB G b i) []) : ZL M G Qp n ns w 815 (lB G b i) [] := by
  show ZL M G Qp n ns w 815 [some (.ref b), some (.ref (G.2.1 0 0)), some (.ref (G.2.1 40 0)), some (.ref (G.2.1 80 0)), some (.int (nI i)), none, none, none] []
  have hst : (mL M).stackTraces = false := F.2.2.2.2.2.2.2.2.1
  refine l_aload_n F dL_law__815 rfl ?_
  refine l_aload_n F dL_law__816 rfl ?_
  refine l_iload F dL_law__817 rfl ?_
  refine l_iconst F 1 dL_law__819 (by decide) ?_
  refine l_iadd F dL_law__820 ?_
  refine l_sld F (i + 1) (ix_at (c := 1) rfl (by omega)).1 (ix_at (c := 1) rfl (by omega)).2 (by omega) dL_law__821 ?_
  refine l_aload_n F dL_law__822 rfl ?_
  refine l_iload F dL_law__823 rfl ?_
  refine l_iconst F 2 dL_law__825 (by decide) ?_
  refine l_iadd F dL_law__826 ?_
  refine l_sld F (i + 2) (ix_at (c := 2) rfl (by omega)).1 (ix_at (c := 2) rfl (by omega)).2 (by omega) dL_law__827 ?_
  refine l_aload_n F dL_law__828 rfl ?_
  refine l_callH F (k' := 8) (mc' := 1) [.ref (G.2.1 0 0), .int (xs (i + 1)), .int (xs (i + 2)), .ref (G.2.1 80 0)] [] dL_law__829 rfl kL_takes kY_takes (by decide) (by omega) (by omega) (by decide) (Nat.le_of_ble_eq_true rfl) rfl (conH_mono (k_takes hst F.2.2.2.2.2.2.2.2.2.2.2.2.2 h (fun r w2 h => ⟨h.choose, h.choose_spec.1⟩) (fun E w2 h => h.1)) ?_)
  rintro r w2 (⟨v, w1, ⟨v1, e1, hc⟩, rfl, rfl⟩ | ⟨hx, rfl⟩)
  · cases e1
    show ZL M G Qp (n + 1) (ns + 6 * 1) (setL w1 80 0 0 v.toInt64) 832 [some (.ref b), some (.ref (G.2.1 0 0)), some (.ref (G.2.1 40 0)), some (.ref (G.2.1 80 0)), some (.int (nI i)), none, none, none] [.int 0]
    refine l_istore F dL_law__832 (by show 5 < 8; decide) ?_
    show ZL M G Qp (n + 1) (ns + 6 * 1) (setL w1 80 0 0 v.toInt64) 834 [some (.ref b), some (.ref (G.2.1 0 0)), some (.ref (G.2.1 40 0)), some (.ref (G.2.1 80 0)), some (.int (nI i)), some (.int 0), none, none] []
    refine l_aload_n F dL_law__834 rfl ?_
    refine l_aload_n F dL_law__835 rfl ?_
    refine l_iload F dL_law__836 rfl ?_
    refine l_iconst F 1 dL_law__838 (by decide) ?_
    refine l_iadd F dL_law__839 ?_
    refine l_sld F (i + 1) (ix_at (c := 1) rfl (by omega)).1 (ix_at (c := 1) rfl (by omega)).2 (by omega) dL_law__840 ?_
    refine l_aload_n F dL_law__841 rfl ?_
    refine l_iload F dL_law__842 rfl ?_
    refine l_iconst F 2 dL_law__844 (by decide) ?_
    refine l_iadd F dL_law__845 ?_
    refine l_sld F (i + 2) (ix_at (c := 2) rfl (by omega)).1 (ix_at (c := 2) rfl (by omega)).2 (by omega) dL_law__846 ?_
    refine l_callV F (k' := 6) (mc' := 0) [.int (xs (i + 1)), .int (xs (i + 2))] [] dL_law__847 rfl rfl (by decide) rfl cl_L_168 hy_X10_takes (by decide) (by omega) (by omega) (by decide) (Nat.le_of_ble_eq_true rfl) rfl (con_mono hc ?_ (fun _ _ h => h))
    rintro r w3 ⟨rfl, h0, h1, hv⟩
    show ZL M G Qp (n + 1 + 0) (ns + 6 * 1 + 6 * 0) w3 850 [some (.ref b), some (.ref (G.2.1 0 0)), some (.ref (G.2.1 40 0)), some (.ref (G.2.1 80 0)), some (.int (nI i)), some (.int 0), none, none] [.int v]
    refine l_istore F dL_law__850 (by show 6 < 8; decide) ?_
    show ZL M G Qp (n + 1 + 0) (ns + 6 * 1 + 6 * 0) w3 852 [some (.ref b), some (.ref (G.2.1 0 0)), some (.ref (G.2.1 40 0)), some (.ref (G.2.1 80 0)), some (.int (nI i)), some (.int 0), some (.int v), none] []
    refine l_aload_n F dL_law__852 rfl ?_
    refine l_callV F (k' := 1) (mc' := 0) [] [] dL_law__853 rfl rfl (by decide) rfl cl_L_132 hy_X10_thrown (by decide) (by omega) (by omega) (by decide) (Nat.le_of_ble_eq_true rfl) rfl (e_X10_thrown hst (fun _ _ _ _ _ => ?_))
    show ZL M G Qp (n + 1 + 0 + 0) (ns + 6 * 1 + 6 * 0 + 6 * 0) w3 856 [some (.ref b), some (.ref (G.2.1 0 0)), some (.ref (G.2.1 40 0)), some (.ref (G.2.1 80 0)), some (.int (nI i)), some (.int 0), some (.int v), none] [.int (w3.1 40 0 0)]
    rw [h0]
    refine l_iload F dL_law__856 rfl ?_
    refine l_icmp_eq F 863 dL_law__858 (by decide) ⟨fun _ => ?_, fun hc => absurd rfl hc⟩
    refine l_iload F dL_law__863 rfl ?_
    refine l_if_ne F 880 dL_law__865 (by decide) ⟨fun hc => absurd rfl hc, fun _ => ?_⟩
    refine l_aload_n F dL_law__868 rfl ?_
    refine l_iconst F 0 dL_law__869 (by decide) ?_
    refine l_out F dL_law__870 ?_
    refine l_iload F dL_law__871 rfl ?_
    refine l_i2l F dL_law__873 ?_
    refine l_lcmp F dL_law__874 ?_
    refine l_if_eq F 880 dL_law__875 (by decide) ⟨fun _ => ?_, fun hc => absurd (by rw [h1]; exact lg_cmp_self _) hc⟩
    refine l_goto F 2606 dL_law__880 (by decide) ?_
    exact l_weak (l_widen (hK w3 hv) (by omega) (by omega)) ⟨rfl, rfl, rfl, rfl, rfl, trivial⟩
  · have hc := hx.2
    show ZL M G Qp (n + 1) (ns + 6 * 1) w2 832 [some (.ref b), some (.ref (G.2.1 0 0)), some (.ref (G.2.1 40 0)), some (.ref (G.2.1 80 0)), some (.int (nI i)), none, none, none] [.int 1]
    refine l_istore F dL_law__832 (by show 5 < 8; decide) ?_
    show ZL M G Qp (n + 1) (ns + 6 * 1) w2 834 [some (.ref b), some (.ref (G.2.1 0 0)), some (.ref (G.2.1 40 0)), some (.ref (G.2.1 80 0)), some (.int (nI i)), some (.int 1), none, none] []
    refine l_aload_n F dL_law__834 rfl ?_
    refine l_aload_n F dL_law__835 rfl ?_
    refine l_iload F dL_law__836 rfl ?_
    refine l_iconst F 1 dL_law__838 (by decide) ?_
    refine l_iadd F dL_law__839 ?_
    refine l_sld F (i + 1) (ix_at (c := 1) rfl (by omega)).1 (ix_at (c := 1) rfl (by omega)).2 (by omega) dL_law__840 ?_
    refine l_aload_n F dL_law__841 rfl ?_
    refine l_iload F dL_law__842 rfl ?_
    refine l_iconst F 2 dL_law__844 (by decide) ?_
    refine l_iadd F dL_law__845 ?_
    refine l_sld F (i + 2) (ix_at (c := 2) rfl (by omega)).1 (ix_at (c := 2) rfl (by omega)).2 (by omega) dL_law__846 ?_
    refine l_callV F (k' := 6) (mc' := 0) [.int (xs (i + 1)), .int (xs (i + 2))] [] dL_law__847 rfl rfl (by decide) rfl cl_L_168 hy_X10_takes (by decide) (by omega) (by omega) (by decide) (Nat.le_of_ble_eq_true rfl) rfl (con_mono hc ?_ (fun _ _ h => h))
    rintro r w3 ⟨⟨v, rfl⟩, h0, hv⟩
    show ZL M G Qp (n + 1 + 0) (ns + 6 * 1 + 6 * 0) w3 850 [some (.ref b), some (.ref (G.2.1 0 0)), some (.ref (G.2.1 40 0)), some (.ref (G.2.1 80 0)), some (.int (nI i)), some (.int 1), none, none] [.int v]
    refine l_istore F dL_law__850 (by show 6 < 8; decide) ?_
    show ZL M G Qp (n + 1 + 0) (ns + 6 * 1 + 6 * 0) w3 852 [some (.ref b), some (.ref (G.2.1 0 0)), some (.ref (G.2.1 40 0)), some (.ref (G.2.1 80 0)), some (.int (nI i)), some (.int 1), some (.int v), none] []
    refine l_aload_n F dL_law__852 rfl ?_
    refine l_callV F (k' := 1) (mc' := 0) [] [] dL_law__853 rfl rfl (by decide) rfl cl_L_132 hy_X10_thrown (by decide) (by omega) (by omega) (by decide) (Nat.le_of_ble_eq_true rfl) rfl (e_X10_thrown hst (fun _ _ _ _ _ => ?_))
    show ZL M G Qp (n + 1 + 0 + 0) (ns + 6 * 1 + 6 * 0 + 6 * 0) w3 856 [some (.ref b), some (.ref (G.2.1 0 0)), some (.ref (G.2.1 40 0)), some (.ref (G.2.1 80 0)), some (.int (nI i)), some (.int 1), some (.int v), none] [.int (w3.1 40 0 0)]
    rw [h0]
    refine l_iload F dL_law__856 rfl ?_
    refine l_icmp_eq F 863 dL_law__858 (by decide) ⟨fun _ => ?_, fun hc => absurd rfl hc⟩
    refine l_iload F dL_law__863 rfl ?_
    refine l_if_ne F 880 dL_law__865 (by decide) ⟨fun _ => ?_, fun hc => absurd (show ¬ (1 : Int32) = 0 by decide) hc⟩
    refine l_goto F 2606 dL_law__880 (by decide) ?_
    exact l_weak (l_widen (hK w3 hv) (by omega) (by omega)) ⟨rfl, rfl, rfl, rfl, rfl, trivial⟩
theorem q_would (F : FL M G b L xs) (hi : i + 9 ≤ L) (hL : L ≤ 576) (hn : n + 16 ≤ 600128) (hns : ns + 96 ≤ 7301098)
    (h : C_X9_would (mL M) G w [.ref (G.2.1 0 0), .int (xs (i + 1)), .int (xs (i + 2)), .int (xs (i + 3)), .int (xs (i + 4)), .int (xs (i + 5)), .int (xs (i + 6)), .int (xs (i + 7)), .int (xs (i + 8))] (fun r w1 => ∃ v, r = some (.int v) ∧ C_X10_would (mL M) G (setL w1 80 0 0 v.toInt64) [.ref (G.2.1 40 0), .int (xs (i + 1)), .int (xs (i + 2)), .int (xs (i + 3)), .int (xs (i + 4)), .int (xs (i + 5)), .int (xs (i + 6)), .int (xs (i + 7)), .int (xs (i + 8))] (fun r2 w2 => r2 = some (.int v) ∧ w2.1 40 0 0 = 0 ∧ w2.2.1 80 0 0 = v.toInt64 ∧ INV w2) noX) (fun E w1 => E = nIae ∧ C_X10_would (mL M) G w1 [.ref (G.2.1 40 0), .int (xs (i + 1)), .int (xs (i + 2)), .int (xs (i + 3)), .int (xs (i + 4)), .int (xs (i + 5)), .int (xs (i + 6)), .int (xs (i + 7)), .int (xs (i + 8))] (fun r2 w2 => (∃ v, r2 = some (.int v)) ∧ w2.1 40 0 0 = 1 ∧ INV w2) noX))
    (hK : ∀ w2, INV w2 → ZL M G Qp (n + 16) (ns + 96) w2 2606 (lB G b i) []) : ZL M G Qp n ns w 883 (lB G b i) [] := by
  show ZL M G Qp n ns w 883 [some (.ref b), some (.ref (G.2.1 0 0)), some (.ref (G.2.1 40 0)), some (.ref (G.2.1 80 0)), some (.int (nI i)), none, none, none] []
  have hst : (mL M).stackTraces = false := F.2.2.2.2.2.2.2.2.1
  refine l_aload_n F dL_law__883 rfl ?_
  refine l_aload_n F dL_law__884 rfl ?_
  refine l_iload F dL_law__885 rfl ?_
  refine l_iconst F 1 dL_law__887 (by decide) ?_
  refine l_iadd F dL_law__888 ?_
  refine l_sld F (i + 1) (ix_at (c := 1) rfl (by omega)).1 (ix_at (c := 1) rfl (by omega)).2 (by omega) dL_law__889 ?_
  refine l_aload_n F dL_law__890 rfl ?_
  refine l_iload F dL_law__891 rfl ?_
  refine l_iconst F 2 dL_law__893 (by decide) ?_
  refine l_iadd F dL_law__894 ?_
  refine l_sld F (i + 2) (ix_at (c := 2) rfl (by omega)).1 (ix_at (c := 2) rfl (by omega)).2 (by omega) dL_law__895 ?_
  refine l_aload_n F dL_law__896 rfl ?_
  refine l_iload F dL_law__897 rfl ?_
  refine l_iconst F 3 dL_law__899 (by decide) ?_
  refine l_iadd F dL_law__900 ?_
  refine l_sld F (i + 3) (ix_at (c := 3) rfl (by omega)).1 (ix_at (c := 3) rfl (by omega)).2 (by omega) dL_law__901 ?_
  refine l_aload_n F dL_law__902 rfl ?_
  refine l_iload F dL_law__903 rfl ?_
  refine l_iconst F 4 dL_law__905 (by decide) ?_
  refine l_iadd F dL_law__906 ?_
  refine l_sld F (i + 4) (ix_at (c := 4) rfl (by omega)).1 (ix_at (c := 4) rfl (by omega)).2 (by omega) dL_law__907 ?_
  refine l_aload_n F dL_law__908 rfl ?_
  refine l_iload F dL_law__909 rfl ?_
  refine l_iconst F 5 dL_law__911 (by decide) ?_
  refine l_iadd F dL_law__912 ?_
  refine l_sld F (i + 5) (ix_at (c := 5) rfl (by omega)).1 (ix_at (c := 5) rfl (by omega)).2 (by omega) dL_law__913 ?_
  refine l_aload_n F dL_law__914 rfl ?_
  refine l_iload F dL_law__915 rfl ?_
  refine l_bipush F 6 dL_law__917 (by decide) ?_
  refine l_iadd F dL_law__919 ?_
  refine l_sld F (i + 6) (ix_at (c := 6) rfl (by omega)).1 (ix_at (c := 6) rfl (by omega)).2 (by omega) dL_law__920 ?_
  refine l_aload_n F dL_law__921 rfl ?_
  refine l_iload F dL_law__922 rfl ?_
  refine l_bipush F 7 dL_law__924 (by decide) ?_
  refine l_iadd F dL_law__926 ?_
  refine l_sld F (i + 7) (ix_at (c := 7) rfl (by omega)).1 (ix_at (c := 7) rfl (by omega)).2 (by omega) dL_law__927 ?_
  refine l_aload_n F dL_law__928 rfl ?_
  refine l_iload F dL_law__929 rfl ?_
  refine l_bipush F 8 dL_law__931 (by decide) ?_
  refine l_iadd F dL_law__933 ?_
  refine l_sld F (i + 8) (ix_at (c := 8) rfl (by omega)).1 (ix_at (c := 8) rfl (by omega)).2 (by omega) dL_law__934 ?_
  refine l_aload_n F dL_law__935 rfl ?_
  refine l_callH F (k' := 8) (mc' := 4) [.ref (G.2.1 0 0), .int (xs (i + 1)), .int (xs (i + 2)), .int (xs (i + 3)), .int (xs (i + 4)), .int (xs (i + 5)), .int (xs (i + 6)), .int (xs (i + 7)), .int (xs (i + 8)), .ref (G.2.1 80 0)] [] dL_law__936 rfl kL_would kY_would (by decide) (by omega) (by omega) (by decide) (Nat.le_of_ble_eq_true rfl) rfl (conH_mono (k_would hst F.2.2.2.2.2.2.2.2.2.2.2.2.2 h (fun r w2 h => ⟨h.choose, h.choose_spec.1⟩) (fun E w2 h => h.1)) ?_)
  rintro r w2 (⟨v, w1, ⟨v1, e1, hc⟩, rfl, rfl⟩ | ⟨hx, rfl⟩)
  · cases e1
    show ZL M G Qp (n + 4) (ns + 6 * 4) (setL w1 80 0 0 v.toInt64) 939 [some (.ref b), some (.ref (G.2.1 0 0)), some (.ref (G.2.1 40 0)), some (.ref (G.2.1 80 0)), some (.int (nI i)), none, none, none] [.int 0]
    refine l_istore F dL_law__939 (by show 5 < 8; decide) ?_
    show ZL M G Qp (n + 4) (ns + 6 * 4) (setL w1 80 0 0 v.toInt64) 941 [some (.ref b), some (.ref (G.2.1 0 0)), some (.ref (G.2.1 40 0)), some (.ref (G.2.1 80 0)), some (.int (nI i)), some (.int 0), none, none] []
    refine l_aload_n F dL_law__941 rfl ?_
    refine l_aload_n F dL_law__942 rfl ?_
    refine l_iload F dL_law__943 rfl ?_
    refine l_iconst F 1 dL_law__945 (by decide) ?_
    refine l_iadd F dL_law__946 ?_
    refine l_sld F (i + 1) (ix_at (c := 1) rfl (by omega)).1 (ix_at (c := 1) rfl (by omega)).2 (by omega) dL_law__947 ?_
    refine l_aload_n F dL_law__948 rfl ?_
    refine l_iload F dL_law__949 rfl ?_
    refine l_iconst F 2 dL_law__951 (by decide) ?_
    refine l_iadd F dL_law__952 ?_
    refine l_sld F (i + 2) (ix_at (c := 2) rfl (by omega)).1 (ix_at (c := 2) rfl (by omega)).2 (by omega) dL_law__953 ?_
    refine l_aload_n F dL_law__954 rfl ?_
    refine l_iload F dL_law__955 rfl ?_
    refine l_iconst F 3 dL_law__957 (by decide) ?_
    refine l_iadd F dL_law__958 ?_
    refine l_sld F (i + 3) (ix_at (c := 3) rfl (by omega)).1 (ix_at (c := 3) rfl (by omega)).2 (by omega) dL_law__959 ?_
    refine l_aload_n F dL_law__960 rfl ?_
    refine l_iload F dL_law__961 rfl ?_
    refine l_iconst F 4 dL_law__963 (by decide) ?_
    refine l_iadd F dL_law__964 ?_
    refine l_sld F (i + 4) (ix_at (c := 4) rfl (by omega)).1 (ix_at (c := 4) rfl (by omega)).2 (by omega) dL_law__965 ?_
    refine l_aload_n F dL_law__966 rfl ?_
    refine l_iload F dL_law__967 rfl ?_
    refine l_iconst F 5 dL_law__969 (by decide) ?_
    refine l_iadd F dL_law__970 ?_
    refine l_sld F (i + 5) (ix_at (c := 5) rfl (by omega)).1 (ix_at (c := 5) rfl (by omega)).2 (by omega) dL_law__971 ?_
    refine l_aload_n F dL_law__972 rfl ?_
    refine l_iload F dL_law__973 rfl ?_
    refine l_bipush F 6 dL_law__975 (by decide) ?_
    refine l_iadd F dL_law__977 ?_
    refine l_sld F (i + 6) (ix_at (c := 6) rfl (by omega)).1 (ix_at (c := 6) rfl (by omega)).2 (by omega) dL_law__978 ?_
    refine l_aload_n F dL_law__979 rfl ?_
    refine l_iload F dL_law__980 rfl ?_
    refine l_bipush F 7 dL_law__982 (by decide) ?_
    refine l_iadd F dL_law__984 ?_
    refine l_sld F (i + 7) (ix_at (c := 7) rfl (by omega)).1 (ix_at (c := 7) rfl (by omega)).2 (by omega) dL_law__985 ?_
    refine l_aload_n F dL_law__986 rfl ?_
    refine l_iload F dL_law__987 rfl ?_
    refine l_bipush F 8 dL_law__989 (by decide) ?_
    refine l_iadd F dL_law__991 ?_
    refine l_sld F (i + 8) (ix_at (c := 8) rfl (by omega)).1 (ix_at (c := 8) rfl (by omega)).2 (by omega) dL_law__992 ?_
    refine l_callV F (k' := 5) (mc' := 0) [.int (xs (i + 1)), .int (xs (i + 2)), .int (xs (i + 3)), .int (xs (i + 4)), .int (xs (i + 5)), .int (xs (i + 6)), .int (xs (i + 7)), .int (xs (i + 8))] [] dL_law__993 rfl rfl (by decide) rfl cl_L_172 hy_X10_would (by decide) (by omega) (by omega) (by decide) (Nat.le_of_ble_eq_true rfl) rfl (con_mono hc ?_ (fun _ _ h => h))
    rintro r w3 ⟨rfl, h0, h1, hv⟩
    show ZL M G Qp (n + 4 + 0) (ns + 6 * 4 + 6 * 0) w3 996 [some (.ref b), some (.ref (G.2.1 0 0)), some (.ref (G.2.1 40 0)), some (.ref (G.2.1 80 0)), some (.int (nI i)), some (.int 0), none, none] [.int v]
    refine l_istore F dL_law__996 (by show 6 < 8; decide) ?_
    show ZL M G Qp (n + 4 + 0) (ns + 6 * 4 + 6 * 0) w3 998 [some (.ref b), some (.ref (G.2.1 0 0)), some (.ref (G.2.1 40 0)), some (.ref (G.2.1 80 0)), some (.int (nI i)), some (.int 0), some (.int v), none] []
    refine l_aload_n F dL_law__998 rfl ?_
    refine l_callV F (k' := 1) (mc' := 0) [] [] dL_law__999 rfl rfl (by decide) rfl cl_L_132 hy_X10_thrown (by decide) (by omega) (by omega) (by decide) (Nat.le_of_ble_eq_true rfl) rfl (e_X10_thrown hst (fun _ _ _ _ _ => ?_))
    show ZL M G Qp (n + 4 + 0 + 0) (ns + 6 * 4 + 6 * 0 + 6 * 0) w3 1002 [some (.ref b), some (.ref (G.2.1 0 0)), some (.ref (G.2.1 40 0)), some (.ref (G.2.1 80 0)), some (.int (nI i)), some (.int 0), some (.int v), none] [.int (w3.1 40 0 0)]
    rw [h0]
    refine l_iload F dL_law__1002 rfl ?_
    refine l_icmp_eq F 1009 dL_law__1004 (by decide) ⟨fun _ => ?_, fun hc => absurd rfl hc⟩
    refine l_iload F dL_law__1009 rfl ?_
    refine l_if_ne F 1026 dL_law__1011 (by decide) ⟨fun hc => absurd rfl hc, fun _ => ?_⟩
    refine l_aload_n F dL_law__1014 rfl ?_
    refine l_iconst F 0 dL_law__1015 (by decide) ?_
    refine l_out F dL_law__1016 ?_
    refine l_iload F dL_law__1017 rfl ?_
    refine l_i2l F dL_law__1019 ?_
    refine l_lcmp F dL_law__1020 ?_
    refine l_if_eq F 1026 dL_law__1021 (by decide) ⟨fun _ => ?_, fun hc => absurd (by rw [h1]; exact lg_cmp_self _) hc⟩
    refine l_goto F 2606 dL_law__1026 (by decide) ?_
    exact l_weak (l_widen (hK w3 hv) (by omega) (by omega)) ⟨rfl, rfl, rfl, rfl, rfl, trivial⟩
  · have hc := hx.2
    show ZL M G Qp (n + 4) (ns + 6 * 4) w2 939 [some (.ref b), some (.ref (G.2.1 0 0)), some (.ref (G.2.1 40 0)), some (.ref (G.2.1 80 0)), some (.int (nI i)), none, none, none] [.int 1]
    refine l_istore F dL_law__939 (by show 5 < 8; decide) ?_
    show ZL M G Qp (n + 4) (ns + 6 * 4) w2 941 [some (.ref b), some (.ref (G.2.1 0 0)), some (.ref (G.2.1 40 0)), some (.ref (G.2.1 80 0)), some (.int (nI i)), some (.int 1), none, none] []
    refine l_aload_n F dL_law__941 rfl ?_
    refine l_aload_n F dL_law__942 rfl ?_
    refine l_iload F dL_law__943 rfl ?_
    refine l_iconst F 1 dL_law__945 (by decide) ?_
    refine l_iadd F dL_law__946 ?_
    refine l_sld F (i + 1) (ix_at (c := 1) rfl (by omega)).1 (ix_at (c := 1) rfl (by omega)).2 (by omega) dL_law__947 ?_
    refine l_aload_n F dL_law__948 rfl ?_
    refine l_iload F dL_law__949 rfl ?_
    refine l_iconst F 2 dL_law__951 (by decide) ?_
    refine l_iadd F dL_law__952 ?_
    refine l_sld F (i + 2) (ix_at (c := 2) rfl (by omega)).1 (ix_at (c := 2) rfl (by omega)).2 (by omega) dL_law__953 ?_
    refine l_aload_n F dL_law__954 rfl ?_
    refine l_iload F dL_law__955 rfl ?_
    refine l_iconst F 3 dL_law__957 (by decide) ?_
    refine l_iadd F dL_law__958 ?_
    refine l_sld F (i + 3) (ix_at (c := 3) rfl (by omega)).1 (ix_at (c := 3) rfl (by omega)).2 (by omega) dL_law__959 ?_
    refine l_aload_n F dL_law__960 rfl ?_
    refine l_iload F dL_law__961 rfl ?_
    refine l_iconst F 4 dL_law__963 (by decide) ?_
    refine l_iadd F dL_law__964 ?_
    refine l_sld F (i + 4) (ix_at (c := 4) rfl (by omega)).1 (ix_at (c := 4) rfl (by omega)).2 (by omega) dL_law__965 ?_
    refine l_aload_n F dL_law__966 rfl ?_
    refine l_iload F dL_law__967 rfl ?_
    refine l_iconst F 5 dL_law__969 (by decide) ?_
    refine l_iadd F dL_law__970 ?_
    refine l_sld F (i + 5) (ix_at (c := 5) rfl (by omega)).1 (ix_at (c := 5) rfl (by omega)).2 (by omega) dL_law__971 ?_
    refine l_aload_n F dL_law__972 rfl ?_
    refine l_iload F dL_law__973 rfl ?_
    refine l_bipush F 6 dL_law__975 (by decide) ?_
    refine l_iadd F dL_law__977 ?_
    refine l_sld F (i + 6) (ix_at (c := 6) rfl (by omega)).1 (ix_at (c := 6) rfl (by omega)).2 (by omega) dL_law__978 ?_
    refine l_aload_n F dL_law__979 rfl ?_
    refine l_iload F dL_law__980 rfl ?_
    refine l_bipush F 7 dL_law__982 (by decide) ?_
    refine l_iadd F dL_law__984 ?_
    refine l_sld F (i + 7) (ix_at (c := 7) rfl (by omega)).1 (ix_at (c := 7) rfl (by omega)).2 (by omega) dL_law__985 ?_
    refine l_aload_n F dL_law__986 rfl ?_
    refine l_iload F dL_law__987 rfl ?_
    refine l_bipush F 8 dL_law__989 (by decide) ?_
    refine l_iadd F dL_law__991 ?_
    refine l_sld F (i + 8) (ix_at (c := 8) rfl (by omega)).1 (ix_at (c := 8) rfl (by omega)).2 (by omega) dL_law__992 ?_
    refine l_callV F (k' := 5) (mc' := 0) [.int (xs (i + 1)), .int (xs (i + 2)), .int (xs (i + 3)), .int (xs (i + 4)), .int (xs (i + 5)), .int (xs (i + 6)), .int (xs (i + 7)), .int (xs (i + 8))] [] dL_law__993 rfl rfl (by decide) rfl cl_L_172 hy_X10_would (by decide) (by omega) (by omega) (by decide) (Nat.le_of_ble_eq_true rfl) rfl (con_mono hc ?_ (fun _ _ h => h))
    rintro r w3 ⟨⟨v, rfl⟩, h0, hv⟩
    show ZL M G Qp (n + 4 + 0) (ns + 6 * 4 + 6 * 0) w3 996 [some (.ref b), some (.ref (G.2.1 0 0)), some (.ref (G.2.1 40 0)), some (.ref (G.2.1 80 0)), some (.int (nI i)), some (.int 1), none, none] [.int v]
    refine l_istore F dL_law__996 (by show 6 < 8; decide) ?_
    show ZL M G Qp (n + 4 + 0) (ns + 6 * 4 + 6 * 0) w3 998 [some (.ref b), some (.ref (G.2.1 0 0)), some (.ref (G.2.1 40 0)), some (.ref (G.2.1 80 0)), some (.int (nI i)), some (.int 1), some (.int v), none] []
    refine l_aload_n F dL_law__998 rfl ?_
    refine l_callV F (k' := 1) (mc' := 0) [] [] dL_law__999 rfl rfl (by decide) rfl cl_L_132 hy_X10_thrown (by decide) (by omega) (by omega) (by decide) (Nat.le_of_ble_eq_true rfl) rfl (e_X10_thrown hst (fun _ _ _ _ _ => ?_))
    show ZL M G Qp (n + 4 + 0 + 0) (ns + 6 * 4 + 6 * 0 + 6 * 0) w3 1002 [some (.ref b), some (.ref (G.2.1 0 0)), some (.ref (G.2.1 40 0)), some (.ref (G.2.1 80 0)), some (.int (nI i)), some (.int 1), some (.int v), none] [.int (w3.1 40 0 0)]
    rw [h0]
    refine l_iload F dL_law__1002 rfl ?_
    refine l_icmp_eq F 1009 dL_law__1004 (by decide) ⟨fun _ => ?_, fun hc => absurd rfl hc⟩
    refine l_iload F dL_law__1009 rfl ?_
    refine l_if_ne F 1026 dL_law__1011 (by decide) ⟨fun _ => ?_, fun hc => absurd (show ¬ (1 : Int32) = 0 by decide) hc⟩
    refine l_goto F 2606 dL_law__1026 (by decide) ?_
    exact l_weak (l_widen (hK w3 hv) (by omega) (by omega)) ⟨rfl, rfl, rfl, rfl, rfl, trivial⟩
theorem q_ahead (F : FL M G b L xs) (hi : i + 9 ≤ L) (hL : L ≤ 576) (hn : n + 16 ≤ 600128) (hns : ns + 96 ≤ 7301098)
    (h : C_X9_ahead (mL M) G w [.ref (G.2.1 0 0), .int (xs (i + 1)), .int (xs (i + 2))] (fun r w1 => ∃ v, r = some (.int v) ∧ C_X10_ahead (mL M) G (setL w1 80 0 0 v.toInt64) [.ref (G.2.1 40 0), .int (xs (i + 1)), .int (xs (i + 2))] (fun r2 w2 => r2 = some (.int v) ∧ w2.1 40 0 0 = 0 ∧ w2.2.1 80 0 0 = v.toInt64 ∧ INV w2) noX) (fun E w1 => E = nIae ∧ C_X10_ahead (mL M) G w1 [.ref (G.2.1 40 0), .int (xs (i + 1)), .int (xs (i + 2))] (fun r2 w2 => (∃ v, r2 = some (.int v)) ∧ w2.1 40 0 0 = 1 ∧ INV w2) noX))
    (hK : ∀ w2, INV w2 → ZL M G Qp (n + 16) (ns + 96) w2 2606 (lB G b i) []) : ZL M G Qp n ns w 1029 (lB G b i) [] := by
  show ZL M G Qp n ns w 1029 [some (.ref b), some (.ref (G.2.1 0 0)), some (.ref (G.2.1 40 0)), some (.ref (G.2.1 80 0)), some (.int (nI i)), none, none, none] []
  have hst : (mL M).stackTraces = false := F.2.2.2.2.2.2.2.2.1
  refine l_aload_n F dL_law__1029 rfl ?_
  refine l_aload_n F dL_law__1030 rfl ?_
  refine l_iload F dL_law__1031 rfl ?_
  refine l_iconst F 1 dL_law__1033 (by decide) ?_
  refine l_iadd F dL_law__1034 ?_
  refine l_sld F (i + 1) (ix_at (c := 1) rfl (by omega)).1 (ix_at (c := 1) rfl (by omega)).2 (by omega) dL_law__1035 ?_
  refine l_aload_n F dL_law__1036 rfl ?_
  refine l_iload F dL_law__1037 rfl ?_
  refine l_iconst F 2 dL_law__1039 (by decide) ?_
  refine l_iadd F dL_law__1040 ?_
  refine l_sld F (i + 2) (ix_at (c := 2) rfl (by omega)).1 (ix_at (c := 2) rfl (by omega)).2 (by omega) dL_law__1041 ?_
  refine l_aload_n F dL_law__1042 rfl ?_
  refine l_callH F (k' := 8) (mc' := 1) [.ref (G.2.1 0 0), .int (xs (i + 1)), .int (xs (i + 2)), .ref (G.2.1 80 0)] [] dL_law__1043 rfl kL_ahead kY_ahead (by decide) (by omega) (by omega) (by decide) (Nat.le_of_ble_eq_true rfl) rfl (conH_mono (k_ahead hst F.2.2.2.2.2.2.2.2.2.2.2.2.2 h (fun r w2 h => ⟨h.choose, h.choose_spec.1⟩) (fun E w2 h => h.1)) ?_)
  rintro r w2 (⟨v, w1, ⟨v1, e1, hc⟩, rfl, rfl⟩ | ⟨hx, rfl⟩)
  · cases e1
    show ZL M G Qp (n + 1) (ns + 6 * 1) (setL w1 80 0 0 v.toInt64) 1046 [some (.ref b), some (.ref (G.2.1 0 0)), some (.ref (G.2.1 40 0)), some (.ref (G.2.1 80 0)), some (.int (nI i)), none, none, none] [.int 0]
    refine l_istore F dL_law__1046 (by show 5 < 8; decide) ?_
    show ZL M G Qp (n + 1) (ns + 6 * 1) (setL w1 80 0 0 v.toInt64) 1048 [some (.ref b), some (.ref (G.2.1 0 0)), some (.ref (G.2.1 40 0)), some (.ref (G.2.1 80 0)), some (.int (nI i)), some (.int 0), none, none] []
    refine l_aload_n F dL_law__1048 rfl ?_
    refine l_aload_n F dL_law__1049 rfl ?_
    refine l_iload F dL_law__1050 rfl ?_
    refine l_iconst F 1 dL_law__1052 (by decide) ?_
    refine l_iadd F dL_law__1053 ?_
    refine l_sld F (i + 1) (ix_at (c := 1) rfl (by omega)).1 (ix_at (c := 1) rfl (by omega)).2 (by omega) dL_law__1054 ?_
    refine l_aload_n F dL_law__1055 rfl ?_
    refine l_iload F dL_law__1056 rfl ?_
    refine l_iconst F 2 dL_law__1058 (by decide) ?_
    refine l_iadd F dL_law__1059 ?_
    refine l_sld F (i + 2) (ix_at (c := 2) rfl (by omega)).1 (ix_at (c := 2) rfl (by omega)).2 (by omega) dL_law__1060 ?_
    refine l_callV F (k' := 9) (mc' := 0) [.int (xs (i + 1)), .int (xs (i + 2))] [] dL_law__1061 rfl rfl (by decide) rfl cl_L_175 hy_X10_ahead (by decide) (by omega) (by omega) (by decide) (Nat.le_of_ble_eq_true rfl) rfl (con_mono hc ?_ (fun _ _ h => h))
    rintro r w3 ⟨rfl, h0, h1, hv⟩
    show ZL M G Qp (n + 1 + 0) (ns + 6 * 1 + 6 * 0) w3 1064 [some (.ref b), some (.ref (G.2.1 0 0)), some (.ref (G.2.1 40 0)), some (.ref (G.2.1 80 0)), some (.int (nI i)), some (.int 0), none, none] [.int v]
    refine l_istore F dL_law__1064 (by show 6 < 8; decide) ?_
    show ZL M G Qp (n + 1 + 0) (ns + 6 * 1 + 6 * 0) w3 1066 [some (.ref b), some (.ref (G.2.1 0 0)), some (.ref (G.2.1 40 0)), some (.ref (G.2.1 80 0)), some (.int (nI i)), some (.int 0), some (.int v), none] []
    refine l_aload_n F dL_law__1066 rfl ?_
    refine l_callV F (k' := 1) (mc' := 0) [] [] dL_law__1067 rfl rfl (by decide) rfl cl_L_132 hy_X10_thrown (by decide) (by omega) (by omega) (by decide) (Nat.le_of_ble_eq_true rfl) rfl (e_X10_thrown hst (fun _ _ _ _ _ => ?_))
    show ZL M G Qp (n + 1 + 0 + 0) (ns + 6 * 1 + 6 * 0 + 6 * 0) w3 1070 [some (.ref b), some (.ref (G.2.1 0 0)), some (.ref (G.2.1 40 0)), some (.ref (G.2.1 80 0)), some (.int (nI i)), some (.int 0), some (.int v), none] [.int (w3.1 40 0 0)]
    rw [h0]
    refine l_iload F dL_law__1070 rfl ?_
    refine l_icmp_eq F 1077 dL_law__1072 (by decide) ⟨fun _ => ?_, fun hc => absurd rfl hc⟩
    refine l_iload F dL_law__1077 rfl ?_
    refine l_if_ne F 1094 dL_law__1079 (by decide) ⟨fun hc => absurd rfl hc, fun _ => ?_⟩
    refine l_aload_n F dL_law__1082 rfl ?_
    refine l_iconst F 0 dL_law__1083 (by decide) ?_
    refine l_out F dL_law__1084 ?_
    refine l_iload F dL_law__1085 rfl ?_
    refine l_i2l F dL_law__1087 ?_
    refine l_lcmp F dL_law__1088 ?_
    refine l_if_eq F 1094 dL_law__1089 (by decide) ⟨fun _ => ?_, fun hc => absurd (by rw [h1]; exact lg_cmp_self _) hc⟩
    refine l_goto F 2606 dL_law__1094 (by decide) ?_
    exact l_weak (l_widen (hK w3 hv) (by omega) (by omega)) ⟨rfl, rfl, rfl, rfl, rfl, trivial⟩
  · have hc := hx.2
    show ZL M G Qp (n + 1) (ns + 6 * 1) w2 1046 [some (.ref b), some (.ref (G.2.1 0 0)), some (.ref (G.2.1 40 0)), some (.ref (G.2.1 80 0)), some (.int (nI i)), none, none, none] [.int 1]
    refine l_istore F dL_law__1046 (by show 5 < 8; decide) ?_
    show ZL M G Qp (n + 1) (ns + 6 * 1) w2 1048 [some (.ref b), some (.ref (G.2.1 0 0)), some (.ref (G.2.1 40 0)), some (.ref (G.2.1 80 0)), some (.int (nI i)), some (.int 1), none, none] []
    refine l_aload_n F dL_law__1048 rfl ?_
    refine l_aload_n F dL_law__1049 rfl ?_
    refine l_iload F dL_law__1050 rfl ?_
    refine l_iconst F 1 dL_law__1052 (by decide) ?_
    refine l_iadd F dL_law__1053 ?_
    refine l_sld F (i + 1) (ix_at (c := 1) rfl (by omega)).1 (ix_at (c := 1) rfl (by omega)).2 (by omega) dL_law__1054 ?_
    refine l_aload_n F dL_law__1055 rfl ?_
    refine l_iload F dL_law__1056 rfl ?_
    refine l_iconst F 2 dL_law__1058 (by decide) ?_
    refine l_iadd F dL_law__1059 ?_
    refine l_sld F (i + 2) (ix_at (c := 2) rfl (by omega)).1 (ix_at (c := 2) rfl (by omega)).2 (by omega) dL_law__1060 ?_
    refine l_callV F (k' := 9) (mc' := 0) [.int (xs (i + 1)), .int (xs (i + 2))] [] dL_law__1061 rfl rfl (by decide) rfl cl_L_175 hy_X10_ahead (by decide) (by omega) (by omega) (by decide) (Nat.le_of_ble_eq_true rfl) rfl (con_mono hc ?_ (fun _ _ h => h))
    rintro r w3 ⟨⟨v, rfl⟩, h0, hv⟩
    show ZL M G Qp (n + 1 + 0) (ns + 6 * 1 + 6 * 0) w3 1064 [some (.ref b), some (.ref (G.2.1 0 0)), some (.ref (G.2.1 40 0)), some (.ref (G.2.1 80 0)), some (.int (nI i)), some (.int 1), none, none] [.int v]
    refine l_istore F dL_law__1064 (by show 6 < 8; decide) ?_
    show ZL M G Qp (n + 1 + 0) (ns + 6 * 1 + 6 * 0) w3 1066 [some (.ref b), some (.ref (G.2.1 0 0)), some (.ref (G.2.1 40 0)), some (.ref (G.2.1 80 0)), some (.int (nI i)), some (.int 1), some (.int v), none] []
    refine l_aload_n F dL_law__1066 rfl ?_
    refine l_callV F (k' := 1) (mc' := 0) [] [] dL_law__1067 rfl rfl (by decide) rfl cl_L_132 hy_X10_thrown (by decide) (by omega) (by omega) (by decide) (Nat.le_of_ble_eq_true rfl) rfl (e_X10_thrown hst (fun _ _ _ _ _ => ?_))
    show ZL M G Qp (n + 1 + 0 + 0) (ns + 6 * 1 + 6 * 0 + 6 * 0) w3 1070 [some (.ref b), some (.ref (G.2.1 0 0)), some (.ref (G.2.1 40 0)), some (.ref (G.2.1 80 0)), some (.int (nI i)), some (.int 1), some (.int v), none] [.int (w3.1 40 0 0)]
    rw [h0]
    refine l_iload F dL_law__1070 rfl ?_
    refine l_icmp_eq F 1077 dL_law__1072 (by decide) ⟨fun _ => ?_, fun hc => absurd rfl hc⟩
    refine l_iload F dL_law__1077 rfl ?_
    refine l_if_ne F 1094 dL_law__1079 (by decide) ⟨fun _ => ?_, fun hc => absurd (show ¬ (1 : Int32) = 0 by decide) hc⟩
    refine l_goto F 2606 dL_law__1094 (by decide) ?_
    exact l_weak (l_widen (hK w3 hv) (by omega) (by omega)) ⟨rfl, rfl, rfl, rfl, rfl, trivial⟩
theorem q_cast (F : FL M G b L xs) (hi : i + 9 ≤ L) (hL : L ≤ 576) (hn : n + 16 ≤ 600128) (hns : ns + 96 ≤ 7301098)
    (h : C_X9_cast (mL M) G w [.ref (G.2.1 0 0)] (fun r w1 => ∃ v, r = some (.int v) ∧ C_X10_cast (mL M) G w1 [.ref (G.2.1 40 0)] (fun r2 w2 => r2 = some (.int v) ∧ INV w2) noX) noX)
    (hK : ∀ w2, INV w2 → ZL M G Qp (n + 16) (ns + 96) w2 2606 (lB G b i) []) : ZL M G Qp n ns w 1097 (lB G b i) [] := by
  show ZL M G Qp n ns w 1097 [some (.ref b), some (.ref (G.2.1 0 0)), some (.ref (G.2.1 40 0)), some (.ref (G.2.1 80 0)), some (.int (nI i)), none, none, none] []
  refine l_aload_n F dL_law__1097 rfl ?_
  refine l_callV F (k' := 6) (mc' := 0) [] [] dL_law__1098 rfl rfl (by decide) rfl cl_L_176 hy_X9_cast (by decide) (by omega) (by omega) (by decide) (Nat.le_of_ble_eq_true rfl) rfl (con_mono h ?_ (fun _ _ h => h))
  rintro r w1 ⟨v, rfl, hc⟩
  show ZL M G Qp (n + 0) (ns + 6 * 0) w1 1101 [some (.ref b), some (.ref (G.2.1 0 0)), some (.ref (G.2.1 40 0)), some (.ref (G.2.1 80 0)), some (.int (nI i)), none, none, none] [.int v]
  refine l_aload_n F dL_law__1101 rfl ?_
  refine l_callV F (k' := 9) (mc' := 0) [] [.int v] dL_law__1102 rfl rfl (by decide) rfl cl_L_179 hy_X10_cast (by decide) (by omega) (by omega) (by decide) (Nat.le_of_ble_eq_true rfl) rfl (con_mono hc ?_ (fun _ _ h => h))
  rintro r w3 ⟨rfl, hv⟩
  show ZL M G Qp (n + 0 + 0) (ns + 6 * 0 + 6 * 0) w3 1105 [some (.ref b), some (.ref (G.2.1 0 0)), some (.ref (G.2.1 40 0)), some (.ref (G.2.1 80 0)), some (.int (nI i)), none, none, none] [.int v, .int v]
  refine l_icmp_eq F 2606 dL_law__1105 (by decide) ⟨fun _ => ?_, fun hc => absurd rfl hc⟩
  exact l_weak (l_widen (hK w3 hv) (by omega) (by omega)) ⟨rfl, rfl, rfl, rfl, rfl, trivial⟩
theorem q_handed (F : FL M G b L xs) (hi : i + 9 ≤ L) (hL : L ≤ 576) (hn : n + 16 ≤ 600128) (hns : ns + 96 ≤ 7301098)
    (h : C_X9_handed (mL M) G w [.ref (G.2.1 0 0), .int (xs (i + 1)), .int (xs (i + 2))] (fun r w1 => ∃ v, r = some (.int v) ∧ C_X10_handed (mL M) G (setL w1 80 0 0 v.toInt64) [.ref (G.2.1 40 0), .int (xs (i + 1)), .int (xs (i + 2))] (fun r2 w2 => r2 = some (.int v) ∧ w2.1 40 0 0 = 0 ∧ w2.2.1 80 0 0 = v.toInt64 ∧ INV w2) noX) (fun E w1 => E = nIae ∧ C_X10_handed (mL M) G w1 [.ref (G.2.1 40 0), .int (xs (i + 1)), .int (xs (i + 2))] (fun r2 w2 => (∃ v, r2 = some (.int v)) ∧ w2.1 40 0 0 = 1 ∧ INV w2) noX))
    (hK : ∀ w2, INV w2 → ZL M G Qp (n + 16) (ns + 96) w2 2606 (lB G b i) []) : ZL M G Qp n ns w 1110 (lB G b i) [] := by
  show ZL M G Qp n ns w 1110 [some (.ref b), some (.ref (G.2.1 0 0)), some (.ref (G.2.1 40 0)), some (.ref (G.2.1 80 0)), some (.int (nI i)), none, none, none] []
  have hst : (mL M).stackTraces = false := F.2.2.2.2.2.2.2.2.1
  refine l_aload_n F dL_law__1110 rfl ?_
  refine l_aload_n F dL_law__1111 rfl ?_
  refine l_iload F dL_law__1112 rfl ?_
  refine l_iconst F 1 dL_law__1114 (by decide) ?_
  refine l_iadd F dL_law__1115 ?_
  refine l_sld F (i + 1) (ix_at (c := 1) rfl (by omega)).1 (ix_at (c := 1) rfl (by omega)).2 (by omega) dL_law__1116 ?_
  refine l_aload_n F dL_law__1117 rfl ?_
  refine l_iload F dL_law__1118 rfl ?_
  refine l_iconst F 2 dL_law__1120 (by decide) ?_
  refine l_iadd F dL_law__1121 ?_
  refine l_sld F (i + 2) (ix_at (c := 2) rfl (by omega)).1 (ix_at (c := 2) rfl (by omega)).2 (by omega) dL_law__1122 ?_
  refine l_aload_n F dL_law__1123 rfl ?_
  refine l_callH F (k' := 8) (mc' := 1) [.ref (G.2.1 0 0), .int (xs (i + 1)), .int (xs (i + 2)), .ref (G.2.1 80 0)] [] dL_law__1124 rfl kL_handed kY_handed (by decide) (by omega) (by omega) (by decide) (Nat.le_of_ble_eq_true rfl) rfl (conH_mono (k_handed hst F.2.2.2.2.2.2.2.2.2.2.2.2.2 h (fun r w2 h => ⟨h.choose, h.choose_spec.1⟩) (fun E w2 h => h.1)) ?_)
  rintro r w2 (⟨v, w1, ⟨v1, e1, hc⟩, rfl, rfl⟩ | ⟨hx, rfl⟩)
  · cases e1
    show ZL M G Qp (n + 1) (ns + 6 * 1) (setL w1 80 0 0 v.toInt64) 1127 [some (.ref b), some (.ref (G.2.1 0 0)), some (.ref (G.2.1 40 0)), some (.ref (G.2.1 80 0)), some (.int (nI i)), none, none, none] [.int 0]
    refine l_istore F dL_law__1127 (by show 5 < 8; decide) ?_
    show ZL M G Qp (n + 1) (ns + 6 * 1) (setL w1 80 0 0 v.toInt64) 1129 [some (.ref b), some (.ref (G.2.1 0 0)), some (.ref (G.2.1 40 0)), some (.ref (G.2.1 80 0)), some (.int (nI i)), some (.int 0), none, none] []
    refine l_aload_n F dL_law__1129 rfl ?_
    refine l_aload_n F dL_law__1130 rfl ?_
    refine l_iload F dL_law__1131 rfl ?_
    refine l_iconst F 1 dL_law__1133 (by decide) ?_
    refine l_iadd F dL_law__1134 ?_
    refine l_sld F (i + 1) (ix_at (c := 1) rfl (by omega)).1 (ix_at (c := 1) rfl (by omega)).2 (by omega) dL_law__1135 ?_
    refine l_aload_n F dL_law__1136 rfl ?_
    refine l_iload F dL_law__1137 rfl ?_
    refine l_iconst F 2 dL_law__1139 (by decide) ?_
    refine l_iadd F dL_law__1140 ?_
    refine l_sld F (i + 2) (ix_at (c := 2) rfl (by omega)).1 (ix_at (c := 2) rfl (by omega)).2 (by omega) dL_law__1141 ?_
    refine l_callV F (k' := 3) (mc' := 0) [.int (xs (i + 1)), .int (xs (i + 2))] [] dL_law__1142 rfl rfl (by decide) rfl cl_L_182 hy_X10_handed (by decide) (by omega) (by omega) (by decide) (Nat.le_of_ble_eq_true rfl) rfl (con_mono hc ?_ (fun _ _ h => h))
    rintro r w3 ⟨rfl, h0, h1, hv⟩
    show ZL M G Qp (n + 1 + 0) (ns + 6 * 1 + 6 * 0) w3 1145 [some (.ref b), some (.ref (G.2.1 0 0)), some (.ref (G.2.1 40 0)), some (.ref (G.2.1 80 0)), some (.int (nI i)), some (.int 0), none, none] [.int v]
    refine l_istore F dL_law__1145 (by show 6 < 8; decide) ?_
    show ZL M G Qp (n + 1 + 0) (ns + 6 * 1 + 6 * 0) w3 1147 [some (.ref b), some (.ref (G.2.1 0 0)), some (.ref (G.2.1 40 0)), some (.ref (G.2.1 80 0)), some (.int (nI i)), some (.int 0), some (.int v), none] []
    refine l_aload_n F dL_law__1147 rfl ?_
    refine l_callV F (k' := 1) (mc' := 0) [] [] dL_law__1148 rfl rfl (by decide) rfl cl_L_132 hy_X10_thrown (by decide) (by omega) (by omega) (by decide) (Nat.le_of_ble_eq_true rfl) rfl (e_X10_thrown hst (fun _ _ _ _ _ => ?_))
    show ZL M G Qp (n + 1 + 0 + 0) (ns + 6 * 1 + 6 * 0 + 6 * 0) w3 1151 [some (.ref b), some (.ref (G.2.1 0 0)), some (.ref (G.2.1 40 0)), some (.ref (G.2.1 80 0)), some (.int (nI i)), some (.int 0), some (.int v), none] [.int (w3.1 40 0 0)]
    rw [h0]
    refine l_iload F dL_law__1151 rfl ?_
    refine l_icmp_eq F 1158 dL_law__1153 (by decide) ⟨fun _ => ?_, fun hc => absurd rfl hc⟩
    refine l_iload F dL_law__1158 rfl ?_
    refine l_if_ne F 1175 dL_law__1160 (by decide) ⟨fun hc => absurd rfl hc, fun _ => ?_⟩
    refine l_aload_n F dL_law__1163 rfl ?_
    refine l_iconst F 0 dL_law__1164 (by decide) ?_
    refine l_out F dL_law__1165 ?_
    refine l_iload F dL_law__1166 rfl ?_
    refine l_i2l F dL_law__1168 ?_
    refine l_lcmp F dL_law__1169 ?_
    refine l_if_eq F 1175 dL_law__1170 (by decide) ⟨fun _ => ?_, fun hc => absurd (by rw [h1]; exact lg_cmp_self _) hc⟩
    refine l_goto F 2606 dL_law__1175 (by decide) ?_
    exact l_weak (l_widen (hK w3 hv) (by omega) (by omega)) ⟨rfl, rfl, rfl, rfl, rfl, trivial⟩
  · have hc := hx.2
    show ZL M G Qp (n + 1) (ns + 6 * 1) w2 1127 [some (.ref b), some (.ref (G.2.1 0 0)), some (.ref (G.2.1 40 0)), some (.ref (G.2.1 80 0)), some (.int (nI i)), none, none, none] [.int 1]
    refine l_istore F dL_law__1127 (by show 5 < 8; decide) ?_
    show ZL M G Qp (n + 1) (ns + 6 * 1) w2 1129 [some (.ref b), some (.ref (G.2.1 0 0)), some (.ref (G.2.1 40 0)), some (.ref (G.2.1 80 0)), some (.int (nI i)), some (.int 1), none, none] []
    refine l_aload_n F dL_law__1129 rfl ?_
    refine l_aload_n F dL_law__1130 rfl ?_
    refine l_iload F dL_law__1131 rfl ?_
    refine l_iconst F 1 dL_law__1133 (by decide) ?_
    refine l_iadd F dL_law__1134 ?_
    refine l_sld F (i + 1) (ix_at (c := 1) rfl (by omega)).1 (ix_at (c := 1) rfl (by omega)).2 (by omega) dL_law__1135 ?_
    refine l_aload_n F dL_law__1136 rfl ?_
    refine l_iload F dL_law__1137 rfl ?_
    refine l_iconst F 2 dL_law__1139 (by decide) ?_
    refine l_iadd F dL_law__1140 ?_
    refine l_sld F (i + 2) (ix_at (c := 2) rfl (by omega)).1 (ix_at (c := 2) rfl (by omega)).2 (by omega) dL_law__1141 ?_
    refine l_callV F (k' := 3) (mc' := 0) [.int (xs (i + 1)), .int (xs (i + 2))] [] dL_law__1142 rfl rfl (by decide) rfl cl_L_182 hy_X10_handed (by decide) (by omega) (by omega) (by decide) (Nat.le_of_ble_eq_true rfl) rfl (con_mono hc ?_ (fun _ _ h => h))
    rintro r w3 ⟨⟨v, rfl⟩, h0, hv⟩
    show ZL M G Qp (n + 1 + 0) (ns + 6 * 1 + 6 * 0) w3 1145 [some (.ref b), some (.ref (G.2.1 0 0)), some (.ref (G.2.1 40 0)), some (.ref (G.2.1 80 0)), some (.int (nI i)), some (.int 1), none, none] [.int v]
    refine l_istore F dL_law__1145 (by show 6 < 8; decide) ?_
    show ZL M G Qp (n + 1 + 0) (ns + 6 * 1 + 6 * 0) w3 1147 [some (.ref b), some (.ref (G.2.1 0 0)), some (.ref (G.2.1 40 0)), some (.ref (G.2.1 80 0)), some (.int (nI i)), some (.int 1), some (.int v), none] []
    refine l_aload_n F dL_law__1147 rfl ?_
    refine l_callV F (k' := 1) (mc' := 0) [] [] dL_law__1148 rfl rfl (by decide) rfl cl_L_132 hy_X10_thrown (by decide) (by omega) (by omega) (by decide) (Nat.le_of_ble_eq_true rfl) rfl (e_X10_thrown hst (fun _ _ _ _ _ => ?_))
    show ZL M G Qp (n + 1 + 0 + 0) (ns + 6 * 1 + 6 * 0 + 6 * 0) w3 1151 [some (.ref b), some (.ref (G.2.1 0 0)), some (.ref (G.2.1 40 0)), some (.ref (G.2.1 80 0)), some (.int (nI i)), some (.int 1), some (.int v), none] [.int (w3.1 40 0 0)]
    rw [h0]
    refine l_iload F dL_law__1151 rfl ?_
    refine l_icmp_eq F 1158 dL_law__1153 (by decide) ⟨fun _ => ?_, fun hc => absurd rfl hc⟩
    refine l_iload F dL_law__1158 rfl ?_
    refine l_if_ne F 1175 dL_law__1160 (by decide) ⟨fun _ => ?_, fun hc => absurd (show ¬ (1 : Int32) = 0 by decide) hc⟩
    refine l_goto F 2606 dL_law__1175 (by decide) ?_
    exact l_weak (l_widen (hK w3 hv) (by omega) (by omega)) ⟨rfl, rfl, rfl, rfl, rfl, trivial⟩
theorem q_bench (F : FL M G b L xs) (hi : i + 9 ≤ L) (hL : L ≤ 576) (hn : n + 16 ≤ 600128) (hns : ns + 96 ≤ 7301098)
    (h : C_X9_bench (mL M) G w [.ref (G.2.1 0 0)] (fun r w1 => ∃ v, r = some (.int v) ∧ C_X10_bench (mL M) G w1 [.ref (G.2.1 40 0)] (fun r2 w2 => r2 = some (.int v) ∧ INV w2) noX) noX)
    (hK : ∀ w2, INV w2 → ZL M G Qp (n + 16) (ns + 96) w2 2606 (lB G b i) []) : ZL M G Qp n ns w 1178 (lB G b i) [] := by
  show ZL M G Qp n ns w 1178 [some (.ref b), some (.ref (G.2.1 0 0)), some (.ref (G.2.1 40 0)), some (.ref (G.2.1 80 0)), some (.int (nI i)), none, none, none] []
  refine l_aload_n F dL_law__1178 rfl ?_
  refine l_callV F (k' := 5) (mc' := 0) [] [] dL_law__1179 rfl rfl (by decide) rfl cl_L_183 hy_X9_bench (by decide) (by omega) (by omega) (by decide) (Nat.le_of_ble_eq_true rfl) rfl (con_mono h ?_ (fun _ _ h => h))
  rintro r w1 ⟨v, rfl, hc⟩
  show ZL M G Qp (n + 0) (ns + 6 * 0) w1 1182 [some (.ref b), some (.ref (G.2.1 0 0)), some (.ref (G.2.1 40 0)), some (.ref (G.2.1 80 0)), some (.int (nI i)), none, none, none] [.int v]
  refine l_aload_n F dL_law__1182 rfl ?_
  refine l_callV F (k' := 44) (mc' := 0) [] [.int v] dL_law__1183 rfl rfl (by decide) rfl cl_L_186 hy_X10_bench (by decide) (by omega) (by omega) (by decide) (Nat.le_of_ble_eq_true rfl) rfl (con_mono hc ?_ (fun _ _ h => h))
  rintro r w3 ⟨rfl, hv⟩
  show ZL M G Qp (n + 0 + 0) (ns + 6 * 0 + 6 * 0) w3 1186 [some (.ref b), some (.ref (G.2.1 0 0)), some (.ref (G.2.1 40 0)), some (.ref (G.2.1 80 0)), some (.int (nI i)), none, none, none] [.int v, .int v]
  refine l_icmp_eq F 2606 dL_law__1186 (by decide) ⟨fun _ => ?_, fun hc => absurd rfl hc⟩
  exact l_weak (l_widen (hK w3 hv) (by omega) (by omega)) ⟨rfl, rfl, rfl, rfl, rfl, trivial⟩
theorem q_benched (F : FL M G b L xs) (hi : i + 9 ≤ L) (hL : L ≤ 576) (hn : n + 16 ≤ 600128) (hns : ns + 96 ≤ 7301098)
    (h : C_X9_benched (mL M) G w [.ref (G.2.1 0 0), .int (xs (i + 1))] (fun r w1 => ∃ v, r = some (.int v) ∧ C_X10_benched (mL M) G (setL w1 80 0 0 v.toInt64) [.ref (G.2.1 40 0), .int (xs (i + 1))] (fun r2 w2 => r2 = some (.int v) ∧ w2.1 40 0 0 = 0 ∧ w2.2.1 80 0 0 = v.toInt64 ∧ INV w2) noX) (fun E w1 => E = nIae ∧ C_X10_benched (mL M) G w1 [.ref (G.2.1 40 0), .int (xs (i + 1))] (fun r2 w2 => (∃ v, r2 = some (.int v)) ∧ w2.1 40 0 0 = 1 ∧ INV w2) noX))
    (hK : ∀ w2, INV w2 → ZL M G Qp (n + 16) (ns + 96) w2 2606 (lB G b i) []) : ZL M G Qp n ns w 1191 (lB G b i) [] := by
  show ZL M G Qp n ns w 1191 [some (.ref b), some (.ref (G.2.1 0 0)), some (.ref (G.2.1 40 0)), some (.ref (G.2.1 80 0)), some (.int (nI i)), none, none, none] []
  have hst : (mL M).stackTraces = false := F.2.2.2.2.2.2.2.2.1
  refine l_aload_n F dL_law__1191 rfl ?_
  refine l_aload_n F dL_law__1192 rfl ?_
  refine l_iload F dL_law__1193 rfl ?_
  refine l_iconst F 1 dL_law__1195 (by decide) ?_
  refine l_iadd F dL_law__1196 ?_
  refine l_sld F (i + 1) (ix_at (c := 1) rfl (by omega)).1 (ix_at (c := 1) rfl (by omega)).2 (by omega) dL_law__1197 ?_
  refine l_aload_n F dL_law__1198 rfl ?_
  refine l_callH F (k' := 8) (mc' := 1) [.ref (G.2.1 0 0), .int (xs (i + 1)), .ref (G.2.1 80 0)] [] dL_law__1199 rfl kL_benched kY_benched (by decide) (by omega) (by omega) (by decide) (Nat.le_of_ble_eq_true rfl) rfl (conH_mono (k_benched hst F.2.2.2.2.2.2.2.2.2.2.2.2.2 h (fun r w2 h => ⟨h.choose, h.choose_spec.1⟩) (fun E w2 h => h.1)) ?_)
  rintro r w2 (⟨v, w1, ⟨v1, e1, hc⟩, rfl, rfl⟩ | ⟨hx, rfl⟩)
  · cases e1
    show ZL M G Qp (n + 1) (ns + 6 * 1) (setL w1 80 0 0 v.toInt64) 1202 [some (.ref b), some (.ref (G.2.1 0 0)), some (.ref (G.2.1 40 0)), some (.ref (G.2.1 80 0)), some (.int (nI i)), none, none, none] [.int 0]
    refine l_istore F dL_law__1202 (by show 5 < 8; decide) ?_
    show ZL M G Qp (n + 1) (ns + 6 * 1) (setL w1 80 0 0 v.toInt64) 1204 [some (.ref b), some (.ref (G.2.1 0 0)), some (.ref (G.2.1 40 0)), some (.ref (G.2.1 80 0)), some (.int (nI i)), some (.int 0), none, none] []
    refine l_aload_n F dL_law__1204 rfl ?_
    refine l_aload_n F dL_law__1205 rfl ?_
    refine l_iload F dL_law__1206 rfl ?_
    refine l_iconst F 1 dL_law__1208 (by decide) ?_
    refine l_iadd F dL_law__1209 ?_
    refine l_sld F (i + 1) (ix_at (c := 1) rfl (by omega)).1 (ix_at (c := 1) rfl (by omega)).2 (by omega) dL_law__1210 ?_
    refine l_callV F (k' := 44) (mc' := 0) [.int (xs (i + 1))] [] dL_law__1211 rfl rfl (by decide) rfl cl_L_189 hy_X10_benched (by decide) (by omega) (by omega) (by decide) (Nat.le_of_ble_eq_true rfl) rfl (con_mono hc ?_ (fun _ _ h => h))
    rintro r w3 ⟨rfl, h0, h1, hv⟩
    show ZL M G Qp (n + 1 + 0) (ns + 6 * 1 + 6 * 0) w3 1214 [some (.ref b), some (.ref (G.2.1 0 0)), some (.ref (G.2.1 40 0)), some (.ref (G.2.1 80 0)), some (.int (nI i)), some (.int 0), none, none] [.int v]
    refine l_istore F dL_law__1214 (by show 6 < 8; decide) ?_
    show ZL M G Qp (n + 1 + 0) (ns + 6 * 1 + 6 * 0) w3 1216 [some (.ref b), some (.ref (G.2.1 0 0)), some (.ref (G.2.1 40 0)), some (.ref (G.2.1 80 0)), some (.int (nI i)), some (.int 0), some (.int v), none] []
    refine l_aload_n F dL_law__1216 rfl ?_
    refine l_callV F (k' := 1) (mc' := 0) [] [] dL_law__1217 rfl rfl (by decide) rfl cl_L_132 hy_X10_thrown (by decide) (by omega) (by omega) (by decide) (Nat.le_of_ble_eq_true rfl) rfl (e_X10_thrown hst (fun _ _ _ _ _ => ?_))
    show ZL M G Qp (n + 1 + 0 + 0) (ns + 6 * 1 + 6 * 0 + 6 * 0) w3 1220 [some (.ref b), some (.ref (G.2.1 0 0)), some (.ref (G.2.1 40 0)), some (.ref (G.2.1 80 0)), some (.int (nI i)), some (.int 0), some (.int v), none] [.int (w3.1 40 0 0)]
    rw [h0]
    refine l_iload F dL_law__1220 rfl ?_
    refine l_icmp_eq F 1227 dL_law__1222 (by decide) ⟨fun _ => ?_, fun hc => absurd rfl hc⟩
    refine l_iload F dL_law__1227 rfl ?_
    refine l_if_ne F 1244 dL_law__1229 (by decide) ⟨fun hc => absurd rfl hc, fun _ => ?_⟩
    refine l_aload_n F dL_law__1232 rfl ?_
    refine l_iconst F 0 dL_law__1233 (by decide) ?_
    refine l_out F dL_law__1234 ?_
    refine l_iload F dL_law__1235 rfl ?_
    refine l_i2l F dL_law__1237 ?_
    refine l_lcmp F dL_law__1238 ?_
    refine l_if_eq F 1244 dL_law__1239 (by decide) ⟨fun _ => ?_, fun hc => absurd (by rw [h1]; exact lg_cmp_self _) hc⟩
    refine l_goto F 2606 dL_law__1244 (by decide) ?_
    exact l_weak (l_widen (hK w3 hv) (by omega) (by omega)) ⟨rfl, rfl, rfl, rfl, rfl, trivial⟩
  · have hc := hx.2
    show ZL M G Qp (n + 1) (ns + 6 * 1) w2 1202 [some (.ref b), some (.ref (G.2.1 0 0)), some (.ref (G.2.1 40 0)), some (.ref (G.2.1 80 0)), some (.int (nI i)), none, none, none] [.int 1]
    refine l_istore F dL_law__1202 (by show 5 < 8; decide) ?_
    show ZL M G Qp (n + 1) (ns + 6 * 1) w2 1204 [some (.ref b), some (.ref (G.2.1 0 0)), some (.ref (G.2.1 40 0)), some (.ref (G.2.1 80 0)), some (.int (nI i)), some (.int 1), none, none] []
    refine l_aload_n F dL_law__1204 rfl ?_
    refine l_aload_n F dL_law__1205 rfl ?_
    refine l_iload F dL_law__1206 rfl ?_
    refine l_iconst F 1 dL_law__1208 (by decide) ?_
    refine l_iadd F dL_law__1209 ?_
    refine l_sld F (i + 1) (ix_at (c := 1) rfl (by omega)).1 (ix_at (c := 1) rfl (by omega)).2 (by omega) dL_law__1210 ?_
    refine l_callV F (k' := 44) (mc' := 0) [.int (xs (i + 1))] [] dL_law__1211 rfl rfl (by decide) rfl cl_L_189 hy_X10_benched (by decide) (by omega) (by omega) (by decide) (Nat.le_of_ble_eq_true rfl) rfl (con_mono hc ?_ (fun _ _ h => h))
    rintro r w3 ⟨⟨v, rfl⟩, h0, hv⟩
    show ZL M G Qp (n + 1 + 0) (ns + 6 * 1 + 6 * 0) w3 1214 [some (.ref b), some (.ref (G.2.1 0 0)), some (.ref (G.2.1 40 0)), some (.ref (G.2.1 80 0)), some (.int (nI i)), some (.int 1), none, none] [.int v]
    refine l_istore F dL_law__1214 (by show 6 < 8; decide) ?_
    show ZL M G Qp (n + 1 + 0) (ns + 6 * 1 + 6 * 0) w3 1216 [some (.ref b), some (.ref (G.2.1 0 0)), some (.ref (G.2.1 40 0)), some (.ref (G.2.1 80 0)), some (.int (nI i)), some (.int 1), some (.int v), none] []
    refine l_aload_n F dL_law__1216 rfl ?_
    refine l_callV F (k' := 1) (mc' := 0) [] [] dL_law__1217 rfl rfl (by decide) rfl cl_L_132 hy_X10_thrown (by decide) (by omega) (by omega) (by decide) (Nat.le_of_ble_eq_true rfl) rfl (e_X10_thrown hst (fun _ _ _ _ _ => ?_))
    show ZL M G Qp (n + 1 + 0 + 0) (ns + 6 * 1 + 6 * 0 + 6 * 0) w3 1220 [some (.ref b), some (.ref (G.2.1 0 0)), some (.ref (G.2.1 40 0)), some (.ref (G.2.1 80 0)), some (.int (nI i)), some (.int 1), some (.int v), none] [.int (w3.1 40 0 0)]
    rw [h0]
    refine l_iload F dL_law__1220 rfl ?_
    refine l_icmp_eq F 1227 dL_law__1222 (by decide) ⟨fun _ => ?_, fun hc => absurd rfl hc⟩
    refine l_iload F dL_law__1227 rfl ?_
    refine l_if_ne F 1244 dL_law__1229 (by decide) ⟨fun _ => ?_, fun hc => absurd (show ¬ (1 : Int32) = 0 by decide) hc⟩
    refine l_goto F 2606 dL_law__1244 (by decide) ?_
    exact l_weak (l_widen (hK w3 hv) (by omega) (by omega)) ⟨rfl, rfl, rfl, rfl, rfl, trivial⟩
theorem q_wording (F : FL M G b L xs) (hi : i + 9 ≤ L) (hL : L ≤ 576) (hn : n + 16 ≤ 600128) (hns : ns + 96 ≤ 7301098)
    (h : C_X9_wording (mL M) G w [.ref (G.2.1 0 0)] (fun r w1 => ∃ v, r = some (.int v) ∧ C_X10_wording (mL M) G w1 [.ref (G.2.1 40 0)] (fun r2 w2 => r2 = some (.int v) ∧ INV w2) noX) noX)
    (hK : ∀ w2, INV w2 → ZL M G Qp (n + 16) (ns + 96) w2 2606 (lB G b i) []) : ZL M G Qp n ns w 1247 (lB G b i) [] := by
  show ZL M G Qp n ns w 1247 [some (.ref b), some (.ref (G.2.1 0 0)), some (.ref (G.2.1 40 0)), some (.ref (G.2.1 80 0)), some (.int (nI i)), none, none, none] []
  refine l_aload_n F dL_law__1247 rfl ?_
  refine l_callV F (k' := 3) (mc' := 0) [] [] dL_law__1248 rfl rfl (by decide) rfl cl_L_190 hy_X9_wording (by decide) (by omega) (by omega) (by decide) (Nat.le_of_ble_eq_true rfl) rfl (con_mono h ?_ (fun _ _ h => h))
  rintro r w1 ⟨v, rfl, hc⟩
  show ZL M G Qp (n + 0) (ns + 6 * 0) w1 1251 [some (.ref b), some (.ref (G.2.1 0 0)), some (.ref (G.2.1 40 0)), some (.ref (G.2.1 80 0)), some (.int (nI i)), none, none, none] [.int v]
  refine l_aload_n F dL_law__1251 rfl ?_
  refine l_callV F (k' := 2) (mc' := 0) [] [.int v] dL_law__1252 rfl rfl (by decide) rfl cl_L_193 hy_X10_wording (by decide) (by omega) (by omega) (by decide) (Nat.le_of_ble_eq_true rfl) rfl (con_mono hc ?_ (fun _ _ h => h))
  rintro r w3 ⟨rfl, hv⟩
  show ZL M G Qp (n + 0 + 0) (ns + 6 * 0 + 6 * 0) w3 1255 [some (.ref b), some (.ref (G.2.1 0 0)), some (.ref (G.2.1 40 0)), some (.ref (G.2.1 80 0)), some (.int (nI i)), none, none, none] [.int v, .int v]
  refine l_icmp_eq F 2606 dL_law__1255 (by decide) ⟨fun _ => ?_, fun hc => absurd rfl hc⟩
  exact l_weak (l_widen (hK w3 hv) (by omega) (by omega)) ⟨rfl, rfl, rfl, rfl, rfl, trivial⟩
theorem q_wordings (F : FL M G b L xs) (hi : i + 9 ≤ L) (hL : L ≤ 576) (hn : n + 16 ≤ 600128) (hns : ns + 96 ≤ 7301098)
    (h : C_X9_wordings (mL M) G w [.ref (G.2.1 0 0), .int (xs (i + 1))] (fun r w1 => ∃ v, r = some (.long v) ∧ C_X10_wordings (mL M) G (setL w1 80 0 0 v) [.ref (G.2.1 40 0), .int (xs (i + 1))] (fun r2 w2 => r2 = some (.long v) ∧ w2.1 40 0 0 = 0 ∧ w2.2.1 80 0 0 = v ∧ INV w2) noX) (fun E w1 => E = nIae ∧ C_X10_wordings (mL M) G w1 [.ref (G.2.1 40 0), .int (xs (i + 1))] (fun r2 w2 => (∃ v, r2 = some (.long v)) ∧ w2.1 40 0 0 = 1 ∧ INV w2) noX))
    (hK : ∀ w2, INV w2 → ZL M G Qp (n + 16) (ns + 96) w2 2606 (lB G b i) []) : ZL M G Qp n ns w 1260 (lB G b i) [] := by
  show ZL M G Qp n ns w 1260 [some (.ref b), some (.ref (G.2.1 0 0)), some (.ref (G.2.1 40 0)), some (.ref (G.2.1 80 0)), some (.int (nI i)), none, none, none] []
  have hst : (mL M).stackTraces = false := F.2.2.2.2.2.2.2.2.1
  refine l_aload_n F dL_law__1260 rfl ?_
  refine l_aload_n F dL_law__1261 rfl ?_
  refine l_iload F dL_law__1262 rfl ?_
  refine l_iconst F 1 dL_law__1264 (by decide) ?_
  refine l_iadd F dL_law__1265 ?_
  refine l_sld F (i + 1) (ix_at (c := 1) rfl (by omega)).1 (ix_at (c := 1) rfl (by omega)).2 (by omega) dL_law__1266 ?_
  refine l_aload_n F dL_law__1267 rfl ?_
  refine l_callH F (k' := 8) (mc' := 1) [.ref (G.2.1 0 0), .int (xs (i + 1)), .ref (G.2.1 80 0)] [] dL_law__1268 rfl kL_wordings kY_wordings (by decide) (by omega) (by omega) (by decide) (Nat.le_of_ble_eq_true rfl) rfl (conH_mono (k_wordings hst F.2.2.2.2.2.2.2.2.2.2.2.2.2 h (fun r w2 h => ⟨h.choose, h.choose_spec.1⟩) (fun E w2 h => h.1)) ?_)
  rintro r w2 (⟨v, w1, ⟨v1, e1, hc⟩, rfl, rfl⟩ | ⟨hx, rfl⟩)
  · cases e1
    show ZL M G Qp (n + 1) (ns + 6 * 1) (setL w1 80 0 0 v) 1271 [some (.ref b), some (.ref (G.2.1 0 0)), some (.ref (G.2.1 40 0)), some (.ref (G.2.1 80 0)), some (.int (nI i)), none, none, none] [.int 0]
    refine l_istore F dL_law__1271 (by show 5 < 8; decide) ?_
    show ZL M G Qp (n + 1) (ns + 6 * 1) (setL w1 80 0 0 v) 1273 [some (.ref b), some (.ref (G.2.1 0 0)), some (.ref (G.2.1 40 0)), some (.ref (G.2.1 80 0)), some (.int (nI i)), some (.int 0), none, none] []
    refine l_aload_n F dL_law__1273 rfl ?_
    refine l_aload_n F dL_law__1274 rfl ?_
    refine l_iload F dL_law__1275 rfl ?_
    refine l_iconst F 1 dL_law__1277 (by decide) ?_
    refine l_iadd F dL_law__1278 ?_
    refine l_sld F (i + 1) (ix_at (c := 1) rfl (by omega)).1 (ix_at (c := 1) rfl (by omega)).2 (by omega) dL_law__1279 ?_
    refine l_callV F (k' := 2) (mc' := 0) [.int (xs (i + 1))] [] dL_law__1280 rfl rfl (by decide) rfl cl_L_196 hy_X10_wordings (by decide) (by omega) (by omega) (by decide) (Nat.le_of_ble_eq_true rfl) rfl (con_mono hc ?_ (fun _ _ h => h))
    rintro r w3 ⟨rfl, h0, h1, hv⟩
    show ZL M G Qp (n + 1 + 0) (ns + 6 * 1 + 6 * 0) w3 1283 [some (.ref b), some (.ref (G.2.1 0 0)), some (.ref (G.2.1 40 0)), some (.ref (G.2.1 80 0)), some (.int (nI i)), some (.int 0), none, none] [.long v]
    refine l_lstore F dL_law__1283 (by show 6 + 1 < 8; decide) ?_
    show ZL M G Qp (n + 1 + 0) (ns + 6 * 1 + 6 * 0) w3 1285 [some (.ref b), some (.ref (G.2.1 0 0)), some (.ref (G.2.1 40 0)), some (.ref (G.2.1 80 0)), some (.int (nI i)), some (.int 0), some (.long v), none] []
    refine l_aload_n F dL_law__1285 rfl ?_
    refine l_callV F (k' := 1) (mc' := 0) [] [] dL_law__1286 rfl rfl (by decide) rfl cl_L_132 hy_X10_thrown (by decide) (by omega) (by omega) (by decide) (Nat.le_of_ble_eq_true rfl) rfl (e_X10_thrown hst (fun _ _ _ _ _ => ?_))
    show ZL M G Qp (n + 1 + 0 + 0) (ns + 6 * 1 + 6 * 0 + 6 * 0) w3 1289 [some (.ref b), some (.ref (G.2.1 0 0)), some (.ref (G.2.1 40 0)), some (.ref (G.2.1 80 0)), some (.int (nI i)), some (.int 0), some (.long v), none] [.int (w3.1 40 0 0)]
    rw [h0]
    refine l_iload F dL_law__1289 rfl ?_
    refine l_icmp_eq F 1296 dL_law__1291 (by decide) ⟨fun _ => ?_, fun hc => absurd rfl hc⟩
    refine l_iload F dL_law__1296 rfl ?_
    refine l_if_ne F 1312 dL_law__1298 (by decide) ⟨fun hc => absurd rfl hc, fun _ => ?_⟩
    refine l_aload_n F dL_law__1301 rfl ?_
    refine l_iconst F 0 dL_law__1302 (by decide) ?_
    refine l_out F dL_law__1303 ?_
    refine l_lload F dL_law__1304 rfl ?_
    refine l_lcmp F dL_law__1306 ?_
    refine l_if_eq F 1312 dL_law__1307 (by decide) ⟨fun _ => ?_, fun hc => absurd (by rw [h1]; exact lg_cmp_self _) hc⟩
    refine l_goto F 2606 dL_law__1312 (by decide) ?_
    exact l_weak (l_widen (hK w3 hv) (by omega) (by omega)) ⟨rfl, rfl, rfl, rfl, rfl, trivial⟩
  · have hc := hx.2
    show ZL M G Qp (n + 1) (ns + 6 * 1) w2 1271 [some (.ref b), some (.ref (G.2.1 0 0)), some (.ref (G.2.1 40 0)), some (.ref (G.2.1 80 0)), some (.int (nI i)), none, none, none] [.int 1]
    refine l_istore F dL_law__1271 (by show 5 < 8; decide) ?_
    show ZL M G Qp (n + 1) (ns + 6 * 1) w2 1273 [some (.ref b), some (.ref (G.2.1 0 0)), some (.ref (G.2.1 40 0)), some (.ref (G.2.1 80 0)), some (.int (nI i)), some (.int 1), none, none] []
    refine l_aload_n F dL_law__1273 rfl ?_
    refine l_aload_n F dL_law__1274 rfl ?_
    refine l_iload F dL_law__1275 rfl ?_
    refine l_iconst F 1 dL_law__1277 (by decide) ?_
    refine l_iadd F dL_law__1278 ?_
    refine l_sld F (i + 1) (ix_at (c := 1) rfl (by omega)).1 (ix_at (c := 1) rfl (by omega)).2 (by omega) dL_law__1279 ?_
    refine l_callV F (k' := 2) (mc' := 0) [.int (xs (i + 1))] [] dL_law__1280 rfl rfl (by decide) rfl cl_L_196 hy_X10_wordings (by decide) (by omega) (by omega) (by decide) (Nat.le_of_ble_eq_true rfl) rfl (con_mono hc ?_ (fun _ _ h => h))
    rintro r w3 ⟨⟨v, rfl⟩, h0, hv⟩
    show ZL M G Qp (n + 1 + 0) (ns + 6 * 1 + 6 * 0) w3 1283 [some (.ref b), some (.ref (G.2.1 0 0)), some (.ref (G.2.1 40 0)), some (.ref (G.2.1 80 0)), some (.int (nI i)), some (.int 1), none, none] [.long v]
    refine l_lstore F dL_law__1283 (by show 6 + 1 < 8; decide) ?_
    show ZL M G Qp (n + 1 + 0) (ns + 6 * 1 + 6 * 0) w3 1285 [some (.ref b), some (.ref (G.2.1 0 0)), some (.ref (G.2.1 40 0)), some (.ref (G.2.1 80 0)), some (.int (nI i)), some (.int 1), some (.long v), none] []
    refine l_aload_n F dL_law__1285 rfl ?_
    refine l_callV F (k' := 1) (mc' := 0) [] [] dL_law__1286 rfl rfl (by decide) rfl cl_L_132 hy_X10_thrown (by decide) (by omega) (by omega) (by decide) (Nat.le_of_ble_eq_true rfl) rfl (e_X10_thrown hst (fun _ _ _ _ _ => ?_))
    show ZL M G Qp (n + 1 + 0 + 0) (ns + 6 * 1 + 6 * 0 + 6 * 0) w3 1289 [some (.ref b), some (.ref (G.2.1 0 0)), some (.ref (G.2.1 40 0)), some (.ref (G.2.1 80 0)), some (.int (nI i)), some (.int 1), some (.long v), none] [.int (w3.1 40 0 0)]
    rw [h0]
    refine l_iload F dL_law__1289 rfl ?_
    refine l_icmp_eq F 1296 dL_law__1291 (by decide) ⟨fun _ => ?_, fun hc => absurd rfl hc⟩
    refine l_iload F dL_law__1296 rfl ?_
    refine l_if_ne F 1312 dL_law__1298 (by decide) ⟨fun _ => ?_, fun hc => absurd (show ¬ (1 : Int32) = 0 by decide) hc⟩
    refine l_goto F 2606 dL_law__1312 (by decide) ?_
    exact l_weak (l_widen (hK w3 hv) (by omega) (by omega)) ⟨rfl, rfl, rfl, rfl, rfl, trivial⟩
theorem q_who (F : FL M G b L xs) (hi : i + 9 ≤ L) (hL : L ≤ 576) (hn : n + 16 ≤ 600128) (hns : ns + 96 ≤ 7301098)
    (h : C_X9_who (mL M) G w [.ref (G.2.1 0 0), .int (xs (i + 1))] (fun r w1 => ∃ v, r = some (.int v) ∧ C_X10_who (mL M) G (setL w1 80 0 0 v.toInt64) [.ref (G.2.1 40 0), .int (xs (i + 1))] (fun r2 w2 => r2 = some (.int v) ∧ w2.1 40 0 0 = 0 ∧ w2.2.1 80 0 0 = v.toInt64 ∧ INV w2) noX) (fun E w1 => E = nIae ∧ C_X10_who (mL M) G w1 [.ref (G.2.1 40 0), .int (xs (i + 1))] (fun r2 w2 => (∃ v, r2 = some (.int v)) ∧ w2.1 40 0 0 = 1 ∧ INV w2) noX))
    (hK : ∀ w2, INV w2 → ZL M G Qp (n + 16) (ns + 96) w2 2606 (lB G b i) []) : ZL M G Qp n ns w 1315 (lB G b i) [] := by
  show ZL M G Qp n ns w 1315 [some (.ref b), some (.ref (G.2.1 0 0)), some (.ref (G.2.1 40 0)), some (.ref (G.2.1 80 0)), some (.int (nI i)), none, none, none] []
  have hst : (mL M).stackTraces = false := F.2.2.2.2.2.2.2.2.1
  refine l_aload_n F dL_law__1315 rfl ?_
  refine l_aload_n F dL_law__1316 rfl ?_
  refine l_iload F dL_law__1317 rfl ?_
  refine l_iconst F 1 dL_law__1319 (by decide) ?_
  refine l_iadd F dL_law__1320 ?_
  refine l_sld F (i + 1) (ix_at (c := 1) rfl (by omega)).1 (ix_at (c := 1) rfl (by omega)).2 (by omega) dL_law__1321 ?_
  refine l_aload_n F dL_law__1322 rfl ?_
  refine l_callH F (k' := 8) (mc' := 1) [.ref (G.2.1 0 0), .int (xs (i + 1)), .ref (G.2.1 80 0)] [] dL_law__1323 rfl kL_who kY_who (by decide) (by omega) (by omega) (by decide) (Nat.le_of_ble_eq_true rfl) rfl (conH_mono (k_who hst F.2.2.2.2.2.2.2.2.2.2.2.2.2 h (fun r w2 h => ⟨h.choose, h.choose_spec.1⟩) (fun E w2 h => h.1)) ?_)
  rintro r w2 (⟨v, w1, ⟨v1, e1, hc⟩, rfl, rfl⟩ | ⟨hx, rfl⟩)
  · cases e1
    show ZL M G Qp (n + 1) (ns + 6 * 1) (setL w1 80 0 0 v.toInt64) 1326 [some (.ref b), some (.ref (G.2.1 0 0)), some (.ref (G.2.1 40 0)), some (.ref (G.2.1 80 0)), some (.int (nI i)), none, none, none] [.int 0]
    refine l_istore F dL_law__1326 (by show 5 < 8; decide) ?_
    show ZL M G Qp (n + 1) (ns + 6 * 1) (setL w1 80 0 0 v.toInt64) 1328 [some (.ref b), some (.ref (G.2.1 0 0)), some (.ref (G.2.1 40 0)), some (.ref (G.2.1 80 0)), some (.int (nI i)), some (.int 0), none, none] []
    refine l_aload_n F dL_law__1328 rfl ?_
    refine l_aload_n F dL_law__1329 rfl ?_
    refine l_iload F dL_law__1330 rfl ?_
    refine l_iconst F 1 dL_law__1332 (by decide) ?_
    refine l_iadd F dL_law__1333 ?_
    refine l_sld F (i + 1) (ix_at (c := 1) rfl (by omega)).1 (ix_at (c := 1) rfl (by omega)).2 (by omega) dL_law__1334 ?_
    refine l_callV F (k' := 10) (mc' := 0) [.int (xs (i + 1))] [] dL_law__1335 rfl rfl (by decide) rfl cl_L_199 hy_X10_who (by decide) (by omega) (by omega) (by decide) (Nat.le_of_ble_eq_true rfl) rfl (con_mono hc ?_ (fun _ _ h => h))
    rintro r w3 ⟨rfl, h0, h1, hv⟩
    show ZL M G Qp (n + 1 + 0) (ns + 6 * 1 + 6 * 0) w3 1338 [some (.ref b), some (.ref (G.2.1 0 0)), some (.ref (G.2.1 40 0)), some (.ref (G.2.1 80 0)), some (.int (nI i)), some (.int 0), none, none] [.int v]
    refine l_istore F dL_law__1338 (by show 6 < 8; decide) ?_
    show ZL M G Qp (n + 1 + 0) (ns + 6 * 1 + 6 * 0) w3 1340 [some (.ref b), some (.ref (G.2.1 0 0)), some (.ref (G.2.1 40 0)), some (.ref (G.2.1 80 0)), some (.int (nI i)), some (.int 0), some (.int v), none] []
    refine l_aload_n F dL_law__1340 rfl ?_
    refine l_callV F (k' := 1) (mc' := 0) [] [] dL_law__1341 rfl rfl (by decide) rfl cl_L_132 hy_X10_thrown (by decide) (by omega) (by omega) (by decide) (Nat.le_of_ble_eq_true rfl) rfl (e_X10_thrown hst (fun _ _ _ _ _ => ?_))
    show ZL M G Qp (n + 1 + 0 + 0) (ns + 6 * 1 + 6 * 0 + 6 * 0) w3 1344 [some (.ref b), some (.ref (G.2.1 0 0)), some (.ref (G.2.1 40 0)), some (.ref (G.2.1 80 0)), some (.int (nI i)), some (.int 0), some (.int v), none] [.int (w3.1 40 0 0)]
    rw [h0]
    refine l_iload F dL_law__1344 rfl ?_
    refine l_icmp_eq F 1351 dL_law__1346 (by decide) ⟨fun _ => ?_, fun hc => absurd rfl hc⟩
    refine l_iload F dL_law__1351 rfl ?_
    refine l_if_ne F 1368 dL_law__1353 (by decide) ⟨fun hc => absurd rfl hc, fun _ => ?_⟩
    refine l_aload_n F dL_law__1356 rfl ?_
    refine l_iconst F 0 dL_law__1357 (by decide) ?_
    refine l_out F dL_law__1358 ?_
    refine l_iload F dL_law__1359 rfl ?_
    refine l_i2l F dL_law__1361 ?_
    refine l_lcmp F dL_law__1362 ?_
    refine l_if_eq F 1368 dL_law__1363 (by decide) ⟨fun _ => ?_, fun hc => absurd (by rw [h1]; exact lg_cmp_self _) hc⟩
    refine l_goto F 2606 dL_law__1368 (by decide) ?_
    exact l_weak (l_widen (hK w3 hv) (by omega) (by omega)) ⟨rfl, rfl, rfl, rfl, rfl, trivial⟩
  · have hc := hx.2
    show ZL M G Qp (n + 1) (ns + 6 * 1) w2 1326 [some (.ref b), some (.ref (G.2.1 0 0)), some (.ref (G.2.1 40 0)), some (.ref (G.2.1 80 0)), some (.int (nI i)), none, none, none] [.int 1]
    refine l_istore F dL_law__1326 (by show 5 < 8; decide) ?_
    show ZL M G Qp (n + 1) (ns + 6 * 1) w2 1328 [some (.ref b), some (.ref (G.2.1 0 0)), some (.ref (G.2.1 40 0)), some (.ref (G.2.1 80 0)), some (.int (nI i)), some (.int 1), none, none] []
    refine l_aload_n F dL_law__1328 rfl ?_
    refine l_aload_n F dL_law__1329 rfl ?_
    refine l_iload F dL_law__1330 rfl ?_
    refine l_iconst F 1 dL_law__1332 (by decide) ?_
    refine l_iadd F dL_law__1333 ?_
    refine l_sld F (i + 1) (ix_at (c := 1) rfl (by omega)).1 (ix_at (c := 1) rfl (by omega)).2 (by omega) dL_law__1334 ?_
    refine l_callV F (k' := 10) (mc' := 0) [.int (xs (i + 1))] [] dL_law__1335 rfl rfl (by decide) rfl cl_L_199 hy_X10_who (by decide) (by omega) (by omega) (by decide) (Nat.le_of_ble_eq_true rfl) rfl (con_mono hc ?_ (fun _ _ h => h))
    rintro r w3 ⟨⟨v, rfl⟩, h0, hv⟩
    show ZL M G Qp (n + 1 + 0) (ns + 6 * 1 + 6 * 0) w3 1338 [some (.ref b), some (.ref (G.2.1 0 0)), some (.ref (G.2.1 40 0)), some (.ref (G.2.1 80 0)), some (.int (nI i)), some (.int 1), none, none] [.int v]
    refine l_istore F dL_law__1338 (by show 6 < 8; decide) ?_
    show ZL M G Qp (n + 1 + 0) (ns + 6 * 1 + 6 * 0) w3 1340 [some (.ref b), some (.ref (G.2.1 0 0)), some (.ref (G.2.1 40 0)), some (.ref (G.2.1 80 0)), some (.int (nI i)), some (.int 1), some (.int v), none] []
    refine l_aload_n F dL_law__1340 rfl ?_
    refine l_callV F (k' := 1) (mc' := 0) [] [] dL_law__1341 rfl rfl (by decide) rfl cl_L_132 hy_X10_thrown (by decide) (by omega) (by omega) (by decide) (Nat.le_of_ble_eq_true rfl) rfl (e_X10_thrown hst (fun _ _ _ _ _ => ?_))
    show ZL M G Qp (n + 1 + 0 + 0) (ns + 6 * 1 + 6 * 0 + 6 * 0) w3 1344 [some (.ref b), some (.ref (G.2.1 0 0)), some (.ref (G.2.1 40 0)), some (.ref (G.2.1 80 0)), some (.int (nI i)), some (.int 1), some (.int v), none] [.int (w3.1 40 0 0)]
    rw [h0]
    refine l_iload F dL_law__1344 rfl ?_
    refine l_icmp_eq F 1351 dL_law__1346 (by decide) ⟨fun _ => ?_, fun hc => absurd rfl hc⟩
    refine l_iload F dL_law__1351 rfl ?_
    refine l_if_ne F 1368 dL_law__1353 (by decide) ⟨fun _ => ?_, fun hc => absurd (show ¬ (1 : Int32) = 0 by decide) hc⟩
    refine l_goto F 2606 dL_law__1368 (by decide) ?_
    exact l_weak (l_widen (hK w3 hv) (by omega) (by omega)) ⟨rfl, rfl, rfl, rfl, rfl, trivial⟩
theorem q_listen (F : FL M G b L xs) (hi : i + 9 ≤ L) (hL : L ≤ 576) (hn : n + 16 ≤ 600128) (hns : ns + 96 ≤ 7301098)
    (h : C_X9_listen (mL M) G w [.ref (G.2.1 0 0), .int (xs (i + 1))] (fun r w1 => ∃ v, r = some (.int v) ∧ C_X10_listen (mL M) G (setL w1 80 0 0 v.toInt64) [.ref (G.2.1 40 0), .int (xs (i + 1))] (fun r2 w2 => r2 = some (.int v) ∧ w2.1 40 0 0 = 0 ∧ w2.2.1 80 0 0 = v.toInt64 ∧ INV w2) noX) (fun E w1 => E = nIae ∧ C_X10_listen (mL M) G w1 [.ref (G.2.1 40 0), .int (xs (i + 1))] (fun r2 w2 => (∃ v, r2 = some (.int v)) ∧ w2.1 40 0 0 = 1 ∧ INV w2) noX))
    (hK : ∀ w2, INV w2 → ZL M G Qp (n + 16) (ns + 96) w2 2606 (lB G b i) []) : ZL M G Qp n ns w 1371 (lB G b i) [] := by
  show ZL M G Qp n ns w 1371 [some (.ref b), some (.ref (G.2.1 0 0)), some (.ref (G.2.1 40 0)), some (.ref (G.2.1 80 0)), some (.int (nI i)), none, none, none] []
  have hst : (mL M).stackTraces = false := F.2.2.2.2.2.2.2.2.1
  refine l_aload_n F dL_law__1371 rfl ?_
  refine l_aload_n F dL_law__1372 rfl ?_
  refine l_iload F dL_law__1373 rfl ?_
  refine l_iconst F 1 dL_law__1375 (by decide) ?_
  refine l_iadd F dL_law__1376 ?_
  refine l_sld F (i + 1) (ix_at (c := 1) rfl (by omega)).1 (ix_at (c := 1) rfl (by omega)).2 (by omega) dL_law__1377 ?_
  refine l_aload_n F dL_law__1378 rfl ?_
  refine l_callH F (k' := 9) (mc' := 1) [.ref (G.2.1 0 0), .int (xs (i + 1)), .ref (G.2.1 80 0)] [] dL_law__1379 rfl kL_listen kY_listen (by decide) (by omega) (by omega) (by decide) (Nat.le_of_ble_eq_true rfl) rfl (conH_mono (k_listen hst F.2.2.2.2.2.2.2.2.2.2.2.2.2 h (fun r w2 h => ⟨h.choose, h.choose_spec.1⟩) (fun E w2 h => h.1)) ?_)
  rintro r w2 (⟨v, w1, ⟨v1, e1, hc⟩, rfl, rfl⟩ | ⟨hx, rfl⟩)
  · cases e1
    show ZL M G Qp (n + 1) (ns + 6 * 1) (setL w1 80 0 0 v.toInt64) 1382 [some (.ref b), some (.ref (G.2.1 0 0)), some (.ref (G.2.1 40 0)), some (.ref (G.2.1 80 0)), some (.int (nI i)), none, none, none] [.int 0]
    refine l_istore F dL_law__1382 (by show 5 < 8; decide) ?_
    show ZL M G Qp (n + 1) (ns + 6 * 1) (setL w1 80 0 0 v.toInt64) 1384 [some (.ref b), some (.ref (G.2.1 0 0)), some (.ref (G.2.1 40 0)), some (.ref (G.2.1 80 0)), some (.int (nI i)), some (.int 0), none, none] []
    refine l_aload_n F dL_law__1384 rfl ?_
    refine l_aload_n F dL_law__1385 rfl ?_
    refine l_iload F dL_law__1386 rfl ?_
    refine l_iconst F 1 dL_law__1388 (by decide) ?_
    refine l_iadd F dL_law__1389 ?_
    refine l_sld F (i + 1) (ix_at (c := 1) rfl (by omega)).1 (ix_at (c := 1) rfl (by omega)).2 (by omega) dL_law__1390 ?_
    refine l_callV F (k' := 11) (mc' := 0) [.int (xs (i + 1))] [] dL_law__1391 rfl rfl (by decide) rfl cl_L_202 hy_X10_listen (by decide) (by omega) (by omega) (by decide) (Nat.le_of_ble_eq_true rfl) rfl (con_mono hc ?_ (fun _ _ h => h))
    rintro r w3 ⟨rfl, h0, h1, hv⟩
    show ZL M G Qp (n + 1 + 0) (ns + 6 * 1 + 6 * 0) w3 1394 [some (.ref b), some (.ref (G.2.1 0 0)), some (.ref (G.2.1 40 0)), some (.ref (G.2.1 80 0)), some (.int (nI i)), some (.int 0), none, none] [.int v]
    refine l_istore F dL_law__1394 (by show 6 < 8; decide) ?_
    show ZL M G Qp (n + 1 + 0) (ns + 6 * 1 + 6 * 0) w3 1396 [some (.ref b), some (.ref (G.2.1 0 0)), some (.ref (G.2.1 40 0)), some (.ref (G.2.1 80 0)), some (.int (nI i)), some (.int 0), some (.int v), none] []
    refine l_aload_n F dL_law__1396 rfl ?_
    refine l_callV F (k' := 1) (mc' := 0) [] [] dL_law__1397 rfl rfl (by decide) rfl cl_L_132 hy_X10_thrown (by decide) (by omega) (by omega) (by decide) (Nat.le_of_ble_eq_true rfl) rfl (e_X10_thrown hst (fun _ _ _ _ _ => ?_))
    show ZL M G Qp (n + 1 + 0 + 0) (ns + 6 * 1 + 6 * 0 + 6 * 0) w3 1400 [some (.ref b), some (.ref (G.2.1 0 0)), some (.ref (G.2.1 40 0)), some (.ref (G.2.1 80 0)), some (.int (nI i)), some (.int 0), some (.int v), none] [.int (w3.1 40 0 0)]
    rw [h0]
    refine l_iload F dL_law__1400 rfl ?_
    refine l_icmp_eq F 1407 dL_law__1402 (by decide) ⟨fun _ => ?_, fun hc => absurd rfl hc⟩
    refine l_iload F dL_law__1407 rfl ?_
    refine l_if_ne F 1424 dL_law__1409 (by decide) ⟨fun hc => absurd rfl hc, fun _ => ?_⟩
    refine l_aload_n F dL_law__1412 rfl ?_
    refine l_iconst F 0 dL_law__1413 (by decide) ?_
    refine l_out F dL_law__1414 ?_
    refine l_iload F dL_law__1415 rfl ?_
    refine l_i2l F dL_law__1417 ?_
    refine l_lcmp F dL_law__1418 ?_
    refine l_if_eq F 1424 dL_law__1419 (by decide) ⟨fun _ => ?_, fun hc => absurd (by rw [h1]; exact lg_cmp_self _) hc⟩
    refine l_goto F 2606 dL_law__1424 (by decide) ?_
    exact l_weak (l_widen (hK w3 hv) (by omega) (by omega)) ⟨rfl, rfl, rfl, rfl, rfl, trivial⟩
  · have hc := hx.2
    show ZL M G Qp (n + 1) (ns + 6 * 1) w2 1382 [some (.ref b), some (.ref (G.2.1 0 0)), some (.ref (G.2.1 40 0)), some (.ref (G.2.1 80 0)), some (.int (nI i)), none, none, none] [.int 1]
    refine l_istore F dL_law__1382 (by show 5 < 8; decide) ?_
    show ZL M G Qp (n + 1) (ns + 6 * 1) w2 1384 [some (.ref b), some (.ref (G.2.1 0 0)), some (.ref (G.2.1 40 0)), some (.ref (G.2.1 80 0)), some (.int (nI i)), some (.int 1), none, none] []
    refine l_aload_n F dL_law__1384 rfl ?_
    refine l_aload_n F dL_law__1385 rfl ?_
    refine l_iload F dL_law__1386 rfl ?_
    refine l_iconst F 1 dL_law__1388 (by decide) ?_
    refine l_iadd F dL_law__1389 ?_
    refine l_sld F (i + 1) (ix_at (c := 1) rfl (by omega)).1 (ix_at (c := 1) rfl (by omega)).2 (by omega) dL_law__1390 ?_
    refine l_callV F (k' := 11) (mc' := 0) [.int (xs (i + 1))] [] dL_law__1391 rfl rfl (by decide) rfl cl_L_202 hy_X10_listen (by decide) (by omega) (by omega) (by decide) (Nat.le_of_ble_eq_true rfl) rfl (con_mono hc ?_ (fun _ _ h => h))
    rintro r w3 ⟨⟨v, rfl⟩, h0, hv⟩
    show ZL M G Qp (n + 1 + 0) (ns + 6 * 1 + 6 * 0) w3 1394 [some (.ref b), some (.ref (G.2.1 0 0)), some (.ref (G.2.1 40 0)), some (.ref (G.2.1 80 0)), some (.int (nI i)), some (.int 1), none, none] [.int v]
    refine l_istore F dL_law__1394 (by show 6 < 8; decide) ?_
    show ZL M G Qp (n + 1 + 0) (ns + 6 * 1 + 6 * 0) w3 1396 [some (.ref b), some (.ref (G.2.1 0 0)), some (.ref (G.2.1 40 0)), some (.ref (G.2.1 80 0)), some (.int (nI i)), some (.int 1), some (.int v), none] []
    refine l_aload_n F dL_law__1396 rfl ?_
    refine l_callV F (k' := 1) (mc' := 0) [] [] dL_law__1397 rfl rfl (by decide) rfl cl_L_132 hy_X10_thrown (by decide) (by omega) (by omega) (by decide) (Nat.le_of_ble_eq_true rfl) rfl (e_X10_thrown hst (fun _ _ _ _ _ => ?_))
    show ZL M G Qp (n + 1 + 0 + 0) (ns + 6 * 1 + 6 * 0 + 6 * 0) w3 1400 [some (.ref b), some (.ref (G.2.1 0 0)), some (.ref (G.2.1 40 0)), some (.ref (G.2.1 80 0)), some (.int (nI i)), some (.int 1), some (.int v), none] [.int (w3.1 40 0 0)]
    rw [h0]
    refine l_iload F dL_law__1400 rfl ?_
    refine l_icmp_eq F 1407 dL_law__1402 (by decide) ⟨fun _ => ?_, fun hc => absurd rfl hc⟩
    refine l_iload F dL_law__1407 rfl ?_
    refine l_if_ne F 1424 dL_law__1409 (by decide) ⟨fun _ => ?_, fun hc => absurd (show ¬ (1 : Int32) = 0 by decide) hc⟩
    refine l_goto F 2606 dL_law__1424 (by decide) ?_
    exact l_weak (l_widen (hK w3 hv) (by omega) (by omega)) ⟨rfl, rfl, rfl, rfl, rfl, trivial⟩
theorem q_duty (F : FL M G b L xs) (hi : i + 9 ≤ L) (hL : L ≤ 576) (hn : n + 16 ≤ 600128) (hns : ns + 96 ≤ 7301098)
    (h : C_X9_duty (mL M) G w [.ref (G.2.1 0 0), .int (xs (i + 1))] (fun r w1 => ∃ v, r = some (.int v) ∧ C_X10_duty (mL M) G (setL w1 80 0 0 v.toInt64) [.ref (G.2.1 40 0), .int (xs (i + 1))] (fun r2 w2 => r2 = some (.int v) ∧ w2.1 40 0 0 = 0 ∧ w2.2.1 80 0 0 = v.toInt64 ∧ INV w2) noX) (fun E w1 => E = nNse ∧ C_X10_duty (mL M) G w1 [.ref (G.2.1 40 0), .int (xs (i + 1))] (fun r2 w2 => (∃ v, r2 = some (.int v)) ∧ w2.1 40 0 0 = 1 ∧ INV w2) noX))
    (hK : ∀ w2, INV w2 → ZL M G Qp (n + 16) (ns + 96) w2 2606 (lB G b i) []) : ZL M G Qp n ns w 1427 (lB G b i) [] := by
  show ZL M G Qp n ns w 1427 [some (.ref b), some (.ref (G.2.1 0 0)), some (.ref (G.2.1 40 0)), some (.ref (G.2.1 80 0)), some (.int (nI i)), none, none, none] []
  have hst : (mL M).stackTraces = false := F.2.2.2.2.2.2.2.2.1
  refine l_aload_n F dL_law__1427 rfl ?_
  refine l_aload_n F dL_law__1428 rfl ?_
  refine l_iload F dL_law__1429 rfl ?_
  refine l_iconst F 1 dL_law__1431 (by decide) ?_
  refine l_iadd F dL_law__1432 ?_
  refine l_sld F (i + 1) (ix_at (c := 1) rfl (by omega)).1 (ix_at (c := 1) rfl (by omega)).2 (by omega) dL_law__1433 ?_
  refine l_aload_n F dL_law__1434 rfl ?_
  refine l_callH F (k' := 8) (mc' := 1) [.ref (G.2.1 0 0), .int (xs (i + 1)), .ref (G.2.1 80 0)] [] dL_law__1435 rfl kL_duty kY_duty (by decide) (by omega) (by omega) (by decide) (Nat.le_of_ble_eq_true rfl) rfl (conH_mono (k_duty hst F.2.2.2.2.2.2.2.2.2.2.2.2.2 h (fun r w2 h => ⟨h.choose, h.choose_spec.1⟩) (fun E w2 h => h.1)) ?_)
  rintro r w2 (⟨v, w1, ⟨v1, e1, hc⟩, rfl, rfl⟩ | ⟨hx, rfl⟩)
  · cases e1
    show ZL M G Qp (n + 1) (ns + 6 * 1) (setL w1 80 0 0 v.toInt64) 1438 [some (.ref b), some (.ref (G.2.1 0 0)), some (.ref (G.2.1 40 0)), some (.ref (G.2.1 80 0)), some (.int (nI i)), none, none, none] [.int 0]
    refine l_istore F dL_law__1438 (by show 5 < 8; decide) ?_
    show ZL M G Qp (n + 1) (ns + 6 * 1) (setL w1 80 0 0 v.toInt64) 1440 [some (.ref b), some (.ref (G.2.1 0 0)), some (.ref (G.2.1 40 0)), some (.ref (G.2.1 80 0)), some (.int (nI i)), some (.int 0), none, none] []
    refine l_aload_n F dL_law__1440 rfl ?_
    refine l_aload_n F dL_law__1441 rfl ?_
    refine l_iload F dL_law__1442 rfl ?_
    refine l_iconst F 1 dL_law__1444 (by decide) ?_
    refine l_iadd F dL_law__1445 ?_
    refine l_sld F (i + 1) (ix_at (c := 1) rfl (by omega)).1 (ix_at (c := 1) rfl (by omega)).2 (by omega) dL_law__1446 ?_
    refine l_callV F (k' := 8) (mc' := 0) [.int (xs (i + 1))] [] dL_law__1447 rfl rfl (by decide) rfl cl_L_205 hy_X10_duty (by decide) (by omega) (by omega) (by decide) (Nat.le_of_ble_eq_true rfl) rfl (con_mono hc ?_ (fun _ _ h => h))
    rintro r w3 ⟨rfl, h0, h1, hv⟩
    show ZL M G Qp (n + 1 + 0) (ns + 6 * 1 + 6 * 0) w3 1450 [some (.ref b), some (.ref (G.2.1 0 0)), some (.ref (G.2.1 40 0)), some (.ref (G.2.1 80 0)), some (.int (nI i)), some (.int 0), none, none] [.int v]
    refine l_istore F dL_law__1450 (by show 6 < 8; decide) ?_
    show ZL M G Qp (n + 1 + 0) (ns + 6 * 1 + 6 * 0) w3 1452 [some (.ref b), some (.ref (G.2.1 0 0)), some (.ref (G.2.1 40 0)), some (.ref (G.2.1 80 0)), some (.int (nI i)), some (.int 0), some (.int v), none] []
    refine l_aload_n F dL_law__1452 rfl ?_
    refine l_callV F (k' := 1) (mc' := 0) [] [] dL_law__1453 rfl rfl (by decide) rfl cl_L_132 hy_X10_thrown (by decide) (by omega) (by omega) (by decide) (Nat.le_of_ble_eq_true rfl) rfl (e_X10_thrown hst (fun _ _ _ _ _ => ?_))
    show ZL M G Qp (n + 1 + 0 + 0) (ns + 6 * 1 + 6 * 0 + 6 * 0) w3 1456 [some (.ref b), some (.ref (G.2.1 0 0)), some (.ref (G.2.1 40 0)), some (.ref (G.2.1 80 0)), some (.int (nI i)), some (.int 0), some (.int v), none] [.int (w3.1 40 0 0)]
    rw [h0]
    refine l_iload F dL_law__1456 rfl ?_
    refine l_icmp_eq F 1463 dL_law__1458 (by decide) ⟨fun _ => ?_, fun hc => absurd rfl hc⟩
    refine l_iload F dL_law__1463 rfl ?_
    refine l_if_ne F 1480 dL_law__1465 (by decide) ⟨fun hc => absurd rfl hc, fun _ => ?_⟩
    refine l_aload_n F dL_law__1468 rfl ?_
    refine l_iconst F 0 dL_law__1469 (by decide) ?_
    refine l_out F dL_law__1470 ?_
    refine l_iload F dL_law__1471 rfl ?_
    refine l_i2l F dL_law__1473 ?_
    refine l_lcmp F dL_law__1474 ?_
    refine l_if_eq F 1480 dL_law__1475 (by decide) ⟨fun _ => ?_, fun hc => absurd (by rw [h1]; exact lg_cmp_self _) hc⟩
    refine l_goto F 2606 dL_law__1480 (by decide) ?_
    exact l_weak (l_widen (hK w3 hv) (by omega) (by omega)) ⟨rfl, rfl, rfl, rfl, rfl, trivial⟩
  · have hc := hx.2
    show ZL M G Qp (n + 1) (ns + 6 * 1) w2 1438 [some (.ref b), some (.ref (G.2.1 0 0)), some (.ref (G.2.1 40 0)), some (.ref (G.2.1 80 0)), some (.int (nI i)), none, none, none] [.int 1]
    refine l_istore F dL_law__1438 (by show 5 < 8; decide) ?_
    show ZL M G Qp (n + 1) (ns + 6 * 1) w2 1440 [some (.ref b), some (.ref (G.2.1 0 0)), some (.ref (G.2.1 40 0)), some (.ref (G.2.1 80 0)), some (.int (nI i)), some (.int 1), none, none] []
    refine l_aload_n F dL_law__1440 rfl ?_
    refine l_aload_n F dL_law__1441 rfl ?_
    refine l_iload F dL_law__1442 rfl ?_
    refine l_iconst F 1 dL_law__1444 (by decide) ?_
    refine l_iadd F dL_law__1445 ?_
    refine l_sld F (i + 1) (ix_at (c := 1) rfl (by omega)).1 (ix_at (c := 1) rfl (by omega)).2 (by omega) dL_law__1446 ?_
    refine l_callV F (k' := 8) (mc' := 0) [.int (xs (i + 1))] [] dL_law__1447 rfl rfl (by decide) rfl cl_L_205 hy_X10_duty (by decide) (by omega) (by omega) (by decide) (Nat.le_of_ble_eq_true rfl) rfl (con_mono hc ?_ (fun _ _ h => h))
    rintro r w3 ⟨⟨v, rfl⟩, h0, hv⟩
    show ZL M G Qp (n + 1 + 0) (ns + 6 * 1 + 6 * 0) w3 1450 [some (.ref b), some (.ref (G.2.1 0 0)), some (.ref (G.2.1 40 0)), some (.ref (G.2.1 80 0)), some (.int (nI i)), some (.int 1), none, none] [.int v]
    refine l_istore F dL_law__1450 (by show 6 < 8; decide) ?_
    show ZL M G Qp (n + 1 + 0) (ns + 6 * 1 + 6 * 0) w3 1452 [some (.ref b), some (.ref (G.2.1 0 0)), some (.ref (G.2.1 40 0)), some (.ref (G.2.1 80 0)), some (.int (nI i)), some (.int 1), some (.int v), none] []
    refine l_aload_n F dL_law__1452 rfl ?_
    refine l_callV F (k' := 1) (mc' := 0) [] [] dL_law__1453 rfl rfl (by decide) rfl cl_L_132 hy_X10_thrown (by decide) (by omega) (by omega) (by decide) (Nat.le_of_ble_eq_true rfl) rfl (e_X10_thrown hst (fun _ _ _ _ _ => ?_))
    show ZL M G Qp (n + 1 + 0 + 0) (ns + 6 * 1 + 6 * 0 + 6 * 0) w3 1456 [some (.ref b), some (.ref (G.2.1 0 0)), some (.ref (G.2.1 40 0)), some (.ref (G.2.1 80 0)), some (.int (nI i)), some (.int 1), some (.int v), none] [.int (w3.1 40 0 0)]
    rw [h0]
    refine l_iload F dL_law__1456 rfl ?_
    refine l_icmp_eq F 1463 dL_law__1458 (by decide) ⟨fun _ => ?_, fun hc => absurd rfl hc⟩
    refine l_iload F dL_law__1463 rfl ?_
    refine l_if_ne F 1480 dL_law__1465 (by decide) ⟨fun _ => ?_, fun hc => absurd (show ¬ (1 : Int32) = 0 by decide) hc⟩
    refine l_goto F 2606 dL_law__1480 (by decide) ?_
    exact l_weak (l_widen (hK w3 hv) (by omega) (by omega)) ⟨rfl, rfl, rfl, rfl, rfl, trivial⟩
theorem q_range (F : FL M G b L xs) (hi : i + 9 ≤ L) (hL : L ≤ 576) (hn : n + 16 ≤ 600128) (hns : ns + 96 ≤ 7301098)
    (h : C_X9_range (mL M) G w [.ref (G.2.1 0 0), .int (xs (i + 1))] (fun r w1 => ∃ v, r = some (.int v) ∧ C_X10_range (mL M) G (setL w1 80 0 0 v.toInt64) [.ref (G.2.1 40 0), .int (xs (i + 1))] (fun r2 w2 => r2 = some (.int v) ∧ w2.1 40 0 0 = 0 ∧ w2.2.1 80 0 0 = v.toInt64 ∧ INV w2) noX) (fun E w1 => E = nNse ∧ C_X10_range (mL M) G w1 [.ref (G.2.1 40 0), .int (xs (i + 1))] (fun r2 w2 => (∃ v, r2 = some (.int v)) ∧ w2.1 40 0 0 = 1 ∧ INV w2) noX))
    (hK : ∀ w2, INV w2 → ZL M G Qp (n + 16) (ns + 96) w2 2606 (lB G b i) []) : ZL M G Qp n ns w 1483 (lB G b i) [] := by
  show ZL M G Qp n ns w 1483 [some (.ref b), some (.ref (G.2.1 0 0)), some (.ref (G.2.1 40 0)), some (.ref (G.2.1 80 0)), some (.int (nI i)), none, none, none] []
  have hst : (mL M).stackTraces = false := F.2.2.2.2.2.2.2.2.1
  refine l_aload_n F dL_law__1483 rfl ?_
  refine l_aload_n F dL_law__1484 rfl ?_
  refine l_iload F dL_law__1485 rfl ?_
  refine l_iconst F 1 dL_law__1487 (by decide) ?_
  refine l_iadd F dL_law__1488 ?_
  refine l_sld F (i + 1) (ix_at (c := 1) rfl (by omega)).1 (ix_at (c := 1) rfl (by omega)).2 (by omega) dL_law__1489 ?_
  refine l_aload_n F dL_law__1490 rfl ?_
  refine l_callH F (k' := 8) (mc' := 1) [.ref (G.2.1 0 0), .int (xs (i + 1)), .ref (G.2.1 80 0)] [] dL_law__1491 rfl kL_range kY_range (by decide) (by omega) (by omega) (by decide) (Nat.le_of_ble_eq_true rfl) rfl (conH_mono (k_range hst F.2.2.2.2.2.2.2.2.2.2.2.2.2 h (fun r w2 h => ⟨h.choose, h.choose_spec.1⟩) (fun E w2 h => h.1)) ?_)
  rintro r w2 (⟨v, w1, ⟨v1, e1, hc⟩, rfl, rfl⟩ | ⟨hx, rfl⟩)
  · cases e1
    show ZL M G Qp (n + 1) (ns + 6 * 1) (setL w1 80 0 0 v.toInt64) 1494 [some (.ref b), some (.ref (G.2.1 0 0)), some (.ref (G.2.1 40 0)), some (.ref (G.2.1 80 0)), some (.int (nI i)), none, none, none] [.int 0]
    refine l_istore F dL_law__1494 (by show 5 < 8; decide) ?_
    show ZL M G Qp (n + 1) (ns + 6 * 1) (setL w1 80 0 0 v.toInt64) 1496 [some (.ref b), some (.ref (G.2.1 0 0)), some (.ref (G.2.1 40 0)), some (.ref (G.2.1 80 0)), some (.int (nI i)), some (.int 0), none, none] []
    refine l_aload_n F dL_law__1496 rfl ?_
    refine l_aload_n F dL_law__1497 rfl ?_
    refine l_iload F dL_law__1498 rfl ?_
    refine l_iconst F 1 dL_law__1500 (by decide) ?_
    refine l_iadd F dL_law__1501 ?_
    refine l_sld F (i + 1) (ix_at (c := 1) rfl (by omega)).1 (ix_at (c := 1) rfl (by omega)).2 (by omega) dL_law__1502 ?_
    refine l_callV F (k' := 9) (mc' := 0) [.int (xs (i + 1))] [] dL_law__1503 rfl rfl (by decide) rfl cl_L_208 hy_X10_range (by decide) (by omega) (by omega) (by decide) (Nat.le_of_ble_eq_true rfl) rfl (con_mono hc ?_ (fun _ _ h => h))
    rintro r w3 ⟨rfl, h0, h1, hv⟩
    show ZL M G Qp (n + 1 + 0) (ns + 6 * 1 + 6 * 0) w3 1506 [some (.ref b), some (.ref (G.2.1 0 0)), some (.ref (G.2.1 40 0)), some (.ref (G.2.1 80 0)), some (.int (nI i)), some (.int 0), none, none] [.int v]
    refine l_istore F dL_law__1506 (by show 6 < 8; decide) ?_
    show ZL M G Qp (n + 1 + 0) (ns + 6 * 1 + 6 * 0) w3 1508 [some (.ref b), some (.ref (G.2.1 0 0)), some (.ref (G.2.1 40 0)), some (.ref (G.2.1 80 0)), some (.int (nI i)), some (.int 0), some (.int v), none] []
    refine l_aload_n F dL_law__1508 rfl ?_
    refine l_callV F (k' := 1) (mc' := 0) [] [] dL_law__1509 rfl rfl (by decide) rfl cl_L_132 hy_X10_thrown (by decide) (by omega) (by omega) (by decide) (Nat.le_of_ble_eq_true rfl) rfl (e_X10_thrown hst (fun _ _ _ _ _ => ?_))
    show ZL M G Qp (n + 1 + 0 + 0) (ns + 6 * 1 + 6 * 0 + 6 * 0) w3 1512 [some (.ref b), some (.ref (G.2.1 0 0)), some (.ref (G.2.1 40 0)), some (.ref (G.2.1 80 0)), some (.int (nI i)), some (.int 0), some (.int v), none] [.int (w3.1 40 0 0)]
    rw [h0]
    refine l_iload F dL_law__1512 rfl ?_
    refine l_icmp_eq F 1519 dL_law__1514 (by decide) ⟨fun _ => ?_, fun hc => absurd rfl hc⟩
    refine l_iload F dL_law__1519 rfl ?_
    refine l_if_ne F 1536 dL_law__1521 (by decide) ⟨fun hc => absurd rfl hc, fun _ => ?_⟩
    refine l_aload_n F dL_law__1524 rfl ?_
    refine l_iconst F 0 dL_law__1525 (by decide) ?_
    refine l_out F dL_law__1526 ?_
    refine l_iload F dL_law__1527 rfl ?_
    refine l_i2l F dL_law__1529 ?_
    refine l_lcmp F dL_law__1530 ?_
    refine l_if_eq F 1536 dL_law__1531 (by decide) ⟨fun _ => ?_, fun hc => absurd (by rw [h1]; exact lg_cmp_self _) hc⟩
    refine l_goto F 2606 dL_law__1536 (by decide) ?_
    exact l_weak (l_widen (hK w3 hv) (by omega) (by omega)) ⟨rfl, rfl, rfl, rfl, rfl, trivial⟩
  · have hc := hx.2
    show ZL M G Qp (n + 1) (ns + 6 * 1) w2 1494 [some (.ref b), some (.ref (G.2.1 0 0)), some (.ref (G.2.1 40 0)), some (.ref (G.2.1 80 0)), some (.int (nI i)), none, none, none] [.int 1]
    refine l_istore F dL_law__1494 (by show 5 < 8; decide) ?_
    show ZL M G Qp (n + 1) (ns + 6 * 1) w2 1496 [some (.ref b), some (.ref (G.2.1 0 0)), some (.ref (G.2.1 40 0)), some (.ref (G.2.1 80 0)), some (.int (nI i)), some (.int 1), none, none] []
    refine l_aload_n F dL_law__1496 rfl ?_
    refine l_aload_n F dL_law__1497 rfl ?_
    refine l_iload F dL_law__1498 rfl ?_
    refine l_iconst F 1 dL_law__1500 (by decide) ?_
    refine l_iadd F dL_law__1501 ?_
    refine l_sld F (i + 1) (ix_at (c := 1) rfl (by omega)).1 (ix_at (c := 1) rfl (by omega)).2 (by omega) dL_law__1502 ?_
    refine l_callV F (k' := 9) (mc' := 0) [.int (xs (i + 1))] [] dL_law__1503 rfl rfl (by decide) rfl cl_L_208 hy_X10_range (by decide) (by omega) (by omega) (by decide) (Nat.le_of_ble_eq_true rfl) rfl (con_mono hc ?_ (fun _ _ h => h))
    rintro r w3 ⟨⟨v, rfl⟩, h0, hv⟩
    show ZL M G Qp (n + 1 + 0) (ns + 6 * 1 + 6 * 0) w3 1506 [some (.ref b), some (.ref (G.2.1 0 0)), some (.ref (G.2.1 40 0)), some (.ref (G.2.1 80 0)), some (.int (nI i)), some (.int 1), none, none] [.int v]
    refine l_istore F dL_law__1506 (by show 6 < 8; decide) ?_
    show ZL M G Qp (n + 1 + 0) (ns + 6 * 1 + 6 * 0) w3 1508 [some (.ref b), some (.ref (G.2.1 0 0)), some (.ref (G.2.1 40 0)), some (.ref (G.2.1 80 0)), some (.int (nI i)), some (.int 1), some (.int v), none] []
    refine l_aload_n F dL_law__1508 rfl ?_
    refine l_callV F (k' := 1) (mc' := 0) [] [] dL_law__1509 rfl rfl (by decide) rfl cl_L_132 hy_X10_thrown (by decide) (by omega) (by omega) (by decide) (Nat.le_of_ble_eq_true rfl) rfl (e_X10_thrown hst (fun _ _ _ _ _ => ?_))
    show ZL M G Qp (n + 1 + 0 + 0) (ns + 6 * 1 + 6 * 0 + 6 * 0) w3 1512 [some (.ref b), some (.ref (G.2.1 0 0)), some (.ref (G.2.1 40 0)), some (.ref (G.2.1 80 0)), some (.int (nI i)), some (.int 1), some (.int v), none] [.int (w3.1 40 0 0)]
    rw [h0]
    refine l_iload F dL_law__1512 rfl ?_
    refine l_icmp_eq F 1519 dL_law__1514 (by decide) ⟨fun _ => ?_, fun hc => absurd rfl hc⟩
    refine l_iload F dL_law__1519 rfl ?_
    refine l_if_ne F 1536 dL_law__1521 (by decide) ⟨fun _ => ?_, fun hc => absurd (show ¬ (1 : Int32) = 0 by decide) hc⟩
    refine l_goto F 2606 dL_law__1536 (by decide) ?_
    exact l_weak (l_widen (hK w3 hv) (by omega) (by omega)) ⟨rfl, rfl, rfl, rfl, rfl, trivial⟩
theorem q_quarrel (F : FL M G b L xs) (hi : i + 9 ≤ L) (hL : L ≤ 576) (hn : n + 16 ≤ 600128) (hns : ns + 96 ≤ 7301098)
    (h : C_X9_quarrel (mL M) G w [.ref (G.2.1 0 0), .int (xs (i + 1)), .int (xs (i + 2)), .int (xs (i + 3))] (fun r w1 => ∃ v, r = some (.int v) ∧ C_X10_quarrel (mL M) G (setL w1 80 0 0 v.toInt64) [.ref (G.2.1 40 0), .int (xs (i + 1)), .int (xs (i + 2)), .int (xs (i + 3))] (fun r2 w2 => r2 = some (.int v) ∧ w2.1 40 0 0 = 0 ∧ w2.2.1 80 0 0 = v.toInt64 ∧ INV w2) noX) (fun E w1 => E = nIae ∧ C_X10_quarrel (mL M) G w1 [.ref (G.2.1 40 0), .int (xs (i + 1)), .int (xs (i + 2)), .int (xs (i + 3))] (fun r2 w2 => (∃ v, r2 = some (.int v)) ∧ w2.1 40 0 0 = 1 ∧ INV w2) noX))
    (hK : ∀ w2, INV w2 → ZL M G Qp (n + 16) (ns + 96) w2 2606 (lB G b i) []) : ZL M G Qp n ns w 1539 (lB G b i) [] := by
  show ZL M G Qp n ns w 1539 [some (.ref b), some (.ref (G.2.1 0 0)), some (.ref (G.2.1 40 0)), some (.ref (G.2.1 80 0)), some (.int (nI i)), none, none, none] []
  have hst : (mL M).stackTraces = false := F.2.2.2.2.2.2.2.2.1
  refine l_aload_n F dL_law__1539 rfl ?_
  refine l_aload_n F dL_law__1540 rfl ?_
  refine l_iload F dL_law__1541 rfl ?_
  refine l_iconst F 1 dL_law__1543 (by decide) ?_
  refine l_iadd F dL_law__1544 ?_
  refine l_sld F (i + 1) (ix_at (c := 1) rfl (by omega)).1 (ix_at (c := 1) rfl (by omega)).2 (by omega) dL_law__1545 ?_
  refine l_aload_n F dL_law__1546 rfl ?_
  refine l_iload F dL_law__1547 rfl ?_
  refine l_iconst F 2 dL_law__1549 (by decide) ?_
  refine l_iadd F dL_law__1550 ?_
  refine l_sld F (i + 2) (ix_at (c := 2) rfl (by omega)).1 (ix_at (c := 2) rfl (by omega)).2 (by omega) dL_law__1551 ?_
  refine l_aload_n F dL_law__1552 rfl ?_
  refine l_iload F dL_law__1553 rfl ?_
  refine l_iconst F 3 dL_law__1555 (by decide) ?_
  refine l_iadd F dL_law__1556 ?_
  refine l_sld F (i + 3) (ix_at (c := 3) rfl (by omega)).1 (ix_at (c := 3) rfl (by omega)).2 (by omega) dL_law__1557 ?_
  refine l_aload_n F dL_law__1558 rfl ?_
  refine l_callH F (k' := 8) (mc' := 1) [.ref (G.2.1 0 0), .int (xs (i + 1)), .int (xs (i + 2)), .int (xs (i + 3)), .ref (G.2.1 80 0)] [] dL_law__1559 rfl kL_quarrel kY_quarrel (by decide) (by omega) (by omega) (by decide) (Nat.le_of_ble_eq_true rfl) rfl (conH_mono (k_quarrel hst F.2.2.2.2.2.2.2.2.2.2.2.2.2 h (fun r w2 h => ⟨h.choose, h.choose_spec.1⟩) (fun E w2 h => h.1)) ?_)
  rintro r w2 (⟨v, w1, ⟨v1, e1, hc⟩, rfl, rfl⟩ | ⟨hx, rfl⟩)
  · cases e1
    show ZL M G Qp (n + 1) (ns + 6 * 1) (setL w1 80 0 0 v.toInt64) 1562 [some (.ref b), some (.ref (G.2.1 0 0)), some (.ref (G.2.1 40 0)), some (.ref (G.2.1 80 0)), some (.int (nI i)), none, none, none] [.int 0]
    refine l_istore F dL_law__1562 (by show 5 < 8; decide) ?_
    show ZL M G Qp (n + 1) (ns + 6 * 1) (setL w1 80 0 0 v.toInt64) 1564 [some (.ref b), some (.ref (G.2.1 0 0)), some (.ref (G.2.1 40 0)), some (.ref (G.2.1 80 0)), some (.int (nI i)), some (.int 0), none, none] []
    refine l_aload_n F dL_law__1564 rfl ?_
    refine l_aload_n F dL_law__1565 rfl ?_
    refine l_iload F dL_law__1566 rfl ?_
    refine l_iconst F 1 dL_law__1568 (by decide) ?_
    refine l_iadd F dL_law__1569 ?_
    refine l_sld F (i + 1) (ix_at (c := 1) rfl (by omega)).1 (ix_at (c := 1) rfl (by omega)).2 (by omega) dL_law__1570 ?_
    refine l_aload_n F dL_law__1571 rfl ?_
    refine l_iload F dL_law__1572 rfl ?_
    refine l_iconst F 2 dL_law__1574 (by decide) ?_
    refine l_iadd F dL_law__1575 ?_
    refine l_sld F (i + 2) (ix_at (c := 2) rfl (by omega)).1 (ix_at (c := 2) rfl (by omega)).2 (by omega) dL_law__1576 ?_
    refine l_aload_n F dL_law__1577 rfl ?_
    refine l_iload F dL_law__1578 rfl ?_
    refine l_iconst F 3 dL_law__1580 (by decide) ?_
    refine l_iadd F dL_law__1581 ?_
    refine l_sld F (i + 3) (ix_at (c := 3) rfl (by omega)).1 (ix_at (c := 3) rfl (by omega)).2 (by omega) dL_law__1582 ?_
    refine l_callV F (k' := 3) (mc' := 0) [.int (xs (i + 1)), .int (xs (i + 2)), .int (xs (i + 3))] [] dL_law__1583 rfl rfl (by decide) rfl cl_L_212 hy_X10_quarrel (by decide) (by omega) (by omega) (by decide) (Nat.le_of_ble_eq_true rfl) rfl (con_mono hc ?_ (fun _ _ h => h))
    rintro r w3 ⟨rfl, h0, h1, hv⟩
    show ZL M G Qp (n + 1 + 0) (ns + 6 * 1 + 6 * 0) w3 1586 [some (.ref b), some (.ref (G.2.1 0 0)), some (.ref (G.2.1 40 0)), some (.ref (G.2.1 80 0)), some (.int (nI i)), some (.int 0), none, none] [.int v]
    refine l_istore F dL_law__1586 (by show 6 < 8; decide) ?_
    show ZL M G Qp (n + 1 + 0) (ns + 6 * 1 + 6 * 0) w3 1588 [some (.ref b), some (.ref (G.2.1 0 0)), some (.ref (G.2.1 40 0)), some (.ref (G.2.1 80 0)), some (.int (nI i)), some (.int 0), some (.int v), none] []
    refine l_aload_n F dL_law__1588 rfl ?_
    refine l_callV F (k' := 1) (mc' := 0) [] [] dL_law__1589 rfl rfl (by decide) rfl cl_L_132 hy_X10_thrown (by decide) (by omega) (by omega) (by decide) (Nat.le_of_ble_eq_true rfl) rfl (e_X10_thrown hst (fun _ _ _ _ _ => ?_))
    show ZL M G Qp (n + 1 + 0 + 0) (ns + 6 * 1 + 6 * 0 + 6 * 0) w3 1592 [some (.ref b), some (.ref (G.2.1 0 0)), some (.ref (G.2.1 40 0)), some (.ref (G.2.1 80 0)), some (.int (nI i)), some (.int 0), some (.int v), none] [.int (w3.1 40 0 0)]
    rw [h0]
    refine l_iload F dL_law__1592 rfl ?_
    refine l_icmp_eq F 1599 dL_law__1594 (by decide) ⟨fun _ => ?_, fun hc => absurd rfl hc⟩
    refine l_iload F dL_law__1599 rfl ?_
    refine l_if_ne F 1616 dL_law__1601 (by decide) ⟨fun hc => absurd rfl hc, fun _ => ?_⟩
    refine l_aload_n F dL_law__1604 rfl ?_
    refine l_iconst F 0 dL_law__1605 (by decide) ?_
    refine l_out F dL_law__1606 ?_
    refine l_iload F dL_law__1607 rfl ?_
    refine l_i2l F dL_law__1609 ?_
    refine l_lcmp F dL_law__1610 ?_
    refine l_if_eq F 1616 dL_law__1611 (by decide) ⟨fun _ => ?_, fun hc => absurd (by rw [h1]; exact lg_cmp_self _) hc⟩
    refine l_goto F 2606 dL_law__1616 (by decide) ?_
    exact l_weak (l_widen (hK w3 hv) (by omega) (by omega)) ⟨rfl, rfl, rfl, rfl, rfl, trivial⟩
  · have hc := hx.2
    show ZL M G Qp (n + 1) (ns + 6 * 1) w2 1562 [some (.ref b), some (.ref (G.2.1 0 0)), some (.ref (G.2.1 40 0)), some (.ref (G.2.1 80 0)), some (.int (nI i)), none, none, none] [.int 1]
    refine l_istore F dL_law__1562 (by show 5 < 8; decide) ?_
    show ZL M G Qp (n + 1) (ns + 6 * 1) w2 1564 [some (.ref b), some (.ref (G.2.1 0 0)), some (.ref (G.2.1 40 0)), some (.ref (G.2.1 80 0)), some (.int (nI i)), some (.int 1), none, none] []
    refine l_aload_n F dL_law__1564 rfl ?_
    refine l_aload_n F dL_law__1565 rfl ?_
    refine l_iload F dL_law__1566 rfl ?_
    refine l_iconst F 1 dL_law__1568 (by decide) ?_
    refine l_iadd F dL_law__1569 ?_
    refine l_sld F (i + 1) (ix_at (c := 1) rfl (by omega)).1 (ix_at (c := 1) rfl (by omega)).2 (by omega) dL_law__1570 ?_
    refine l_aload_n F dL_law__1571 rfl ?_
    refine l_iload F dL_law__1572 rfl ?_
    refine l_iconst F 2 dL_law__1574 (by decide) ?_
    refine l_iadd F dL_law__1575 ?_
    refine l_sld F (i + 2) (ix_at (c := 2) rfl (by omega)).1 (ix_at (c := 2) rfl (by omega)).2 (by omega) dL_law__1576 ?_
    refine l_aload_n F dL_law__1577 rfl ?_
    refine l_iload F dL_law__1578 rfl ?_
    refine l_iconst F 3 dL_law__1580 (by decide) ?_
    refine l_iadd F dL_law__1581 ?_
    refine l_sld F (i + 3) (ix_at (c := 3) rfl (by omega)).1 (ix_at (c := 3) rfl (by omega)).2 (by omega) dL_law__1582 ?_
    refine l_callV F (k' := 3) (mc' := 0) [.int (xs (i + 1)), .int (xs (i + 2)), .int (xs (i + 3))] [] dL_law__1583 rfl rfl (by decide) rfl cl_L_212 hy_X10_quarrel (by decide) (by omega) (by omega) (by decide) (Nat.le_of_ble_eq_true rfl) rfl (con_mono hc ?_ (fun _ _ h => h))
    rintro r w3 ⟨⟨v, rfl⟩, h0, hv⟩
    show ZL M G Qp (n + 1 + 0) (ns + 6 * 1 + 6 * 0) w3 1586 [some (.ref b), some (.ref (G.2.1 0 0)), some (.ref (G.2.1 40 0)), some (.ref (G.2.1 80 0)), some (.int (nI i)), some (.int 1), none, none] [.int v]
    refine l_istore F dL_law__1586 (by show 6 < 8; decide) ?_
    show ZL M G Qp (n + 1 + 0) (ns + 6 * 1 + 6 * 0) w3 1588 [some (.ref b), some (.ref (G.2.1 0 0)), some (.ref (G.2.1 40 0)), some (.ref (G.2.1 80 0)), some (.int (nI i)), some (.int 1), some (.int v), none] []
    refine l_aload_n F dL_law__1588 rfl ?_
    refine l_callV F (k' := 1) (mc' := 0) [] [] dL_law__1589 rfl rfl (by decide) rfl cl_L_132 hy_X10_thrown (by decide) (by omega) (by omega) (by decide) (Nat.le_of_ble_eq_true rfl) rfl (e_X10_thrown hst (fun _ _ _ _ _ => ?_))
    show ZL M G Qp (n + 1 + 0 + 0) (ns + 6 * 1 + 6 * 0 + 6 * 0) w3 1592 [some (.ref b), some (.ref (G.2.1 0 0)), some (.ref (G.2.1 40 0)), some (.ref (G.2.1 80 0)), some (.int (nI i)), some (.int 1), some (.int v), none] [.int (w3.1 40 0 0)]
    rw [h0]
    refine l_iload F dL_law__1592 rfl ?_
    refine l_icmp_eq F 1599 dL_law__1594 (by decide) ⟨fun _ => ?_, fun hc => absurd rfl hc⟩
    refine l_iload F dL_law__1599 rfl ?_
    refine l_if_ne F 1616 dL_law__1601 (by decide) ⟨fun _ => ?_, fun hc => absurd (show ¬ (1 : Int32) = 0 by decide) hc⟩
    refine l_goto F 2606 dL_law__1616 (by decide) ?_
    exact l_weak (l_widen (hK w3 hv) (by omega) (by omega)) ⟨rfl, rfl, rfl, rfl, rfl, trivial⟩
theorem q_enough (F : FL M G b L xs) (hi : i + 9 ≤ L) (hL : L ≤ 576) (hn : n + 16 ≤ 600128) (hns : ns + 96 ≤ 7301098)
    (h : C_X9_enough (mL M) G w [.ref (G.2.1 0 0), .int (xs (i + 1)), .int (xs (i + 2)), .int (xs (i + 3)), .int (xs (i + 4))] (fun r w1 => ∃ v, r = some (.long v) ∧ C_X10_enough (mL M) G (setL w1 80 0 0 v) [.ref (G.2.1 40 0), .int (xs (i + 1)), .int (xs (i + 2)), .int (xs (i + 3)), .int (xs (i + 4))] (fun r2 w2 => r2 = some (.long v) ∧ w2.1 40 0 0 = 0 ∧ w2.2.1 80 0 0 = v ∧ INV w2) noX) (fun E w1 => E = nIae ∧ C_X10_enough (mL M) G w1 [.ref (G.2.1 40 0), .int (xs (i + 1)), .int (xs (i + 2)), .int (xs (i + 3)), .int (xs (i + 4))] (fun r2 w2 => (∃ v, r2 = some (.long v)) ∧ w2.1 40 0 0 = 1 ∧ INV w2) noX))
    (hK : ∀ w2, INV w2 → ZL M G Qp (n + 16) (ns + 96) w2 2606 (lB G b i) []) : ZL M G Qp n ns w 1619 (lB G b i) [] := by
  show ZL M G Qp n ns w 1619 [some (.ref b), some (.ref (G.2.1 0 0)), some (.ref (G.2.1 40 0)), some (.ref (G.2.1 80 0)), some (.int (nI i)), none, none, none] []
  have hst : (mL M).stackTraces = false := F.2.2.2.2.2.2.2.2.1
  refine l_aload_n F dL_law__1619 rfl ?_
  refine l_aload_n F dL_law__1620 rfl ?_
  refine l_iload F dL_law__1621 rfl ?_
  refine l_iconst F 1 dL_law__1623 (by decide) ?_
  refine l_iadd F dL_law__1624 ?_
  refine l_sld F (i + 1) (ix_at (c := 1) rfl (by omega)).1 (ix_at (c := 1) rfl (by omega)).2 (by omega) dL_law__1625 ?_
  refine l_aload_n F dL_law__1626 rfl ?_
  refine l_iload F dL_law__1627 rfl ?_
  refine l_iconst F 2 dL_law__1629 (by decide) ?_
  refine l_iadd F dL_law__1630 ?_
  refine l_sld F (i + 2) (ix_at (c := 2) rfl (by omega)).1 (ix_at (c := 2) rfl (by omega)).2 (by omega) dL_law__1631 ?_
  refine l_aload_n F dL_law__1632 rfl ?_
  refine l_iload F dL_law__1633 rfl ?_
  refine l_iconst F 3 dL_law__1635 (by decide) ?_
  refine l_iadd F dL_law__1636 ?_
  refine l_sld F (i + 3) (ix_at (c := 3) rfl (by omega)).1 (ix_at (c := 3) rfl (by omega)).2 (by omega) dL_law__1637 ?_
  refine l_aload_n F dL_law__1638 rfl ?_
  refine l_iload F dL_law__1639 rfl ?_
  refine l_iconst F 4 dL_law__1641 (by decide) ?_
  refine l_iadd F dL_law__1642 ?_
  refine l_sld F (i + 4) (ix_at (c := 4) rfl (by omega)).1 (ix_at (c := 4) rfl (by omega)).2 (by omega) dL_law__1643 ?_
  refine l_aload_n F dL_law__1644 rfl ?_
  refine l_callH F (k' := 8) (mc' := 1) [.ref (G.2.1 0 0), .int (xs (i + 1)), .int (xs (i + 2)), .int (xs (i + 3)), .int (xs (i + 4)), .ref (G.2.1 80 0)] [] dL_law__1645 rfl kL_enough kY_enough (by decide) (by omega) (by omega) (by decide) (Nat.le_of_ble_eq_true rfl) rfl (conH_mono (k_enough hst F.2.2.2.2.2.2.2.2.2.2.2.2.2 h (fun r w2 h => ⟨h.choose, h.choose_spec.1⟩) (fun E w2 h => h.1)) ?_)
  rintro r w2 (⟨v, w1, ⟨v1, e1, hc⟩, rfl, rfl⟩ | ⟨hx, rfl⟩)
  · cases e1
    show ZL M G Qp (n + 1) (ns + 6 * 1) (setL w1 80 0 0 v) 1648 [some (.ref b), some (.ref (G.2.1 0 0)), some (.ref (G.2.1 40 0)), some (.ref (G.2.1 80 0)), some (.int (nI i)), none, none, none] [.int 0]
    refine l_istore F dL_law__1648 (by show 5 < 8; decide) ?_
    show ZL M G Qp (n + 1) (ns + 6 * 1) (setL w1 80 0 0 v) 1650 [some (.ref b), some (.ref (G.2.1 0 0)), some (.ref (G.2.1 40 0)), some (.ref (G.2.1 80 0)), some (.int (nI i)), some (.int 0), none, none] []
    refine l_aload_n F dL_law__1650 rfl ?_
    refine l_aload_n F dL_law__1651 rfl ?_
    refine l_iload F dL_law__1652 rfl ?_
    refine l_iconst F 1 dL_law__1654 (by decide) ?_
    refine l_iadd F dL_law__1655 ?_
    refine l_sld F (i + 1) (ix_at (c := 1) rfl (by omega)).1 (ix_at (c := 1) rfl (by omega)).2 (by omega) dL_law__1656 ?_
    refine l_aload_n F dL_law__1657 rfl ?_
    refine l_iload F dL_law__1658 rfl ?_
    refine l_iconst F 2 dL_law__1660 (by decide) ?_
    refine l_iadd F dL_law__1661 ?_
    refine l_sld F (i + 2) (ix_at (c := 2) rfl (by omega)).1 (ix_at (c := 2) rfl (by omega)).2 (by omega) dL_law__1662 ?_
    refine l_aload_n F dL_law__1663 rfl ?_
    refine l_iload F dL_law__1664 rfl ?_
    refine l_iconst F 3 dL_law__1666 (by decide) ?_
    refine l_iadd F dL_law__1667 ?_
    refine l_sld F (i + 3) (ix_at (c := 3) rfl (by omega)).1 (ix_at (c := 3) rfl (by omega)).2 (by omega) dL_law__1668 ?_
    refine l_aload_n F dL_law__1669 rfl ?_
    refine l_iload F dL_law__1670 rfl ?_
    refine l_iconst F 4 dL_law__1672 (by decide) ?_
    refine l_iadd F dL_law__1673 ?_
    refine l_sld F (i + 4) (ix_at (c := 4) rfl (by omega)).1 (ix_at (c := 4) rfl (by omega)).2 (by omega) dL_law__1674 ?_
    refine l_callV F (k' := 2) (mc' := 0) [.int (xs (i + 1)), .int (xs (i + 2)), .int (xs (i + 3)), .int (xs (i + 4))] [] dL_law__1675 rfl rfl (by decide) rfl cl_L_216 hy_X10_enough (by decide) (by omega) (by omega) (by decide) (Nat.le_of_ble_eq_true rfl) rfl (con_mono hc ?_ (fun _ _ h => h))
    rintro r w3 ⟨rfl, h0, h1, hv⟩
    show ZL M G Qp (n + 1 + 0) (ns + 6 * 1 + 6 * 0) w3 1678 [some (.ref b), some (.ref (G.2.1 0 0)), some (.ref (G.2.1 40 0)), some (.ref (G.2.1 80 0)), some (.int (nI i)), some (.int 0), none, none] [.long v]
    refine l_lstore F dL_law__1678 (by show 6 + 1 < 8; decide) ?_
    show ZL M G Qp (n + 1 + 0) (ns + 6 * 1 + 6 * 0) w3 1680 [some (.ref b), some (.ref (G.2.1 0 0)), some (.ref (G.2.1 40 0)), some (.ref (G.2.1 80 0)), some (.int (nI i)), some (.int 0), some (.long v), none] []
    refine l_aload_n F dL_law__1680 rfl ?_
    refine l_callV F (k' := 1) (mc' := 0) [] [] dL_law__1681 rfl rfl (by decide) rfl cl_L_132 hy_X10_thrown (by decide) (by omega) (by omega) (by decide) (Nat.le_of_ble_eq_true rfl) rfl (e_X10_thrown hst (fun _ _ _ _ _ => ?_))
    show ZL M G Qp (n + 1 + 0 + 0) (ns + 6 * 1 + 6 * 0 + 6 * 0) w3 1684 [some (.ref b), some (.ref (G.2.1 0 0)), some (.ref (G.2.1 40 0)), some (.ref (G.2.1 80 0)), some (.int (nI i)), some (.int 0), some (.long v), none] [.int (w3.1 40 0 0)]
    rw [h0]
    refine l_iload F dL_law__1684 rfl ?_
    refine l_icmp_eq F 1691 dL_law__1686 (by decide) ⟨fun _ => ?_, fun hc => absurd rfl hc⟩
    refine l_iload F dL_law__1691 rfl ?_
    refine l_if_ne F 1707 dL_law__1693 (by decide) ⟨fun hc => absurd rfl hc, fun _ => ?_⟩
    refine l_aload_n F dL_law__1696 rfl ?_
    refine l_iconst F 0 dL_law__1697 (by decide) ?_
    refine l_out F dL_law__1698 ?_
    refine l_lload F dL_law__1699 rfl ?_
    refine l_lcmp F dL_law__1701 ?_
    refine l_if_eq F 1707 dL_law__1702 (by decide) ⟨fun _ => ?_, fun hc => absurd (by rw [h1]; exact lg_cmp_self _) hc⟩
    refine l_goto F 2606 dL_law__1707 (by decide) ?_
    exact l_weak (l_widen (hK w3 hv) (by omega) (by omega)) ⟨rfl, rfl, rfl, rfl, rfl, trivial⟩
  · have hc := hx.2
    show ZL M G Qp (n + 1) (ns + 6 * 1) w2 1648 [some (.ref b), some (.ref (G.2.1 0 0)), some (.ref (G.2.1 40 0)), some (.ref (G.2.1 80 0)), some (.int (nI i)), none, none, none] [.int 1]
    refine l_istore F dL_law__1648 (by show 5 < 8; decide) ?_
    show ZL M G Qp (n + 1) (ns + 6 * 1) w2 1650 [some (.ref b), some (.ref (G.2.1 0 0)), some (.ref (G.2.1 40 0)), some (.ref (G.2.1 80 0)), some (.int (nI i)), some (.int 1), none, none] []
    refine l_aload_n F dL_law__1650 rfl ?_
    refine l_aload_n F dL_law__1651 rfl ?_
    refine l_iload F dL_law__1652 rfl ?_
    refine l_iconst F 1 dL_law__1654 (by decide) ?_
    refine l_iadd F dL_law__1655 ?_
    refine l_sld F (i + 1) (ix_at (c := 1) rfl (by omega)).1 (ix_at (c := 1) rfl (by omega)).2 (by omega) dL_law__1656 ?_
    refine l_aload_n F dL_law__1657 rfl ?_
    refine l_iload F dL_law__1658 rfl ?_
    refine l_iconst F 2 dL_law__1660 (by decide) ?_
    refine l_iadd F dL_law__1661 ?_
    refine l_sld F (i + 2) (ix_at (c := 2) rfl (by omega)).1 (ix_at (c := 2) rfl (by omega)).2 (by omega) dL_law__1662 ?_
    refine l_aload_n F dL_law__1663 rfl ?_
    refine l_iload F dL_law__1664 rfl ?_
    refine l_iconst F 3 dL_law__1666 (by decide) ?_
    refine l_iadd F dL_law__1667 ?_
    refine l_sld F (i + 3) (ix_at (c := 3) rfl (by omega)).1 (ix_at (c := 3) rfl (by omega)).2 (by omega) dL_law__1668 ?_
    refine l_aload_n F dL_law__1669 rfl ?_
    refine l_iload F dL_law__1670 rfl ?_
    refine l_iconst F 4 dL_law__1672 (by decide) ?_
    refine l_iadd F dL_law__1673 ?_
    refine l_sld F (i + 4) (ix_at (c := 4) rfl (by omega)).1 (ix_at (c := 4) rfl (by omega)).2 (by omega) dL_law__1674 ?_
    refine l_callV F (k' := 2) (mc' := 0) [.int (xs (i + 1)), .int (xs (i + 2)), .int (xs (i + 3)), .int (xs (i + 4))] [] dL_law__1675 rfl rfl (by decide) rfl cl_L_216 hy_X10_enough (by decide) (by omega) (by omega) (by decide) (Nat.le_of_ble_eq_true rfl) rfl (con_mono hc ?_ (fun _ _ h => h))
    rintro r w3 ⟨⟨v, rfl⟩, h0, hv⟩
    show ZL M G Qp (n + 1 + 0) (ns + 6 * 1 + 6 * 0) w3 1678 [some (.ref b), some (.ref (G.2.1 0 0)), some (.ref (G.2.1 40 0)), some (.ref (G.2.1 80 0)), some (.int (nI i)), some (.int 1), none, none] [.long v]
    refine l_lstore F dL_law__1678 (by show 6 + 1 < 8; decide) ?_
    show ZL M G Qp (n + 1 + 0) (ns + 6 * 1 + 6 * 0) w3 1680 [some (.ref b), some (.ref (G.2.1 0 0)), some (.ref (G.2.1 40 0)), some (.ref (G.2.1 80 0)), some (.int (nI i)), some (.int 1), some (.long v), none] []
    refine l_aload_n F dL_law__1680 rfl ?_
    refine l_callV F (k' := 1) (mc' := 0) [] [] dL_law__1681 rfl rfl (by decide) rfl cl_L_132 hy_X10_thrown (by decide) (by omega) (by omega) (by decide) (Nat.le_of_ble_eq_true rfl) rfl (e_X10_thrown hst (fun _ _ _ _ _ => ?_))
    show ZL M G Qp (n + 1 + 0 + 0) (ns + 6 * 1 + 6 * 0 + 6 * 0) w3 1684 [some (.ref b), some (.ref (G.2.1 0 0)), some (.ref (G.2.1 40 0)), some (.ref (G.2.1 80 0)), some (.int (nI i)), some (.int 1), some (.long v), none] [.int (w3.1 40 0 0)]
    rw [h0]
    refine l_iload F dL_law__1684 rfl ?_
    refine l_icmp_eq F 1691 dL_law__1686 (by decide) ⟨fun _ => ?_, fun hc => absurd rfl hc⟩
    refine l_iload F dL_law__1691 rfl ?_
    refine l_if_ne F 1707 dL_law__1693 (by decide) ⟨fun _ => ?_, fun hc => absurd (show ¬ (1 : Int32) = 0 by decide) hc⟩
    refine l_goto F 2606 dL_law__1707 (by decide) ?_
    exact l_weak (l_widen (hK w3 hv) (by omega) (by omega)) ⟨rfl, rfl, rfl, rfl, rfl, trivial⟩
theorem q_rent (F : FL M G b L xs) (hi : i + 9 ≤ L) (hL : L ≤ 576) (hn : n + 16 ≤ 600128) (hns : ns + 96 ≤ 7301098)
    (h : C_X9_rent (mL M) G w [.ref (G.2.1 0 0), .int (xs (i + 1)), .int (xs (i + 2)), .int (xs (i + 3))] (fun r w1 => ∃ v, r = some (.int v) ∧ C_X10_rent (mL M) G (setL w1 80 0 0 v.toInt64) [.ref (G.2.1 40 0), .int (xs (i + 1)), .int (xs (i + 2)), .int (xs (i + 3))] (fun r2 w2 => r2 = some (.int v) ∧ w2.1 40 0 0 = 0 ∧ w2.2.1 80 0 0 = v.toInt64 ∧ INV w2) noX) (fun E w1 => (E = nNse ∧ C_X10_rent (mL M) G w1 [.ref (G.2.1 40 0), .int (xs (i + 1)), .int (xs (i + 2)), .int (xs (i + 3))] (fun r2 w2 => (∃ v, r2 = some (.int v)) ∧ w2.1 40 0 0 = 1 ∧ INV w2) noX) ∨ (E = nIae ∧ C_X10_rent (mL M) G w1 [.ref (G.2.1 40 0), .int (xs (i + 1)), .int (xs (i + 2)), .int (xs (i + 3))] (fun r2 w2 => (∃ v, r2 = some (.int v)) ∧ w2.1 40 0 0 = 2 ∧ INV w2) noX)))
    (hK : ∀ w2, INV w2 → ZL M G Qp (n + 16) (ns + 96) w2 2606 (lB G b i) []) : ZL M G Qp n ns w 1710 (lB G b i) [] := by
  show ZL M G Qp n ns w 1710 [some (.ref b), some (.ref (G.2.1 0 0)), some (.ref (G.2.1 40 0)), some (.ref (G.2.1 80 0)), some (.int (nI i)), none, none, none] []
  have hst : (mL M).stackTraces = false := F.2.2.2.2.2.2.2.2.1
  refine l_aload_n F dL_law__1710 rfl ?_
  refine l_aload_n F dL_law__1711 rfl ?_
  refine l_iload F dL_law__1712 rfl ?_
  refine l_iconst F 1 dL_law__1714 (by decide) ?_
  refine l_iadd F dL_law__1715 ?_
  refine l_sld F (i + 1) (ix_at (c := 1) rfl (by omega)).1 (ix_at (c := 1) rfl (by omega)).2 (by omega) dL_law__1716 ?_
  refine l_aload_n F dL_law__1717 rfl ?_
  refine l_iload F dL_law__1718 rfl ?_
  refine l_iconst F 2 dL_law__1720 (by decide) ?_
  refine l_iadd F dL_law__1721 ?_
  refine l_sld F (i + 2) (ix_at (c := 2) rfl (by omega)).1 (ix_at (c := 2) rfl (by omega)).2 (by omega) dL_law__1722 ?_
  refine l_aload_n F dL_law__1723 rfl ?_
  refine l_iload F dL_law__1724 rfl ?_
  refine l_iconst F 3 dL_law__1726 (by decide) ?_
  refine l_iadd F dL_law__1727 ?_
  refine l_sld F (i + 3) (ix_at (c := 3) rfl (by omega)).1 (ix_at (c := 3) rfl (by omega)).2 (by omega) dL_law__1728 ?_
  refine l_aload_n F dL_law__1729 rfl ?_
  refine l_callH F (k' := 8) (mc' := 2) [.ref (G.2.1 0 0), .int (xs (i + 1)), .int (xs (i + 2)), .int (xs (i + 3)), .ref (G.2.1 80 0)] [] dL_law__1730 rfl kL_rent kY_rent (by decide) (by omega) (by omega) (by decide) (Nat.le_of_ble_eq_true rfl) rfl (conH_mono (k_rent hst F.2.2.2.2.2.2.2.2.2.2.2.2.2 h (fun r w2 h => ⟨h.choose, h.choose_spec.1⟩) (fun E w2 h => h.elim (fun q => Or.inl q.1) (fun q => Or.inr q.1))) ?_)
  rintro r w2 (⟨v, w1, ⟨v1, e1, hc⟩, rfl, rfl⟩ | ⟨hx, rfl⟩ | ⟨hx, rfl⟩)
  · cases e1
    show ZL M G Qp (n + 2) (ns + 6 * 2) (setL w1 80 0 0 v.toInt64) 1733 [some (.ref b), some (.ref (G.2.1 0 0)), some (.ref (G.2.1 40 0)), some (.ref (G.2.1 80 0)), some (.int (nI i)), none, none, none] [.int 0]
    refine l_istore F dL_law__1733 (by show 5 < 8; decide) ?_
    show ZL M G Qp (n + 2) (ns + 6 * 2) (setL w1 80 0 0 v.toInt64) 1735 [some (.ref b), some (.ref (G.2.1 0 0)), some (.ref (G.2.1 40 0)), some (.ref (G.2.1 80 0)), some (.int (nI i)), some (.int 0), none, none] []
    refine l_aload_n F dL_law__1735 rfl ?_
    refine l_aload_n F dL_law__1736 rfl ?_
    refine l_iload F dL_law__1737 rfl ?_
    refine l_iconst F 1 dL_law__1739 (by decide) ?_
    refine l_iadd F dL_law__1740 ?_
    refine l_sld F (i + 1) (ix_at (c := 1) rfl (by omega)).1 (ix_at (c := 1) rfl (by omega)).2 (by omega) dL_law__1741 ?_
    refine l_aload_n F dL_law__1742 rfl ?_
    refine l_iload F dL_law__1743 rfl ?_
    refine l_iconst F 2 dL_law__1745 (by decide) ?_
    refine l_iadd F dL_law__1746 ?_
    refine l_sld F (i + 2) (ix_at (c := 2) rfl (by omega)).1 (ix_at (c := 2) rfl (by omega)).2 (by omega) dL_law__1747 ?_
    refine l_aload_n F dL_law__1748 rfl ?_
    refine l_iload F dL_law__1749 rfl ?_
    refine l_iconst F 3 dL_law__1751 (by decide) ?_
    refine l_iadd F dL_law__1752 ?_
    refine l_sld F (i + 3) (ix_at (c := 3) rfl (by omega)).1 (ix_at (c := 3) rfl (by omega)).2 (by omega) dL_law__1753 ?_
    refine l_callV F (k' := 3) (mc' := 0) [.int (xs (i + 1)), .int (xs (i + 2)), .int (xs (i + 3))] [] dL_law__1754 rfl rfl (by decide) rfl cl_L_219 hy_X10_rent (by decide) (by omega) (by omega) (by decide) (Nat.le_of_ble_eq_true rfl) rfl (con_mono hc ?_ (fun _ _ h => h))
    rintro r w3 ⟨rfl, h0, h1, hv⟩
    show ZL M G Qp (n + 2 + 0) (ns + 6 * 2 + 6 * 0) w3 1757 [some (.ref b), some (.ref (G.2.1 0 0)), some (.ref (G.2.1 40 0)), some (.ref (G.2.1 80 0)), some (.int (nI i)), some (.int 0), none, none] [.int v]
    refine l_istore F dL_law__1757 (by show 6 < 8; decide) ?_
    show ZL M G Qp (n + 2 + 0) (ns + 6 * 2 + 6 * 0) w3 1759 [some (.ref b), some (.ref (G.2.1 0 0)), some (.ref (G.2.1 40 0)), some (.ref (G.2.1 80 0)), some (.int (nI i)), some (.int 0), some (.int v), none] []
    refine l_aload_n F dL_law__1759 rfl ?_
    refine l_callV F (k' := 1) (mc' := 0) [] [] dL_law__1760 rfl rfl (by decide) rfl cl_L_132 hy_X10_thrown (by decide) (by omega) (by omega) (by decide) (Nat.le_of_ble_eq_true rfl) rfl (e_X10_thrown hst (fun _ _ _ _ _ => ?_))
    show ZL M G Qp (n + 2 + 0 + 0) (ns + 6 * 2 + 6 * 0 + 6 * 0) w3 1763 [some (.ref b), some (.ref (G.2.1 0 0)), some (.ref (G.2.1 40 0)), some (.ref (G.2.1 80 0)), some (.int (nI i)), some (.int 0), some (.int v), none] [.int (w3.1 40 0 0)]
    rw [h0]
    refine l_iload F dL_law__1763 rfl ?_
    refine l_icmp_eq F 1770 dL_law__1765 (by decide) ⟨fun _ => ?_, fun hc => absurd rfl hc⟩
    refine l_iload F dL_law__1770 rfl ?_
    refine l_if_ne F 1787 dL_law__1772 (by decide) ⟨fun hc => absurd rfl hc, fun _ => ?_⟩
    refine l_aload_n F dL_law__1775 rfl ?_
    refine l_iconst F 0 dL_law__1776 (by decide) ?_
    refine l_out F dL_law__1777 ?_
    refine l_iload F dL_law__1778 rfl ?_
    refine l_i2l F dL_law__1780 ?_
    refine l_lcmp F dL_law__1781 ?_
    refine l_if_eq F 1787 dL_law__1782 (by decide) ⟨fun _ => ?_, fun hc => absurd (by rw [h1]; exact lg_cmp_self _) hc⟩
    refine l_goto F 2606 dL_law__1787 (by decide) ?_
    exact l_weak (l_widen (hK w3 hv) (by omega) (by omega)) ⟨rfl, rfl, rfl, rfl, rfl, trivial⟩
  · have hc := hx.elim (fun q => q.2) (fun q => absurd q.1 (by decide))
    show ZL M G Qp (n + 2) (ns + 6 * 2) w2 1733 [some (.ref b), some (.ref (G.2.1 0 0)), some (.ref (G.2.1 40 0)), some (.ref (G.2.1 80 0)), some (.int (nI i)), none, none, none] [.int 1]
    refine l_istore F dL_law__1733 (by show 5 < 8; decide) ?_
    show ZL M G Qp (n + 2) (ns + 6 * 2) w2 1735 [some (.ref b), some (.ref (G.2.1 0 0)), some (.ref (G.2.1 40 0)), some (.ref (G.2.1 80 0)), some (.int (nI i)), some (.int 1), none, none] []
    refine l_aload_n F dL_law__1735 rfl ?_
    refine l_aload_n F dL_law__1736 rfl ?_
    refine l_iload F dL_law__1737 rfl ?_
    refine l_iconst F 1 dL_law__1739 (by decide) ?_
    refine l_iadd F dL_law__1740 ?_
    refine l_sld F (i + 1) (ix_at (c := 1) rfl (by omega)).1 (ix_at (c := 1) rfl (by omega)).2 (by omega) dL_law__1741 ?_
    refine l_aload_n F dL_law__1742 rfl ?_
    refine l_iload F dL_law__1743 rfl ?_
    refine l_iconst F 2 dL_law__1745 (by decide) ?_
    refine l_iadd F dL_law__1746 ?_
    refine l_sld F (i + 2) (ix_at (c := 2) rfl (by omega)).1 (ix_at (c := 2) rfl (by omega)).2 (by omega) dL_law__1747 ?_
    refine l_aload_n F dL_law__1748 rfl ?_
    refine l_iload F dL_law__1749 rfl ?_
    refine l_iconst F 3 dL_law__1751 (by decide) ?_
    refine l_iadd F dL_law__1752 ?_
    refine l_sld F (i + 3) (ix_at (c := 3) rfl (by omega)).1 (ix_at (c := 3) rfl (by omega)).2 (by omega) dL_law__1753 ?_
    refine l_callV F (k' := 3) (mc' := 0) [.int (xs (i + 1)), .int (xs (i + 2)), .int (xs (i + 3))] [] dL_law__1754 rfl rfl (by decide) rfl cl_L_219 hy_X10_rent (by decide) (by omega) (by omega) (by decide) (Nat.le_of_ble_eq_true rfl) rfl (con_mono hc ?_ (fun _ _ h => h))
    rintro r w3 ⟨⟨v, rfl⟩, h0, hv⟩
    show ZL M G Qp (n + 2 + 0) (ns + 6 * 2 + 6 * 0) w3 1757 [some (.ref b), some (.ref (G.2.1 0 0)), some (.ref (G.2.1 40 0)), some (.ref (G.2.1 80 0)), some (.int (nI i)), some (.int 1), none, none] [.int v]
    refine l_istore F dL_law__1757 (by show 6 < 8; decide) ?_
    show ZL M G Qp (n + 2 + 0) (ns + 6 * 2 + 6 * 0) w3 1759 [some (.ref b), some (.ref (G.2.1 0 0)), some (.ref (G.2.1 40 0)), some (.ref (G.2.1 80 0)), some (.int (nI i)), some (.int 1), some (.int v), none] []
    refine l_aload_n F dL_law__1759 rfl ?_
    refine l_callV F (k' := 1) (mc' := 0) [] [] dL_law__1760 rfl rfl (by decide) rfl cl_L_132 hy_X10_thrown (by decide) (by omega) (by omega) (by decide) (Nat.le_of_ble_eq_true rfl) rfl (e_X10_thrown hst (fun _ _ _ _ _ => ?_))
    show ZL M G Qp (n + 2 + 0 + 0) (ns + 6 * 2 + 6 * 0 + 6 * 0) w3 1763 [some (.ref b), some (.ref (G.2.1 0 0)), some (.ref (G.2.1 40 0)), some (.ref (G.2.1 80 0)), some (.int (nI i)), some (.int 1), some (.int v), none] [.int (w3.1 40 0 0)]
    rw [h0]
    refine l_iload F dL_law__1763 rfl ?_
    refine l_icmp_eq F 1770 dL_law__1765 (by decide) ⟨fun _ => ?_, fun hc => absurd rfl hc⟩
    refine l_iload F dL_law__1770 rfl ?_
    refine l_if_ne F 1787 dL_law__1772 (by decide) ⟨fun _ => ?_, fun hc => absurd (show ¬ (1 : Int32) = 0 by decide) hc⟩
    refine l_goto F 2606 dL_law__1787 (by decide) ?_
    exact l_weak (l_widen (hK w3 hv) (by omega) (by omega)) ⟨rfl, rfl, rfl, rfl, rfl, trivial⟩
  · have hc := hx.elim (fun q => absurd q.1 (by decide)) (fun q => q.2)
    show ZL M G Qp (n + 2) (ns + 6 * 2) w2 1733 [some (.ref b), some (.ref (G.2.1 0 0)), some (.ref (G.2.1 40 0)), some (.ref (G.2.1 80 0)), some (.int (nI i)), none, none, none] [.int 2]
    refine l_istore F dL_law__1733 (by show 5 < 8; decide) ?_
    show ZL M G Qp (n + 2) (ns + 6 * 2) w2 1735 [some (.ref b), some (.ref (G.2.1 0 0)), some (.ref (G.2.1 40 0)), some (.ref (G.2.1 80 0)), some (.int (nI i)), some (.int 2), none, none] []
    refine l_aload_n F dL_law__1735 rfl ?_
    refine l_aload_n F dL_law__1736 rfl ?_
    refine l_iload F dL_law__1737 rfl ?_
    refine l_iconst F 1 dL_law__1739 (by decide) ?_
    refine l_iadd F dL_law__1740 ?_
    refine l_sld F (i + 1) (ix_at (c := 1) rfl (by omega)).1 (ix_at (c := 1) rfl (by omega)).2 (by omega) dL_law__1741 ?_
    refine l_aload_n F dL_law__1742 rfl ?_
    refine l_iload F dL_law__1743 rfl ?_
    refine l_iconst F 2 dL_law__1745 (by decide) ?_
    refine l_iadd F dL_law__1746 ?_
    refine l_sld F (i + 2) (ix_at (c := 2) rfl (by omega)).1 (ix_at (c := 2) rfl (by omega)).2 (by omega) dL_law__1747 ?_
    refine l_aload_n F dL_law__1748 rfl ?_
    refine l_iload F dL_law__1749 rfl ?_
    refine l_iconst F 3 dL_law__1751 (by decide) ?_
    refine l_iadd F dL_law__1752 ?_
    refine l_sld F (i + 3) (ix_at (c := 3) rfl (by omega)).1 (ix_at (c := 3) rfl (by omega)).2 (by omega) dL_law__1753 ?_
    refine l_callV F (k' := 3) (mc' := 0) [.int (xs (i + 1)), .int (xs (i + 2)), .int (xs (i + 3))] [] dL_law__1754 rfl rfl (by decide) rfl cl_L_219 hy_X10_rent (by decide) (by omega) (by omega) (by decide) (Nat.le_of_ble_eq_true rfl) rfl (con_mono hc ?_ (fun _ _ h => h))
    rintro r w3 ⟨⟨v, rfl⟩, h0, hv⟩
    show ZL M G Qp (n + 2 + 0) (ns + 6 * 2 + 6 * 0) w3 1757 [some (.ref b), some (.ref (G.2.1 0 0)), some (.ref (G.2.1 40 0)), some (.ref (G.2.1 80 0)), some (.int (nI i)), some (.int 2), none, none] [.int v]
    refine l_istore F dL_law__1757 (by show 6 < 8; decide) ?_
    show ZL M G Qp (n + 2 + 0) (ns + 6 * 2 + 6 * 0) w3 1759 [some (.ref b), some (.ref (G.2.1 0 0)), some (.ref (G.2.1 40 0)), some (.ref (G.2.1 80 0)), some (.int (nI i)), some (.int 2), some (.int v), none] []
    refine l_aload_n F dL_law__1759 rfl ?_
    refine l_callV F (k' := 1) (mc' := 0) [] [] dL_law__1760 rfl rfl (by decide) rfl cl_L_132 hy_X10_thrown (by decide) (by omega) (by omega) (by decide) (Nat.le_of_ble_eq_true rfl) rfl (e_X10_thrown hst (fun _ _ _ _ _ => ?_))
    show ZL M G Qp (n + 2 + 0 + 0) (ns + 6 * 2 + 6 * 0 + 6 * 0) w3 1763 [some (.ref b), some (.ref (G.2.1 0 0)), some (.ref (G.2.1 40 0)), some (.ref (G.2.1 80 0)), some (.int (nI i)), some (.int 2), some (.int v), none] [.int (w3.1 40 0 0)]
    rw [h0]
    refine l_iload F dL_law__1763 rfl ?_
    refine l_icmp_eq F 1770 dL_law__1765 (by decide) ⟨fun _ => ?_, fun hc => absurd rfl hc⟩
    refine l_iload F dL_law__1770 rfl ?_
    refine l_if_ne F 1787 dL_law__1772 (by decide) ⟨fun _ => ?_, fun hc => absurd (show ¬ (2 : Int32) = 0 by decide) hc⟩
    refine l_goto F 2606 dL_law__1787 (by decide) ?_
    exact l_weak (l_widen (hK w3 hv) (by omega) (by omega)) ⟨rfl, rfl, rfl, rfl, rfl, trivial⟩
theorem q_dearest (F : FL M G b L xs) (hi : i + 9 ≤ L) (hL : L ≤ 576) (hn : n + 16 ≤ 600128) (hns : ns + 96 ≤ 7301098)
    (h : C_X9_dearest (mL M) G w [.ref (G.2.1 0 0), .int (xs (i + 1))] (fun r w1 => ∃ v, r = some (.int v) ∧ C_X10_dearest (mL M) G (setL w1 80 0 0 v.toInt64) [.ref (G.2.1 40 0), .int (xs (i + 1))] (fun r2 w2 => r2 = some (.int v) ∧ w2.1 40 0 0 = 0 ∧ w2.2.1 80 0 0 = v.toInt64 ∧ INV w2) noX) (fun E w1 => E = nIae ∧ C_X10_dearest (mL M) G w1 [.ref (G.2.1 40 0), .int (xs (i + 1))] (fun r2 w2 => (∃ v, r2 = some (.int v)) ∧ w2.1 40 0 0 = 1 ∧ INV w2) noX))
    (hK : ∀ w2, INV w2 → ZL M G Qp (n + 16) (ns + 96) w2 2606 (lB G b i) []) : ZL M G Qp n ns w 1790 (lB G b i) [] := by
  show ZL M G Qp n ns w 1790 [some (.ref b), some (.ref (G.2.1 0 0)), some (.ref (G.2.1 40 0)), some (.ref (G.2.1 80 0)), some (.int (nI i)), none, none, none] []
  have hst : (mL M).stackTraces = false := F.2.2.2.2.2.2.2.2.1
  refine l_aload_n F dL_law__1790 rfl ?_
  refine l_aload_n F dL_law__1791 rfl ?_
  refine l_iload F dL_law__1792 rfl ?_
  refine l_iconst F 1 dL_law__1794 (by decide) ?_
  refine l_iadd F dL_law__1795 ?_
  refine l_sld F (i + 1) (ix_at (c := 1) rfl (by omega)).1 (ix_at (c := 1) rfl (by omega)).2 (by omega) dL_law__1796 ?_
  refine l_aload_n F dL_law__1797 rfl ?_
  refine l_callH F (k' := 8) (mc' := 1) [.ref (G.2.1 0 0), .int (xs (i + 1)), .ref (G.2.1 80 0)] [] dL_law__1798 rfl kL_dearest kY_dearest (by decide) (by omega) (by omega) (by decide) (Nat.le_of_ble_eq_true rfl) rfl (conH_mono (k_dearest hst F.2.2.2.2.2.2.2.2.2.2.2.2.2 h (fun r w2 h => ⟨h.choose, h.choose_spec.1⟩) (fun E w2 h => h.1)) ?_)
  rintro r w2 (⟨v, w1, ⟨v1, e1, hc⟩, rfl, rfl⟩ | ⟨hx, rfl⟩)
  · cases e1
    show ZL M G Qp (n + 1) (ns + 6 * 1) (setL w1 80 0 0 v.toInt64) 1801 [some (.ref b), some (.ref (G.2.1 0 0)), some (.ref (G.2.1 40 0)), some (.ref (G.2.1 80 0)), some (.int (nI i)), none, none, none] [.int 0]
    refine l_istore F dL_law__1801 (by show 5 < 8; decide) ?_
    show ZL M G Qp (n + 1) (ns + 6 * 1) (setL w1 80 0 0 v.toInt64) 1803 [some (.ref b), some (.ref (G.2.1 0 0)), some (.ref (G.2.1 40 0)), some (.ref (G.2.1 80 0)), some (.int (nI i)), some (.int 0), none, none] []
    refine l_aload_n F dL_law__1803 rfl ?_
    refine l_aload_n F dL_law__1804 rfl ?_
    refine l_iload F dL_law__1805 rfl ?_
    refine l_iconst F 1 dL_law__1807 (by decide) ?_
    refine l_iadd F dL_law__1808 ?_
    refine l_sld F (i + 1) (ix_at (c := 1) rfl (by omega)).1 (ix_at (c := 1) rfl (by omega)).2 (by omega) dL_law__1809 ?_
    refine l_callV F (k' := 2) (mc' := 0) [.int (xs (i + 1))] [] dL_law__1810 rfl rfl (by decide) rfl cl_L_222 hy_X10_dearest (by decide) (by omega) (by omega) (by decide) (Nat.le_of_ble_eq_true rfl) rfl (con_mono hc ?_ (fun _ _ h => h))
    rintro r w3 ⟨rfl, h0, h1, hv⟩
    show ZL M G Qp (n + 1 + 0) (ns + 6 * 1 + 6 * 0) w3 1813 [some (.ref b), some (.ref (G.2.1 0 0)), some (.ref (G.2.1 40 0)), some (.ref (G.2.1 80 0)), some (.int (nI i)), some (.int 0), none, none] [.int v]
    refine l_istore F dL_law__1813 (by show 6 < 8; decide) ?_
    show ZL M G Qp (n + 1 + 0) (ns + 6 * 1 + 6 * 0) w3 1815 [some (.ref b), some (.ref (G.2.1 0 0)), some (.ref (G.2.1 40 0)), some (.ref (G.2.1 80 0)), some (.int (nI i)), some (.int 0), some (.int v), none] []
    refine l_aload_n F dL_law__1815 rfl ?_
    refine l_callV F (k' := 1) (mc' := 0) [] [] dL_law__1816 rfl rfl (by decide) rfl cl_L_132 hy_X10_thrown (by decide) (by omega) (by omega) (by decide) (Nat.le_of_ble_eq_true rfl) rfl (e_X10_thrown hst (fun _ _ _ _ _ => ?_))
    show ZL M G Qp (n + 1 + 0 + 0) (ns + 6 * 1 + 6 * 0 + 6 * 0) w3 1819 [some (.ref b), some (.ref (G.2.1 0 0)), some (.ref (G.2.1 40 0)), some (.ref (G.2.1 80 0)), some (.int (nI i)), some (.int 0), some (.int v), none] [.int (w3.1 40 0 0)]
    rw [h0]
    refine l_iload F dL_law__1819 rfl ?_
    refine l_icmp_eq F 1826 dL_law__1821 (by decide) ⟨fun _ => ?_, fun hc => absurd rfl hc⟩
    refine l_iload F dL_law__1826 rfl ?_
    refine l_if_ne F 1843 dL_law__1828 (by decide) ⟨fun hc => absurd rfl hc, fun _ => ?_⟩
    refine l_aload_n F dL_law__1831 rfl ?_
    refine l_iconst F 0 dL_law__1832 (by decide) ?_
    refine l_out F dL_law__1833 ?_
    refine l_iload F dL_law__1834 rfl ?_
    refine l_i2l F dL_law__1836 ?_
    refine l_lcmp F dL_law__1837 ?_
    refine l_if_eq F 1843 dL_law__1838 (by decide) ⟨fun _ => ?_, fun hc => absurd (by rw [h1]; exact lg_cmp_self _) hc⟩
    refine l_goto F 2606 dL_law__1843 (by decide) ?_
    exact l_weak (l_widen (hK w3 hv) (by omega) (by omega)) ⟨rfl, rfl, rfl, rfl, rfl, trivial⟩
  · have hc := hx.2
    show ZL M G Qp (n + 1) (ns + 6 * 1) w2 1801 [some (.ref b), some (.ref (G.2.1 0 0)), some (.ref (G.2.1 40 0)), some (.ref (G.2.1 80 0)), some (.int (nI i)), none, none, none] [.int 1]
    refine l_istore F dL_law__1801 (by show 5 < 8; decide) ?_
    show ZL M G Qp (n + 1) (ns + 6 * 1) w2 1803 [some (.ref b), some (.ref (G.2.1 0 0)), some (.ref (G.2.1 40 0)), some (.ref (G.2.1 80 0)), some (.int (nI i)), some (.int 1), none, none] []
    refine l_aload_n F dL_law__1803 rfl ?_
    refine l_aload_n F dL_law__1804 rfl ?_
    refine l_iload F dL_law__1805 rfl ?_
    refine l_iconst F 1 dL_law__1807 (by decide) ?_
    refine l_iadd F dL_law__1808 ?_
    refine l_sld F (i + 1) (ix_at (c := 1) rfl (by omega)).1 (ix_at (c := 1) rfl (by omega)).2 (by omega) dL_law__1809 ?_
    refine l_callV F (k' := 2) (mc' := 0) [.int (xs (i + 1))] [] dL_law__1810 rfl rfl (by decide) rfl cl_L_222 hy_X10_dearest (by decide) (by omega) (by omega) (by decide) (Nat.le_of_ble_eq_true rfl) rfl (con_mono hc ?_ (fun _ _ h => h))
    rintro r w3 ⟨⟨v, rfl⟩, h0, hv⟩
    show ZL M G Qp (n + 1 + 0) (ns + 6 * 1 + 6 * 0) w3 1813 [some (.ref b), some (.ref (G.2.1 0 0)), some (.ref (G.2.1 40 0)), some (.ref (G.2.1 80 0)), some (.int (nI i)), some (.int 1), none, none] [.int v]
    refine l_istore F dL_law__1813 (by show 6 < 8; decide) ?_
    show ZL M G Qp (n + 1 + 0) (ns + 6 * 1 + 6 * 0) w3 1815 [some (.ref b), some (.ref (G.2.1 0 0)), some (.ref (G.2.1 40 0)), some (.ref (G.2.1 80 0)), some (.int (nI i)), some (.int 1), some (.int v), none] []
    refine l_aload_n F dL_law__1815 rfl ?_
    refine l_callV F (k' := 1) (mc' := 0) [] [] dL_law__1816 rfl rfl (by decide) rfl cl_L_132 hy_X10_thrown (by decide) (by omega) (by omega) (by decide) (Nat.le_of_ble_eq_true rfl) rfl (e_X10_thrown hst (fun _ _ _ _ _ => ?_))
    show ZL M G Qp (n + 1 + 0 + 0) (ns + 6 * 1 + 6 * 0 + 6 * 0) w3 1819 [some (.ref b), some (.ref (G.2.1 0 0)), some (.ref (G.2.1 40 0)), some (.ref (G.2.1 80 0)), some (.int (nI i)), some (.int 1), some (.int v), none] [.int (w3.1 40 0 0)]
    rw [h0]
    refine l_iload F dL_law__1819 rfl ?_
    refine l_icmp_eq F 1826 dL_law__1821 (by decide) ⟨fun _ => ?_, fun hc => absurd rfl hc⟩
    refine l_iload F dL_law__1826 rfl ?_
    refine l_if_ne F 1843 dL_law__1828 (by decide) ⟨fun _ => ?_, fun hc => absurd (show ¬ (1 : Int32) = 0 by decide) hc⟩
    refine l_goto F 2606 dL_law__1843 (by decide) ?_
    exact l_weak (l_widen (hK w3 hv) (by omega) (by omega)) ⟨rfl, rfl, rfl, rfl, rfl, trivial⟩
theorem q_voices (F : FL M G b L xs) (hi : i + 9 ≤ L) (hL : L ≤ 576) (hn : n + 16 ≤ 600128) (hns : ns + 96 ≤ 7301098)
    (h : C_X9_voices (mL M) G w [.ref (G.2.1 0 0), .int (xs (i + 1))] (fun r w1 => ∃ v, r = some (.int v) ∧ C_X10_voices (mL M) G (setL w1 80 0 0 v.toInt64) [.ref (G.2.1 40 0), .int (xs (i + 1))] (fun r2 w2 => r2 = some (.int v) ∧ w2.1 40 0 0 = 0 ∧ w2.2.1 80 0 0 = v.toInt64 ∧ INV w2) noX) (fun E w1 => E = nIae ∧ C_X10_voices (mL M) G w1 [.ref (G.2.1 40 0), .int (xs (i + 1))] (fun r2 w2 => (∃ v, r2 = some (.int v)) ∧ w2.1 40 0 0 = 1 ∧ INV w2) noX))
    (hK : ∀ w2, INV w2 → ZL M G Qp (n + 16) (ns + 96) w2 2606 (lB G b i) []) : ZL M G Qp n ns w 1846 (lB G b i) [] := by
  show ZL M G Qp n ns w 1846 [some (.ref b), some (.ref (G.2.1 0 0)), some (.ref (G.2.1 40 0)), some (.ref (G.2.1 80 0)), some (.int (nI i)), none, none, none] []
  have hst : (mL M).stackTraces = false := F.2.2.2.2.2.2.2.2.1
  refine l_aload_n F dL_law__1846 rfl ?_
  refine l_aload_n F dL_law__1847 rfl ?_
  refine l_iload F dL_law__1848 rfl ?_
  refine l_iconst F 1 dL_law__1850 (by decide) ?_
  refine l_iadd F dL_law__1851 ?_
  refine l_sld F (i + 1) (ix_at (c := 1) rfl (by omega)).1 (ix_at (c := 1) rfl (by omega)).2 (by omega) dL_law__1852 ?_
  refine l_aload_n F dL_law__1853 rfl ?_
  refine l_callH F (k' := 8) (mc' := 1) [.ref (G.2.1 0 0), .int (xs (i + 1)), .ref (G.2.1 80 0)] [] dL_law__1854 rfl kL_voices kY_voices (by decide) (by omega) (by omega) (by decide) (Nat.le_of_ble_eq_true rfl) rfl (conH_mono (k_voices hst F.2.2.2.2.2.2.2.2.2.2.2.2.2 h (fun r w2 h => ⟨h.choose, h.choose_spec.1⟩) (fun E w2 h => h.1)) ?_)
  rintro r w2 (⟨v, w1, ⟨v1, e1, hc⟩, rfl, rfl⟩ | ⟨hx, rfl⟩)
  · cases e1
    show ZL M G Qp (n + 1) (ns + 6 * 1) (setL w1 80 0 0 v.toInt64) 1857 [some (.ref b), some (.ref (G.2.1 0 0)), some (.ref (G.2.1 40 0)), some (.ref (G.2.1 80 0)), some (.int (nI i)), none, none, none] [.int 0]
    refine l_istore F dL_law__1857 (by show 5 < 8; decide) ?_
    show ZL M G Qp (n + 1) (ns + 6 * 1) (setL w1 80 0 0 v.toInt64) 1859 [some (.ref b), some (.ref (G.2.1 0 0)), some (.ref (G.2.1 40 0)), some (.ref (G.2.1 80 0)), some (.int (nI i)), some (.int 0), none, none] []
    refine l_aload_n F dL_law__1859 rfl ?_
    refine l_aload_n F dL_law__1860 rfl ?_
    refine l_iload F dL_law__1861 rfl ?_
    refine l_iconst F 1 dL_law__1863 (by decide) ?_
    refine l_iadd F dL_law__1864 ?_
    refine l_sld F (i + 1) (ix_at (c := 1) rfl (by omega)).1 (ix_at (c := 1) rfl (by omega)).2 (by omega) dL_law__1865 ?_
    refine l_callV F (k' := 3) (mc' := 0) [.int (xs (i + 1))] [] dL_law__1866 rfl rfl (by decide) rfl cl_L_225 hy_X10_voices (by decide) (by omega) (by omega) (by decide) (Nat.le_of_ble_eq_true rfl) rfl (con_mono hc ?_ (fun _ _ h => h))
    rintro r w3 ⟨rfl, h0, h1, hv⟩
    show ZL M G Qp (n + 1 + 0) (ns + 6 * 1 + 6 * 0) w3 1869 [some (.ref b), some (.ref (G.2.1 0 0)), some (.ref (G.2.1 40 0)), some (.ref (G.2.1 80 0)), some (.int (nI i)), some (.int 0), none, none] [.int v]
    refine l_istore F dL_law__1869 (by show 6 < 8; decide) ?_
    show ZL M G Qp (n + 1 + 0) (ns + 6 * 1 + 6 * 0) w3 1871 [some (.ref b), some (.ref (G.2.1 0 0)), some (.ref (G.2.1 40 0)), some (.ref (G.2.1 80 0)), some (.int (nI i)), some (.int 0), some (.int v), none] []
    refine l_aload_n F dL_law__1871 rfl ?_
    refine l_callV F (k' := 1) (mc' := 0) [] [] dL_law__1872 rfl rfl (by decide) rfl cl_L_132 hy_X10_thrown (by decide) (by omega) (by omega) (by decide) (Nat.le_of_ble_eq_true rfl) rfl (e_X10_thrown hst (fun _ _ _ _ _ => ?_))
    show ZL M G Qp (n + 1 + 0 + 0) (ns + 6 * 1 + 6 * 0 + 6 * 0) w3 1875 [some (.ref b), some (.ref (G.2.1 0 0)), some (.ref (G.2.1 40 0)), some (.ref (G.2.1 80 0)), some (.int (nI i)), some (.int 0), some (.int v), none] [.int (w3.1 40 0 0)]
    rw [h0]
    refine l_iload F dL_law__1875 rfl ?_
    refine l_icmp_eq F 1882 dL_law__1877 (by decide) ⟨fun _ => ?_, fun hc => absurd rfl hc⟩
    refine l_iload F dL_law__1882 rfl ?_
    refine l_if_ne F 1899 dL_law__1884 (by decide) ⟨fun hc => absurd rfl hc, fun _ => ?_⟩
    refine l_aload_n F dL_law__1887 rfl ?_
    refine l_iconst F 0 dL_law__1888 (by decide) ?_
    refine l_out F dL_law__1889 ?_
    refine l_iload F dL_law__1890 rfl ?_
    refine l_i2l F dL_law__1892 ?_
    refine l_lcmp F dL_law__1893 ?_
    refine l_if_eq F 1899 dL_law__1894 (by decide) ⟨fun _ => ?_, fun hc => absurd (by rw [h1]; exact lg_cmp_self _) hc⟩
    refine l_goto F 2606 dL_law__1899 (by decide) ?_
    exact l_weak (l_widen (hK w3 hv) (by omega) (by omega)) ⟨rfl, rfl, rfl, rfl, rfl, trivial⟩
  · have hc := hx.2
    show ZL M G Qp (n + 1) (ns + 6 * 1) w2 1857 [some (.ref b), some (.ref (G.2.1 0 0)), some (.ref (G.2.1 40 0)), some (.ref (G.2.1 80 0)), some (.int (nI i)), none, none, none] [.int 1]
    refine l_istore F dL_law__1857 (by show 5 < 8; decide) ?_
    show ZL M G Qp (n + 1) (ns + 6 * 1) w2 1859 [some (.ref b), some (.ref (G.2.1 0 0)), some (.ref (G.2.1 40 0)), some (.ref (G.2.1 80 0)), some (.int (nI i)), some (.int 1), none, none] []
    refine l_aload_n F dL_law__1859 rfl ?_
    refine l_aload_n F dL_law__1860 rfl ?_
    refine l_iload F dL_law__1861 rfl ?_
    refine l_iconst F 1 dL_law__1863 (by decide) ?_
    refine l_iadd F dL_law__1864 ?_
    refine l_sld F (i + 1) (ix_at (c := 1) rfl (by omega)).1 (ix_at (c := 1) rfl (by omega)).2 (by omega) dL_law__1865 ?_
    refine l_callV F (k' := 3) (mc' := 0) [.int (xs (i + 1))] [] dL_law__1866 rfl rfl (by decide) rfl cl_L_225 hy_X10_voices (by decide) (by omega) (by omega) (by decide) (Nat.le_of_ble_eq_true rfl) rfl (con_mono hc ?_ (fun _ _ h => h))
    rintro r w3 ⟨⟨v, rfl⟩, h0, hv⟩
    show ZL M G Qp (n + 1 + 0) (ns + 6 * 1 + 6 * 0) w3 1869 [some (.ref b), some (.ref (G.2.1 0 0)), some (.ref (G.2.1 40 0)), some (.ref (G.2.1 80 0)), some (.int (nI i)), some (.int 1), none, none] [.int v]
    refine l_istore F dL_law__1869 (by show 6 < 8; decide) ?_
    show ZL M G Qp (n + 1 + 0) (ns + 6 * 1 + 6 * 0) w3 1871 [some (.ref b), some (.ref (G.2.1 0 0)), some (.ref (G.2.1 40 0)), some (.ref (G.2.1 80 0)), some (.int (nI i)), some (.int 1), some (.int v), none] []
    refine l_aload_n F dL_law__1871 rfl ?_
    refine l_callV F (k' := 1) (mc' := 0) [] [] dL_law__1872 rfl rfl (by decide) rfl cl_L_132 hy_X10_thrown (by decide) (by omega) (by omega) (by decide) (Nat.le_of_ble_eq_true rfl) rfl (e_X10_thrown hst (fun _ _ _ _ _ => ?_))
    show ZL M G Qp (n + 1 + 0 + 0) (ns + 6 * 1 + 6 * 0 + 6 * 0) w3 1875 [some (.ref b), some (.ref (G.2.1 0 0)), some (.ref (G.2.1 40 0)), some (.ref (G.2.1 80 0)), some (.int (nI i)), some (.int 1), some (.int v), none] [.int (w3.1 40 0 0)]
    rw [h0]
    refine l_iload F dL_law__1875 rfl ?_
    refine l_icmp_eq F 1882 dL_law__1877 (by decide) ⟨fun _ => ?_, fun hc => absurd rfl hc⟩
    refine l_iload F dL_law__1882 rfl ?_
    refine l_if_ne F 1899 dL_law__1884 (by decide) ⟨fun _ => ?_, fun hc => absurd (show ¬ (1 : Int32) = 0 by decide) hc⟩
    refine l_goto F 2606 dL_law__1899 (by decide) ?_
    exact l_weak (l_widen (hK w3 hv) (by omega) (by omega)) ⟨rfl, rfl, rfl, rfl, rfl, trivial⟩
theorem q_sounds (F : FL M G b L xs) (hi : i + 9 ≤ L) (hL : L ≤ 576) (hn : n + 16 ≤ 600128) (hns : ns + 96 ≤ 7301098)
    (h : C_X9_sounds (mL M) G w [.ref (G.2.1 0 0), .int (xs (i + 1))] (fun r w1 => ∃ v, r = some (.int v) ∧ C_X10_sounds (mL M) G (setL w1 80 0 0 v.toInt64) [.ref (G.2.1 40 0), .int (xs (i + 1))] (fun r2 w2 => r2 = some (.int v) ∧ w2.1 40 0 0 = 0 ∧ w2.2.1 80 0 0 = v.toInt64 ∧ INV w2) noX) (fun E w1 => E = nIae ∧ C_X10_sounds (mL M) G w1 [.ref (G.2.1 40 0), .int (xs (i + 1))] (fun r2 w2 => (∃ v, r2 = some (.int v)) ∧ w2.1 40 0 0 = 1 ∧ INV w2) noX))
    (hK : ∀ w2, INV w2 → ZL M G Qp (n + 16) (ns + 96) w2 2606 (lB G b i) []) : ZL M G Qp n ns w 1902 (lB G b i) [] := by
  show ZL M G Qp n ns w 1902 [some (.ref b), some (.ref (G.2.1 0 0)), some (.ref (G.2.1 40 0)), some (.ref (G.2.1 80 0)), some (.int (nI i)), none, none, none] []
  have hst : (mL M).stackTraces = false := F.2.2.2.2.2.2.2.2.1
  refine l_aload_n F dL_law__1902 rfl ?_
  refine l_aload_n F dL_law__1903 rfl ?_
  refine l_iload F dL_law__1904 rfl ?_
  refine l_iconst F 1 dL_law__1906 (by decide) ?_
  refine l_iadd F dL_law__1907 ?_
  refine l_sld F (i + 1) (ix_at (c := 1) rfl (by omega)).1 (ix_at (c := 1) rfl (by omega)).2 (by omega) dL_law__1908 ?_
  refine l_aload_n F dL_law__1909 rfl ?_
  refine l_callH F (k' := 8) (mc' := 1) [.ref (G.2.1 0 0), .int (xs (i + 1)), .ref (G.2.1 80 0)] [] dL_law__1910 rfl kL_sounds kY_sounds (by decide) (by omega) (by omega) (by decide) (Nat.le_of_ble_eq_true rfl) rfl (conH_mono (k_sounds hst F.2.2.2.2.2.2.2.2.2.2.2.2.2 h (fun r w2 h => ⟨h.choose, h.choose_spec.1⟩) (fun E w2 h => h.1)) ?_)
  rintro r w2 (⟨v, w1, ⟨v1, e1, hc⟩, rfl, rfl⟩ | ⟨hx, rfl⟩)
  · cases e1
    show ZL M G Qp (n + 1) (ns + 6 * 1) (setL w1 80 0 0 v.toInt64) 1913 [some (.ref b), some (.ref (G.2.1 0 0)), some (.ref (G.2.1 40 0)), some (.ref (G.2.1 80 0)), some (.int (nI i)), none, none, none] [.int 0]
    refine l_istore F dL_law__1913 (by show 5 < 8; decide) ?_
    show ZL M G Qp (n + 1) (ns + 6 * 1) (setL w1 80 0 0 v.toInt64) 1915 [some (.ref b), some (.ref (G.2.1 0 0)), some (.ref (G.2.1 40 0)), some (.ref (G.2.1 80 0)), some (.int (nI i)), some (.int 0), none, none] []
    refine l_aload_n F dL_law__1915 rfl ?_
    refine l_aload_n F dL_law__1916 rfl ?_
    refine l_iload F dL_law__1917 rfl ?_
    refine l_iconst F 1 dL_law__1919 (by decide) ?_
    refine l_iadd F dL_law__1920 ?_
    refine l_sld F (i + 1) (ix_at (c := 1) rfl (by omega)).1 (ix_at (c := 1) rfl (by omega)).2 (by omega) dL_law__1921 ?_
    refine l_callV F (k' := 3) (mc' := 0) [.int (xs (i + 1))] [] dL_law__1922 rfl rfl (by decide) rfl cl_L_228 hy_X10_sounds (by decide) (by omega) (by omega) (by decide) (Nat.le_of_ble_eq_true rfl) rfl (con_mono hc ?_ (fun _ _ h => h))
    rintro r w3 ⟨rfl, h0, h1, hv⟩
    show ZL M G Qp (n + 1 + 0) (ns + 6 * 1 + 6 * 0) w3 1925 [some (.ref b), some (.ref (G.2.1 0 0)), some (.ref (G.2.1 40 0)), some (.ref (G.2.1 80 0)), some (.int (nI i)), some (.int 0), none, none] [.int v]
    refine l_istore F dL_law__1925 (by show 6 < 8; decide) ?_
    show ZL M G Qp (n + 1 + 0) (ns + 6 * 1 + 6 * 0) w3 1927 [some (.ref b), some (.ref (G.2.1 0 0)), some (.ref (G.2.1 40 0)), some (.ref (G.2.1 80 0)), some (.int (nI i)), some (.int 0), some (.int v), none] []
    refine l_aload_n F dL_law__1927 rfl ?_
    refine l_callV F (k' := 1) (mc' := 0) [] [] dL_law__1928 rfl rfl (by decide) rfl cl_L_132 hy_X10_thrown (by decide) (by omega) (by omega) (by decide) (Nat.le_of_ble_eq_true rfl) rfl (e_X10_thrown hst (fun _ _ _ _ _ => ?_))
    show ZL M G Qp (n + 1 + 0 + 0) (ns + 6 * 1 + 6 * 0 + 6 * 0) w3 1931 [some (.ref b), some (.ref (G.2.1 0 0)), some (.ref (G.2.1 40 0)), some (.ref (G.2.1 80 0)), some (.int (nI i)), some (.int 0), some (.int v), none] [.int (w3.1 40 0 0)]
    rw [h0]
    refine l_iload F dL_law__1931 rfl ?_
    refine l_icmp_eq F 1938 dL_law__1933 (by decide) ⟨fun _ => ?_, fun hc => absurd rfl hc⟩
    refine l_iload F dL_law__1938 rfl ?_
    refine l_if_ne F 1955 dL_law__1940 (by decide) ⟨fun hc => absurd rfl hc, fun _ => ?_⟩
    refine l_aload_n F dL_law__1943 rfl ?_
    refine l_iconst F 0 dL_law__1944 (by decide) ?_
    refine l_out F dL_law__1945 ?_
    refine l_iload F dL_law__1946 rfl ?_
    refine l_i2l F dL_law__1948 ?_
    refine l_lcmp F dL_law__1949 ?_
    refine l_if_eq F 1955 dL_law__1950 (by decide) ⟨fun _ => ?_, fun hc => absurd (by rw [h1]; exact lg_cmp_self _) hc⟩
    refine l_goto F 2606 dL_law__1955 (by decide) ?_
    exact l_weak (l_widen (hK w3 hv) (by omega) (by omega)) ⟨rfl, rfl, rfl, rfl, rfl, trivial⟩
  · have hc := hx.2
    show ZL M G Qp (n + 1) (ns + 6 * 1) w2 1913 [some (.ref b), some (.ref (G.2.1 0 0)), some (.ref (G.2.1 40 0)), some (.ref (G.2.1 80 0)), some (.int (nI i)), none, none, none] [.int 1]
    refine l_istore F dL_law__1913 (by show 5 < 8; decide) ?_
    show ZL M G Qp (n + 1) (ns + 6 * 1) w2 1915 [some (.ref b), some (.ref (G.2.1 0 0)), some (.ref (G.2.1 40 0)), some (.ref (G.2.1 80 0)), some (.int (nI i)), some (.int 1), none, none] []
    refine l_aload_n F dL_law__1915 rfl ?_
    refine l_aload_n F dL_law__1916 rfl ?_
    refine l_iload F dL_law__1917 rfl ?_
    refine l_iconst F 1 dL_law__1919 (by decide) ?_
    refine l_iadd F dL_law__1920 ?_
    refine l_sld F (i + 1) (ix_at (c := 1) rfl (by omega)).1 (ix_at (c := 1) rfl (by omega)).2 (by omega) dL_law__1921 ?_
    refine l_callV F (k' := 3) (mc' := 0) [.int (xs (i + 1))] [] dL_law__1922 rfl rfl (by decide) rfl cl_L_228 hy_X10_sounds (by decide) (by omega) (by omega) (by decide) (Nat.le_of_ble_eq_true rfl) rfl (con_mono hc ?_ (fun _ _ h => h))
    rintro r w3 ⟨⟨v, rfl⟩, h0, hv⟩
    show ZL M G Qp (n + 1 + 0) (ns + 6 * 1 + 6 * 0) w3 1925 [some (.ref b), some (.ref (G.2.1 0 0)), some (.ref (G.2.1 40 0)), some (.ref (G.2.1 80 0)), some (.int (nI i)), some (.int 1), none, none] [.int v]
    refine l_istore F dL_law__1925 (by show 6 < 8; decide) ?_
    show ZL M G Qp (n + 1 + 0) (ns + 6 * 1 + 6 * 0) w3 1927 [some (.ref b), some (.ref (G.2.1 0 0)), some (.ref (G.2.1 40 0)), some (.ref (G.2.1 80 0)), some (.int (nI i)), some (.int 1), some (.int v), none] []
    refine l_aload_n F dL_law__1927 rfl ?_
    refine l_callV F (k' := 1) (mc' := 0) [] [] dL_law__1928 rfl rfl (by decide) rfl cl_L_132 hy_X10_thrown (by decide) (by omega) (by omega) (by decide) (Nat.le_of_ble_eq_true rfl) rfl (e_X10_thrown hst (fun _ _ _ _ _ => ?_))
    show ZL M G Qp (n + 1 + 0 + 0) (ns + 6 * 1 + 6 * 0 + 6 * 0) w3 1931 [some (.ref b), some (.ref (G.2.1 0 0)), some (.ref (G.2.1 40 0)), some (.ref (G.2.1 80 0)), some (.int (nI i)), some (.int 1), some (.int v), none] [.int (w3.1 40 0 0)]
    rw [h0]
    refine l_iload F dL_law__1931 rfl ?_
    refine l_icmp_eq F 1938 dL_law__1933 (by decide) ⟨fun _ => ?_, fun hc => absurd rfl hc⟩
    refine l_iload F dL_law__1938 rfl ?_
    refine l_if_ne F 1955 dL_law__1940 (by decide) ⟨fun _ => ?_, fun hc => absurd (show ¬ (1 : Int32) = 0 by decide) hc⟩
    refine l_goto F 2606 dL_law__1955 (by decide) ?_
    exact l_weak (l_widen (hK w3 hv) (by omega) (by omega)) ⟨rfl, rfl, rfl, rfl, rfl, trivial⟩
theorem q_beats (F : FL M G b L xs) (hi : i + 9 ≤ L) (hL : L ≤ 576) (hn : n + 16 ≤ 600128) (hns : ns + 96 ≤ 7301098)
    (h : C_X9_beats (mL M) G w [.ref (G.2.1 0 0), .int (xs (i + 1))] (fun r w1 => ∃ v, r = some (.int v) ∧ C_X10_beats (mL M) G (setL w1 80 0 0 v.toInt64) [.ref (G.2.1 40 0), .int (xs (i + 1))] (fun r2 w2 => r2 = some (.int v) ∧ w2.1 40 0 0 = 0 ∧ w2.2.1 80 0 0 = v.toInt64 ∧ INV w2) noX) (fun E w1 => E = nIae ∧ C_X10_beats (mL M) G w1 [.ref (G.2.1 40 0), .int (xs (i + 1))] (fun r2 w2 => (∃ v, r2 = some (.int v)) ∧ w2.1 40 0 0 = 1 ∧ INV w2) noX))
    (hK : ∀ w2, INV w2 → ZL M G Qp (n + 16) (ns + 96) w2 2606 (lB G b i) []) : ZL M G Qp n ns w 1958 (lB G b i) [] := by
  show ZL M G Qp n ns w 1958 [some (.ref b), some (.ref (G.2.1 0 0)), some (.ref (G.2.1 40 0)), some (.ref (G.2.1 80 0)), some (.int (nI i)), none, none, none] []
  have hst : (mL M).stackTraces = false := F.2.2.2.2.2.2.2.2.1
  refine l_aload_n F dL_law__1958 rfl ?_
  refine l_aload_n F dL_law__1959 rfl ?_
  refine l_iload F dL_law__1960 rfl ?_
  refine l_iconst F 1 dL_law__1962 (by decide) ?_
  refine l_iadd F dL_law__1963 ?_
  refine l_sld F (i + 1) (ix_at (c := 1) rfl (by omega)).1 (ix_at (c := 1) rfl (by omega)).2 (by omega) dL_law__1964 ?_
  refine l_aload_n F dL_law__1965 rfl ?_
  refine l_callH F (k' := 8) (mc' := 1) [.ref (G.2.1 0 0), .int (xs (i + 1)), .ref (G.2.1 80 0)] [] dL_law__1966 rfl kL_beats kY_beats (by decide) (by omega) (by omega) (by decide) (Nat.le_of_ble_eq_true rfl) rfl (conH_mono (k_beats hst F.2.2.2.2.2.2.2.2.2.2.2.2.2 h (fun r w2 h => ⟨h.choose, h.choose_spec.1⟩) (fun E w2 h => h.1)) ?_)
  rintro r w2 (⟨v, w1, ⟨v1, e1, hc⟩, rfl, rfl⟩ | ⟨hx, rfl⟩)
  · cases e1
    show ZL M G Qp (n + 1) (ns + 6 * 1) (setL w1 80 0 0 v.toInt64) 1969 [some (.ref b), some (.ref (G.2.1 0 0)), some (.ref (G.2.1 40 0)), some (.ref (G.2.1 80 0)), some (.int (nI i)), none, none, none] [.int 0]
    refine l_istore F dL_law__1969 (by show 5 < 8; decide) ?_
    show ZL M G Qp (n + 1) (ns + 6 * 1) (setL w1 80 0 0 v.toInt64) 1971 [some (.ref b), some (.ref (G.2.1 0 0)), some (.ref (G.2.1 40 0)), some (.ref (G.2.1 80 0)), some (.int (nI i)), some (.int 0), none, none] []
    refine l_aload_n F dL_law__1971 rfl ?_
    refine l_aload_n F dL_law__1972 rfl ?_
    refine l_iload F dL_law__1973 rfl ?_
    refine l_iconst F 1 dL_law__1975 (by decide) ?_
    refine l_iadd F dL_law__1976 ?_
    refine l_sld F (i + 1) (ix_at (c := 1) rfl (by omega)).1 (ix_at (c := 1) rfl (by omega)).2 (by omega) dL_law__1977 ?_
    refine l_callV F (k' := 3) (mc' := 0) [.int (xs (i + 1))] [] dL_law__1978 rfl rfl (by decide) rfl cl_L_231 hy_X10_beats (by decide) (by omega) (by omega) (by decide) (Nat.le_of_ble_eq_true rfl) rfl (con_mono hc ?_ (fun _ _ h => h))
    rintro r w3 ⟨rfl, h0, h1, hv⟩
    show ZL M G Qp (n + 1 + 0) (ns + 6 * 1 + 6 * 0) w3 1981 [some (.ref b), some (.ref (G.2.1 0 0)), some (.ref (G.2.1 40 0)), some (.ref (G.2.1 80 0)), some (.int (nI i)), some (.int 0), none, none] [.int v]
    refine l_istore F dL_law__1981 (by show 6 < 8; decide) ?_
    show ZL M G Qp (n + 1 + 0) (ns + 6 * 1 + 6 * 0) w3 1983 [some (.ref b), some (.ref (G.2.1 0 0)), some (.ref (G.2.1 40 0)), some (.ref (G.2.1 80 0)), some (.int (nI i)), some (.int 0), some (.int v), none] []
    refine l_aload_n F dL_law__1983 rfl ?_
    refine l_callV F (k' := 1) (mc' := 0) [] [] dL_law__1984 rfl rfl (by decide) rfl cl_L_132 hy_X10_thrown (by decide) (by omega) (by omega) (by decide) (Nat.le_of_ble_eq_true rfl) rfl (e_X10_thrown hst (fun _ _ _ _ _ => ?_))
    show ZL M G Qp (n + 1 + 0 + 0) (ns + 6 * 1 + 6 * 0 + 6 * 0) w3 1987 [some (.ref b), some (.ref (G.2.1 0 0)), some (.ref (G.2.1 40 0)), some (.ref (G.2.1 80 0)), some (.int (nI i)), some (.int 0), some (.int v), none] [.int (w3.1 40 0 0)]
    rw [h0]
    refine l_iload F dL_law__1987 rfl ?_
    refine l_icmp_eq F 1994 dL_law__1989 (by decide) ⟨fun _ => ?_, fun hc => absurd rfl hc⟩
    refine l_iload F dL_law__1994 rfl ?_
    refine l_if_ne F 2011 dL_law__1996 (by decide) ⟨fun hc => absurd rfl hc, fun _ => ?_⟩
    refine l_aload_n F dL_law__1999 rfl ?_
    refine l_iconst F 0 dL_law__2000 (by decide) ?_
    refine l_out F dL_law__2001 ?_
    refine l_iload F dL_law__2002 rfl ?_
    refine l_i2l F dL_law__2004 ?_
    refine l_lcmp F dL_law__2005 ?_
    refine l_if_eq F 2011 dL_law__2006 (by decide) ⟨fun _ => ?_, fun hc => absurd (by rw [h1]; exact lg_cmp_self _) hc⟩
    refine l_goto F 2606 dL_law__2011 (by decide) ?_
    exact l_weak (l_widen (hK w3 hv) (by omega) (by omega)) ⟨rfl, rfl, rfl, rfl, rfl, trivial⟩
  · have hc := hx.2
    show ZL M G Qp (n + 1) (ns + 6 * 1) w2 1969 [some (.ref b), some (.ref (G.2.1 0 0)), some (.ref (G.2.1 40 0)), some (.ref (G.2.1 80 0)), some (.int (nI i)), none, none, none] [.int 1]
    refine l_istore F dL_law__1969 (by show 5 < 8; decide) ?_
    show ZL M G Qp (n + 1) (ns + 6 * 1) w2 1971 [some (.ref b), some (.ref (G.2.1 0 0)), some (.ref (G.2.1 40 0)), some (.ref (G.2.1 80 0)), some (.int (nI i)), some (.int 1), none, none] []
    refine l_aload_n F dL_law__1971 rfl ?_
    refine l_aload_n F dL_law__1972 rfl ?_
    refine l_iload F dL_law__1973 rfl ?_
    refine l_iconst F 1 dL_law__1975 (by decide) ?_
    refine l_iadd F dL_law__1976 ?_
    refine l_sld F (i + 1) (ix_at (c := 1) rfl (by omega)).1 (ix_at (c := 1) rfl (by omega)).2 (by omega) dL_law__1977 ?_
    refine l_callV F (k' := 3) (mc' := 0) [.int (xs (i + 1))] [] dL_law__1978 rfl rfl (by decide) rfl cl_L_231 hy_X10_beats (by decide) (by omega) (by omega) (by decide) (Nat.le_of_ble_eq_true rfl) rfl (con_mono hc ?_ (fun _ _ h => h))
    rintro r w3 ⟨⟨v, rfl⟩, h0, hv⟩
    show ZL M G Qp (n + 1 + 0) (ns + 6 * 1 + 6 * 0) w3 1981 [some (.ref b), some (.ref (G.2.1 0 0)), some (.ref (G.2.1 40 0)), some (.ref (G.2.1 80 0)), some (.int (nI i)), some (.int 1), none, none] [.int v]
    refine l_istore F dL_law__1981 (by show 6 < 8; decide) ?_
    show ZL M G Qp (n + 1 + 0) (ns + 6 * 1 + 6 * 0) w3 1983 [some (.ref b), some (.ref (G.2.1 0 0)), some (.ref (G.2.1 40 0)), some (.ref (G.2.1 80 0)), some (.int (nI i)), some (.int 1), some (.int v), none] []
    refine l_aload_n F dL_law__1983 rfl ?_
    refine l_callV F (k' := 1) (mc' := 0) [] [] dL_law__1984 rfl rfl (by decide) rfl cl_L_132 hy_X10_thrown (by decide) (by omega) (by omega) (by decide) (Nat.le_of_ble_eq_true rfl) rfl (e_X10_thrown hst (fun _ _ _ _ _ => ?_))
    show ZL M G Qp (n + 1 + 0 + 0) (ns + 6 * 1 + 6 * 0 + 6 * 0) w3 1987 [some (.ref b), some (.ref (G.2.1 0 0)), some (.ref (G.2.1 40 0)), some (.ref (G.2.1 80 0)), some (.int (nI i)), some (.int 1), some (.int v), none] [.int (w3.1 40 0 0)]
    rw [h0]
    refine l_iload F dL_law__1987 rfl ?_
    refine l_icmp_eq F 1994 dL_law__1989 (by decide) ⟨fun _ => ?_, fun hc => absurd rfl hc⟩
    refine l_iload F dL_law__1994 rfl ?_
    refine l_if_ne F 2011 dL_law__1996 (by decide) ⟨fun _ => ?_, fun hc => absurd (show ¬ (1 : Int32) = 0 by decide) hc⟩
    refine l_goto F 2606 dL_law__2011 (by decide) ?_
    exact l_weak (l_widen (hK w3 hv) (by omega) (by omega)) ⟨rfl, rfl, rfl, rfl, rfl, trivial⟩
theorem q_words (F : FL M G b L xs) (hi : i + 9 ≤ L) (hL : L ≤ 576) (hn : n + 16 ≤ 600128) (hns : ns + 96 ≤ 7301098)
    (h : C_X9_words (mL M) G w [.ref (G.2.1 0 0), .int (xs (i + 1))] (fun r w1 => ∃ v, r = some (.int v) ∧ C_X10_words (mL M) G (setL w1 80 0 0 v.toInt64) [.ref (G.2.1 40 0), .int (xs (i + 1))] (fun r2 w2 => r2 = some (.int v) ∧ w2.1 40 0 0 = 0 ∧ w2.2.1 80 0 0 = v.toInt64 ∧ INV w2) noX) (fun E w1 => E = nNse ∧ C_X10_words (mL M) G w1 [.ref (G.2.1 40 0), .int (xs (i + 1))] (fun r2 w2 => (∃ v, r2 = some (.int v)) ∧ w2.1 40 0 0 = 1 ∧ INV w2) noX))
    (hK : ∀ w2, INV w2 → ZL M G Qp (n + 16) (ns + 96) w2 2606 (lB G b i) []) : ZL M G Qp n ns w 2014 (lB G b i) [] := by
  show ZL M G Qp n ns w 2014 [some (.ref b), some (.ref (G.2.1 0 0)), some (.ref (G.2.1 40 0)), some (.ref (G.2.1 80 0)), some (.int (nI i)), none, none, none] []
  have hst : (mL M).stackTraces = false := F.2.2.2.2.2.2.2.2.1
  refine l_aload_n F dL_law__2014 rfl ?_
  refine l_aload_n F dL_law__2015 rfl ?_
  refine l_iload F dL_law__2016 rfl ?_
  refine l_iconst F 1 dL_law__2018 (by decide) ?_
  refine l_iadd F dL_law__2019 ?_
  refine l_sld F (i + 1) (ix_at (c := 1) rfl (by omega)).1 (ix_at (c := 1) rfl (by omega)).2 (by omega) dL_law__2020 ?_
  refine l_aload_n F dL_law__2021 rfl ?_
  refine l_callH F (k' := 8) (mc' := 1) [.ref (G.2.1 0 0), .int (xs (i + 1)), .ref (G.2.1 80 0)] [] dL_law__2022 rfl kL_words kY_words (by decide) (by omega) (by omega) (by decide) (Nat.le_of_ble_eq_true rfl) rfl (conH_mono (k_words hst F.2.2.2.2.2.2.2.2.2.2.2.2.2 h (fun r w2 h => ⟨h.choose, h.choose_spec.1⟩) (fun E w2 h => h.1)) ?_)
  rintro r w2 (⟨v, w1, ⟨v1, e1, hc⟩, rfl, rfl⟩ | ⟨hx, rfl⟩)
  · cases e1
    show ZL M G Qp (n + 1) (ns + 6 * 1) (setL w1 80 0 0 v.toInt64) 2025 [some (.ref b), some (.ref (G.2.1 0 0)), some (.ref (G.2.1 40 0)), some (.ref (G.2.1 80 0)), some (.int (nI i)), none, none, none] [.int 0]
    refine l_istore F dL_law__2025 (by show 5 < 8; decide) ?_
    show ZL M G Qp (n + 1) (ns + 6 * 1) (setL w1 80 0 0 v.toInt64) 2027 [some (.ref b), some (.ref (G.2.1 0 0)), some (.ref (G.2.1 40 0)), some (.ref (G.2.1 80 0)), some (.int (nI i)), some (.int 0), none, none] []
    refine l_aload_n F dL_law__2027 rfl ?_
    refine l_aload_n F dL_law__2028 rfl ?_
    refine l_iload F dL_law__2029 rfl ?_
    refine l_iconst F 1 dL_law__2031 (by decide) ?_
    refine l_iadd F dL_law__2032 ?_
    refine l_sld F (i + 1) (ix_at (c := 1) rfl (by omega)).1 (ix_at (c := 1) rfl (by omega)).2 (by omega) dL_law__2033 ?_
    refine l_callV F (k' := 3) (mc' := 0) [.int (xs (i + 1))] [] dL_law__2034 rfl rfl (by decide) rfl cl_L_234 hy_X10_words (by decide) (by omega) (by omega) (by decide) (Nat.le_of_ble_eq_true rfl) rfl (con_mono hc ?_ (fun _ _ h => h))
    rintro r w3 ⟨rfl, h0, h1, hv⟩
    show ZL M G Qp (n + 1 + 0) (ns + 6 * 1 + 6 * 0) w3 2037 [some (.ref b), some (.ref (G.2.1 0 0)), some (.ref (G.2.1 40 0)), some (.ref (G.2.1 80 0)), some (.int (nI i)), some (.int 0), none, none] [.int v]
    refine l_istore F dL_law__2037 (by show 6 < 8; decide) ?_
    show ZL M G Qp (n + 1 + 0) (ns + 6 * 1 + 6 * 0) w3 2039 [some (.ref b), some (.ref (G.2.1 0 0)), some (.ref (G.2.1 40 0)), some (.ref (G.2.1 80 0)), some (.int (nI i)), some (.int 0), some (.int v), none] []
    refine l_aload_n F dL_law__2039 rfl ?_
    refine l_callV F (k' := 1) (mc' := 0) [] [] dL_law__2040 rfl rfl (by decide) rfl cl_L_132 hy_X10_thrown (by decide) (by omega) (by omega) (by decide) (Nat.le_of_ble_eq_true rfl) rfl (e_X10_thrown hst (fun _ _ _ _ _ => ?_))
    show ZL M G Qp (n + 1 + 0 + 0) (ns + 6 * 1 + 6 * 0 + 6 * 0) w3 2043 [some (.ref b), some (.ref (G.2.1 0 0)), some (.ref (G.2.1 40 0)), some (.ref (G.2.1 80 0)), some (.int (nI i)), some (.int 0), some (.int v), none] [.int (w3.1 40 0 0)]
    rw [h0]
    refine l_iload F dL_law__2043 rfl ?_
    refine l_icmp_eq F 2050 dL_law__2045 (by decide) ⟨fun _ => ?_, fun hc => absurd rfl hc⟩
    refine l_iload F dL_law__2050 rfl ?_
    refine l_if_ne F 2067 dL_law__2052 (by decide) ⟨fun hc => absurd rfl hc, fun _ => ?_⟩
    refine l_aload_n F dL_law__2055 rfl ?_
    refine l_iconst F 0 dL_law__2056 (by decide) ?_
    refine l_out F dL_law__2057 ?_
    refine l_iload F dL_law__2058 rfl ?_
    refine l_i2l F dL_law__2060 ?_
    refine l_lcmp F dL_law__2061 ?_
    refine l_if_eq F 2067 dL_law__2062 (by decide) ⟨fun _ => ?_, fun hc => absurd (by rw [h1]; exact lg_cmp_self _) hc⟩
    refine l_goto F 2606 dL_law__2067 (by decide) ?_
    exact l_weak (l_widen (hK w3 hv) (by omega) (by omega)) ⟨rfl, rfl, rfl, rfl, rfl, trivial⟩
  · have hc := hx.2
    show ZL M G Qp (n + 1) (ns + 6 * 1) w2 2025 [some (.ref b), some (.ref (G.2.1 0 0)), some (.ref (G.2.1 40 0)), some (.ref (G.2.1 80 0)), some (.int (nI i)), none, none, none] [.int 1]
    refine l_istore F dL_law__2025 (by show 5 < 8; decide) ?_
    show ZL M G Qp (n + 1) (ns + 6 * 1) w2 2027 [some (.ref b), some (.ref (G.2.1 0 0)), some (.ref (G.2.1 40 0)), some (.ref (G.2.1 80 0)), some (.int (nI i)), some (.int 1), none, none] []
    refine l_aload_n F dL_law__2027 rfl ?_
    refine l_aload_n F dL_law__2028 rfl ?_
    refine l_iload F dL_law__2029 rfl ?_
    refine l_iconst F 1 dL_law__2031 (by decide) ?_
    refine l_iadd F dL_law__2032 ?_
    refine l_sld F (i + 1) (ix_at (c := 1) rfl (by omega)).1 (ix_at (c := 1) rfl (by omega)).2 (by omega) dL_law__2033 ?_
    refine l_callV F (k' := 3) (mc' := 0) [.int (xs (i + 1))] [] dL_law__2034 rfl rfl (by decide) rfl cl_L_234 hy_X10_words (by decide) (by omega) (by omega) (by decide) (Nat.le_of_ble_eq_true rfl) rfl (con_mono hc ?_ (fun _ _ h => h))
    rintro r w3 ⟨⟨v, rfl⟩, h0, hv⟩
    show ZL M G Qp (n + 1 + 0) (ns + 6 * 1 + 6 * 0) w3 2037 [some (.ref b), some (.ref (G.2.1 0 0)), some (.ref (G.2.1 40 0)), some (.ref (G.2.1 80 0)), some (.int (nI i)), some (.int 1), none, none] [.int v]
    refine l_istore F dL_law__2037 (by show 6 < 8; decide) ?_
    show ZL M G Qp (n + 1 + 0) (ns + 6 * 1 + 6 * 0) w3 2039 [some (.ref b), some (.ref (G.2.1 0 0)), some (.ref (G.2.1 40 0)), some (.ref (G.2.1 80 0)), some (.int (nI i)), some (.int 1), some (.int v), none] []
    refine l_aload_n F dL_law__2039 rfl ?_
    refine l_callV F (k' := 1) (mc' := 0) [] [] dL_law__2040 rfl rfl (by decide) rfl cl_L_132 hy_X10_thrown (by decide) (by omega) (by omega) (by decide) (Nat.le_of_ble_eq_true rfl) rfl (e_X10_thrown hst (fun _ _ _ _ _ => ?_))
    show ZL M G Qp (n + 1 + 0 + 0) (ns + 6 * 1 + 6 * 0 + 6 * 0) w3 2043 [some (.ref b), some (.ref (G.2.1 0 0)), some (.ref (G.2.1 40 0)), some (.ref (G.2.1 80 0)), some (.int (nI i)), some (.int 1), some (.int v), none] [.int (w3.1 40 0 0)]
    rw [h0]
    refine l_iload F dL_law__2043 rfl ?_
    refine l_icmp_eq F 2050 dL_law__2045 (by decide) ⟨fun _ => ?_, fun hc => absurd rfl hc⟩
    refine l_iload F dL_law__2050 rfl ?_
    refine l_if_ne F 2067 dL_law__2052 (by decide) ⟨fun _ => ?_, fun hc => absurd (show ¬ (1 : Int32) = 0 by decide) hc⟩
    refine l_goto F 2606 dL_law__2067 (by decide) ?_
    exact l_weak (l_widen (hK w3 hv) (by omega) (by omega)) ⟨rfl, rfl, rfl, rfl, rfl, trivial⟩
theorem q_mute (F : FL M G b L xs) (hi : i + 9 ≤ L) (hL : L ≤ 576) (hn : n + 16 ≤ 600128) (hns : ns + 96 ≤ 7301098)
    (h : C_X9_mute (mL M) G w [.ref (G.2.1 0 0)] (fun r w1 => ∃ v, r = some (.int v) ∧ C_X10_mute (mL M) G w1 [.ref (G.2.1 40 0)] (fun r2 w2 => r2 = some (.int v) ∧ INV w2) noX) noX)
    (hK : ∀ w2, INV w2 → ZL M G Qp (n + 16) (ns + 96) w2 2606 (lB G b i) []) : ZL M G Qp n ns w 2070 (lB G b i) [] := by
  show ZL M G Qp n ns w 2070 [some (.ref b), some (.ref (G.2.1 0 0)), some (.ref (G.2.1 40 0)), some (.ref (G.2.1 80 0)), some (.int (nI i)), none, none, none] []
  refine l_aload_n F dL_law__2070 rfl ?_
  refine l_callV F (k' := 6) (mc' := 0) [] [] dL_law__2071 rfl rfl (by decide) rfl cl_L_235 hy_X9_mute (by decide) (by omega) (by omega) (by decide) (Nat.le_of_ble_eq_true rfl) rfl (con_mono h ?_ (fun _ _ h => h))
  rintro r w1 ⟨v, rfl, hc⟩
  show ZL M G Qp (n + 0) (ns + 6 * 0) w1 2074 [some (.ref b), some (.ref (G.2.1 0 0)), some (.ref (G.2.1 40 0)), some (.ref (G.2.1 80 0)), some (.int (nI i)), none, none, none] [.int v]
  refine l_aload_n F dL_law__2074 rfl ?_
  refine l_callV F (k' := 7) (mc' := 0) [] [.int v] dL_law__2075 rfl rfl (by decide) rfl cl_L_238 hy_X10_mute (by decide) (by omega) (by omega) (by decide) (Nat.le_of_ble_eq_true rfl) rfl (con_mono hc ?_ (fun _ _ h => h))
  rintro r w3 ⟨rfl, hv⟩
  show ZL M G Qp (n + 0 + 0) (ns + 6 * 0 + 6 * 0) w3 2078 [some (.ref b), some (.ref (G.2.1 0 0)), some (.ref (G.2.1 40 0)), some (.ref (G.2.1 80 0)), some (.int (nI i)), none, none, none] [.int v, .int v]
  refine l_icmp_eq F 2606 dL_law__2078 (by decide) ⟨fun _ => ?_, fun hc => absurd rfl hc⟩
  exact l_weak (l_widen (hK w3 hv) (by omega) (by omega)) ⟨rfl, rfl, rfl, rfl, rfl, trivial⟩
theorem q_idle (F : FL M G b L xs) (hi : i + 9 ≤ L) (hL : L ≤ 576) (hn : n + 16 ≤ 600128) (hns : ns + 96 ≤ 7301098)
    (h : C_X9_idle (mL M) G w [.ref (G.2.1 0 0)] (fun r w1 => ∃ v, r = some (.int v) ∧ C_X10_idle (mL M) G w1 [.ref (G.2.1 40 0)] (fun r2 w2 => r2 = some (.int v) ∧ INV w2) noX) noX)
    (hK : ∀ w2, INV w2 → ZL M G Qp (n + 16) (ns + 96) w2 2606 (lB G b i) []) : ZL M G Qp n ns w 2083 (lB G b i) [] := by
  show ZL M G Qp n ns w 2083 [some (.ref b), some (.ref (G.2.1 0 0)), some (.ref (G.2.1 40 0)), some (.ref (G.2.1 80 0)), some (.int (nI i)), none, none, none] []
  refine l_aload_n F dL_law__2083 rfl ?_
  refine l_callV F (k' := 6) (mc' := 0) [] [] dL_law__2084 rfl rfl (by decide) rfl cl_L_239 hy_X9_idle (by decide) (by omega) (by omega) (by decide) (Nat.le_of_ble_eq_true rfl) rfl (con_mono h ?_ (fun _ _ h => h))
  rintro r w1 ⟨v, rfl, hc⟩
  show ZL M G Qp (n + 0) (ns + 6 * 0) w1 2087 [some (.ref b), some (.ref (G.2.1 0 0)), some (.ref (G.2.1 40 0)), some (.ref (G.2.1 80 0)), some (.int (nI i)), none, none, none] [.int v]
  refine l_aload_n F dL_law__2087 rfl ?_
  refine l_callV F (k' := 9) (mc' := 0) [] [.int v] dL_law__2088 rfl rfl (by decide) rfl cl_L_242 hy_X10_idle (by decide) (by omega) (by omega) (by decide) (Nat.le_of_ble_eq_true rfl) rfl (con_mono hc ?_ (fun _ _ h => h))
  rintro r w3 ⟨rfl, hv⟩
  show ZL M G Qp (n + 0 + 0) (ns + 6 * 0 + 6 * 0) w3 2091 [some (.ref b), some (.ref (G.2.1 0 0)), some (.ref (G.2.1 40 0)), some (.ref (G.2.1 80 0)), some (.int (nI i)), none, none, none] [.int v, .int v]
  refine l_icmp_eq F 2606 dL_law__2091 (by decide) ⟨fun _ => ?_, fun hc => absurd rfl hc⟩
  exact l_weak (l_widen (hK w3 hv) (by omega) (by omega)) ⟨rfl, rfl, rfl, rfl, rfl, trivial⟩
theorem q_alone (F : FL M G b L xs) (hi : i + 9 ≤ L) (hL : L ≤ 576) (hn : n + 16 ≤ 600128) (hns : ns + 96 ≤ 7301098)
    (h : C_X9_alone (mL M) G w [.ref (G.2.1 0 0), .int (xs (i + 1))] (fun r w1 => ∃ v, r = some (.int v) ∧ C_X10_alone (mL M) G (setL w1 80 0 0 v.toInt64) [.ref (G.2.1 40 0), .int (xs (i + 1))] (fun r2 w2 => r2 = some (.int v) ∧ w2.1 40 0 0 = 0 ∧ w2.2.1 80 0 0 = v.toInt64 ∧ INV w2) noX) (fun E w1 => E = nIae ∧ C_X10_alone (mL M) G w1 [.ref (G.2.1 40 0), .int (xs (i + 1))] (fun r2 w2 => (∃ v, r2 = some (.int v)) ∧ w2.1 40 0 0 = 1 ∧ INV w2) noX))
    (hK : ∀ w2, INV w2 → ZL M G Qp (n + 16) (ns + 96) w2 2606 (lB G b i) []) : ZL M G Qp n ns w 2096 (lB G b i) [] := by
  show ZL M G Qp n ns w 2096 [some (.ref b), some (.ref (G.2.1 0 0)), some (.ref (G.2.1 40 0)), some (.ref (G.2.1 80 0)), some (.int (nI i)), none, none, none] []
  have hst : (mL M).stackTraces = false := F.2.2.2.2.2.2.2.2.1
  refine l_aload_n F dL_law__2096 rfl ?_
  refine l_aload_n F dL_law__2097 rfl ?_
  refine l_iload F dL_law__2098 rfl ?_
  refine l_iconst F 1 dL_law__2100 (by decide) ?_
  refine l_iadd F dL_law__2101 ?_
  refine l_sld F (i + 1) (ix_at (c := 1) rfl (by omega)).1 (ix_at (c := 1) rfl (by omega)).2 (by omega) dL_law__2102 ?_
  refine l_aload_n F dL_law__2103 rfl ?_
  refine l_callH F (k' := 8) (mc' := 1) [.ref (G.2.1 0 0), .int (xs (i + 1)), .ref (G.2.1 80 0)] [] dL_law__2104 rfl kL_alone kY_alone (by decide) (by omega) (by omega) (by decide) (Nat.le_of_ble_eq_true rfl) rfl (conH_mono (k_alone hst F.2.2.2.2.2.2.2.2.2.2.2.2.2 h (fun r w2 h => ⟨h.choose, h.choose_spec.1⟩) (fun E w2 h => h.1)) ?_)
  rintro r w2 (⟨v, w1, ⟨v1, e1, hc⟩, rfl, rfl⟩ | ⟨hx, rfl⟩)
  · cases e1
    show ZL M G Qp (n + 1) (ns + 6 * 1) (setL w1 80 0 0 v.toInt64) 2107 [some (.ref b), some (.ref (G.2.1 0 0)), some (.ref (G.2.1 40 0)), some (.ref (G.2.1 80 0)), some (.int (nI i)), none, none, none] [.int 0]
    refine l_istore F dL_law__2107 (by show 5 < 8; decide) ?_
    show ZL M G Qp (n + 1) (ns + 6 * 1) (setL w1 80 0 0 v.toInt64) 2109 [some (.ref b), some (.ref (G.2.1 0 0)), some (.ref (G.2.1 40 0)), some (.ref (G.2.1 80 0)), some (.int (nI i)), some (.int 0), none, none] []
    refine l_aload_n F dL_law__2109 rfl ?_
    refine l_aload_n F dL_law__2110 rfl ?_
    refine l_iload F dL_law__2111 rfl ?_
    refine l_iconst F 1 dL_law__2113 (by decide) ?_
    refine l_iadd F dL_law__2114 ?_
    refine l_sld F (i + 1) (ix_at (c := 1) rfl (by omega)).1 (ix_at (c := 1) rfl (by omega)).2 (by omega) dL_law__2115 ?_
    refine l_callV F (k' := 3) (mc' := 0) [.int (xs (i + 1))] [] dL_law__2116 rfl rfl (by decide) rfl cl_L_245 hy_X10_alone (by decide) (by omega) (by omega) (by decide) (Nat.le_of_ble_eq_true rfl) rfl (con_mono hc ?_ (fun _ _ h => h))
    rintro r w3 ⟨rfl, h0, h1, hv⟩
    show ZL M G Qp (n + 1 + 0) (ns + 6 * 1 + 6 * 0) w3 2119 [some (.ref b), some (.ref (G.2.1 0 0)), some (.ref (G.2.1 40 0)), some (.ref (G.2.1 80 0)), some (.int (nI i)), some (.int 0), none, none] [.int v]
    refine l_istore F dL_law__2119 (by show 6 < 8; decide) ?_
    show ZL M G Qp (n + 1 + 0) (ns + 6 * 1 + 6 * 0) w3 2121 [some (.ref b), some (.ref (G.2.1 0 0)), some (.ref (G.2.1 40 0)), some (.ref (G.2.1 80 0)), some (.int (nI i)), some (.int 0), some (.int v), none] []
    refine l_aload_n F dL_law__2121 rfl ?_
    refine l_callV F (k' := 1) (mc' := 0) [] [] dL_law__2122 rfl rfl (by decide) rfl cl_L_132 hy_X10_thrown (by decide) (by omega) (by omega) (by decide) (Nat.le_of_ble_eq_true rfl) rfl (e_X10_thrown hst (fun _ _ _ _ _ => ?_))
    show ZL M G Qp (n + 1 + 0 + 0) (ns + 6 * 1 + 6 * 0 + 6 * 0) w3 2125 [some (.ref b), some (.ref (G.2.1 0 0)), some (.ref (G.2.1 40 0)), some (.ref (G.2.1 80 0)), some (.int (nI i)), some (.int 0), some (.int v), none] [.int (w3.1 40 0 0)]
    rw [h0]
    refine l_iload F dL_law__2125 rfl ?_
    refine l_icmp_eq F 2132 dL_law__2127 (by decide) ⟨fun _ => ?_, fun hc => absurd rfl hc⟩
    refine l_iload F dL_law__2132 rfl ?_
    refine l_if_ne F 2149 dL_law__2134 (by decide) ⟨fun hc => absurd rfl hc, fun _ => ?_⟩
    refine l_aload_n F dL_law__2137 rfl ?_
    refine l_iconst F 0 dL_law__2138 (by decide) ?_
    refine l_out F dL_law__2139 ?_
    refine l_iload F dL_law__2140 rfl ?_
    refine l_i2l F dL_law__2142 ?_
    refine l_lcmp F dL_law__2143 ?_
    refine l_if_eq F 2149 dL_law__2144 (by decide) ⟨fun _ => ?_, fun hc => absurd (by rw [h1]; exact lg_cmp_self _) hc⟩
    refine l_goto F 2606 dL_law__2149 (by decide) ?_
    exact l_weak (l_widen (hK w3 hv) (by omega) (by omega)) ⟨rfl, rfl, rfl, rfl, rfl, trivial⟩
  · have hc := hx.2
    show ZL M G Qp (n + 1) (ns + 6 * 1) w2 2107 [some (.ref b), some (.ref (G.2.1 0 0)), some (.ref (G.2.1 40 0)), some (.ref (G.2.1 80 0)), some (.int (nI i)), none, none, none] [.int 1]
    refine l_istore F dL_law__2107 (by show 5 < 8; decide) ?_
    show ZL M G Qp (n + 1) (ns + 6 * 1) w2 2109 [some (.ref b), some (.ref (G.2.1 0 0)), some (.ref (G.2.1 40 0)), some (.ref (G.2.1 80 0)), some (.int (nI i)), some (.int 1), none, none] []
    refine l_aload_n F dL_law__2109 rfl ?_
    refine l_aload_n F dL_law__2110 rfl ?_
    refine l_iload F dL_law__2111 rfl ?_
    refine l_iconst F 1 dL_law__2113 (by decide) ?_
    refine l_iadd F dL_law__2114 ?_
    refine l_sld F (i + 1) (ix_at (c := 1) rfl (by omega)).1 (ix_at (c := 1) rfl (by omega)).2 (by omega) dL_law__2115 ?_
    refine l_callV F (k' := 3) (mc' := 0) [.int (xs (i + 1))] [] dL_law__2116 rfl rfl (by decide) rfl cl_L_245 hy_X10_alone (by decide) (by omega) (by omega) (by decide) (Nat.le_of_ble_eq_true rfl) rfl (con_mono hc ?_ (fun _ _ h => h))
    rintro r w3 ⟨⟨v, rfl⟩, h0, hv⟩
    show ZL M G Qp (n + 1 + 0) (ns + 6 * 1 + 6 * 0) w3 2119 [some (.ref b), some (.ref (G.2.1 0 0)), some (.ref (G.2.1 40 0)), some (.ref (G.2.1 80 0)), some (.int (nI i)), some (.int 1), none, none] [.int v]
    refine l_istore F dL_law__2119 (by show 6 < 8; decide) ?_
    show ZL M G Qp (n + 1 + 0) (ns + 6 * 1 + 6 * 0) w3 2121 [some (.ref b), some (.ref (G.2.1 0 0)), some (.ref (G.2.1 40 0)), some (.ref (G.2.1 80 0)), some (.int (nI i)), some (.int 1), some (.int v), none] []
    refine l_aload_n F dL_law__2121 rfl ?_
    refine l_callV F (k' := 1) (mc' := 0) [] [] dL_law__2122 rfl rfl (by decide) rfl cl_L_132 hy_X10_thrown (by decide) (by omega) (by omega) (by decide) (Nat.le_of_ble_eq_true rfl) rfl (e_X10_thrown hst (fun _ _ _ _ _ => ?_))
    show ZL M G Qp (n + 1 + 0 + 0) (ns + 6 * 1 + 6 * 0 + 6 * 0) w3 2125 [some (.ref b), some (.ref (G.2.1 0 0)), some (.ref (G.2.1 40 0)), some (.ref (G.2.1 80 0)), some (.int (nI i)), some (.int 1), some (.int v), none] [.int (w3.1 40 0 0)]
    rw [h0]
    refine l_iload F dL_law__2125 rfl ?_
    refine l_icmp_eq F 2132 dL_law__2127 (by decide) ⟨fun _ => ?_, fun hc => absurd rfl hc⟩
    refine l_iload F dL_law__2132 rfl ?_
    refine l_if_ne F 2149 dL_law__2134 (by decide) ⟨fun _ => ?_, fun hc => absurd (show ¬ (1 : Int32) = 0 by decide) hc⟩
    refine l_goto F 2606 dL_law__2149 (by decide) ?_
    exact l_weak (l_widen (hK w3 hv) (by omega) (by omega)) ⟨rfl, rfl, rfl, rfl, rfl, trivial⟩
theorem q_longest (F : FL M G b L xs) (hi : i + 9 ≤ L) (hL : L ≤ 576) (hn : n + 16 ≤ 600128) (hns : ns + 96 ≤ 7301098)
    (h : C_X9_longest (mL M) G w [.ref (G.2.1 0 0), .int (xs (i + 1))] (fun r w1 => ∃ v, r = some (.int v) ∧ C_X10_longest (mL M) G (setL w1 80 0 0 v.toInt64) [.ref (G.2.1 40 0), .int (xs (i + 1))] (fun r2 w2 => r2 = some (.int v) ∧ w2.1 40 0 0 = 0 ∧ w2.2.1 80 0 0 = v.toInt64 ∧ INV w2) noX) (fun E w1 => E = nIae ∧ C_X10_longest (mL M) G w1 [.ref (G.2.1 40 0), .int (xs (i + 1))] (fun r2 w2 => (∃ v, r2 = some (.int v)) ∧ w2.1 40 0 0 = 1 ∧ INV w2) noX))
    (hK : ∀ w2, INV w2 → ZL M G Qp (n + 16) (ns + 96) w2 2606 (lB G b i) []) : ZL M G Qp n ns w 2152 (lB G b i) [] := by
  show ZL M G Qp n ns w 2152 [some (.ref b), some (.ref (G.2.1 0 0)), some (.ref (G.2.1 40 0)), some (.ref (G.2.1 80 0)), some (.int (nI i)), none, none, none] []
  have hst : (mL M).stackTraces = false := F.2.2.2.2.2.2.2.2.1
  refine l_aload_n F dL_law__2152 rfl ?_
  refine l_aload_n F dL_law__2153 rfl ?_
  refine l_iload F dL_law__2154 rfl ?_
  refine l_iconst F 1 dL_law__2156 (by decide) ?_
  refine l_iadd F dL_law__2157 ?_
  refine l_sld F (i + 1) (ix_at (c := 1) rfl (by omega)).1 (ix_at (c := 1) rfl (by omega)).2 (by omega) dL_law__2158 ?_
  refine l_aload_n F dL_law__2159 rfl ?_
  refine l_callH F (k' := 8) (mc' := 1) [.ref (G.2.1 0 0), .int (xs (i + 1)), .ref (G.2.1 80 0)] [] dL_law__2160 rfl kL_longest kY_longest (by decide) (by omega) (by omega) (by decide) (Nat.le_of_ble_eq_true rfl) rfl (conH_mono (k_longest hst F.2.2.2.2.2.2.2.2.2.2.2.2.2 h (fun r w2 h => ⟨h.choose, h.choose_spec.1⟩) (fun E w2 h => h.1)) ?_)
  rintro r w2 (⟨v, w1, ⟨v1, e1, hc⟩, rfl, rfl⟩ | ⟨hx, rfl⟩)
  · cases e1
    show ZL M G Qp (n + 1) (ns + 6 * 1) (setL w1 80 0 0 v.toInt64) 2163 [some (.ref b), some (.ref (G.2.1 0 0)), some (.ref (G.2.1 40 0)), some (.ref (G.2.1 80 0)), some (.int (nI i)), none, none, none] [.int 0]
    refine l_istore F dL_law__2163 (by show 5 < 8; decide) ?_
    show ZL M G Qp (n + 1) (ns + 6 * 1) (setL w1 80 0 0 v.toInt64) 2165 [some (.ref b), some (.ref (G.2.1 0 0)), some (.ref (G.2.1 40 0)), some (.ref (G.2.1 80 0)), some (.int (nI i)), some (.int 0), none, none] []
    refine l_aload_n F dL_law__2165 rfl ?_
    refine l_aload_n F dL_law__2166 rfl ?_
    refine l_iload F dL_law__2167 rfl ?_
    refine l_iconst F 1 dL_law__2169 (by decide) ?_
    refine l_iadd F dL_law__2170 ?_
    refine l_sld F (i + 1) (ix_at (c := 1) rfl (by omega)).1 (ix_at (c := 1) rfl (by omega)).2 (by omega) dL_law__2171 ?_
    refine l_callV F (k' := 2) (mc' := 0) [.int (xs (i + 1))] [] dL_law__2172 rfl rfl (by decide) rfl cl_L_248 hy_X10_longest (by decide) (by omega) (by omega) (by decide) (Nat.le_of_ble_eq_true rfl) rfl (con_mono hc ?_ (fun _ _ h => h))
    rintro r w3 ⟨rfl, h0, h1, hv⟩
    show ZL M G Qp (n + 1 + 0) (ns + 6 * 1 + 6 * 0) w3 2175 [some (.ref b), some (.ref (G.2.1 0 0)), some (.ref (G.2.1 40 0)), some (.ref (G.2.1 80 0)), some (.int (nI i)), some (.int 0), none, none] [.int v]
    refine l_istore F dL_law__2175 (by show 6 < 8; decide) ?_
    show ZL M G Qp (n + 1 + 0) (ns + 6 * 1 + 6 * 0) w3 2177 [some (.ref b), some (.ref (G.2.1 0 0)), some (.ref (G.2.1 40 0)), some (.ref (G.2.1 80 0)), some (.int (nI i)), some (.int 0), some (.int v), none] []
    refine l_aload_n F dL_law__2177 rfl ?_
    refine l_callV F (k' := 1) (mc' := 0) [] [] dL_law__2178 rfl rfl (by decide) rfl cl_L_132 hy_X10_thrown (by decide) (by omega) (by omega) (by decide) (Nat.le_of_ble_eq_true rfl) rfl (e_X10_thrown hst (fun _ _ _ _ _ => ?_))
    show ZL M G Qp (n + 1 + 0 + 0) (ns + 6 * 1 + 6 * 0 + 6 * 0) w3 2181 [some (.ref b), some (.ref (G.2.1 0 0)), some (.ref (G.2.1 40 0)), some (.ref (G.2.1 80 0)), some (.int (nI i)), some (.int 0), some (.int v), none] [.int (w3.1 40 0 0)]
    rw [h0]
    refine l_iload F dL_law__2181 rfl ?_
    refine l_icmp_eq F 2188 dL_law__2183 (by decide) ⟨fun _ => ?_, fun hc => absurd rfl hc⟩
    refine l_iload F dL_law__2188 rfl ?_
    refine l_if_ne F 2205 dL_law__2190 (by decide) ⟨fun hc => absurd rfl hc, fun _ => ?_⟩
    refine l_aload_n F dL_law__2193 rfl ?_
    refine l_iconst F 0 dL_law__2194 (by decide) ?_
    refine l_out F dL_law__2195 ?_
    refine l_iload F dL_law__2196 rfl ?_
    refine l_i2l F dL_law__2198 ?_
    refine l_lcmp F dL_law__2199 ?_
    refine l_if_eq F 2205 dL_law__2200 (by decide) ⟨fun _ => ?_, fun hc => absurd (by rw [h1]; exact lg_cmp_self _) hc⟩
    refine l_goto F 2606 dL_law__2205 (by decide) ?_
    exact l_weak (l_widen (hK w3 hv) (by omega) (by omega)) ⟨rfl, rfl, rfl, rfl, rfl, trivial⟩
  · have hc := hx.2
    show ZL M G Qp (n + 1) (ns + 6 * 1) w2 2163 [some (.ref b), some (.ref (G.2.1 0 0)), some (.ref (G.2.1 40 0)), some (.ref (G.2.1 80 0)), some (.int (nI i)), none, none, none] [.int 1]
    refine l_istore F dL_law__2163 (by show 5 < 8; decide) ?_
    show ZL M G Qp (n + 1) (ns + 6 * 1) w2 2165 [some (.ref b), some (.ref (G.2.1 0 0)), some (.ref (G.2.1 40 0)), some (.ref (G.2.1 80 0)), some (.int (nI i)), some (.int 1), none, none] []
    refine l_aload_n F dL_law__2165 rfl ?_
    refine l_aload_n F dL_law__2166 rfl ?_
    refine l_iload F dL_law__2167 rfl ?_
    refine l_iconst F 1 dL_law__2169 (by decide) ?_
    refine l_iadd F dL_law__2170 ?_
    refine l_sld F (i + 1) (ix_at (c := 1) rfl (by omega)).1 (ix_at (c := 1) rfl (by omega)).2 (by omega) dL_law__2171 ?_
    refine l_callV F (k' := 2) (mc' := 0) [.int (xs (i + 1))] [] dL_law__2172 rfl rfl (by decide) rfl cl_L_248 hy_X10_longest (by decide) (by omega) (by omega) (by decide) (Nat.le_of_ble_eq_true rfl) rfl (con_mono hc ?_ (fun _ _ h => h))
    rintro r w3 ⟨⟨v, rfl⟩, h0, hv⟩
    show ZL M G Qp (n + 1 + 0) (ns + 6 * 1 + 6 * 0) w3 2175 [some (.ref b), some (.ref (G.2.1 0 0)), some (.ref (G.2.1 40 0)), some (.ref (G.2.1 80 0)), some (.int (nI i)), some (.int 1), none, none] [.int v]
    refine l_istore F dL_law__2175 (by show 6 < 8; decide) ?_
    show ZL M G Qp (n + 1 + 0) (ns + 6 * 1 + 6 * 0) w3 2177 [some (.ref b), some (.ref (G.2.1 0 0)), some (.ref (G.2.1 40 0)), some (.ref (G.2.1 80 0)), some (.int (nI i)), some (.int 1), some (.int v), none] []
    refine l_aload_n F dL_law__2177 rfl ?_
    refine l_callV F (k' := 1) (mc' := 0) [] [] dL_law__2178 rfl rfl (by decide) rfl cl_L_132 hy_X10_thrown (by decide) (by omega) (by omega) (by decide) (Nat.le_of_ble_eq_true rfl) rfl (e_X10_thrown hst (fun _ _ _ _ _ => ?_))
    show ZL M G Qp (n + 1 + 0 + 0) (ns + 6 * 1 + 6 * 0 + 6 * 0) w3 2181 [some (.ref b), some (.ref (G.2.1 0 0)), some (.ref (G.2.1 40 0)), some (.ref (G.2.1 80 0)), some (.int (nI i)), some (.int 1), some (.int v), none] [.int (w3.1 40 0 0)]
    rw [h0]
    refine l_iload F dL_law__2181 rfl ?_
    refine l_icmp_eq F 2188 dL_law__2183 (by decide) ⟨fun _ => ?_, fun hc => absurd rfl hc⟩
    refine l_iload F dL_law__2188 rfl ?_
    refine l_if_ne F 2205 dL_law__2190 (by decide) ⟨fun _ => ?_, fun hc => absurd (show ¬ (1 : Int32) = 0 by decide) hc⟩
    refine l_goto F 2606 dL_law__2205 (by decide) ?_
    exact l_weak (l_widen (hK w3 hv) (by omega) (by omega)) ⟨rfl, rfl, rfl, rfl, rfl, trivial⟩
theorem q_chorus (F : FL M G b L xs) (hi : i + 9 ≤ L) (hL : L ≤ 576) (hn : n + 16 ≤ 600128) (hns : ns + 96 ≤ 7301098)
    (h : C_X9_chorus (mL M) G w [.ref (G.2.1 0 0), .int (xs (i + 1))] (fun r w1 => ∃ v, r = some (.int v) ∧ C_X10_chorus (mL M) G (setL w1 80 0 0 v.toInt64) [.ref (G.2.1 40 0), .int (xs (i + 1))] (fun r2 w2 => r2 = some (.int v) ∧ w2.1 40 0 0 = 0 ∧ w2.2.1 80 0 0 = v.toInt64 ∧ INV w2) noX) (fun E w1 => E = nIae ∧ C_X10_chorus (mL M) G w1 [.ref (G.2.1 40 0), .int (xs (i + 1))] (fun r2 w2 => (∃ v, r2 = some (.int v)) ∧ w2.1 40 0 0 = 1 ∧ INV w2) noX))
    (hK : ∀ w2, INV w2 → ZL M G Qp (n + 16) (ns + 96) w2 2606 (lB G b i) []) : ZL M G Qp n ns w 2208 (lB G b i) [] := by
  show ZL M G Qp n ns w 2208 [some (.ref b), some (.ref (G.2.1 0 0)), some (.ref (G.2.1 40 0)), some (.ref (G.2.1 80 0)), some (.int (nI i)), none, none, none] []
  have hst : (mL M).stackTraces = false := F.2.2.2.2.2.2.2.2.1
  refine l_aload_n F dL_law__2208 rfl ?_
  refine l_aload_n F dL_law__2209 rfl ?_
  refine l_iload F dL_law__2210 rfl ?_
  refine l_iconst F 1 dL_law__2212 (by decide) ?_
  refine l_iadd F dL_law__2213 ?_
  refine l_sld F (i + 1) (ix_at (c := 1) rfl (by omega)).1 (ix_at (c := 1) rfl (by omega)).2 (by omega) dL_law__2214 ?_
  refine l_aload_n F dL_law__2215 rfl ?_
  refine l_callH F (k' := 8) (mc' := 1) [.ref (G.2.1 0 0), .int (xs (i + 1)), .ref (G.2.1 80 0)] [] dL_law__2216 rfl kL_chorus kY_chorus (by decide) (by omega) (by omega) (by decide) (Nat.le_of_ble_eq_true rfl) rfl (conH_mono (k_chorus hst F.2.2.2.2.2.2.2.2.2.2.2.2.2 h (fun r w2 h => ⟨h.choose, h.choose_spec.1⟩) (fun E w2 h => h.1)) ?_)
  rintro r w2 (⟨v, w1, ⟨v1, e1, hc⟩, rfl, rfl⟩ | ⟨hx, rfl⟩)
  · cases e1
    show ZL M G Qp (n + 1) (ns + 6 * 1) (setL w1 80 0 0 v.toInt64) 2219 [some (.ref b), some (.ref (G.2.1 0 0)), some (.ref (G.2.1 40 0)), some (.ref (G.2.1 80 0)), some (.int (nI i)), none, none, none] [.int 0]
    refine l_istore F dL_law__2219 (by show 5 < 8; decide) ?_
    show ZL M G Qp (n + 1) (ns + 6 * 1) (setL w1 80 0 0 v.toInt64) 2221 [some (.ref b), some (.ref (G.2.1 0 0)), some (.ref (G.2.1 40 0)), some (.ref (G.2.1 80 0)), some (.int (nI i)), some (.int 0), none, none] []
    refine l_aload_n F dL_law__2221 rfl ?_
    refine l_aload_n F dL_law__2222 rfl ?_
    refine l_iload F dL_law__2223 rfl ?_
    refine l_iconst F 1 dL_law__2225 (by decide) ?_
    refine l_iadd F dL_law__2226 ?_
    refine l_sld F (i + 1) (ix_at (c := 1) rfl (by omega)).1 (ix_at (c := 1) rfl (by omega)).2 (by omega) dL_law__2227 ?_
    refine l_callV F (k' := 9) (mc' := 0) [.int (xs (i + 1))] [] dL_law__2228 rfl rfl (by decide) rfl cl_L_251 hy_X10_chorus (by decide) (by omega) (by omega) (by decide) (Nat.le_of_ble_eq_true rfl) rfl (con_mono hc ?_ (fun _ _ h => h))
    rintro r w3 ⟨rfl, h0, h1, hv⟩
    show ZL M G Qp (n + 1 + 0) (ns + 6 * 1 + 6 * 0) w3 2231 [some (.ref b), some (.ref (G.2.1 0 0)), some (.ref (G.2.1 40 0)), some (.ref (G.2.1 80 0)), some (.int (nI i)), some (.int 0), none, none] [.int v]
    refine l_istore F dL_law__2231 (by show 6 < 8; decide) ?_
    show ZL M G Qp (n + 1 + 0) (ns + 6 * 1 + 6 * 0) w3 2233 [some (.ref b), some (.ref (G.2.1 0 0)), some (.ref (G.2.1 40 0)), some (.ref (G.2.1 80 0)), some (.int (nI i)), some (.int 0), some (.int v), none] []
    refine l_aload_n F dL_law__2233 rfl ?_
    refine l_callV F (k' := 1) (mc' := 0) [] [] dL_law__2234 rfl rfl (by decide) rfl cl_L_132 hy_X10_thrown (by decide) (by omega) (by omega) (by decide) (Nat.le_of_ble_eq_true rfl) rfl (e_X10_thrown hst (fun _ _ _ _ _ => ?_))
    show ZL M G Qp (n + 1 + 0 + 0) (ns + 6 * 1 + 6 * 0 + 6 * 0) w3 2237 [some (.ref b), some (.ref (G.2.1 0 0)), some (.ref (G.2.1 40 0)), some (.ref (G.2.1 80 0)), some (.int (nI i)), some (.int 0), some (.int v), none] [.int (w3.1 40 0 0)]
    rw [h0]
    refine l_iload F dL_law__2237 rfl ?_
    refine l_icmp_eq F 2244 dL_law__2239 (by decide) ⟨fun _ => ?_, fun hc => absurd rfl hc⟩
    refine l_iload F dL_law__2244 rfl ?_
    refine l_if_ne F 2261 dL_law__2246 (by decide) ⟨fun hc => absurd rfl hc, fun _ => ?_⟩
    refine l_aload_n F dL_law__2249 rfl ?_
    refine l_iconst F 0 dL_law__2250 (by decide) ?_
    refine l_out F dL_law__2251 ?_
    refine l_iload F dL_law__2252 rfl ?_
    refine l_i2l F dL_law__2254 ?_
    refine l_lcmp F dL_law__2255 ?_
    refine l_if_eq F 2261 dL_law__2256 (by decide) ⟨fun _ => ?_, fun hc => absurd (by rw [h1]; exact lg_cmp_self _) hc⟩
    refine l_goto F 2606 dL_law__2261 (by decide) ?_
    exact l_weak (l_widen (hK w3 hv) (by omega) (by omega)) ⟨rfl, rfl, rfl, rfl, rfl, trivial⟩
  · have hc := hx.2
    show ZL M G Qp (n + 1) (ns + 6 * 1) w2 2219 [some (.ref b), some (.ref (G.2.1 0 0)), some (.ref (G.2.1 40 0)), some (.ref (G.2.1 80 0)), some (.int (nI i)), none, none, none] [.int 1]
    refine l_istore F dL_law__2219 (by show 5 < 8; decide) ?_
    show ZL M G Qp (n + 1) (ns + 6 * 1) w2 2221 [some (.ref b), some (.ref (G.2.1 0 0)), some (.ref (G.2.1 40 0)), some (.ref (G.2.1 80 0)), some (.int (nI i)), some (.int 1), none, none] []
    refine l_aload_n F dL_law__2221 rfl ?_
    refine l_aload_n F dL_law__2222 rfl ?_
    refine l_iload F dL_law__2223 rfl ?_
    refine l_iconst F 1 dL_law__2225 (by decide) ?_
    refine l_iadd F dL_law__2226 ?_
    refine l_sld F (i + 1) (ix_at (c := 1) rfl (by omega)).1 (ix_at (c := 1) rfl (by omega)).2 (by omega) dL_law__2227 ?_
    refine l_callV F (k' := 9) (mc' := 0) [.int (xs (i + 1))] [] dL_law__2228 rfl rfl (by decide) rfl cl_L_251 hy_X10_chorus (by decide) (by omega) (by omega) (by decide) (Nat.le_of_ble_eq_true rfl) rfl (con_mono hc ?_ (fun _ _ h => h))
    rintro r w3 ⟨⟨v, rfl⟩, h0, hv⟩
    show ZL M G Qp (n + 1 + 0) (ns + 6 * 1 + 6 * 0) w3 2231 [some (.ref b), some (.ref (G.2.1 0 0)), some (.ref (G.2.1 40 0)), some (.ref (G.2.1 80 0)), some (.int (nI i)), some (.int 1), none, none] [.int v]
    refine l_istore F dL_law__2231 (by show 6 < 8; decide) ?_
    show ZL M G Qp (n + 1 + 0) (ns + 6 * 1 + 6 * 0) w3 2233 [some (.ref b), some (.ref (G.2.1 0 0)), some (.ref (G.2.1 40 0)), some (.ref (G.2.1 80 0)), some (.int (nI i)), some (.int 1), some (.int v), none] []
    refine l_aload_n F dL_law__2233 rfl ?_
    refine l_callV F (k' := 1) (mc' := 0) [] [] dL_law__2234 rfl rfl (by decide) rfl cl_L_132 hy_X10_thrown (by decide) (by omega) (by omega) (by decide) (Nat.le_of_ble_eq_true rfl) rfl (e_X10_thrown hst (fun _ _ _ _ _ => ?_))
    show ZL M G Qp (n + 1 + 0 + 0) (ns + 6 * 1 + 6 * 0 + 6 * 0) w3 2237 [some (.ref b), some (.ref (G.2.1 0 0)), some (.ref (G.2.1 40 0)), some (.ref (G.2.1 80 0)), some (.int (nI i)), some (.int 1), some (.int v), none] [.int (w3.1 40 0 0)]
    rw [h0]
    refine l_iload F dL_law__2237 rfl ?_
    refine l_icmp_eq F 2244 dL_law__2239 (by decide) ⟨fun _ => ?_, fun hc => absurd rfl hc⟩
    refine l_iload F dL_law__2244 rfl ?_
    refine l_if_ne F 2261 dL_law__2246 (by decide) ⟨fun _ => ?_, fun hc => absurd (show ¬ (1 : Int32) = 0 by decide) hc⟩
    refine l_goto F 2606 dL_law__2261 (by decide) ?_
    exact l_weak (l_widen (hK w3 hv) (by omega) (by omega)) ⟨rfl, rfl, rfl, rfl, rfl, trivial⟩
theorem q_spare (F : FL M G b L xs) (hi : i + 9 ≤ L) (hL : L ≤ 576) (hn : n + 16 ≤ 600128) (hns : ns + 96 ≤ 7301098)
    (h : C_X9_spare (mL M) G w [.ref (G.2.1 0 0), .int (xs (i + 1))] (fun r w1 => ∃ v, r = some (.int v) ∧ C_X10_spare (mL M) G (setL w1 80 0 0 v.toInt64) [.ref (G.2.1 40 0), .int (xs (i + 1))] (fun r2 w2 => r2 = some (.int v) ∧ w2.1 40 0 0 = 0 ∧ w2.2.1 80 0 0 = v.toInt64 ∧ INV w2) noX) (fun E w1 => E = nIae ∧ C_X10_spare (mL M) G w1 [.ref (G.2.1 40 0), .int (xs (i + 1))] (fun r2 w2 => (∃ v, r2 = some (.int v)) ∧ w2.1 40 0 0 = 1 ∧ INV w2) noX))
    (hK : ∀ w2, INV w2 → ZL M G Qp (n + 16) (ns + 96) w2 2606 (lB G b i) []) : ZL M G Qp n ns w 2264 (lB G b i) [] := by
  show ZL M G Qp n ns w 2264 [some (.ref b), some (.ref (G.2.1 0 0)), some (.ref (G.2.1 40 0)), some (.ref (G.2.1 80 0)), some (.int (nI i)), none, none, none] []
  have hst : (mL M).stackTraces = false := F.2.2.2.2.2.2.2.2.1
  refine l_aload_n F dL_law__2264 rfl ?_
  refine l_aload_n F dL_law__2265 rfl ?_
  refine l_iload F dL_law__2266 rfl ?_
  refine l_iconst F 1 dL_law__2268 (by decide) ?_
  refine l_iadd F dL_law__2269 ?_
  refine l_sld F (i + 1) (ix_at (c := 1) rfl (by omega)).1 (ix_at (c := 1) rfl (by omega)).2 (by omega) dL_law__2270 ?_
  refine l_aload_n F dL_law__2271 rfl ?_
  refine l_callH F (k' := 8) (mc' := 1) [.ref (G.2.1 0 0), .int (xs (i + 1)), .ref (G.2.1 80 0)] [] dL_law__2272 rfl kL_spare kY_spare (by decide) (by omega) (by omega) (by decide) (Nat.le_of_ble_eq_true rfl) rfl (conH_mono (k_spare hst F.2.2.2.2.2.2.2.2.2.2.2.2.2 h (fun r w2 h => ⟨h.choose, h.choose_spec.1⟩) (fun E w2 h => h.1)) ?_)
  rintro r w2 (⟨v, w1, ⟨v1, e1, hc⟩, rfl, rfl⟩ | ⟨hx, rfl⟩)
  · cases e1
    show ZL M G Qp (n + 1) (ns + 6 * 1) (setL w1 80 0 0 v.toInt64) 2275 [some (.ref b), some (.ref (G.2.1 0 0)), some (.ref (G.2.1 40 0)), some (.ref (G.2.1 80 0)), some (.int (nI i)), none, none, none] [.int 0]
    refine l_istore F dL_law__2275 (by show 5 < 8; decide) ?_
    show ZL M G Qp (n + 1) (ns + 6 * 1) (setL w1 80 0 0 v.toInt64) 2277 [some (.ref b), some (.ref (G.2.1 0 0)), some (.ref (G.2.1 40 0)), some (.ref (G.2.1 80 0)), some (.int (nI i)), some (.int 0), none, none] []
    refine l_aload_n F dL_law__2277 rfl ?_
    refine l_aload_n F dL_law__2278 rfl ?_
    refine l_iload F dL_law__2279 rfl ?_
    refine l_iconst F 1 dL_law__2281 (by decide) ?_
    refine l_iadd F dL_law__2282 ?_
    refine l_sld F (i + 1) (ix_at (c := 1) rfl (by omega)).1 (ix_at (c := 1) rfl (by omega)).2 (by omega) dL_law__2283 ?_
    refine l_callV F (k' := 2) (mc' := 0) [.int (xs (i + 1))] [] dL_law__2284 rfl rfl (by decide) rfl cl_L_254 hy_X10_spare (by decide) (by omega) (by omega) (by decide) (Nat.le_of_ble_eq_true rfl) rfl (con_mono hc ?_ (fun _ _ h => h))
    rintro r w3 ⟨rfl, h0, h1, hv⟩
    show ZL M G Qp (n + 1 + 0) (ns + 6 * 1 + 6 * 0) w3 2287 [some (.ref b), some (.ref (G.2.1 0 0)), some (.ref (G.2.1 40 0)), some (.ref (G.2.1 80 0)), some (.int (nI i)), some (.int 0), none, none] [.int v]
    refine l_istore F dL_law__2287 (by show 6 < 8; decide) ?_
    show ZL M G Qp (n + 1 + 0) (ns + 6 * 1 + 6 * 0) w3 2289 [some (.ref b), some (.ref (G.2.1 0 0)), some (.ref (G.2.1 40 0)), some (.ref (G.2.1 80 0)), some (.int (nI i)), some (.int 0), some (.int v), none] []
    refine l_aload_n F dL_law__2289 rfl ?_
    refine l_callV F (k' := 1) (mc' := 0) [] [] dL_law__2290 rfl rfl (by decide) rfl cl_L_132 hy_X10_thrown (by decide) (by omega) (by omega) (by decide) (Nat.le_of_ble_eq_true rfl) rfl (e_X10_thrown hst (fun _ _ _ _ _ => ?_))
    show ZL M G Qp (n + 1 + 0 + 0) (ns + 6 * 1 + 6 * 0 + 6 * 0) w3 2293 [some (.ref b), some (.ref (G.2.1 0 0)), some (.ref (G.2.1 40 0)), some (.ref (G.2.1 80 0)), some (.int (nI i)), some (.int 0), some (.int v), none] [.int (w3.1 40 0 0)]
    rw [h0]
    refine l_iload F dL_law__2293 rfl ?_
    refine l_icmp_eq F 2300 dL_law__2295 (by decide) ⟨fun _ => ?_, fun hc => absurd rfl hc⟩
    refine l_iload F dL_law__2300 rfl ?_
    refine l_if_ne F 2317 dL_law__2302 (by decide) ⟨fun hc => absurd rfl hc, fun _ => ?_⟩
    refine l_aload_n F dL_law__2305 rfl ?_
    refine l_iconst F 0 dL_law__2306 (by decide) ?_
    refine l_out F dL_law__2307 ?_
    refine l_iload F dL_law__2308 rfl ?_
    refine l_i2l F dL_law__2310 ?_
    refine l_lcmp F dL_law__2311 ?_
    refine l_if_eq F 2317 dL_law__2312 (by decide) ⟨fun _ => ?_, fun hc => absurd (by rw [h1]; exact lg_cmp_self _) hc⟩
    refine l_goto F 2606 dL_law__2317 (by decide) ?_
    exact l_weak (l_widen (hK w3 hv) (by omega) (by omega)) ⟨rfl, rfl, rfl, rfl, rfl, trivial⟩
  · have hc := hx.2
    show ZL M G Qp (n + 1) (ns + 6 * 1) w2 2275 [some (.ref b), some (.ref (G.2.1 0 0)), some (.ref (G.2.1 40 0)), some (.ref (G.2.1 80 0)), some (.int (nI i)), none, none, none] [.int 1]
    refine l_istore F dL_law__2275 (by show 5 < 8; decide) ?_
    show ZL M G Qp (n + 1) (ns + 6 * 1) w2 2277 [some (.ref b), some (.ref (G.2.1 0 0)), some (.ref (G.2.1 40 0)), some (.ref (G.2.1 80 0)), some (.int (nI i)), some (.int 1), none, none] []
    refine l_aload_n F dL_law__2277 rfl ?_
    refine l_aload_n F dL_law__2278 rfl ?_
    refine l_iload F dL_law__2279 rfl ?_
    refine l_iconst F 1 dL_law__2281 (by decide) ?_
    refine l_iadd F dL_law__2282 ?_
    refine l_sld F (i + 1) (ix_at (c := 1) rfl (by omega)).1 (ix_at (c := 1) rfl (by omega)).2 (by omega) dL_law__2283 ?_
    refine l_callV F (k' := 2) (mc' := 0) [.int (xs (i + 1))] [] dL_law__2284 rfl rfl (by decide) rfl cl_L_254 hy_X10_spare (by decide) (by omega) (by omega) (by decide) (Nat.le_of_ble_eq_true rfl) rfl (con_mono hc ?_ (fun _ _ h => h))
    rintro r w3 ⟨⟨v, rfl⟩, h0, hv⟩
    show ZL M G Qp (n + 1 + 0) (ns + 6 * 1 + 6 * 0) w3 2287 [some (.ref b), some (.ref (G.2.1 0 0)), some (.ref (G.2.1 40 0)), some (.ref (G.2.1 80 0)), some (.int (nI i)), some (.int 1), none, none] [.int v]
    refine l_istore F dL_law__2287 (by show 6 < 8; decide) ?_
    show ZL M G Qp (n + 1 + 0) (ns + 6 * 1 + 6 * 0) w3 2289 [some (.ref b), some (.ref (G.2.1 0 0)), some (.ref (G.2.1 40 0)), some (.ref (G.2.1 80 0)), some (.int (nI i)), some (.int 1), some (.int v), none] []
    refine l_aload_n F dL_law__2289 rfl ?_
    refine l_callV F (k' := 1) (mc' := 0) [] [] dL_law__2290 rfl rfl (by decide) rfl cl_L_132 hy_X10_thrown (by decide) (by omega) (by omega) (by decide) (Nat.le_of_ble_eq_true rfl) rfl (e_X10_thrown hst (fun _ _ _ _ _ => ?_))
    show ZL M G Qp (n + 1 + 0 + 0) (ns + 6 * 1 + 6 * 0 + 6 * 0) w3 2293 [some (.ref b), some (.ref (G.2.1 0 0)), some (.ref (G.2.1 40 0)), some (.ref (G.2.1 80 0)), some (.int (nI i)), some (.int 1), some (.int v), none] [.int (w3.1 40 0 0)]
    rw [h0]
    refine l_iload F dL_law__2293 rfl ?_
    refine l_icmp_eq F 2300 dL_law__2295 (by decide) ⟨fun _ => ?_, fun hc => absurd rfl hc⟩
    refine l_iload F dL_law__2300 rfl ?_
    refine l_if_ne F 2317 dL_law__2302 (by decide) ⟨fun _ => ?_, fun hc => absurd (show ¬ (1 : Int32) = 0 by decide) hc⟩
    refine l_goto F 2606 dL_law__2317 (by decide) ?_
    exact l_weak (l_widen (hK w3 hv) (by omega) (by omega)) ⟨rfl, rfl, rfl, rfl, rfl, trivial⟩
theorem q_sunday (F : FL M G b L xs) (hi : i + 9 ≤ L) (hL : L ≤ 576) (hn : n + 16 ≤ 600128) (hns : ns + 96 ≤ 7301098)
    (h : C_X9_sunday (mL M) G w [.ref (G.2.1 0 0), .int (xs (i + 1)), .int (xs (i + 2)), .int (xs (i + 3)), .int (xs (i + 4))] (fun r w1 => ∃ v, r = some (.int v) ∧ C_X10_sunday (mL M) G (setL w1 80 0 0 v.toInt64) [.ref (G.2.1 40 0), .int (xs (i + 1)), .int (xs (i + 2)), .int (xs (i + 3)), .int (xs (i + 4))] (fun r2 w2 => r2 = some (.int v) ∧ w2.1 40 0 0 = 0 ∧ w2.2.1 80 0 0 = v.toInt64 ∧ INV w2) noX) (fun E w1 => E = nIae ∧ C_X10_sunday (mL M) G w1 [.ref (G.2.1 40 0), .int (xs (i + 1)), .int (xs (i + 2)), .int (xs (i + 3)), .int (xs (i + 4))] (fun r2 w2 => (∃ v, r2 = some (.int v)) ∧ w2.1 40 0 0 = 1 ∧ INV w2) noX))
    (hK : ∀ w2, INV w2 → ZL M G Qp (n + 16) (ns + 96) w2 2606 (lB G b i) []) : ZL M G Qp n ns w 2320 (lB G b i) [] := by
  show ZL M G Qp n ns w 2320 [some (.ref b), some (.ref (G.2.1 0 0)), some (.ref (G.2.1 40 0)), some (.ref (G.2.1 80 0)), some (.int (nI i)), none, none, none] []
  have hst : (mL M).stackTraces = false := F.2.2.2.2.2.2.2.2.1
  refine l_aload_n F dL_law__2320 rfl ?_
  refine l_aload_n F dL_law__2321 rfl ?_
  refine l_iload F dL_law__2322 rfl ?_
  refine l_iconst F 1 dL_law__2324 (by decide) ?_
  refine l_iadd F dL_law__2325 ?_
  refine l_sld F (i + 1) (ix_at (c := 1) rfl (by omega)).1 (ix_at (c := 1) rfl (by omega)).2 (by omega) dL_law__2326 ?_
  refine l_aload_n F dL_law__2327 rfl ?_
  refine l_iload F dL_law__2328 rfl ?_
  refine l_iconst F 2 dL_law__2330 (by decide) ?_
  refine l_iadd F dL_law__2331 ?_
  refine l_sld F (i + 2) (ix_at (c := 2) rfl (by omega)).1 (ix_at (c := 2) rfl (by omega)).2 (by omega) dL_law__2332 ?_
  refine l_aload_n F dL_law__2333 rfl ?_
  refine l_iload F dL_law__2334 rfl ?_
  refine l_iconst F 3 dL_law__2336 (by decide) ?_
  refine l_iadd F dL_law__2337 ?_
  refine l_sld F (i + 3) (ix_at (c := 3) rfl (by omega)).1 (ix_at (c := 3) rfl (by omega)).2 (by omega) dL_law__2338 ?_
  refine l_aload_n F dL_law__2339 rfl ?_
  refine l_iload F dL_law__2340 rfl ?_
  refine l_iconst F 4 dL_law__2342 (by decide) ?_
  refine l_iadd F dL_law__2343 ?_
  refine l_sld F (i + 4) (ix_at (c := 4) rfl (by omega)).1 (ix_at (c := 4) rfl (by omega)).2 (by omega) dL_law__2344 ?_
  refine l_aload_n F dL_law__2345 rfl ?_
  refine l_callH F (k' := 8) (mc' := 1) [.ref (G.2.1 0 0), .int (xs (i + 1)), .int (xs (i + 2)), .int (xs (i + 3)), .int (xs (i + 4)), .ref (G.2.1 80 0)] [] dL_law__2346 rfl kL_sunday kY_sunday (by decide) (by omega) (by omega) (by decide) (Nat.le_of_ble_eq_true rfl) rfl (conH_mono (k_sunday hst F.2.2.2.2.2.2.2.2.2.2.2.2.2 h (fun r w2 h => ⟨h.choose, h.choose_spec.1⟩) (fun E w2 h => h.1)) ?_)
  rintro r w2 (⟨v, w1, ⟨v1, e1, hc⟩, rfl, rfl⟩ | ⟨hx, rfl⟩)
  · cases e1
    show ZL M G Qp (n + 1) (ns + 6 * 1) (setL w1 80 0 0 v.toInt64) 2349 [some (.ref b), some (.ref (G.2.1 0 0)), some (.ref (G.2.1 40 0)), some (.ref (G.2.1 80 0)), some (.int (nI i)), none, none, none] [.int 0]
    refine l_istore F dL_law__2349 (by show 5 < 8; decide) ?_
    show ZL M G Qp (n + 1) (ns + 6 * 1) (setL w1 80 0 0 v.toInt64) 2351 [some (.ref b), some (.ref (G.2.1 0 0)), some (.ref (G.2.1 40 0)), some (.ref (G.2.1 80 0)), some (.int (nI i)), some (.int 0), none, none] []
    refine l_aload_n F dL_law__2351 rfl ?_
    refine l_aload_n F dL_law__2352 rfl ?_
    refine l_iload F dL_law__2353 rfl ?_
    refine l_iconst F 1 dL_law__2355 (by decide) ?_
    refine l_iadd F dL_law__2356 ?_
    refine l_sld F (i + 1) (ix_at (c := 1) rfl (by omega)).1 (ix_at (c := 1) rfl (by omega)).2 (by omega) dL_law__2357 ?_
    refine l_aload_n F dL_law__2358 rfl ?_
    refine l_iload F dL_law__2359 rfl ?_
    refine l_iconst F 2 dL_law__2361 (by decide) ?_
    refine l_iadd F dL_law__2362 ?_
    refine l_sld F (i + 2) (ix_at (c := 2) rfl (by omega)).1 (ix_at (c := 2) rfl (by omega)).2 (by omega) dL_law__2363 ?_
    refine l_aload_n F dL_law__2364 rfl ?_
    refine l_iload F dL_law__2365 rfl ?_
    refine l_iconst F 3 dL_law__2367 (by decide) ?_
    refine l_iadd F dL_law__2368 ?_
    refine l_sld F (i + 3) (ix_at (c := 3) rfl (by omega)).1 (ix_at (c := 3) rfl (by omega)).2 (by omega) dL_law__2369 ?_
    refine l_aload_n F dL_law__2370 rfl ?_
    refine l_iload F dL_law__2371 rfl ?_
    refine l_iconst F 4 dL_law__2373 (by decide) ?_
    refine l_iadd F dL_law__2374 ?_
    refine l_sld F (i + 4) (ix_at (c := 4) rfl (by omega)).1 (ix_at (c := 4) rfl (by omega)).2 (by omega) dL_law__2375 ?_
    refine l_callV F (k' := 10) (mc' := 0) [.int (xs (i + 1)), .int (xs (i + 2)), .int (xs (i + 3)), .int (xs (i + 4))] [] dL_law__2376 rfl rfl (by decide) rfl cl_L_257 hy_X10_sunday (by decide) (by omega) (by omega) (by decide) (Nat.le_of_ble_eq_true rfl) rfl (con_mono hc ?_ (fun _ _ h => h))
    rintro r w3 ⟨rfl, h0, h1, hv⟩
    show ZL M G Qp (n + 1 + 0) (ns + 6 * 1 + 6 * 0) w3 2379 [some (.ref b), some (.ref (G.2.1 0 0)), some (.ref (G.2.1 40 0)), some (.ref (G.2.1 80 0)), some (.int (nI i)), some (.int 0), none, none] [.int v]
    refine l_istore F dL_law__2379 (by show 6 < 8; decide) ?_
    show ZL M G Qp (n + 1 + 0) (ns + 6 * 1 + 6 * 0) w3 2381 [some (.ref b), some (.ref (G.2.1 0 0)), some (.ref (G.2.1 40 0)), some (.ref (G.2.1 80 0)), some (.int (nI i)), some (.int 0), some (.int v), none] []
    refine l_aload_n F dL_law__2381 rfl ?_
    refine l_callV F (k' := 1) (mc' := 0) [] [] dL_law__2382 rfl rfl (by decide) rfl cl_L_132 hy_X10_thrown (by decide) (by omega) (by omega) (by decide) (Nat.le_of_ble_eq_true rfl) rfl (e_X10_thrown hst (fun _ _ _ _ _ => ?_))
    show ZL M G Qp (n + 1 + 0 + 0) (ns + 6 * 1 + 6 * 0 + 6 * 0) w3 2385 [some (.ref b), some (.ref (G.2.1 0 0)), some (.ref (G.2.1 40 0)), some (.ref (G.2.1 80 0)), some (.int (nI i)), some (.int 0), some (.int v), none] [.int (w3.1 40 0 0)]
    rw [h0]
    refine l_iload F dL_law__2385 rfl ?_
    refine l_icmp_eq F 2392 dL_law__2387 (by decide) ⟨fun _ => ?_, fun hc => absurd rfl hc⟩
    refine l_iload F dL_law__2392 rfl ?_
    refine l_if_ne F 2409 dL_law__2394 (by decide) ⟨fun hc => absurd rfl hc, fun _ => ?_⟩
    refine l_aload_n F dL_law__2397 rfl ?_
    refine l_iconst F 0 dL_law__2398 (by decide) ?_
    refine l_out F dL_law__2399 ?_
    refine l_iload F dL_law__2400 rfl ?_
    refine l_i2l F dL_law__2402 ?_
    refine l_lcmp F dL_law__2403 ?_
    refine l_if_eq F 2409 dL_law__2404 (by decide) ⟨fun _ => ?_, fun hc => absurd (by rw [h1]; exact lg_cmp_self _) hc⟩
    refine l_goto F 2606 dL_law__2409 (by decide) ?_
    exact l_weak (l_widen (hK w3 hv) (by omega) (by omega)) ⟨rfl, rfl, rfl, rfl, rfl, trivial⟩
  · have hc := hx.2
    show ZL M G Qp (n + 1) (ns + 6 * 1) w2 2349 [some (.ref b), some (.ref (G.2.1 0 0)), some (.ref (G.2.1 40 0)), some (.ref (G.2.1 80 0)), some (.int (nI i)), none, none, none] [.int 1]
    refine l_istore F dL_law__2349 (by show 5 < 8; decide) ?_
    show ZL M G Qp (n + 1) (ns + 6 * 1) w2 2351 [some (.ref b), some (.ref (G.2.1 0 0)), some (.ref (G.2.1 40 0)), some (.ref (G.2.1 80 0)), some (.int (nI i)), some (.int 1), none, none] []
    refine l_aload_n F dL_law__2351 rfl ?_
    refine l_aload_n F dL_law__2352 rfl ?_
    refine l_iload F dL_law__2353 rfl ?_
    refine l_iconst F 1 dL_law__2355 (by decide) ?_
    refine l_iadd F dL_law__2356 ?_
    refine l_sld F (i + 1) (ix_at (c := 1) rfl (by omega)).1 (ix_at (c := 1) rfl (by omega)).2 (by omega) dL_law__2357 ?_
    refine l_aload_n F dL_law__2358 rfl ?_
    refine l_iload F dL_law__2359 rfl ?_
    refine l_iconst F 2 dL_law__2361 (by decide) ?_
    refine l_iadd F dL_law__2362 ?_
    refine l_sld F (i + 2) (ix_at (c := 2) rfl (by omega)).1 (ix_at (c := 2) rfl (by omega)).2 (by omega) dL_law__2363 ?_
    refine l_aload_n F dL_law__2364 rfl ?_
    refine l_iload F dL_law__2365 rfl ?_
    refine l_iconst F 3 dL_law__2367 (by decide) ?_
    refine l_iadd F dL_law__2368 ?_
    refine l_sld F (i + 3) (ix_at (c := 3) rfl (by omega)).1 (ix_at (c := 3) rfl (by omega)).2 (by omega) dL_law__2369 ?_
    refine l_aload_n F dL_law__2370 rfl ?_
    refine l_iload F dL_law__2371 rfl ?_
    refine l_iconst F 4 dL_law__2373 (by decide) ?_
    refine l_iadd F dL_law__2374 ?_
    refine l_sld F (i + 4) (ix_at (c := 4) rfl (by omega)).1 (ix_at (c := 4) rfl (by omega)).2 (by omega) dL_law__2375 ?_
    refine l_callV F (k' := 10) (mc' := 0) [.int (xs (i + 1)), .int (xs (i + 2)), .int (xs (i + 3)), .int (xs (i + 4))] [] dL_law__2376 rfl rfl (by decide) rfl cl_L_257 hy_X10_sunday (by decide) (by omega) (by omega) (by decide) (Nat.le_of_ble_eq_true rfl) rfl (con_mono hc ?_ (fun _ _ h => h))
    rintro r w3 ⟨⟨v, rfl⟩, h0, hv⟩
    show ZL M G Qp (n + 1 + 0) (ns + 6 * 1 + 6 * 0) w3 2379 [some (.ref b), some (.ref (G.2.1 0 0)), some (.ref (G.2.1 40 0)), some (.ref (G.2.1 80 0)), some (.int (nI i)), some (.int 1), none, none] [.int v]
    refine l_istore F dL_law__2379 (by show 6 < 8; decide) ?_
    show ZL M G Qp (n + 1 + 0) (ns + 6 * 1 + 6 * 0) w3 2381 [some (.ref b), some (.ref (G.2.1 0 0)), some (.ref (G.2.1 40 0)), some (.ref (G.2.1 80 0)), some (.int (nI i)), some (.int 1), some (.int v), none] []
    refine l_aload_n F dL_law__2381 rfl ?_
    refine l_callV F (k' := 1) (mc' := 0) [] [] dL_law__2382 rfl rfl (by decide) rfl cl_L_132 hy_X10_thrown (by decide) (by omega) (by omega) (by decide) (Nat.le_of_ble_eq_true rfl) rfl (e_X10_thrown hst (fun _ _ _ _ _ => ?_))
    show ZL M G Qp (n + 1 + 0 + 0) (ns + 6 * 1 + 6 * 0 + 6 * 0) w3 2385 [some (.ref b), some (.ref (G.2.1 0 0)), some (.ref (G.2.1 40 0)), some (.ref (G.2.1 80 0)), some (.int (nI i)), some (.int 1), some (.int v), none] [.int (w3.1 40 0 0)]
    rw [h0]
    refine l_iload F dL_law__2385 rfl ?_
    refine l_icmp_eq F 2392 dL_law__2387 (by decide) ⟨fun _ => ?_, fun hc => absurd rfl hc⟩
    refine l_iload F dL_law__2392 rfl ?_
    refine l_if_ne F 2409 dL_law__2394 (by decide) ⟨fun _ => ?_, fun hc => absurd (show ¬ (1 : Int32) = 0 by decide) hc⟩
    refine l_goto F 2606 dL_law__2409 (by decide) ?_
    exact l_weak (l_widen (hK w3 hv) (by omega) (by omega)) ⟨rfl, rfl, rfl, rfl, rfl, trivial⟩
theorem q_span (F : FL M G b L xs) (hi : i + 9 ≤ L) (hL : L ≤ 576) (hn : n + 16 ≤ 600128) (hns : ns + 96 ≤ 7301098)
    (h : C_X9_span (mL M) G w [.ref (G.2.1 0 0), .int (xs (i + 1)), .int (xs (i + 2)), .int (xs (i + 3)), .int (xs (i + 4)), .int (xs (i + 5)), .int (xs (i + 6))] (fun r w1 => ∃ v, r = some (.int v) ∧ C_X10_span (mL M) G (setL w1 80 0 0 v.toInt64) [.ref (G.2.1 40 0), .int (xs (i + 1)), .int (xs (i + 2)), .int (xs (i + 3)), .int (xs (i + 4)), .int (xs (i + 5)), .int (xs (i + 6))] (fun r2 w2 => r2 = some (.int v) ∧ w2.1 40 0 0 = 0 ∧ w2.2.1 80 0 0 = v.toInt64 ∧ INV w2) noX) (fun E w1 => E = nIae ∧ C_X10_span (mL M) G w1 [.ref (G.2.1 40 0), .int (xs (i + 1)), .int (xs (i + 2)), .int (xs (i + 3)), .int (xs (i + 4)), .int (xs (i + 5)), .int (xs (i + 6))] (fun r2 w2 => (∃ v, r2 = some (.int v)) ∧ w2.1 40 0 0 = 1 ∧ INV w2) noX))
    (hK : ∀ w2, INV w2 → ZL M G Qp (n + 16) (ns + 96) w2 2606 (lB G b i) []) : ZL M G Qp n ns w 2412 (lB G b i) [] := by
  show ZL M G Qp n ns w 2412 [some (.ref b), some (.ref (G.2.1 0 0)), some (.ref (G.2.1 40 0)), some (.ref (G.2.1 80 0)), some (.int (nI i)), none, none, none] []
  have hst : (mL M).stackTraces = false := F.2.2.2.2.2.2.2.2.1
  refine l_aload_n F dL_law__2412 rfl ?_
  refine l_aload_n F dL_law__2413 rfl ?_
  refine l_iload F dL_law__2414 rfl ?_
  refine l_iconst F 1 dL_law__2416 (by decide) ?_
  refine l_iadd F dL_law__2417 ?_
  refine l_sld F (i + 1) (ix_at (c := 1) rfl (by omega)).1 (ix_at (c := 1) rfl (by omega)).2 (by omega) dL_law__2418 ?_
  refine l_aload_n F dL_law__2419 rfl ?_
  refine l_iload F dL_law__2420 rfl ?_
  refine l_iconst F 2 dL_law__2422 (by decide) ?_
  refine l_iadd F dL_law__2423 ?_
  refine l_sld F (i + 2) (ix_at (c := 2) rfl (by omega)).1 (ix_at (c := 2) rfl (by omega)).2 (by omega) dL_law__2424 ?_
  refine l_aload_n F dL_law__2425 rfl ?_
  refine l_iload F dL_law__2426 rfl ?_
  refine l_iconst F 3 dL_law__2428 (by decide) ?_
  refine l_iadd F dL_law__2429 ?_
  refine l_sld F (i + 3) (ix_at (c := 3) rfl (by omega)).1 (ix_at (c := 3) rfl (by omega)).2 (by omega) dL_law__2430 ?_
  refine l_aload_n F dL_law__2431 rfl ?_
  refine l_iload F dL_law__2432 rfl ?_
  refine l_iconst F 4 dL_law__2434 (by decide) ?_
  refine l_iadd F dL_law__2435 ?_
  refine l_sld F (i + 4) (ix_at (c := 4) rfl (by omega)).1 (ix_at (c := 4) rfl (by omega)).2 (by omega) dL_law__2436 ?_
  refine l_aload_n F dL_law__2437 rfl ?_
  refine l_iload F dL_law__2438 rfl ?_
  refine l_iconst F 5 dL_law__2440 (by decide) ?_
  refine l_iadd F dL_law__2441 ?_
  refine l_sld F (i + 5) (ix_at (c := 5) rfl (by omega)).1 (ix_at (c := 5) rfl (by omega)).2 (by omega) dL_law__2442 ?_
  refine l_aload_n F dL_law__2443 rfl ?_
  refine l_iload F dL_law__2444 rfl ?_
  refine l_bipush F 6 dL_law__2446 (by decide) ?_
  refine l_iadd F dL_law__2448 ?_
  refine l_sld F (i + 6) (ix_at (c := 6) rfl (by omega)).1 (ix_at (c := 6) rfl (by omega)).2 (by omega) dL_law__2449 ?_
  refine l_aload_n F dL_law__2450 rfl ?_
  refine l_callH F (k' := 8) (mc' := 2) [.ref (G.2.1 0 0), .int (xs (i + 1)), .int (xs (i + 2)), .int (xs (i + 3)), .int (xs (i + 4)), .int (xs (i + 5)), .int (xs (i + 6)), .ref (G.2.1 80 0)] [] dL_law__2451 rfl kL_span kY_span (by decide) (by omega) (by omega) (by decide) (Nat.le_of_ble_eq_true rfl) rfl (conH_mono (k_span hst F.2.2.2.2.2.2.2.2.2.2.2.2.2 h (fun r w2 h => ⟨h.choose, h.choose_spec.1⟩) (fun E w2 h => h.1)) ?_)
  rintro r w2 (⟨v, w1, ⟨v1, e1, hc⟩, rfl, rfl⟩ | ⟨hx, rfl⟩)
  · cases e1
    show ZL M G Qp (n + 2) (ns + 6 * 2) (setL w1 80 0 0 v.toInt64) 2454 [some (.ref b), some (.ref (G.2.1 0 0)), some (.ref (G.2.1 40 0)), some (.ref (G.2.1 80 0)), some (.int (nI i)), none, none, none] [.int 0]
    refine l_istore F dL_law__2454 (by show 5 < 8; decide) ?_
    show ZL M G Qp (n + 2) (ns + 6 * 2) (setL w1 80 0 0 v.toInt64) 2456 [some (.ref b), some (.ref (G.2.1 0 0)), some (.ref (G.2.1 40 0)), some (.ref (G.2.1 80 0)), some (.int (nI i)), some (.int 0), none, none] []
    refine l_aload_n F dL_law__2456 rfl ?_
    refine l_aload_n F dL_law__2457 rfl ?_
    refine l_iload F dL_law__2458 rfl ?_
    refine l_iconst F 1 dL_law__2460 (by decide) ?_
    refine l_iadd F dL_law__2461 ?_
    refine l_sld F (i + 1) (ix_at (c := 1) rfl (by omega)).1 (ix_at (c := 1) rfl (by omega)).2 (by omega) dL_law__2462 ?_
    refine l_aload_n F dL_law__2463 rfl ?_
    refine l_iload F dL_law__2464 rfl ?_
    refine l_iconst F 2 dL_law__2466 (by decide) ?_
    refine l_iadd F dL_law__2467 ?_
    refine l_sld F (i + 2) (ix_at (c := 2) rfl (by omega)).1 (ix_at (c := 2) rfl (by omega)).2 (by omega) dL_law__2468 ?_
    refine l_aload_n F dL_law__2469 rfl ?_
    refine l_iload F dL_law__2470 rfl ?_
    refine l_iconst F 3 dL_law__2472 (by decide) ?_
    refine l_iadd F dL_law__2473 ?_
    refine l_sld F (i + 3) (ix_at (c := 3) rfl (by omega)).1 (ix_at (c := 3) rfl (by omega)).2 (by omega) dL_law__2474 ?_
    refine l_aload_n F dL_law__2475 rfl ?_
    refine l_iload F dL_law__2476 rfl ?_
    refine l_iconst F 4 dL_law__2478 (by decide) ?_
    refine l_iadd F dL_law__2479 ?_
    refine l_sld F (i + 4) (ix_at (c := 4) rfl (by omega)).1 (ix_at (c := 4) rfl (by omega)).2 (by omega) dL_law__2480 ?_
    refine l_aload_n F dL_law__2481 rfl ?_
    refine l_iload F dL_law__2482 rfl ?_
    refine l_iconst F 5 dL_law__2484 (by decide) ?_
    refine l_iadd F dL_law__2485 ?_
    refine l_sld F (i + 5) (ix_at (c := 5) rfl (by omega)).1 (ix_at (c := 5) rfl (by omega)).2 (by omega) dL_law__2486 ?_
    refine l_aload_n F dL_law__2487 rfl ?_
    refine l_iload F dL_law__2488 rfl ?_
    refine l_bipush F 6 dL_law__2490 (by decide) ?_
    refine l_iadd F dL_law__2492 ?_
    refine l_sld F (i + 6) (ix_at (c := 6) rfl (by omega)).1 (ix_at (c := 6) rfl (by omega)).2 (by omega) dL_law__2493 ?_
    refine l_callV F (k' := 10) (mc' := 0) [.int (xs (i + 1)), .int (xs (i + 2)), .int (xs (i + 3)), .int (xs (i + 4)), .int (xs (i + 5)), .int (xs (i + 6))] [] dL_law__2494 rfl rfl (by decide) rfl cl_L_261 hy_X10_span (by decide) (by omega) (by omega) (by decide) (Nat.le_of_ble_eq_true rfl) rfl (con_mono hc ?_ (fun _ _ h => h))
    rintro r w3 ⟨rfl, h0, h1, hv⟩
    show ZL M G Qp (n + 2 + 0) (ns + 6 * 2 + 6 * 0) w3 2497 [some (.ref b), some (.ref (G.2.1 0 0)), some (.ref (G.2.1 40 0)), some (.ref (G.2.1 80 0)), some (.int (nI i)), some (.int 0), none, none] [.int v]
    refine l_istore F dL_law__2497 (by show 6 < 8; decide) ?_
    show ZL M G Qp (n + 2 + 0) (ns + 6 * 2 + 6 * 0) w3 2499 [some (.ref b), some (.ref (G.2.1 0 0)), some (.ref (G.2.1 40 0)), some (.ref (G.2.1 80 0)), some (.int (nI i)), some (.int 0), some (.int v), none] []
    refine l_aload_n F dL_law__2499 rfl ?_
    refine l_callV F (k' := 1) (mc' := 0) [] [] dL_law__2500 rfl rfl (by decide) rfl cl_L_132 hy_X10_thrown (by decide) (by omega) (by omega) (by decide) (Nat.le_of_ble_eq_true rfl) rfl (e_X10_thrown hst (fun _ _ _ _ _ => ?_))
    show ZL M G Qp (n + 2 + 0 + 0) (ns + 6 * 2 + 6 * 0 + 6 * 0) w3 2503 [some (.ref b), some (.ref (G.2.1 0 0)), some (.ref (G.2.1 40 0)), some (.ref (G.2.1 80 0)), some (.int (nI i)), some (.int 0), some (.int v), none] [.int (w3.1 40 0 0)]
    rw [h0]
    refine l_iload F dL_law__2503 rfl ?_
    refine l_icmp_eq F 2510 dL_law__2505 (by decide) ⟨fun _ => ?_, fun hc => absurd rfl hc⟩
    refine l_iload F dL_law__2510 rfl ?_
    refine l_if_ne F 2527 dL_law__2512 (by decide) ⟨fun hc => absurd rfl hc, fun _ => ?_⟩
    refine l_aload_n F dL_law__2515 rfl ?_
    refine l_iconst F 0 dL_law__2516 (by decide) ?_
    refine l_out F dL_law__2517 ?_
    refine l_iload F dL_law__2518 rfl ?_
    refine l_i2l F dL_law__2520 ?_
    refine l_lcmp F dL_law__2521 ?_
    refine l_if_eq F 2527 dL_law__2522 (by decide) ⟨fun _ => ?_, fun hc => absurd (by rw [h1]; exact lg_cmp_self _) hc⟩
    refine l_goto F 2606 dL_law__2527 (by decide) ?_
    exact l_weak (l_widen (hK w3 hv) (by omega) (by omega)) ⟨rfl, rfl, rfl, rfl, rfl, trivial⟩
  · have hc := hx.2
    show ZL M G Qp (n + 2) (ns + 6 * 2) w2 2454 [some (.ref b), some (.ref (G.2.1 0 0)), some (.ref (G.2.1 40 0)), some (.ref (G.2.1 80 0)), some (.int (nI i)), none, none, none] [.int 1]
    refine l_istore F dL_law__2454 (by show 5 < 8; decide) ?_
    show ZL M G Qp (n + 2) (ns + 6 * 2) w2 2456 [some (.ref b), some (.ref (G.2.1 0 0)), some (.ref (G.2.1 40 0)), some (.ref (G.2.1 80 0)), some (.int (nI i)), some (.int 1), none, none] []
    refine l_aload_n F dL_law__2456 rfl ?_
    refine l_aload_n F dL_law__2457 rfl ?_
    refine l_iload F dL_law__2458 rfl ?_
    refine l_iconst F 1 dL_law__2460 (by decide) ?_
    refine l_iadd F dL_law__2461 ?_
    refine l_sld F (i + 1) (ix_at (c := 1) rfl (by omega)).1 (ix_at (c := 1) rfl (by omega)).2 (by omega) dL_law__2462 ?_
    refine l_aload_n F dL_law__2463 rfl ?_
    refine l_iload F dL_law__2464 rfl ?_
    refine l_iconst F 2 dL_law__2466 (by decide) ?_
    refine l_iadd F dL_law__2467 ?_
    refine l_sld F (i + 2) (ix_at (c := 2) rfl (by omega)).1 (ix_at (c := 2) rfl (by omega)).2 (by omega) dL_law__2468 ?_
    refine l_aload_n F dL_law__2469 rfl ?_
    refine l_iload F dL_law__2470 rfl ?_
    refine l_iconst F 3 dL_law__2472 (by decide) ?_
    refine l_iadd F dL_law__2473 ?_
    refine l_sld F (i + 3) (ix_at (c := 3) rfl (by omega)).1 (ix_at (c := 3) rfl (by omega)).2 (by omega) dL_law__2474 ?_
    refine l_aload_n F dL_law__2475 rfl ?_
    refine l_iload F dL_law__2476 rfl ?_
    refine l_iconst F 4 dL_law__2478 (by decide) ?_
    refine l_iadd F dL_law__2479 ?_
    refine l_sld F (i + 4) (ix_at (c := 4) rfl (by omega)).1 (ix_at (c := 4) rfl (by omega)).2 (by omega) dL_law__2480 ?_
    refine l_aload_n F dL_law__2481 rfl ?_
    refine l_iload F dL_law__2482 rfl ?_
    refine l_iconst F 5 dL_law__2484 (by decide) ?_
    refine l_iadd F dL_law__2485 ?_
    refine l_sld F (i + 5) (ix_at (c := 5) rfl (by omega)).1 (ix_at (c := 5) rfl (by omega)).2 (by omega) dL_law__2486 ?_
    refine l_aload_n F dL_law__2487 rfl ?_
    refine l_iload F dL_law__2488 rfl ?_
    refine l_bipush F 6 dL_law__2490 (by decide) ?_
    refine l_iadd F dL_law__2492 ?_
    refine l_sld F (i + 6) (ix_at (c := 6) rfl (by omega)).1 (ix_at (c := 6) rfl (by omega)).2 (by omega) dL_law__2493 ?_
    refine l_callV F (k' := 10) (mc' := 0) [.int (xs (i + 1)), .int (xs (i + 2)), .int (xs (i + 3)), .int (xs (i + 4)), .int (xs (i + 5)), .int (xs (i + 6))] [] dL_law__2494 rfl rfl (by decide) rfl cl_L_261 hy_X10_span (by decide) (by omega) (by omega) (by decide) (Nat.le_of_ble_eq_true rfl) rfl (con_mono hc ?_ (fun _ _ h => h))
    rintro r w3 ⟨⟨v, rfl⟩, h0, hv⟩
    show ZL M G Qp (n + 2 + 0) (ns + 6 * 2 + 6 * 0) w3 2497 [some (.ref b), some (.ref (G.2.1 0 0)), some (.ref (G.2.1 40 0)), some (.ref (G.2.1 80 0)), some (.int (nI i)), some (.int 1), none, none] [.int v]
    refine l_istore F dL_law__2497 (by show 6 < 8; decide) ?_
    show ZL M G Qp (n + 2 + 0) (ns + 6 * 2 + 6 * 0) w3 2499 [some (.ref b), some (.ref (G.2.1 0 0)), some (.ref (G.2.1 40 0)), some (.ref (G.2.1 80 0)), some (.int (nI i)), some (.int 1), some (.int v), none] []
    refine l_aload_n F dL_law__2499 rfl ?_
    refine l_callV F (k' := 1) (mc' := 0) [] [] dL_law__2500 rfl rfl (by decide) rfl cl_L_132 hy_X10_thrown (by decide) (by omega) (by omega) (by decide) (Nat.le_of_ble_eq_true rfl) rfl (e_X10_thrown hst (fun _ _ _ _ _ => ?_))
    show ZL M G Qp (n + 2 + 0 + 0) (ns + 6 * 2 + 6 * 0 + 6 * 0) w3 2503 [some (.ref b), some (.ref (G.2.1 0 0)), some (.ref (G.2.1 40 0)), some (.ref (G.2.1 80 0)), some (.int (nI i)), some (.int 1), some (.int v), none] [.int (w3.1 40 0 0)]
    rw [h0]
    refine l_iload F dL_law__2503 rfl ?_
    refine l_icmp_eq F 2510 dL_law__2505 (by decide) ⟨fun _ => ?_, fun hc => absurd rfl hc⟩
    refine l_iload F dL_law__2510 rfl ?_
    refine l_if_ne F 2527 dL_law__2512 (by decide) ⟨fun _ => ?_, fun hc => absurd (show ¬ (1 : Int32) = 0 by decide) hc⟩
    refine l_goto F 2606 dL_law__2527 (by decide) ?_
    exact l_weak (l_widen (hK w3 hv) (by omega) (by omega)) ⟨rfl, rfl, rfl, rfl, rfl, trivial⟩
theorem q_image (F : FL M G b L xs) (hi : i + 9 ≤ L) (hL : L ≤ 576) (hn : n + 16 ≤ 600128) (hns : ns + 96 ≤ 7301098)
    (h : C_X9_image (mL M) G w [.ref (G.2.1 0 0)] (fun r w1 => ∃ v, r = some (.int v) ∧ C_X10_image (mL M) G w1 [.ref (G.2.1 40 0)] (fun r2 w2 => r2 = some (.int v) ∧ INV w2) noX) noX)
    (hK : ∀ w2, INV w2 → ZL M G Qp (n + 16) (ns + 96) w2 2606 (lB G b i) []) : ZL M G Qp n ns w 2530 (lB G b i) [] := by
  show ZL M G Qp n ns w 2530 [some (.ref b), some (.ref (G.2.1 0 0)), some (.ref (G.2.1 40 0)), some (.ref (G.2.1 80 0)), some (.int (nI i)), none, none, none] []
  refine l_aload_n F dL_law__2530 rfl ?_
  refine l_callV F (k' := 5) (mc' := 0) [] [] dL_law__2531 rfl rfl (by decide) rfl cl_L_262 hy_X9_image (by decide) (by omega) (by omega) (by decide) (Nat.le_of_ble_eq_true rfl) rfl (con_mono h ?_ (fun _ _ h => h))
  rintro r w1 ⟨v, rfl, hc⟩
  show ZL M G Qp (n + 0) (ns + 6 * 0) w1 2534 [some (.ref b), some (.ref (G.2.1 0 0)), some (.ref (G.2.1 40 0)), some (.ref (G.2.1 80 0)), some (.int (nI i)), none, none, none] [.int v]
  refine l_aload_n F dL_law__2534 rfl ?_
  refine l_callV F (k' := 3) (mc' := 0) [] [.int v] dL_law__2535 rfl rfl (by decide) rfl cl_L_265 hy_X10_image (by decide) (by omega) (by omega) (by decide) (Nat.le_of_ble_eq_true rfl) rfl (con_mono hc ?_ (fun _ _ h => h))
  rintro r w3 ⟨rfl, hv⟩
  show ZL M G Qp (n + 0 + 0) (ns + 6 * 0 + 6 * 0) w3 2538 [some (.ref b), some (.ref (G.2.1 0 0)), some (.ref (G.2.1 40 0)), some (.ref (G.2.1 80 0)), some (.int (nI i)), none, none, none] [.int v, .int v]
  refine l_icmp_eq F 2606 dL_law__2538 (by decide) ⟨fun _ => ?_, fun hc => absurd rfl hc⟩
  exact l_weak (l_widen (hK w3 hv) (by omega) (by omega)) ⟨rfl, rfl, rfl, rfl, rfl, trivial⟩
theorem q_restore (F : FL M G b L xs) (hi : i + 9 ≤ L) (hL : L ≤ 576) (hn : n + 16 ≤ 600128) (hns : ns + 96 ≤ 7301098)
    (h : C_X9_restore (mL M) G w [.ref (G.2.1 0 0)] (fun r w1 => ∃ v, r = some (.int v) ∧ C_X10_restore (mL M) G w1 [.ref (G.2.1 40 0)] (fun r2 w2 => r2 = some (.int v) ∧ INV w2) noX) noX)
    (hK : ∀ w2, INV w2 → ZL M G Qp (n + 16) (ns + 96) w2 2606 (lB G b i) []) : ZL M G Qp n ns w 2543 (lB G b i) [] := by
  show ZL M G Qp n ns w 2543 [some (.ref b), some (.ref (G.2.1 0 0)), some (.ref (G.2.1 40 0)), some (.ref (G.2.1 80 0)), some (.int (nI i)), none, none, none] []
  refine l_aload_n F dL_law__2543 rfl ?_
  refine l_callV F (k' := 5) (mc' := 0) [] [] dL_law__2544 rfl rfl (by decide) rfl cl_L_266 hy_X9_restore (by decide) (by omega) (by omega) (by decide) (Nat.le_of_ble_eq_true rfl) rfl (con_mono h ?_ (fun _ _ h => h))
  rintro r w1 ⟨v, rfl, hc⟩
  show ZL M G Qp (n + 0) (ns + 6 * 0) w1 2547 [some (.ref b), some (.ref (G.2.1 0 0)), some (.ref (G.2.1 40 0)), some (.ref (G.2.1 80 0)), some (.int (nI i)), none, none, none] [.int v]
  refine l_aload_n F dL_law__2547 rfl ?_
  refine l_callV F (k' := 3) (mc' := 0) [] [.int v] dL_law__2548 rfl rfl (by decide) rfl cl_L_269 hy_X10_restore (by decide) (by omega) (by omega) (by decide) (Nat.le_of_ble_eq_true rfl) rfl (con_mono hc ?_ (fun _ _ h => h))
  rintro r w3 ⟨rfl, hv⟩
  show ZL M G Qp (n + 0 + 0) (ns + 6 * 0 + 6 * 0) w3 2551 [some (.ref b), some (.ref (G.2.1 0 0)), some (.ref (G.2.1 40 0)), some (.ref (G.2.1 80 0)), some (.int (nI i)), none, none, none] [.int v, .int v]
  refine l_icmp_eq F 2606 dL_law__2551 (by decide) ⟨fun _ => ?_, fun hc => absurd rfl hc⟩
  exact l_weak (l_widen (hK w3 hv) (by omega) (by omega)) ⟨rfl, rfl, rfl, rfl, rfl, trivial⟩
theorem q_status (F : FL M G b L xs) (hi : i + 9 ≤ L) (hL : L ≤ 576) (hn : n + 16 ≤ 600128) (hns : ns + 96 ≤ 7301098)
    (h : C_X9_status (mL M) G w [.ref (G.2.1 0 0), .int (xs (i + 1))] (fun r w1 => ∃ v, r = some (.int v) ∧ C_X10_status (mL M) G w1 [.ref (G.2.1 40 0), .int (xs (i + 1))] (fun r2 w2 => r2 = some (.int v) ∧ INV w2) noX) noX)
    (hK : ∀ w2, INV w2 → ZL M G Qp (n + 16) (ns + 96) w2 2606 (lB G b i) []) : ZL M G Qp n ns w 2556 (lB G b i) [] := by
  show ZL M G Qp n ns w 2556 [some (.ref b), some (.ref (G.2.1 0 0)), some (.ref (G.2.1 40 0)), some (.ref (G.2.1 80 0)), some (.int (nI i)), none, none, none] []
  refine l_aload_n F dL_law__2556 rfl ?_
  refine l_aload_n F dL_law__2557 rfl ?_
  refine l_iload F dL_law__2558 rfl ?_
  refine l_iconst F 1 dL_law__2560 (by decide) ?_
  refine l_iadd F dL_law__2561 ?_
  refine l_sld F (i + 1) (ix_at (c := 1) rfl (by omega)).1 (ix_at (c := 1) rfl (by omega)).2 (by omega) dL_law__2562 ?_
  refine l_callV F (k' := 1) (mc' := 0) [.int (xs (i + 1))] [] dL_law__2563 rfl rfl (by decide) rfl cl_L_270 hy_X9_status (by decide) (by omega) (by omega) (by decide) (Nat.le_of_ble_eq_true rfl) rfl (con_mono h ?_ (fun _ _ h => h))
  rintro r w1 ⟨v, rfl, hc⟩
  show ZL M G Qp (n + 0) (ns + 6 * 0) w1 2566 [some (.ref b), some (.ref (G.2.1 0 0)), some (.ref (G.2.1 40 0)), some (.ref (G.2.1 80 0)), some (.int (nI i)), none, none, none] [.int v]
  refine l_aload_n F dL_law__2566 rfl ?_
  refine l_aload_n F dL_law__2567 rfl ?_
  refine l_iload F dL_law__2568 rfl ?_
  refine l_iconst F 1 dL_law__2570 (by decide) ?_
  refine l_iadd F dL_law__2571 ?_
  refine l_sld F (i + 1) (ix_at (c := 1) rfl (by omega)).1 (ix_at (c := 1) rfl (by omega)).2 (by omega) dL_law__2572 ?_
  refine l_callV F (k' := 2) (mc' := 0) [.int (xs (i + 1))] [.int v] dL_law__2573 rfl rfl (by decide) rfl cl_L_273 hy_X10_status (by decide) (by omega) (by omega) (by decide) (Nat.le_of_ble_eq_true rfl) rfl (con_mono hc ?_ (fun _ _ h => h))
  rintro r w3 ⟨rfl, hv⟩
  show ZL M G Qp (n + 0 + 0) (ns + 6 * 0 + 6 * 0) w3 2576 [some (.ref b), some (.ref (G.2.1 0 0)), some (.ref (G.2.1 40 0)), some (.ref (G.2.1 80 0)), some (.int (nI i)), none, none, none] [.int v, .int v]
  refine l_icmp_eq F 2606 dL_law__2576 (by decide) ⟨fun _ => ?_, fun hc => absurd rfl hc⟩
  exact l_weak (l_widen (hK w3 hv) (by omega) (by omega)) ⟨rfl, rfl, rfl, rfl, rfl, trivial⟩
theorem q_count (F : FL M G b L xs) (hi : i + 9 ≤ L) (hL : L ≤ 576) (hn : n + 16 ≤ 600128) (hns : ns + 96 ≤ 7301098)
    (h : C_X9_count (mL M) G w [.ref (G.2.1 0 0), .int (xs (i + 1))] (fun r w1 => ∃ v, r = some (.int v) ∧ C_X10_count (mL M) G w1 [.ref (G.2.1 40 0), .int (xs (i + 1))] (fun r2 w2 => r2 = some (.int v) ∧ INV w2) noX) noX)
    (hK : ∀ w2, INV w2 → ZL M G Qp (n + 16) (ns + 96) w2 2606 (lB G b i) []) : ZL M G Qp n ns w 2581 (lB G b i) [] := by
  show ZL M G Qp n ns w 2581 [some (.ref b), some (.ref (G.2.1 0 0)), some (.ref (G.2.1 40 0)), some (.ref (G.2.1 80 0)), some (.int (nI i)), none, none, none] []
  refine l_aload_n F dL_law__2581 rfl ?_
  refine l_aload_n F dL_law__2582 rfl ?_
  refine l_iload F dL_law__2583 rfl ?_
  refine l_iconst F 1 dL_law__2585 (by decide) ?_
  refine l_iadd F dL_law__2586 ?_
  refine l_sld F (i + 1) (ix_at (c := 1) rfl (by omega)).1 (ix_at (c := 1) rfl (by omega)).2 (by omega) dL_law__2587 ?_
  refine l_callV F (k' := 1) (mc' := 0) [.int (xs (i + 1))] [] dL_law__2588 rfl rfl (by decide) rfl cl_L_274 hy_X9_count (by decide) (by omega) (by omega) (by decide) (Nat.le_of_ble_eq_true rfl) rfl (con_mono h ?_ (fun _ _ h => h))
  rintro r w1 ⟨v, rfl, hc⟩
  show ZL M G Qp (n + 0) (ns + 6 * 0) w1 2591 [some (.ref b), some (.ref (G.2.1 0 0)), some (.ref (G.2.1 40 0)), some (.ref (G.2.1 80 0)), some (.int (nI i)), none, none, none] [.int v]
  refine l_aload_n F dL_law__2591 rfl ?_
  refine l_aload_n F dL_law__2592 rfl ?_
  refine l_iload F dL_law__2593 rfl ?_
  refine l_iconst F 1 dL_law__2595 (by decide) ?_
  refine l_iadd F dL_law__2596 ?_
  refine l_sld F (i + 1) (ix_at (c := 1) rfl (by omega)).1 (ix_at (c := 1) rfl (by omega)).2 (by omega) dL_law__2597 ?_
  refine l_callV F (k' := 1) (mc' := 0) [.int (xs (i + 1))] [.int v] dL_law__2598 rfl rfl (by decide) rfl cl_L_277 hy_X10_count (by decide) (by omega) (by omega) (by decide) (Nat.le_of_ble_eq_true rfl) rfl (con_mono hc ?_ (fun _ _ h => h))
  rintro r w3 ⟨rfl, hv⟩
  show ZL M G Qp (n + 0 + 0) (ns + 6 * 0 + 6 * 0) w3 2601 [some (.ref b), some (.ref (G.2.1 0 0)), some (.ref (G.2.1 40 0)), some (.ref (G.2.1 80 0)), some (.int (nI i)), none, none, none] [.int v, .int v]
  refine l_icmp_eq F 2606 dL_law__2601 (by decide) ⟨fun _ => ?_, fun hc => absurd rfl hc⟩
  exact l_weak (l_widen (hK w3 hv) (by omega) (by omega)) ⟨rfl, rfl, rfl, rfl, rfl, trivial⟩
end QC
