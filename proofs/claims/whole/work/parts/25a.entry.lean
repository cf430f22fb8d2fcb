/-! What is known at the law's entry. -/
def tmS (i : Nat) : Term := ([.string "VowelChoir$Roll" 62, .string "VowelChoir$Roll" 71, .string "VowelChoir$Roll" 76, .string "VowelChoir$Roll" 81, .string "VowelChoir$Law" 76, .string "VowelChoir$Law" 86, .string "VowelChoir$Law" 95, .string "VowelChoir$Law" 97, .string "VowelChoir$Law" 99, .string "VowelChoir$Law" 101, .string "VowelChoir$Law" 105, .string "VowelChoir$Law" 107, .string "VowelChoir$Plan" 83, .string "VowelChoir$Plan" 89, .string "VowelChoir$Plan" 93, .string "VowelChoir$Plan" 95, .string "VowelChoir$Plan" 97, .string "VowelChoir$Plan" 100, .string "VowelChoir" 360, .string "VowelChoir" 367] : List Term).getD i (.int 0)
def nwF : List Cond := flatC (Jvm.Cond.and given_1 narrow_1)
/-- where each text's words begin -/
def nwB : List Nat := [91, 102, 112, 123, 135, 149, 163, 180, 195, 212, 249, 270, 314, 337, 386, 414, 441, 497, 63, 528]
def nwN : List (List Nat) := [[0, 111, 121, 132, 145, 158, 174, 188, 204, 221, 259, 278, 323, 346, 397, 423, 450, 507, 101, 561], [111, 0, 122, 133, 146, 159, 175, 189, 205, 222, 260, 279, 324, 347, 398, 424, 451, 508, 110, 562], [121, 122, 0, 134, 147, 160, 176, 190, 206, 223, 261, 280, 325, 348, 399, 425, 452, 509, 120, 563], [132, 133, 134, 0, 148, 161, 177, 191, 207, 224, 262, 281, 326, 349, 400, 426, 453, 510, 131, 564], [145, 146, 147, 148, 0, 162, 178, 192, 208, 225, 263, 282, 327, 350, 401, 427, 454, 511, 144, 565], [158, 159, 160, 161, 162, 0, 179, 193, 209, 226, 264, 283, 328, 351, 402, 428, 455, 512, 157, 566], [174, 175, 176, 177, 178, 179, 0, 194, 210, 227, 265, 284, 329, 352, 403, 429, 456, 513, 173, 567], [188, 189, 190, 191, 192, 193, 194, 0, 211, 228, 266, 285, 330, 353, 404, 430, 457, 514, 187, 568], [204, 205, 206, 207, 208, 209, 210, 211, 0, 229, 267, 286, 331, 354, 405, 431, 458, 515, 203, 569], [221, 222, 223, 224, 225, 226, 227, 228, 229, 0, 268, 287, 332, 355, 406, 432, 459, 516, 220, 570], [259, 260, 261, 262, 263, 264, 265, 266, 267, 268, 0, 289, 334, 357, 408, 434, 461, 518, 258, 572], [278, 279, 280, 281, 282, 283, 284, 285, 286, 287, 289, 0, 335, 358, 409, 435, 462, 519, 277, 573], [323, 324, 325, 326, 327, 328, 329, 330, 331, 332, 334, 335, 0, 360, 411, 437, 464, 521, 322, 575], [346, 347, 348, 349, 350, 351, 352, 353, 354, 355, 357, 358, 360, 0, 412, 438, 465, 522, 345, 576], [397, 398, 399, 400, 401, 402, 403, 404, 405, 406, 408, 409, 411, 412, 0, 440, 467, 524, 396, 578], [423, 424, 425, 426, 427, 428, 429, 430, 431, 432, 434, 435, 437, 438, 440, 0, 468, 525, 422, 579], [450, 451, 452, 453, 454, 455, 456, 457, 458, 459, 461, 462, 464, 465, 467, 468, 0, 526, 449, 580], [507, 508, 509, 510, 511, 512, 513, 514, 515, 516, 518, 519, 521, 522, 524, 525, 526, 0, 506, 582], [101, 110, 120, 131, 144, 157, 173, 187, 203, 220, 258, 277, 322, 345, 396, 422, 449, 506, 0, 560], [561, 562, 563, 564, 565, 566, 567, 568, 569, 570, 572, 573, 575, 576, 578, 579, 580, 582, 560, 0]]
theorem nw_ex : ∀ i, i < 20 → nwF[nwB.getD i 0]? = some (Cond.exactly (tmS i) "java/lang/String") := by decide +kernel
theorem nw_co : ∀ i, i < 20 → nwF[nwB.getD i 0 + 1]? = some (Cond.eq (.field (tmS i) "java/lang/String" "coder" "B") (.int 0)) := by decide +kernel
theorem nw_ar : ∀ i, i < 20 → nwF[nwB.getD i 0 + 2]? = some (Cond.arrayOf (.field (tmS i) "java/lang/String" "value" "[B") .byte) := by decide +kernel
theorem nw_le : ∀ i, i < 20 → nwF[nwB.getD i 0 + 3]? = some (Cond.eq (.length (.field (tmS i) "java/lang/String" "value" "[B")) (.int (Int32.ofNat (sLen.getD i 0)))) := by decide +kernel
theorem nw_el : ∀ i, i < 20 → ∀ j, j < sLen.getD i 0 → nwF[nwB.getD i 0 + 4 + j]? = some (Cond.eq (.elem (.field (tmS i) "java/lang/String" "value" "[B") (.int (Int32.ofNat j))) (.int ((sByt.getD i []).getD j 0))) := by decide +kernel
theorem nw_ne0 : ∀ i, i < 20 → ∀ j, j < i → nwF[(nwN.getD i []).getD j 0]? = some (Cond.not (.eq (tmS i) (tmS j))) ∨ nwF[(nwN.getD i []).getD j 0]? = some (Cond.not (.eq (tmS j) (tmS i))) := by decide +kernel
theorem nw_ne {i j : Nat} (hi : i < 20) (hj : j < 20) (h : i ≠ j) : Cond.not (.eq (tmS i) (tmS j)) ∈ nwF ∨ Cond.not (.eq (tmS j) (tmS i)) ∈ nwF := by
  by_cases h1 : j < i
  · exact (nw_ne0 i hi j h1).imp List.mem_of_getElem? List.mem_of_getElem?
  · exact ((nw_ne0 j hj i (by omega)).imp List.mem_of_getElem? List.mem_of_getElem?).symm
theorem nw_dup : ∀ q ∈ sRefs, q.2.2 < 20 ∧ (Term.string q.1 q.2.1 = tmS q.2.2 ∨ Cond.eq (tmS q.2.2) (.string q.1 q.2.1) ∈ nwF) := by decide +kernel
theorem tb_ref : ∀ q ∈ sRefs, Cond.stringRef q.1 q.2.1 (sTx.getD q.2.2 "") ∈ lw_tbl := by decide +kernel
theorem tb_ex : ∀ c ∈ exW, c ∈ lw_tbl := by decide +kernel
theorem tb_ns : ∀ q ∈ nsD, Cond.methodLinkNest q.1 q.2.1 ⟨q.2.2, "<init>", "()V"⟩ "VowelChoir" ∈ lw_tbl := by decide +kernel
def ik (c : Nat) : Nat := [6, 9, 8, 4, 3, 7, 5, 2, 1, 0, 40].getD c 40
theorem kc_ik : ∀ c, c < 11 → kc (ik c) = c := by decide
theorem in_ik : ∀ c, c < 11 → (decide (Cond.instantiable (vC (ik c)).1 (nf (ik c)) ∈ tables_1) && goodWord (Cond.instantiable (vC (ik c)).1 (nf (ik c)))) = true := by decide +kernel
theorem bs_start {p : Program} {s : State} {m : MethodId} {meth : Method} {c : Code} {b L : Nat} {xs : Nat → Int32} (C0 : lw_At p s m meth c b L xs) : ∃ G : Gx, G.2.2.2.1 = s.heap.size ∧ G.2.2.1 7 = 0 ∧ Bs G s ∧ Bx s := by
  obtain ⟨-, -, -, -, -, hts, -, -, -, hgv⟩ := C0
  have hs : ∀ c ∈ nwF, c.before #[Value.ref b] s = true := flat_of_before _ hgv
  have hg : ∀ w ∈ GW, w.before #[Value.ref b] s = true := fun w hw => hts w (List.mem_filter.mp hw).1
  have hA : ∀ a : Nat, a < s.heap.size → ¬ (fun q : Nat => s.heap.size ≤ q) a := fun a h1 h2 => by
    have h3 : s.heap.size ≤ a := h2
    omega
  obtain ⟨adK, adV, hS, hE⟩ := vk_Sof (args := #[Value.ref b]) (s := s) (N := 20) (tm := tmS) (len := sLen) (byt := sByt) (A := fun q => s.heap.size ≤ q) (by decide) (fun i hi => hs _ (List.mem_of_getElem? (nw_ex i hi))) (fun i hi => hs _ (List.mem_of_getElem? (nw_co i hi))) (fun i hi => hs _ (List.mem_of_getElem? (nw_ar i hi))) (fun i hi => hs _ (List.mem_of_getElem? (nw_le i hi))) (fun i hi j hj => hs _ (List.mem_of_getElem? (nw_el i hi j hj))) (fun i j hi hj hij => (nw_ne hi hj hij).imp (hs _) (hs _)) hA
  have h1 : ∀ c : Nat, ∃ q : ClassId × (Nat → Nat), ∀ r, vwCl[c]? = some r → u_Kn s r.1 r.2.1 r.2.2 q.1 q.2 := by
    intro c
    by_cases hc : c < 11
    · have hi := in_ik c hc
      simp only [Bool.and_eq_true, decide_eq_true_eq] at hi
      obtain ⟨cC, iS, h⟩ := u_known hg (vC_in (ik c)) (hg _ (GW_of (List.mem_append_right _ hi.1) hi.2))
      refine ⟨(cC, iS), fun r hr => ?_⟩
      have e := vC_at (ik c)
      rw [kc_ik c hc, hr] at e
      cases e
      rw [vC_n]
      exact h
    · refine ⟨(0, fun _ => 0), fun r hr => ?_⟩
      have := (List.getElem?_eq_some_iff.mp hr).1
      exact absurd this hc
  obtain ⟨f, hf⟩ := Classical.axiomOfChoice h1
  obtain ⟨c0, k0, p0, a1, a2, a3⟩ := Cond.arrayClass_spec (hg _ ar_int)
  obtain ⟨c1, k1, p1, b1, b2, b3⟩ := Cond.arrayClass_spec (hg _ ar_bytes)
  obtain ⟨c2, k2, p2, d1, d2, d3⟩ := Cond.arrayClass_spec (hg _ ar_long)
  have o3 := hts (.arrayOver (.object "VowelChoir$Scene")) (by decide +kernel)
  have o4 := hts (.arrayOver (.object "VowelChoir$Life")) (by decide +kernel)
  have o5 := hts (.arrayOver (.array .int)) (by decide +kernel)
  obtain ⟨p3, c3, k3, e1, -, e2, e3, e4⟩ := Cond.arrayOver_spec o3
  obtain ⟨p4, c4, k4, f1, -, f2, f3, f4⟩ := Cond.arrayOver_spec o4
  obtain ⟨p5, c5, k5, g1, -, g2, g3, g4⟩ := arrayOverA_spec o5
  refine ⟨((fun c => (f c).1, fun c => (f c).2), fun _ _ => 0, fun t => if t = 0 then c0 else if t = 1 then c1 else if t = 2 then c2 else if t = 3 then c3 else if t = 4 then c4 else if t = 5 then c5 else 0, s.heap.size, adK, adV), rfl, rfl,
    ⟨⟨fun c r hr => hf c r hr, fun k q hk => ?_⟩, Nat.le_refl _, vx_Zqof (hts _ (by decide +kernel)) (hts _ (by decide +kernel)) (hs _ (by decide +kernel)) hA, vx_Zqof (hts _ (by decide +kernel)) (hts _ (by decide +kernel)) (hs _ (by decide +kernel)) hA, hS, fun q hq => ?_, fun c hc => ?_, va_Nc.of (hs _ (by decide +kernel)), va_Zof (hts _ (by decide +kernel)) (hts _ (by decide +kernel)) (va_eqi (hs _ (by decide +kernel))) hA, va_Zqof (hts _ (by decide +kernel)) (hts _ (by decide +kernel)) (hs _ (by decide +kernel)) hA⟩,
    o3, o4, o5, fun q hq => va_tabs (A := #[Value.ref b]) rfl rfl (hts _ (tb_ns q hq))⟩
  · match k, hk with
    | 0, hk =>
      obtain rfl := Option.some.inj (show some (c0, FieldType.int) = some q from hk)
      exact ⟨fun n z => ⟨(fun k h => by cases h), k0, a2, p0, a3⟩, a1⟩
    | 1, hk =>
      obtain rfl := Option.some.inj (show some (c1, FieldType.byte) = some q from hk)
      exact ⟨fun n z => ⟨(fun k h => by cases h), k1, b2, p1, b3⟩, b1⟩
    | 2, hk =>
      obtain rfl := Option.some.inj (show some (c2, FieldType.long) = some q from hk)
      exact ⟨fun n z => ⟨(fun k h => by cases h), k2, d2, p2, d3⟩, d1⟩
    | 3, hk =>
      obtain rfl := Option.some.inj (show some (c3, FieldType.object "VowelChoir$Scene") = some q from hk)
      exact ⟨fun n z => ⟨(fun k h => by cases h), k3, e2, p3, e3⟩, k3, p3, e2, e3, e1, e4⟩
    | 4, hk =>
      obtain rfl := Option.some.inj (show some (c4, FieldType.object "VowelChoir$Life") = some q from hk)
      exact ⟨fun n z => ⟨(fun k h => by cases h), k4, f2, p4, f3⟩, k4, p4, f2, f3, f1, f4⟩
    | 5, hk =>
      obtain rfl := Option.some.inj (show some (c5, FieldType.array .int) = some q from hk)
      exact ⟨fun n z => ⟨(fun k h => by cases h), k5, g2, p5, g3⟩, g4⟩
    | k + 6, hk => exact absurd (List.getElem?_eq_some_iff.mp hk).1 (by show ¬ k + 6 < 6; omega)
  · obtain ⟨h20, h | h⟩ := nw_dup q hq
    · refine vk_R.of (A := #[Value.ref b]) (hts _ (tb_ref q hq)) ?_
      rw [h]
      exact hE _ h20
    · exact vk_R.of (A := #[Value.ref b]) (hts _ (tb_ref q hq)) (va_eqR (hs _ h) (hE _ h20))
  · have hf := exW_face c hc
    simp only [Bool.and_eq_true] at hf
    exact va_tabs (A := #[Value.ref b]) hf.2 rfl (hts _ (tb_ex c hc))
