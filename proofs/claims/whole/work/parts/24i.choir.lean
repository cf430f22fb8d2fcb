/-! The constructor of VowelChoir (written by program). -/
/-- the world of the two new objects, before the reference begins anew -/
def w0 : Wd := (fun κ _ k => if κ = 1 then (if k = 2 then -1 else 0) else if κ = 7 then (if k = 3 then 5 else 0) else if κ = 8 then (if k = 5 then 1 else 0) else if κ = 40 then (if k = 3 then -1 else 0) else 0, fun _ _ _ => 0, fun κ _ k => if κ = 0 then (if k = 10 then 0 else 1) else 0)
def cellK (G : Gx) (ad : Nat → Nat → Nat) (w : Wd) (q : Nat × Nat) : Nat × va_E := (ad q.1 q.2, ent ad G.2.2.1 w q.1 q.2)
/-- addresses: lives and scenes by h, all else by m -/
def adC (m : Nat → Nat → Nat) (h : Nat → Nat → Nat → Nat) (κ j : Nat) : Nat := if κ = 5 then h (j / 17) (j % 17) 0 else if κ = 17 then h (j / 17) (j % 17) 1 else if κ = 18 then h (j / 17) (j % 17) 2 else if κ = 19 then h (j / 17) (j % 17) 3 else if κ = 20 then h (j / 17) (j % 17) 4 else if κ = 21 then h (j / 17) (j % 17) 5
  else if κ = 4 then h j 17 0 else if κ = 15 then h j 17 1 else m κ j
/-- the cells as the constructor leaves them -/
def cellX (G : Gx) (m : Nat → Nat → Nat) (h : Nat → Nat → Nat → Nat) (q : Nat × Nat) : Nat × va_E := (adC m h q.1 q.2, if q.1 = 15 then qA G 3 16 (fun k => if k < 16 then some (h q.2 (1 + k) 0) else none) else if q.1 = 16 then qA G 4 3 (fun k => if k < 3 then some (h (1 + k) 17 0) else none) else ent (adC m h) G.2.2.1 w0 q.1 q.2)
def skeys (s : Nat) : List (Nat × Nat) := [(5, s), (17, s), (18, s), (19, s), (20, s), (21, s)]
def lkeys (j : Nat) : List (Nat × Nat) := (4, j) :: (skeys (17 * j) ++ (15, j) :: (List.range 16).flatMap (fun k => skeys (17 * j + (1 + k))))
def ksA : List (Nat × Nat) := [(1, 0), (10, 0), (2, 0), (7, 0), (25, 0), (26, 0), (27, 0), (28, 0), (29, 0), (30, 0), (31, 0), (32, 0), (8, 0), (33, 0), (34, 0), (35, 0), (36, 0), (37, 0), (3, 0), (11, 0), (12, 0), (13, 0), (14, 0)]
def ksB : List (Nat × Nat) := [(6, 0), (22, 0), (23, 0), (24, 0), (7, 1), (25, 1), (26, 1), (27, 1), (28, 1), (29, 1), (30, 1), (31, 1), (32, 1), (8, 1), (33, 1), (34, 1), (35, 1), (36, 1), (37, 1), (9, 0), (9, 1)]
def ksC : List (Nat × Nat) := (0, 0) :: (ksA ++ (lkeys 0 ++ (16, 0) :: (skeys 68 ++ (ksB ++ (List.range 3).flatMap (fun k => lkeys (1 + k))))))
theorem k_scene {G : Gx} {m : Nat → Nat → Nat} {h : Nat → Nat → Nat → Nat} (j i : Nat) (hi : i < 17) : (skeys (17 * j + i)).map (cellX G m h) = scn G (h j i) := by
  have e1 : (17 * j + i) / 17 = j := by omega
  have e2 : (17 * j + i) % 17 = i := by omega
  have e : (skeys (17 * j + i)).map (cellX G m h) = scn G (h ((17 * j + i) / 17) ((17 * j + i) % 17)) := rfl
  rw [e, e1, e2]
theorem k_life {G : Gx} {m : Nat → Nat → Nat} {h : Nat → Nat → Nat → Nat} (j : Nat) : (lkeys j).map (cellX G m h) = lifeW G (h j) := by
  have e0 : cellX G m h (4, j) = (h j 17 0, .inr (kc 4, [.int 0, .ref (h ((17 * j) / 17) ((17 * j) % 17) 0), .ref (h j 17 1)])) := rfl
  rw [show (17 * j) / 17 = j by omega, show (17 * j) % 17 = 0 by omega] at e0
  have e1 : cellX G m h (15, j) = (h j 17 1, qA G 3 16 (fun k => if k < 16 then some (h j (1 + k) 0) else none)) := rfl
  unfold lkeys lifeW
  rw [List.map_cons, List.map_append, List.map_cons, e0, e1, List.map_flatMap]
  have e2 := k_scene (G := G) (m := m) (h := h) j 0 (by decide)
  rw [Nat.add_zero] at e2
  rw [e2]
  refine congrArg (fun z => _ :: (scn G (h j 0) ++ _ :: z)) ?_
  rw [List.flatMap_def, List.flatMap_def]
  exact congrArg List.flatten (List.map_congr_left (fun k hk => k_scene j (1 + k) (by have := List.mem_range.mp hk; omega)))
def mKC (t t0 s r a0 a1 a2 a3 a4 a5 a6 a7 u b0 b1 b2 b3 b4 p p0 p1 p2 p3 a v v0 v1 y R A0 A1 A2 A3 A4 A5 A6 A7 U B0 B1 B2 B3 B4 k0 k1 q : Nat) (κ j : Nat) : Nat := ([[q], [t], [s], [p], [], [], [v], [r, R], [u, U], [k0, k1], [t0], [p0], [p1], [p2], [p3], [], [a], [], [], [], [], [], [v0], [v1], [y], [a0, A0], [a1, A1], [a2, A2], [a3, A3], [a4, A4], [a5, A5], [a6, A6], [a7, A7], [b0, B0], [b1, B1], [b2, B2], [b3, B3], [b4, B4]].getD κ []).getD j 0
theorem kk_choir {G : Gx} {X : va_W} {t t0 s r a0 a1 a2 a3 a4 a5 a6 a7 u b0 b1 b2 b3 b4 p p0 p1 p2 p3 a v v0 v1 y R A0 A1 A2 A3 A4 A5 A6 A7 U B0 B1 B2 B3 B4 k0 k1 q : Nat} {h : Nat → Nat → Nat → Nat} :
    (X ++ (q, .inr (kc 0, [.ref t, .ref s, .ref p, .ref (h 0 17 0), .ref a, .ref (h 4 0 0), .ref v, .ref y, .ref R, .ref U, .ref k0, .ref k1, .int 0, .int 0, .int 0, .int 0, .int 0])) :: ([(t, .inr (kc 1, [.int 0, .int 0, .int (-1), .int 0, .int 0, .int 0, .ref t0])), (t0, bA G 600), (s, .inr (kc 2, [.ref r, .ref u])), (r, .inr (kc 7, [.int 0, .int 0, .int 0, .int 5, .ref a0, .ref a1, .ref a2, .ref a3, .ref a4, .ref a5, .ref a6, .ref a7])), (a0, iA G 7), (a1, iA G 7), (a2, iA G 7), (a3, iA G 20), (a4, iA G 20), (a5, iA G 20), (a6, iA G 12), (a7, iA G 12), (u, .inr (kc 8, [.ref b0, .ref b1, .ref b2, .ref b3, .ref b4, .int 1])), (b0, iA G 8), (b1, iA G 150), (b2, iA G 150), (b3, iA G 150), (b4, iA G 150), (p, .inr (kc 3, [.int 0, .int 0, .int 0, .int 0, .ref p0, .ref p1, .ref p2, .ref p3])), (p0, iA G 150), (p1, iA G 150), (p2, iA G 150), (p3, iA G 150)] ++ lifeW G (h 0))) ++ (a, qA G 4 3 (fun k => if k < 3 then some (h (1 + k) 17 0) else none)) :: ((scn G (h 4 0) ++ [(v, .inr (kc 6, [.int 0, .ref v0, .ref v1])), (v0, iA G 49), (v1, iA G 896), (y, iA G 20), (R, .inr (kc 7, [.int 0, .int 0, .int 0, .int 5, .ref A0, .ref A1, .ref A2, .ref A3, .ref A4, .ref A5, .ref A6, .ref A7])), (A0, iA G 7), (A1, iA G 7), (A2, iA G 7), (A3, iA G 20), (A4, iA G 20), (A5, iA G 20), (A6, iA G 12), (A7, iA G 12), (U, .inr (kc 8, [.ref B0, .ref B1, .ref B2, .ref B3, .ref B4, .int 1])), (B0, iA G 8), (B1, iA G 150), (B2, iA G 150), (B3, iA G 150), (B4, iA G 150), (k0, .inr (kc 9, [.int 0, .int 0])), (k1, .inr (kc 9, [.int 0, .int 0]))]) ++ (List.range 3).flatMap (fun k => lifeW G (h (1 + k)))) =
    X ++ ksC.map (cellX G (mKC t t0 s r a0 a1 a2 a3 a4 a5 a6 a7 u b0 b1 b2 b3 b4 p p0 p1 p2 p3 a v v0 v1 y R A0 A1 A2 A3 A4 A5 A6 A7 U B0 B1 B2 B3 B4 k0 k1 q) h) := by
  have e0 : cellX G (mKC t t0 s r a0 a1 a2 a3 a4 a5 a6 a7 u b0 b1 b2 b3 b4 p p0 p1 p2 p3 a v v0 v1 y R A0 A1 A2 A3 A4 A5 A6 A7 U B0 B1 B2 B3 B4 k0 k1 q) h (0, 0) = (q, .inr (kc 0, [.ref t, .ref s, .ref p, .ref (h 0 17 0), .ref a, .ref (h 4 0 0), .ref v, .ref y, .ref R, .ref U, .ref k0, .ref k1, .int 0, .int 0, .int 0, .int 0, .int 0])) := rfl
  have e1 : ksA.map (cellX G (mKC t t0 s r a0 a1 a2 a3 a4 a5 a6 a7 u b0 b1 b2 b3 b4 p p0 p1 p2 p3 a v v0 v1 y R A0 A1 A2 A3 A4 A5 A6 A7 U B0 B1 B2 B3 B4 k0 k1 q) h) = [(t, .inr (kc 1, [.int 0, .int 0, .int (-1), .int 0, .int 0, .int 0, .ref t0])), (t0, bA G 600), (s, .inr (kc 2, [.ref r, .ref u])), (r, .inr (kc 7, [.int 0, .int 0, .int 0, .int 5, .ref a0, .ref a1, .ref a2, .ref a3, .ref a4, .ref a5, .ref a6, .ref a7])), (a0, iA G 7), (a1, iA G 7), (a2, iA G 7), (a3, iA G 20), (a4, iA G 20), (a5, iA G 20), (a6, iA G 12), (a7, iA G 12), (u, .inr (kc 8, [.ref b0, .ref b1, .ref b2, .ref b3, .ref b4, .int 1])), (b0, iA G 8), (b1, iA G 150), (b2, iA G 150), (b3, iA G 150), (b4, iA G 150), (p, .inr (kc 3, [.int 0, .int 0, .int 0, .int 0, .ref p0, .ref p1, .ref p2, .ref p3])), (p0, iA G 150), (p1, iA G 150), (p2, iA G 150), (p3, iA G 150)] := rfl
  have e2 : ksB.map (cellX G (mKC t t0 s r a0 a1 a2 a3 a4 a5 a6 a7 u b0 b1 b2 b3 b4 p p0 p1 p2 p3 a v v0 v1 y R A0 A1 A2 A3 A4 A5 A6 A7 U B0 B1 B2 B3 B4 k0 k1 q) h) = [(v, .inr (kc 6, [.int 0, .ref v0, .ref v1])), (v0, iA G 49), (v1, iA G 896), (y, iA G 20), (R, .inr (kc 7, [.int 0, .int 0, .int 0, .int 5, .ref A0, .ref A1, .ref A2, .ref A3, .ref A4, .ref A5, .ref A6, .ref A7])), (A0, iA G 7), (A1, iA G 7), (A2, iA G 7), (A3, iA G 20), (A4, iA G 20), (A5, iA G 20), (A6, iA G 12), (A7, iA G 12), (U, .inr (kc 8, [.ref B0, .ref B1, .ref B2, .ref B3, .ref B4, .int 1])), (B0, iA G 8), (B1, iA G 150), (B2, iA G 150), (B3, iA G 150), (B4, iA G 150), (k0, .inr (kc 9, [.int 0, .int 0])), (k1, .inr (kc 9, [.int 0, .int 0]))] := rfl
  have e3 : cellX G (mKC t t0 s r a0 a1 a2 a3 a4 a5 a6 a7 u b0 b1 b2 b3 b4 p p0 p1 p2 p3 a v v0 v1 y R A0 A1 A2 A3 A4 A5 A6 A7 U B0 B1 B2 B3 B4 k0 k1 q) h (16, 0) = (a, qA G 4 3 (fun k => if k < 3 then some (h (1 + k) 17 0) else none)) := rfl
  have e4 : ((List.range 3).flatMap (fun k => lkeys (1 + k))).map (cellX G (mKC t t0 s r a0 a1 a2 a3 a4 a5 a6 a7 u b0 b1 b2 b3 b4 p p0 p1 p2 p3 a v v0 v1 y R A0 A1 A2 A3 A4 A5 A6 A7 U B0 B1 B2 B3 B4 k0 k1 q) h) = (List.range 3).flatMap (fun k => lifeW G (h (1 + k))) := by
    rw [List.map_flatMap]
    exact congrArg (fun z => (List.range 3).flatMap z) (funext fun k => k_life (1 + k))
  have e5 := k_scene (G := G) (m := mKC t t0 s r a0 a1 a2 a3 a4 a5 a6 a7 u b0 b1 b2 b3 b4 p p0 p1 p2 p3 a v v0 v1 y R A0 A1 A2 A3 A4 A5 A6 A7 U B0 B1 B2 B3 B4 k0 k1 q) (h := h) 4 0 (by decide)
  unfold ksC
  rw [List.map_cons, List.map_append, List.map_append, List.map_cons, List.map_append, List.map_append, e0, e1, e2, e3, e4, k_life, show (68 : Nat) = 17 * 4 + 0 from rfl, e5]
  simp only [List.append_assoc, List.cons_append, List.nil_append]
section YM
variable {M : Mx} {G : Gx} {own : String} {cc : ByteArray} {nL : Nat} {kk mc ms : Nat} {n ns n' ns' : Nat} {Kc : va_W → Prop} {ws ws' : va_W} {pc : Nat} {l : List (Option Value)} {st : List Value}
theorem vaD_addr {A : Nat → Prop} {ws ws' : va_W} (hD : va_D A ws) (h : ws'.map (fun q => q.1) = ws.map (fun q => q.1)) : va_D A ws' := by
  have key : ∀ (k : Nat) (q : Nat × va_E), ws'[k]? = some q → ∃ q0, ws[k]? = some q0 ∧ q0.1 = q.1 := by
    intro k q hk
    have h1 : (ws'.map (fun q => q.1))[k]? = some q.1 := by rw [List.getElem?_map, hk]; rfl
    rw [h, List.getElem?_map] at h1
    cases hq : ws[k]? with
    | none => rw [hq] at h1; cases h1
    | some q0 => rw [hq] at h1; exact ⟨q0, rfl, Option.some.inj h1⟩
  refine ⟨fun i j p q hp hq he => ?_, fun k q hk => ?_⟩
  · obtain ⟨p0, a1, a2⟩ := key i p hp
    obtain ⟨q0, b1, b2⟩ := key j q hq
    exact hD.1 i j p0 q0 a1 b1 (by rw [a2, b2]; exact he)
  · obtain ⟨q0, b1, b2⟩ := key k q hk
    rw [← b2]
    exact hD.2 k q0 b1
theorem vaP_mem {D : va_G} {cl : List vw_C} {ws ws' : va_W} {H : Heap} (hP : va_P D cl ws H) (h : ∀ q ∈ ws', ∃ q0 ∈ ws, va_at D cl q0 H → va_at D cl q H) : va_P D cl ws' H := by
  intro k q hk
  obtain ⟨q0, h1, h2⟩ := h q (List.mem_of_getElem? hk)
  obtain ⟨i, hi⟩ := List.getElem?_of_mem h1
  exact h2 (hP i q0 hi)
theorem y_map {X : va_W} {ks : List (Nat × Nat)} {c1 c2 : Nat × Nat → Nat × va_E} (h1 : ∀ q, (c2 q).1 = (c1 q).1) (h2 : ∀ q H, va_at G.1 vwCl (c1 q) H → va_at G.1 vwCl (c2 q) H) (k : ZC M G n ns Kc (X ++ ks.map c2) pc l st) : ZC M G n ns Kc (X ++ ks.map c1) pc l st := by
  intro H ls locs hP hD hl hS
  refine k H ls locs (vaP_mem hP (fun q hq => ?_)) (vaD_addr hD ?_) hl hS
  · rcases List.mem_append.mp hq with h | h
    · exact ⟨q, List.mem_append_left _ h, id⟩
    · obtain ⟨z, hz, rfl⟩ := List.mem_map.mp h
      exact ⟨c1 z, List.mem_append_right _ (List.mem_map.mpr ⟨z, hz, rfl⟩), h2 z H⟩
  · rw [List.map_append, List.map_append, List.map_map, List.map_map]
    exact congrArg (X.map (fun q => q.1) ++ ·) (List.map_congr_left (fun q _ => h1 q))
theorem k_conv {m : Nat → Nat → Nat} {h : Nat → Nat → Nat → Nat} (q : Nat × Nat) (H : Heap) (hq : va_at G.1 vwCl (cellX G m h q) H) : va_at G.1 vwCl (cellK G (adC m h) w0 q) H := by
  obtain ⟨κ, j⟩ := q
  by_cases e1 : κ = 15
  · subst e1
    refine qA_at (G := G) (t := 3) (N := 16) (f := fun k => if k < 16 then some (h j (1 + k) 0) else none) (f' := fun i => some (adC m h 5 (17 * j + 1 + i))) (fun i hi => ?_) hq
    show (if i < 16 then some (h j (1 + i) 0) else none) = some (h ((17 * j + 1 + i) / 17) ((17 * j + 1 + i) % 17) 0)
    rw [if_pos hi, show (17 * j + 1 + i) / 17 = j by omega, show (17 * j + 1 + i) % 17 = 1 + i by omega]
  · by_cases e2 : κ = 16
    · subst e2
      refine qA_at (G := G) (t := 4) (N := 3) (f := fun k => if k < 3 then some (h (1 + k) 17 0) else none) (f' := fun i => some (adC m h 4 (1 + i))) (fun i hi => ?_) hq
      show (if i < 3 then some (h (1 + i) 17 0) else none) = some (h (1 + i) 17 0)
      rw [if_pos hi]
    · unfold cellX at hq
      rw [if_neg e1, if_neg e2] at hq
      exact hq
theorem lives_loop {X Y1 Y2 : va_W} {q a : Nat} {fs : List Value} {g0 g4 : Nat → Nat → Nat} (F : FC M G yX9_init.cls cX9_init 2 kk 467 7594) (hk : 3 ≤ kk) (hfs : fs[4]? = some (.ref a))
    (hend : ∀ h : Nat → Nat → Nat → Nat, h 0 = g0 → h 4 = g4 → ZC M G (155 + 104 * 3) (4681 + 971 * 3) Kc ((X ++ (q, .inr (kc 0, fs)) :: Y1) ++ (a, qA G 4 3 (fun k => if k < 3 then some (h (1 + k) 17 0) else none)) :: (Y2 ++ (List.range 3).flatMap (fun k => lifeW G (h (1 + k))))) 156 [some (.ref q), some (.int 3)] []) :
    ∀ (r i : Nat) (h : Nat → Nat → Nat → Nat), i + r = 3 → h 0 = g0 → h 4 = g4 →
    ZC M G (155 + 104 * i) (4681 + 971 * i) Kc ((X ++ (q, .inr (kc 0, fs)) :: Y1) ++ (a, qA G 4 3 (fun k => if k < i then some (h (1 + k) 17 0) else none)) :: (Y2 ++ (List.range i).flatMap (fun k => lifeW G (h (1 + k))))) 132 [some (.ref q), some (.int (nI i))] [] := by
  intro r
  induction r with
  | zero =>
    intro i h hi h0 h4
    have e : i = 3 := by omega
    subst e
    refine y_iload_n F dX9_init_132 rfl ?_
    refine y_iconst F 3 dX9_init_133 (by decide) ?_
    refine y_icmp_ge F 156 dX9_init_134 (by decide) ⟨fun _ => hend h h0 h4, fun h => absurd (by decide) h⟩
  | succ r ih =>
    intro i h hi h0 h4
    refine y_iload_n F dX9_init_132 rfl ?_
    refine y_iconst F 3 dX9_init_133 (by decide) ?_
    refine y_icmp_ge F 156 dX9_init_134 (by decide) ⟨fun h => absurd h (nI_ge (b := 3) (by omega) (by decide)), fun _ => ?_⟩
    refine y_aload_n F dX9_init_137 rfl ?_
    refine y_get F (κ := 0) X.length xo_at2 4 (by decide) hfs lk_X9_37 dX9_init_138 ?_
    refine y_iload_n F dX9_init_141 rfl ?_
    refine x_new F 4 [.int 0, .null, .null] (by decide +kernel) (GW_1 214 rfl rfl) (GW_1 215 rfl rfl) (GW_1 7 rfl rfl) (by omega) (by show 4681 + 971 * i + 3 ≤ 7594; omega) dX9_init_142 (fun z => ?_)
    refine y_dup F dX9_init_145 rfl ?_
    refine y_init F (k' := 2) (mc' := 103) (ms' := 968) (y := yX3_init) [.ref z, .int (nI i), .ref a] dX9_init_146 rfl ⟨GW_1 216 rfl rfl, GW_1 217 rfl rfl, GW_1 7 rfl rfl, GW_1 218 rfl rfl⟩ rfl (by decide +kernel) (by omega) (by omega) (by show 4681 + 971 * i + 3 + 968 ≤ 7594; omega) (by decide) (Nat.le_of_ble_eq_true rfl) rfl (conC_mono c_init3 ?_)
    rintro ws' ⟨g, hg, rfl⟩
    subst hg
    refine y_aast F (t := 4) (κ := 4) _ _ rfl xo_at2 (xo_at (Y := scn G (g 0) ++ (g 17 1, qA G 3 16 (fun k => if k < 16 then some (g (1 + k) 0) else none)) :: (List.range 16).flatMap (fun k => scn G (g (1 + k))))) (nI_in (by omega) (by decide)) dX9_init_149 ?_
    rw [xo_set2]
    refine y_iinc F (nI (i + 1)) dX9_init_150 rfl (nI_1 i) (by show 1 < 2; decide) ?_
    refine y_goto F 132 dX9_init_153 (by decide) ?_
    obtain ⟨h', hh'⟩ : ∃ h', h' = (fun s => if s = 1 + i then g else h s) := ⟨_, rfl⟩
    have e0 : h' 0 = h 0 := by rw [hh']; exact if_neg (by omega)
    have e4' : h' 4 = h 4 := by rw [hh']; exact if_neg (by omega)
    have e1 : h' (1 + i) = g := by rw [hh']; exact if_pos rfl
    have e2 : ∀ k, k < i → h' (1 + k) = h (1 + k) := fun k hk => by rw [hh']; exact if_neg (by omega)
    refine y_eq (ih (i + 1) h' (by omega) (by rw [e0]; exact h0) (by rw [e4']; exact h4)) (by omega) (by show 4681 + 971 * i + 3 + 968 = 4681 + 971 * (i + 1); omega) ?_
    have e3 : va_up (fun k => if k < i then some (h (1 + k) 17 0) else none) (nI i).toNatClampNeg (some (g 17 0)) = (fun k => if k < i + 1 then some (h' (1 + k) 17 0) else none) := by
      funext k
      rw [nI_clamp (by omega)]
      unfold va_up
      by_cases h1 : k = i
      · rw [if_pos h1, if_pos (by omega), h1, e1]
      · rw [if_neg h1]
        by_cases h2 : k < i
        · rw [if_pos (by omega), e2 k h2]
          exact if_pos h2
        · rw [if_neg (show ¬ k < i + 1 by omega)]
          exact if_neg h2
    have e4 : (List.range (i + 1)).flatMap (fun k => lifeW G (h' (1 + k))) = (List.range i).flatMap (fun k => lifeW G (h (1 + k))) ++ lifeW G g := by
      rw [List.range_succ, List.flatMap_append, List.flatMap_singleton, e1]
      refine congrArg (· ++ lifeW G g) ?_
      rw [List.flatMap_def, List.flatMap_def]
      refine congrArg List.flatten (List.map_congr_left (fun k hk => ?_))
      rw [e2 k (List.mem_range.mp hk)]
    rw [e4, ← e3]
    simp only [List.append_assoc, List.cons_append]
    rfl
end YM
theorem xo_ap {α : Type} {X Y Z : List α} {o : α} : (X ++ o :: Y) ++ Z = X ++ o :: (Y ++ Z) := by simp
theorem c_init9 {l : Launch} {G : Gx} {X : va_W} {q : Nat} : ConC l G 3 467 7594 yX9_init cX9_init 2 (X ++ [(q, .inr (kc 0, [.null, .null, .null, .null, .null, .null, .null, .null, .null, .null, .null, .null, .int 0, .int 0, .int 0, .int 0, .int 0]))]) [.ref q]
    (fun ws' => ∃ ad : Nat → Nat → Nat, ad 0 0 = q ∧ ws' = X ++ ksC.map (cellK G ad w0)) := by
  refine conC_intro (by decide +kernel) rfl (Nat.le_of_ble_eq_true rfl) (Nat.le_of_ble_eq_true rfl) (fun M kk hM hk F => ?_)
  show ZC M G 0 0 _ (X ++ (q, .inr (kc 0, [.null, .null, .null, .null, .null, .null, .null, .null, .null, .null, .null, .null, .int 0, .int 0, .int 0, .int 0, .int 0])) :: []) 0 [some (.ref q), none] []
  refine y_aload_n F dX9_init_0 rfl ?_
  refine y_super F (GW_1 29 rfl rfl) oi_1 oi_2 (by omega) rfl (Nat.le_of_ble_eq_true rfl) dX9_init_1 ?_
  refine y_aload_n F dX9_init_4 rfl ?_
  refine x_new F 1 [.int 0, .int 0, .int 0, .int 0, .int 0, .int 0, .null] (by decide +kernel) (GW_1 32 rfl rfl) (GW_1 33 rfl rfl) (GW_1 2 rfl rfl) (by decide) (by decide) dX9_init_5 (fun t => ?_)
  refine y_dup F dX9_init_8 rfl ?_
  refine y_initN F (k' := 1) (mc' := 1) (ms' := 600) (y := yX8_init) [.ref t, .ref q] dX9_init_9 rfl (by decide) rfl ⟨GW_1 35 rfl rfl, GW_1 2 rfl rfl, GW_1 36 rfl rfl⟩ rfl (by decide +kernel) (by omega) (by decide) (by decide) (by decide) (Nat.le_of_ble_eq_true rfl) rfl (conC_mono c_init8 ?_)
  rintro ws' ⟨t0, rfl⟩
  rw [xo_ap]
  refine x_putF F (κ := 0) (ty := .object "VowelChoir$Tape") rfl 0 (by decide) rfl rfl (by decide +kernel) rfl rfl lk_X9_10 dX9_init_12 ?_
  refine y_aload_n F dX9_init_15 rfl ?_
  refine x_new F 2 [.null, .null] (by decide +kernel) (GW_1 70 rfl rfl) (GW_1 71 rfl rfl) (GW_1 3 rfl rfl) (by decide) (by decide) dX9_init_16 (fun s => ?_)
  refine y_dup F dX9_init_19 rfl ?_
  refine y_initN F (k' := 2) (mc' := 15) (ms' := 731) (y := yX7_init) [.ref s, .ref q] dX9_init_20 rfl (by decide) rfl ⟨GW_1 73 rfl rfl, GW_1 3 rfl rfl, GW_1 74 rfl rfl⟩ rfl (by decide +kernel) (by omega) (by decide) (by decide) (by decide) (Nat.le_of_ble_eq_true rfl) rfl (conC_mono c_init7 ?_)
  rintro ws' ⟨r, a0, a1, a2, a3, a4, a5, a6, a7, u, b0, b1, b2, b3, b4, rfl⟩
  rw [xo_ap]
  refine x_putF F (κ := 0) (ty := .object "VowelChoir$Stage") rfl 1 (by decide) rfl rfl (by decide +kernel) rfl rfl lk_X9_19 dX9_init_23 ?_
  refine y_aload_n F dX9_init_26 rfl ?_
  refine x_new F 3 [.int 0, .int 0, .int 0, .int 0, .null, .null, .null, .null] (by decide +kernel) (GW_1 180 rfl rfl) (GW_1 181 rfl rfl) (GW_1 6 rfl rfl) (by decide) (by decide) dX9_init_27 (fun p => ?_)
  refine y_dup F dX9_init_30 rfl ?_
  refine y_initN F (k' := 1) (mc' := 4) (ms' := 600) (y := yX4_init) [.ref p, .ref q] dX9_init_31 rfl (by decide) rfl ⟨GW_1 183 rfl rfl, GW_1 6 rfl rfl, GW_1 184 rfl rfl⟩ rfl (by decide +kernel) (by omega) (by decide) (by decide) (by decide) (Nat.le_of_ble_eq_true rfl) rfl (conC_mono c_init4 ?_)
  rintro ws' ⟨p0, p1, p2, p3, rfl⟩
  rw [xo_ap]
  refine x_putF F (κ := 0) (ty := .object "VowelChoir$Plan") rfl 2 (by decide) rfl rfl (by decide +kernel) rfl rfl lk_X9_26 dX9_init_34 ?_
  refine y_aload_n F dX9_init_37 rfl ?_
  refine x_new F 4 [.int 0, .null, .null] (by decide +kernel) (GW_1 214 rfl rfl) (GW_1 215 rfl rfl) (GW_1 7 rfl rfl) (by decide) (by decide) dX9_init_38 (fun z => ?_)
  refine y_dup F dX9_init_41 rfl ?_
  refine y_init F (k' := 2) (mc' := 103) (ms' := 968) (y := yX3_init) [.ref z, .ref q] dX9_init_42 rfl ⟨GW_1 216 rfl rfl, GW_1 217 rfl rfl, GW_1 7 rfl rfl, GW_1 218 rfl rfl⟩ rfl (by decide +kernel) (by omega) (by decide) (by decide) (by decide) (Nat.le_of_ble_eq_true rfl) rfl (conC_mono c_init3 ?_)
  rintro ws' ⟨g0, hz, rfl⟩
  subst hz
  rw [xo_ap]
  refine x_putF F (κ := 0) (ty := .object "VowelChoir$Life") rfl 3 (by decide) rfl rfl (by decide +kernel) rfl rfl lk_X9_33 dX9_init_45 ?_
  refine y_aload_n F dX9_init_48 rfl ?_
  refine y_iconst F 3 dX9_init_49 (by decide) ?_
  refine x_newq F (t := 4) (C := "VowelChoir$Life") 3 rfl F.2.2.2.2.2.2.2.2.2.2.2.1 (GW_1 214 rfl rfl) (by decide) rfl (by decide) (by decide) (by decide) dX9_init_50 (fun a => ?_)
  refine x_putF F (κ := 0) (ty := .array (.object "VowelChoir$Life")) rfl 4 (by decide) rfl rfl (by decide +kernel) rfl rfl lk_X9_37 dX9_init_53 ?_
  refine y_aload_n F dX9_init_56 rfl ?_
  refine x_new F 5 [.int 0, .int 0, .int 0, .null, .null, .null, .null, .null] (by decide +kernel) (GW_2 42 rfl rfl) (GW_1 221 rfl rfl) (GW_1 8 rfl rfl) (by decide) (by decide) dX9_init_57 (fun z => ?_)
  refine y_dup F dX9_init_60 rfl ?_
  refine y_initN F (k' := 1) (mc' := 5) (ms' := 48) (y := yX6_init) [.ref z, .ref q] dX9_init_61 rfl (by decide) rfl ⟨GW_1 223 rfl rfl, GW_1 8 rfl rfl, GW_1 224 rfl rfl⟩ rfl (by decide +kernel) (by omega) (by decide) (by decide) (by decide) (Nat.le_of_ble_eq_true rfl) rfl (conC_mono c_scene ?_)
  rintro ws' ⟨f, hz, rfl⟩
  subst hz
  rw [xo_ap]
  refine x_putF F (κ := 0) (ty := .object "VowelChoir$Scene") rfl 5 (by decide) rfl rfl (by decide +kernel) rfl rfl lk_X9_44 dX9_init_64 ?_
  refine y_aload_n F dX9_init_67 rfl ?_
  refine x_new F 6 [.int 0, .null, .null] (by decide +kernel) (GW_2 44 rfl rfl) (GW_2 45 rfl rfl) (GW_1 9 rfl rfl) (by decide) (by decide) dX9_init_68 (fun v => ?_)
  refine y_dup F dX9_init_71 rfl ?_
  refine y_initN F (k' := 1) (mc' := 2) (ms' := 945) (y := yX0_init) [.ref v, .ref q] dX9_init_72 rfl (by decide) rfl ⟨GW_2 47 rfl rfl, GW_1 9 rfl rfl, GW_2 48 rfl rfl⟩ rfl (by decide +kernel) (by omega) (by decide) (by decide) (by decide) (Nat.le_of_ble_eq_true rfl) rfl (conC_mono c_init0 ?_)
  rintro ws' ⟨v0, v1, rfl⟩
  rw [xo_ap]
  refine x_putF F (κ := 0) (ty := .object "VowelChoir$Bench") rfl 6 (by decide) rfl rfl (by decide +kernel) rfl rfl lk_X9_51 dX9_init_75 ?_
  refine y_aload_n F dX9_init_78 rfl ?_
  refine y_bipush F 20 dX9_init_79 (by decide) ?_
  refine x_newi F 20 (by decide) rfl (by decide) (by decide) (by decide) dX9_init_81 (fun y => ?_)
  refine x_putF F (κ := 0) (ty := .array .int) rfl 7 (by decide) rfl rfl (by decide +kernel) rfl rfl lk_X9_55 dX9_init_83 ?_
  refine y_aload_n F dX9_init_86 rfl ?_
  refine x_new F 7 [.int 0, .int 0, .int 0, .int 0, .null, .null, .null, .null, .null, .null, .null, .null] (by decide +kernel) (GW_2 62 rfl rfl) (GW_1 77 rfl rfl) (GW_1 4 rfl rfl) (by decide) (by decide) dX9_init_87 (fun R => ?_)
  refine y_dup F dX9_init_90 rfl ?_
  refine y_initN F (k' := 1) (mc' := 8) (ms' := 105) (y := yX5_init) [.ref R, .ref q] dX9_init_91 rfl (by decide) rfl ⟨GW_1 79 rfl rfl, GW_1 4 rfl rfl, GW_1 80 rfl rfl⟩ rfl (by decide +kernel) (by omega) (by decide) (by decide) (by decide) (Nat.le_of_ble_eq_true rfl) rfl (conC_mono c_init5 ?_)
  rintro ws' ⟨A0, A1, A2, A3, A4, A5, A6, A7, rfl⟩
  rw [xo_ap]
  refine x_put F (κ := 0) (ty := .object "VowelChoir$Roll") rfl 8 (by decide) rfl (by decide +kernel) rfl rfl lk_X9_62 dX9_init_94 ?_
  refine y_aload_n F dX9_init_97 rfl ?_
  refine x_new F 8 [.null, .null, .null, .null, .null, .int 0] (by decide +kernel) (GW_2 64 rfl rfl) (GW_1 145 rfl rfl) (GW_1 5 rfl rfl) (by decide) (by decide) dX9_init_98 (fun U => ?_)
  refine y_dup F dX9_init_101 rfl ?_
  refine y_initN F (k' := 1) (mc' := 5) (ms' := 608) (y := yX2_init) [.ref U, .ref q] dX9_init_102 rfl (by decide) rfl ⟨GW_1 147 rfl rfl, GW_1 5 rfl rfl, GW_1 148 rfl rfl⟩ rfl (by decide +kernel) (by omega) (by decide) (by decide) (by decide) (Nat.le_of_ble_eq_true rfl) rfl (conC_mono c_init2 ?_)
  rintro ws' ⟨B0, B1, B2, B3, B4, rfl⟩
  rw [xo_ap]
  refine x_put F (κ := 0) (ty := .object "VowelChoir$Law") rfl 9 (by decide) rfl (by decide +kernel) rfl rfl lk_X9_69 dX9_init_105 ?_
  refine y_aload_n F dX9_init_108 rfl ?_
  refine x_new F 9 [.int 0, .int 0] (by decide +kernel) (GW_2 66 rfl rfl) (GW_2 67 rfl rfl) (GW_1 10 rfl rfl) (by decide) (by decide) dX9_init_109 (fun k0 => ?_)
  refine y_dup F dX9_init_112 rfl ?_
  refine y_initN F (k' := 1) (mc' := 0) (ms' := 0) (y := yX1_init) [.ref k0, .ref q] dX9_init_113 rfl (by decide) rfl ⟨GW_2 69 rfl rfl, GW_1 10 rfl rfl, GW_2 70 rfl rfl⟩ rfl (by decide +kernel) (by omega) (by decide) (by decide) (by decide) (Nat.le_of_ble_eq_true rfl) rfl (conC_mono c_init1 ?_)
  rintro ws' rfl
  rw [xo_ap]
  refine x_put F (κ := 0) (ty := .object "VowelChoir$Book") rfl 10 (by decide) rfl (by decide +kernel) rfl rfl lk_X9_76 dX9_init_116 ?_
  refine y_aload_n F dX9_init_119 rfl ?_
  refine x_new F 9 [.int 0, .int 0] (by decide +kernel) (GW_2 66 rfl rfl) (GW_2 67 rfl rfl) (GW_1 10 rfl rfl) (by decide) (by decide) dX9_init_120 (fun k1 => ?_)
  refine y_dup F dX9_init_123 rfl ?_
  refine y_initN F (k' := 1) (mc' := 0) (ms' := 0) (y := yX1_init) [.ref k1, .ref q] dX9_init_124 rfl (by decide) rfl ⟨GW_2 69 rfl rfl, GW_1 10 rfl rfl, GW_2 70 rfl rfl⟩ rfl (by decide +kernel) (by omega) (by decide) (by decide) (by decide) (Nat.le_of_ble_eq_true rfl) rfl (conC_mono c_init1 ?_)
  rintro ws' rfl
  rw [xo_ap]
  refine x_put F (κ := 0) (ty := .object "VowelChoir$Book") rfl 11 (by decide) rfl (by decide +kernel) rfl rfl lk_X9_80 dX9_init_127 ?_
  refine y_iconst F 0 dX9_init_130 (by decide) ?_
  refine y_istore_n F dX9_init_131 (by show 1 < 2; decide) ?_
  refine y_eq (lives_loop (X := X) (Y1 := [(t, .inr (kc 1, [.int 0, .int 0, .int (-1), .int 0, .int 0, .int 0, .ref t0])), (t0, bA G 600), (s, .inr (kc 2, [.ref r, .ref u])), (r, .inr (kc 7, [.int 0, .int 0, .int 0, .int 5, .ref a0, .ref a1, .ref a2, .ref a3, .ref a4, .ref a5, .ref a6, .ref a7])), (a0, iA G 7), (a1, iA G 7), (a2, iA G 7), (a3, iA G 20), (a4, iA G 20), (a5, iA G 20), (a6, iA G 12), (a7, iA G 12), (u, .inr (kc 8, [.ref b0, .ref b1, .ref b2, .ref b3, .ref b4, .int 1])), (b0, iA G 8), (b1, iA G 150), (b2, iA G 150), (b3, iA G 150), (b4, iA G 150), (p, .inr (kc 3, [.int 0, .int 0, .int 0, .int 0, .ref p0, .ref p1, .ref p2, .ref p3])), (p0, iA G 150), (p1, iA G 150), (p2, iA G 150), (p3, iA G 150)] ++ lifeW G g0) (Y2 := scn G f ++ [(v, .inr (kc 6, [.int 0, .ref v0, .ref v1])), (v0, iA G 49), (v1, iA G 896), (y, iA G 20), (R, .inr (kc 7, [.int 0, .int 0, .int 0, .int 5, .ref A0, .ref A1, .ref A2, .ref A3, .ref A4, .ref A5, .ref A6, .ref A7])), (A0, iA G 7), (A1, iA G 7), (A2, iA G 7), (A3, iA G 20), (A4, iA G 20), (A5, iA G 20), (A6, iA G 12), (A7, iA G 12), (U, .inr (kc 8, [.ref B0, .ref B1, .ref B2, .ref B3, .ref B4, .int 1])), (B0, iA G 8), (B1, iA G 150), (B2, iA G 150), (B3, iA G 150), (B4, iA G 150), (k0, .inr (kc 9, [.int 0, .int 0])), (k1, .inr (kc 9, [.int 0, .int 0]))]) (q := q) (a := a) (fs := [.ref t, .ref s, .ref p, .ref (g0 17 0), .ref a, .ref (f 0), .ref v, .ref y, .ref R, .ref U, .ref k0, .ref k1, .int 0, .int 0, .int 0, .int 0, .int 0]) (g0 := g0) (g4 := fun _ => f) F hk rfl (fun h h0 h4 => ?_) 3 0 (fun j => if j = 0 then g0 else fun _ => f) (by omega) rfl rfl) rfl rfl ?_
  · have hf : f = h 4 0 := by rw [h4]
    subst hf
    subst h0
    rw [kk_choir]
    refine y_map (c2 := cellK G (adC (mKC t t0 s r a0 a1 a2 a3 a4 a5 a6 a7 u b0 b1 b2 b3 b4 p p0 p1 p2 p3 a v v0 v1 y R A0 A1 A2 A3 A4 A5 A6 A7 U B0 B1 B2 B3 B4 k0 k1 q) h) w0) (fun _ => rfl) k_conv ?_
    exact y_ret F dX9_init_156 (by decide) (by decide) ⟨_, rfl, rfl⟩
  · show X ++ _ :: _ = (X ++ _ :: _) ++ (a, qA G 4 3 (fun k => if k < 0 then _ else none)) :: (_ ++ [])
    simp only [List.append_assoc, List.cons_append, List.nil_append, List.append_nil]
    rfl
