theorem kcl_RL_7 : Cond.classLink RL 7 RX7 ∈ kw := kw_of 51 (by decide +kernel) (by decide +kernel)
theorem kcl_RL_10 : Cond.classLink RL 10 RX8 ∈ kw := kw_of 644 (by decide +kernel) (by decide +kernel)
theorem kin_7 : Cond.instantiable RX7 7 ∈ kw := kw_of 52 (by decide +kernel) (by decide +kernel)
theorem kit_7 : Cond.initialized RX7 ∈ kw := kw_of 40 (by decide +kernel) (by decide +kernel)
theorem kin_8 : Cond.instantiable RX8 26 ∈ kw := kw_of 645 (by decide +kernel) (by decide +kernel)
theorem kit_8 : Cond.initialized RX8 ∈ kw := kw_of 49 (by decide +kernel) (by decide +kernel)
theorem kx_X7_init : Cond.code yX7_init cX7_init 1 none ∈ kw := kw_of 55 (by decide +kernel) (by decide +kernel)
theorem ki_X7_init : Cond.instanceMethod yX7_init ∈ kw := kw_of 54 (by decide +kernel) (by decide +kernel)
theorem km_RL_9 : Cond.methodLink RL 9 yX7_init ∈ kw := kw_of 53 (by decide +kernel) (by decide +kernel)
theorem kx_X8_init : Cond.code yX8_init cX8_init 1 none ∈ kw := kw_of 648 (by decide +kernel) (by decide +kernel)
theorem ki_X8_init : Cond.instanceMethod yX8_init ∈ kw := kw_of 647 (by decide +kernel) (by decide +kernel)
theorem km_RL_12 : Cond.methodLink RL 12 yX8_init ∈ kw := kw_of 646 (by decide +kernel) (by decide +kernel)
theorem tb_over : Cond.arrayOver (.array .int) ∈ lw_tbl := List.mem_of_getElem? (i := 93) (by decide +kernel)
theorem tb_n18 : Cond.methodLinkNest RX7 18 yX4_init RX7 ∈ lw_tbl := List.mem_of_getElem? (i := 88) (by decide +kernel)
theorem tb_n25 : Cond.methodLinkNest RX7 25 yX2_init RX7 ∈ lw_tbl := List.mem_of_getElem? (i := 108) (by decide +kernel)
/-- the memory at first -/
def M0 : Mm := fun c => match c with
  | 1 => fun k => if k = 0 then 6 else 0
  | 8 => fun k => if k = 0 then 6 else 0
  | 9 => fun _ => -1
  | 10 => fun _ => -1
  | 37 => fun _ => -1
  | _ => fun _ => 0
theorem ka_ok0 (t : Nat) : ka_ok t 0 := by
  unfold ka_ok
  split <;> decide
theorem M0_rng : ka_rng M0 := by
  intro c k
  by_cases h1 : c = 1
  · subst h1
    show ka_ok (ka_sty 1 k) (if k = 0 then 6 else 0)
    by_cases hk : k = 0
    · subst hk; exact (by decide : iR 6)
    · rw [if_neg hk]; exact ka_ok0 _
  by_cases h2 : c = 8
  · subst h2
    show ka_ok (ka_sty 8 k) (if k = 0 then 6 else 0)
    by_cases hk : k = 0
    · subst hk; exact (by decide : iR 6)
    · rw [if_neg hk]; exact ka_ok0 _
  by_cases h3 : c = 9
  · subst h3; exact (by decide : iR (-1))
  by_cases h4 : c = 10
  · subst h4; exact (by decide : iR (-1))
  by_cases h5 : c = 37
  · subst h5; exact (by decide : iR (-1))
  have e : M0 c k = 0 := by
    unfold M0
    split <;> first | rfl | (exact absurd rfl (by assumption))
  rw [e]; exact ka_ok0 _
/-- the addresses of the cells -/
def adr (q1 q2 b : Nat) (u1 u2 : Nat → Nat) : Nat → Int → Nat := fun c r => if r = -1 then (if c = 0 then q1 else if c = 8 then q2 else if c < 30 then u1 c else if c < 49 then u2 c else b) else (if c = 0 then q1 else if c = 8 then q2 else if c < 30 then u1 c else if c < 49 then u2 c else b) + 1 + r.toNat
abbrev wAll (cy : Nat → ClassId) (q1 q2 : Nat) (u1 u2 : Nat → Nat) : va_W := wc_X7_init cy q1 u1 ++ wc_X8_init cy q2 u2
def pls : List Nat := [0, 1, 4, 24, 54, 56, 60, 65, 87, 2, 3, 5, 6, 7, 8, 9, 10, 11, 12, 13, 14, 15, 16, 17, 18, 19, 20, 21, 22, 23, 25, 26, 27, 28, 29, 30, 31, 32, 33, 34, 35, 36, 37, 38, 39, 40, 41, 42, 43, 44, 45, 46, 47, 48, 49, 50, 51, 52, 53, 55, 57, 58, 59, 61, 62, 63, 64, 66, 67, 68, 69, 70, 71, 72, 73, 74, 75, 88, 76, 77, 78, 79, 80, 81, 82, 83, 84, 85, 86]
theorem pls_nd : pls.Nodup := by decide
theorem kb_row {D : va_G} {cy : Nat → ClassId} {a n : Nat} {H : Heap} (h : va_at D vwCl (a, .inl (cy 0, n, .inl (fun _ => 0))) H) : va_at D vwCl (a, .inl (cy 0, n, .inl (fun j => if j < n then Int32.ofInt 0 else 0))) H := by
  have e : (fun j : Nat => if j < n then Int32.ofInt 0 else 0) = fun _ => 0 := by
    funext j
    by_cases hj : j < n
    · rw [if_pos hj]; rfl
    · rw [if_neg hj]
  rw [e]; exact h
theorem ka_cells_eq : ka_cells = [(0, -1), (1, -1), (2, -1), (3, -1), (4, -1), (5, -1), (6, -1), (7, -1), (8, -1), (9, -1), (10, -1), (11, -1), (11, 0), (11, 1), (11, 2), (11, 3), (11, 4), (11, 5), (12, -1), (13, -1), (13, 0), (13, 1), (13, 2), (13, 3), (13, 4), (13, 5), (13, 6), (13, 7), (13, 8), (13, 9), (14, -1), (15, -1), (16, -1), (16, 0), (16, 1), (16, 2), (16, 3), (16, 4), (16, 5), (16, 6), (16, 7), (16, 8), (16, 9), (16, 10), (16, 11), (17, -1), (17, 0), (17, 1), (17, 2), (17, 3), (17, 4), (17, 5), (17, 6), (17, 7), (17, 8), (17, 9), (17, 10), (17, 11), (18, -1), (19, -1), (20, -1), (21, -1), (22, -1), (23, -1), (24, -1), (25, -1), (26, -1), (27, -1), (28, -1), (29, -1), (30, -1), (31, -1), (32, -1), (33, -1), (34, -1), (35, -1), (36, -1), (37, -1), (38, -1), (39, -1), (40, -1), (41, -1), (42, -1), (43, -1), (44, -1), (45, -1), (46, -1), (47, -1), (48, -1)] := by decide +kernel
set_option maxRecDepth 100000 in
set_option maxHeartbeats 4000000 in
theorem pls_ok (cy : Nat → ClassId) (q1 q2 b : Nat) (u1 u2 : Nat → Nat) : pls.map (fun i => ((wAll cy q1 q2 u1 u2)[i]?).map Prod.fst) = ka_cells.map (fun x => some (adr q1 q2 b u1 u2 x.1 x.2)) := by
  rw [ka_cells_eq]
  rfl
set_option maxRecDepth 100000 in
set_option maxHeartbeats 4000000 in
theorem gm_all {cy : Nat → ClassId} {A : Nat → Prop} {q1 q2 : Nat} (b : Nat) {u1 u2 : Nat → Nat} (hD : va_D A (wAll cy q1 q2 u1 u2)) : Gm (adr q1 q2 b u1 u2) ∧ ∀ q, Ar (adr q1 q2 b u1 u2) q → A q := by
  have key : ∀ (k : Nat) (x : Nat × Int), ka_cells[k]? = some x → ∃ (i : Nat) (z : Nat × va_E), pls[k]? = some i ∧ (wAll cy q1 q2 u1 u2)[i]? = some z ∧ z.1 = adr q1 q2 b u1 u2 x.1 x.2 := by
    intro k x hx
    have h : (pls.map (fun i => ((wAll cy q1 q2 u1 u2)[i]?).map Prod.fst))[k]? = some (some (adr q1 q2 b u1 u2 x.1 x.2)) := by
      rw [pls_ok cy q1 q2 b u1 u2, List.getElem?_map, hx]; rfl
    rw [List.getElem?_map] at h
    cases hi : pls[k]? with
    | none => rw [hi] at h; cases h
    | some i =>
      rw [hi] at h
      have h : ((wAll cy q1 q2 u1 u2)[i]?).map Prod.fst = some (adr q1 q2 b u1 u2 x.1 x.2) := Option.some.inj h
      cases hz : (wAll cy q1 q2 u1 u2)[i]? with
      | none => rw [hz] at h; cases h
      | some z => rw [hz] at h; exact ⟨i, z, rfl, hz, Option.some.inj h⟩
  refine ⟨fun x hx y hy e => ?_, fun q hq => ?_⟩
  · obtain ⟨k1, hk1⟩ := List.getElem?_of_mem hx
    obtain ⟨k2, hk2⟩ := List.getElem?_of_mem hy
    obtain ⟨i1, z1, a1, a2, a3⟩ := key k1 x hk1
    obtain ⟨i2, z2, b1, b2, b3⟩ := key k2 y hk2
    have hi : i1 = i2 := hD.1 i1 i2 z1 z2 a2 b2 (a3.trans (e.trans b3.symm))
    subst hi
    have hk : k1 = k2 := (List.getElem?_inj (List.getElem?_eq_some_iff.mp a1).1 pls_nd).mp (a1.trans b1.symm)
    subst hk
    exact Option.some.inj (hk1.symm.trans hk2)
  · obtain ⟨x, hx, rfl⟩ := hq
    obtain ⟨k, hk⟩ := List.getElem?_of_mem hx
    obtain ⟨i, z, h1, h2, h3⟩ := key k x hk
    rw [← h3]
    exact hD.2 i z h2
set_option maxRecDepth 100000 in
set_option maxHeartbeats 4000000 in
theorem wd_all {D : va_G} {cy : Nat → ClassId} {q1 q2 : Nat} (b : Nat) {u1 u2 : Nat → Nat} {H : Heap} (hP : va_P D vwCl (wAll cy q1 q2 u1 u2) H) : Wd D cy (adr q1 q2 b u1 u2) M0 H := by
  refine ⟨fun k q hk => ?_, M0_rng⟩
  have hall : ∀ x ∈ ka_cells, va_at D vwCl (adr q1 q2 b u1 u2 x.1 x.2, ka_ct cy (adr q1 q2 b u1 u2) (M0 x.1) x.1 x.2) H := by
    rw [ka_cells_eq]
    exact List.forall_mem_cons.mpr ⟨hP 0 _ rfl, List.forall_mem_cons.mpr ⟨hP 1 _ rfl, List.forall_mem_cons.mpr ⟨hP 4 _ rfl, List.forall_mem_cons.mpr ⟨hP 24 _ rfl, List.forall_mem_cons.mpr ⟨hP 54 _ rfl, List.forall_mem_cons.mpr ⟨hP 56 _ rfl, List.forall_mem_cons.mpr ⟨hP 60 _ rfl, List.forall_mem_cons.mpr ⟨hP 65 _ rfl, List.forall_mem_cons.mpr ⟨hP 87 _ rfl, List.forall_mem_cons.mpr ⟨hP 2 _ rfl, List.forall_mem_cons.mpr ⟨hP 3 _ rfl, List.forall_mem_cons.mpr ⟨hP 5 _ rfl, List.forall_mem_cons.mpr ⟨kb_row (hP 6 _ rfl), List.forall_mem_cons.mpr ⟨kb_row (hP 7 _ rfl), List.forall_mem_cons.mpr ⟨kb_row (hP 8 _ rfl), List.forall_mem_cons.mpr ⟨kb_row (hP 9 _ rfl), List.forall_mem_cons.mpr ⟨kb_row (hP 10 _ rfl), List.forall_mem_cons.mpr ⟨kb_row (hP 11 _ rfl), List.forall_mem_cons.mpr ⟨hP 12 _ rfl, List.forall_mem_cons.mpr ⟨hP 13 _ rfl, List.forall_mem_cons.mpr ⟨kb_row (hP 14 _ rfl), List.forall_mem_cons.mpr ⟨kb_row (hP 15 _ rfl), List.forall_mem_cons.mpr ⟨kb_row (hP 16 _ rfl), List.forall_mem_cons.mpr ⟨kb_row (hP 17 _ rfl), List.forall_mem_cons.mpr ⟨kb_row (hP 18 _ rfl), List.forall_mem_cons.mpr ⟨kb_row (hP 19 _ rfl), List.forall_mem_cons.mpr ⟨kb_row (hP 20 _ rfl), List.forall_mem_cons.mpr ⟨kb_row (hP 21 _ rfl), List.forall_mem_cons.mpr ⟨kb_row (hP 22 _ rfl), List.forall_mem_cons.mpr ⟨kb_row (hP 23 _ rfl), List.forall_mem_cons.mpr ⟨hP 25 _ rfl, List.forall_mem_cons.mpr ⟨hP 26 _ rfl, List.forall_mem_cons.mpr ⟨hP 27 _ rfl, List.forall_mem_cons.mpr ⟨kb_row (hP 28 _ rfl), List.forall_mem_cons.mpr ⟨kb_row (hP 29 _ rfl), List.forall_mem_cons.mpr ⟨kb_row (hP 30 _ rfl), List.forall_mem_cons.mpr ⟨kb_row (hP 31 _ rfl), List.forall_mem_cons.mpr ⟨kb_row (hP 32 _ rfl), List.forall_mem_cons.mpr ⟨kb_row (hP 33 _ rfl), List.forall_mem_cons.mpr ⟨kb_row (hP 34 _ rfl), List.forall_mem_cons.mpr ⟨kb_row (hP 35 _ rfl), List.forall_mem_cons.mpr ⟨kb_row (hP 36 _ rfl), List.forall_mem_cons.mpr ⟨kb_row (hP 37 _ rfl), List.forall_mem_cons.mpr ⟨kb_row (hP 38 _ rfl), List.forall_mem_cons.mpr ⟨kb_row (hP 39 _ rfl), List.forall_mem_cons.mpr ⟨hP 40 _ rfl, List.forall_mem_cons.mpr ⟨kb_row (hP 41 _ rfl), List.forall_mem_cons.mpr ⟨kb_row (hP 42 _ rfl), List.forall_mem_cons.mpr ⟨kb_row (hP 43 _ rfl), List.forall_mem_cons.mpr ⟨kb_row (hP 44 _ rfl), List.forall_mem_cons.mpr ⟨kb_row (hP 45 _ rfl), List.forall_mem_cons.mpr ⟨kb_row (hP 46 _ rfl), List.forall_mem_cons.mpr ⟨kb_row (hP 47 _ rfl), List.forall_mem_cons.mpr ⟨kb_row (hP 48 _ rfl), List.forall_mem_cons.mpr ⟨kb_row (hP 49 _ rfl), List.forall_mem_cons.mpr ⟨kb_row (hP 50 _ rfl), List.forall_mem_cons.mpr ⟨kb_row (hP 51 _ rfl), List.forall_mem_cons.mpr ⟨kb_row (hP 52 _ rfl), List.forall_mem_cons.mpr ⟨hP 53 _ rfl, List.forall_mem_cons.mpr ⟨hP 55 _ rfl, List.forall_mem_cons.mpr ⟨hP 57 _ rfl, List.forall_mem_cons.mpr ⟨hP 58 _ rfl, List.forall_mem_cons.mpr ⟨hP 59 _ rfl, List.forall_mem_cons.mpr ⟨hP 61 _ rfl, List.forall_mem_cons.mpr ⟨hP 62 _ rfl, List.forall_mem_cons.mpr ⟨hP 63 _ rfl, List.forall_mem_cons.mpr ⟨hP 64 _ rfl, List.forall_mem_cons.mpr ⟨hP 66 _ rfl, List.forall_mem_cons.mpr ⟨hP 67 _ rfl, List.forall_mem_cons.mpr ⟨hP 68 _ rfl, List.forall_mem_cons.mpr ⟨hP 69 _ rfl, List.forall_mem_cons.mpr ⟨hP 70 _ rfl, List.forall_mem_cons.mpr ⟨hP 71 _ rfl, List.forall_mem_cons.mpr ⟨hP 72 _ rfl, List.forall_mem_cons.mpr ⟨hP 73 _ rfl, List.forall_mem_cons.mpr ⟨hP 74 _ rfl, List.forall_mem_cons.mpr ⟨hP 75 _ rfl, List.forall_mem_cons.mpr ⟨hP 88 _ rfl, List.forall_mem_cons.mpr ⟨hP 76 _ rfl, List.forall_mem_cons.mpr ⟨hP 77 _ rfl, List.forall_mem_cons.mpr ⟨hP 78 _ rfl, List.forall_mem_cons.mpr ⟨hP 79 _ rfl, List.forall_mem_cons.mpr ⟨hP 80 _ rfl, List.forall_mem_cons.mpr ⟨hP 81 _ rfl, List.forall_mem_cons.mpr ⟨hP 82 _ rfl, List.forall_mem_cons.mpr ⟨hP 83 _ rfl, List.forall_mem_cons.mpr ⟨hP 84 _ rfl, List.forall_mem_cons.mpr ⟨hP 85 _ rfl, List.forall_mem_cons.mpr ⟨hP 86 _ rfl, fun _ h => absurd h List.not_mem_nil⟩⟩⟩⟩⟩⟩⟩⟩⟩⟩⟩⟩⟩⟩⟩⟩⟩⟩⟩⟩⟩⟩⟩⟩⟩⟩⟩⟩⟩⟩⟩⟩⟩⟩⟩⟩⟩⟩⟩⟩⟩⟩⟩⟩⟩⟩⟩⟩⟩⟩⟩⟩⟩⟩⟩⟩⟩⟩⟩⟩⟩⟩⟩⟩⟩⟩⟩⟩⟩⟩⟩⟩⟩⟩⟩⟩⟩⟩⟩⟩⟩⟩⟩⟩⟩⟩⟩⟩⟩
  unfold ka_ws at hk
  rw [List.getElem?_map] at hk
  cases hx : ka_cells[k]? with
  | none => rw [hx] at hk; cases hk
  | some x =>
    rw [hx] at hk
    cases hk
    exact hall x (List.mem_of_getElem? hx)
