/-- the tables' words that stay -/
def kw : List Cond := lw_tbl.filter goodWord
theorem kw_of {w : Cond} (i : Nat) (h : lw_tbl[i]? = some w) (hg : goodWord w = true) : w ∈ kw := List.mem_filter.mpr ⟨List.mem_of_getElem? h, hg⟩
theorem kw_good : ∀ w ∈ kw, (w.onTables && w.keeps) = true ∨ ∃ ty, w = .arrayClass ty := fun w h => good_of_word (List.mem_filter.mp h).2
theorem kw_in : ∀ w ∈ kw, w ∈ lw_tbl := fun w h => (List.mem_filter.mp h).1
/-! THE ABSTRACT LAYER: values are Ints, the cells of class and reference have fixed numbers, one memory M : cell -> slot -> Int -/
abbrev AV : Type := Int ⊕ (Int ⊕ (Nat × Int))
abbrev aI (i : Int) : AV := Sum.inl i
abbrev aL (i : Int) : AV := Sum.inr (Sum.inl i)
/-- a cell; a row of a cell of two dimensions -/
abbrev aR (c : Nat) : AV := Sum.inr (Sum.inr (c, -1))
abbrev aW (c : Nat) (r : Int) : AV := Sum.inr (Sum.inr (c, r))
abbrev Mm : Type := Nat → Int → Int
def gam (ad : Nat → Int → Nat) (v : AV) : Value := match v with
  | .inl i => .int (Int32.ofInt i)
  | .inr (.inl i) => .long (Int64.ofInt i)
  | .inr (.inr x) => .ref (ad x.1 x.2)
def fu {ι α : Type} [DecidableEq ι] (f : ι → α) (k : ι) (v : α) : ι → α := fun j => if j = k then v else f j
theorem fu_ap {ι α : Type} [DecidableEq ι] (f : ι → α) (k : ι) (v : α) (j : ι) : fu f k v j = if j = k then v else f j := rfl
theorem fu_s {ι α : Type} [DecidableEq ι] (f : ι → α) (k : ι) (v : α) : fu f k v k = v := if_pos rfl
theorem fu_n {ι α : Type} [DecidableEq ι] (f : ι → α) {k j : ι} (v : α) (h : j ≠ k) : fu f k v j = f j := if_neg h
/-- slot k of cell c becomes v -/
def mset (M : Mm) (c : Nat) (k v : Int) : Mm := fu M c (fu (M c) k v)
abbrev iR (x : Int) : Prop := -2147483648 ≤ x ∧ x ≤ 2147483647
abbrev lR (x : Int) : Prop := -9223372036854775808 ≤ x ∧ x ≤ 9223372036854775807
abbrev bR (x : Int) : Prop := 0 ≤ x ∧ x ≤ 1
abbrev Ly : Type := (Nat × List (Nat × Nat)) ⊕ (Nat × Nat × Nat)
theorem ka_ii {a : Int} (h : iR a) : (Int32.ofInt a).toInt = a := by
  rw [Int32.toInt_ofInt, Int.bmod_eq_of_le]
  · have := h.1; simp; omega
  · have := h.2; simp; omega
theorem ka_ll {a : Int} (h : lR a) : (Int64.ofInt a).toInt = a := by
  rw [Int64.toInt_ofInt, Int.bmod_eq_of_le]
  · have := h.1; simp; omega
  · have := h.2; simp; omega
theorem ka_lt {a b : Int} (ha : iR a) (hb : iR b) : Int32.ofInt a < Int32.ofInt b ↔ a < b := by rw [Int32.lt_iff_toInt_lt, ka_ii ha, ka_ii hb]
theorem ka_le {a b : Int} (ha : iR a) (hb : iR b) : Int32.ofInt a ≤ Int32.ofInt b ↔ a ≤ b := by rw [Int32.le_iff_toInt_le, ka_ii ha, ka_ii hb]
theorem ka_eq {a b : Int} (ha : iR a) (hb : iR b) : Int32.ofInt a = Int32.ofInt b ↔ a = b := by
  constructor
  · intro h
    rw [← ka_ii ha, ← ka_ii hb, h]
  · intro h; rw [h]
theorem ka_z : (0 : Int32) = Int32.ofInt 0 := rfl
theorem ka_zr : iR 0 := by decide
theorem ka_clamp {j : Int} (h0 : 0 ≤ j) (h : j < 2147483648) : (((Int32.ofInt j).toNatClampNeg : Nat) : Int) = j := by
  have h1 : (Int32.ofInt j).toInt = j := ka_ii ⟨by omega, by omega⟩
  have h2 : (Int32.ofInt j).toNatClampNeg = (Int32.ofInt j).toInt.toNat := rfl
  rw [h2, h1]; omega
theorem ka_in {j : Int} {n : Nat} (h0 : 0 ≤ j) (h : j < n) (hn : (n : Int) < 2147483648) : vp_in (Int32.ofInt j) n := by
  intro q
  rcases q with q | q
  · rw [ka_z, ka_lt ⟨by omega, by omega⟩ ka_zr] at q; omega
  · have := ka_clamp h0 (by omega); omega
/-! locals -/
def ka_loc (ad : Nat → Int → Nat) (nL : Nat) (lc : Array Slot) (ls : List (Option AV)) : Prop := lc.size = nL ∧ lv_wf lc ∧ ∀ (i : Nat) (v : AV), ls[i]? = some (some v) → lc[i]? = some (.val (gam ad v))
def ka_prs (ad : Nat → Int → Nat) (ls : List (Option AV)) : List (Nat × Value) := (List.range ls.length).filterMap (fun i => match ls[i]? with
  | some (some v) => some (i, gam ad v)
  | _ => none)
theorem ka_prs_mem {ad : Nat → Int → Nat} {ls : List (Option AV)} {q : Nat × Value} : q ∈ ka_prs ad ls ↔ ∃ v, ls[q.1]? = some (some v) ∧ q.2 = gam ad v := by
  unfold ka_prs
  rw [List.mem_filterMap]
  constructor
  · rintro ⟨i, -, h⟩
    split at h
    · rename_i v hv
      cases h
      exact ⟨v, hv, rfl⟩
    · cases h
  · rintro ⟨v, hv, e⟩
    have hl := (List.getElem?_eq_some_iff.mp hv).1
    refine ⟨q.1, List.mem_range.mpr hl, ?_⟩
    rw [hv]
    show some (q.1, gam ad v) = some q
    rw [← e]
theorem ka_loc_has {ad : Nat → Int → Nat} {nL : Nat} {lc : Array Slot} {ls : List (Option AV)} (h : ka_loc ad nL lc ls) : lv_has lc nL (ka_prs ad ls) := by
  refine ⟨h.1, h.2.1, fun q hq => ?_⟩
  obtain ⟨v, hv, e⟩ := ka_prs_mem.mp hq
  rw [e]
  exact h.2.2 _ _ hv
def ka_cut (x : Option AV) : Option AV := match x with
  | some (.inr (.inl _)) => none
  | y => y
/-- storing a value of one slot -/
def ka_st1 (v : AV) : Nat → List (Option AV) → List (Option AV)
  | _, [] => []
  | 0, _ :: l => some v :: l
  | 1, x :: l => ka_cut x :: ka_st1 v 0 l
  | n + 2, x :: l => x :: ka_st1 v (n + 1) l
/-- storing a long -/
def ka_hd (l : List (Option AV)) : List (Option AV) := match l with
  | [] => []
  | _ :: l => none :: l
def ka_st2 (v : AV) : Nat → List (Option AV) → List (Option AV)
  | _, [] => []
  | 0, _ :: l => some v :: ka_hd l
  | 1, x :: l => ka_cut x :: ka_st2 v 0 l
  | n + 2, x :: l => x :: ka_st2 v (n + 1) l
theorem ka_cut_some {x : Option AV} {w : AV} (h : ka_cut x = some w) : x = some w ∧ ¬ ∃ z, w = aL z := by
  unfold ka_cut at h
  split at h
  · cases h
  · rename_i hn
    refine ⟨h, ?_⟩
    rintro ⟨z, rfl⟩
    exact hn z h
theorem ka_st1_spec {v : AV} : ∀ (i : Nat) (ls : List (Option AV)) (j : Nat) (w : AV), (ka_st1 v i ls)[j]? = some (some w) → (j = i ∧ w = v) ∨ (j ≠ i ∧ ls[j]? = some (some w) ∧ ¬ (j + 1 = i ∧ ∃ z, w = aL z)) := by
  intro i
  induction i with
  | zero =>
    intro ls j w h
    cases ls with
    | nil => simp [ka_st1] at h
    | cons x l =>
      cases j with
      | zero => simp [ka_st1] at h; exact Or.inl ⟨rfl, h.symm⟩
      | succ j =>
        simp only [ka_st1, List.getElem?_cons_succ] at h
        exact Or.inr ⟨by omega, by simpa using h, by omega⟩
  | succ n ih =>
    intro ls j w h
    cases ls with
    | nil => simp [ka_st1] at h
    | cons x l =>
      cases j with
      | zero =>
        cases n with
        | zero =>
          simp only [ka_st1, List.getElem?_cons_zero] at h
          obtain ⟨h1, h2⟩ := ka_cut_some (Option.some.inj h)
          exact Or.inr ⟨by omega, by simp [h1], fun q => h2 q.2⟩
        | succ n =>
          simp only [ka_st1, List.getElem?_cons_zero] at h
          exact Or.inr ⟨by omega, by simpa using h, by omega⟩
      | succ j =>
        have h : (ka_st1 v n l)[j]? = some (some w) := by cases n <;> simpa only [ka_st1, List.getElem?_cons_succ] using h
        rcases ih l j w h with ⟨a, b⟩ | ⟨a, b, c⟩
        · exact Or.inl ⟨by omega, b⟩
        · exact Or.inr ⟨by omega, by simpa using b, fun q => c ⟨by omega, q.2⟩⟩
theorem ka_st2_spec {v : AV} : ∀ (i : Nat) (ls : List (Option AV)) (j : Nat) (w : AV), (ka_st2 v i ls)[j]? = some (some w) → (j = i ∧ w = v) ∨ (j ≠ i ∧ j ≠ i + 1 ∧ ls[j]? = some (some w) ∧ ¬ (j + 1 = i ∧ ∃ z, w = aL z)) := by
  intro i
  induction i with
  | zero =>
    intro ls j w h
    cases ls with
    | nil => simp [ka_st2] at h
    | cons x l =>
      match j, h with
      | 0, h => simp [ka_st2] at h; exact Or.inl ⟨rfl, h.symm⟩
      | 1, h =>
        cases l with
        | nil => simp [ka_st2, ka_hd] at h
        | cons y l => simp [ka_st2, ka_hd] at h
      | j + 2, h =>
        cases l with
        | nil => simp [ka_st2, ka_hd] at h
        | cons y l =>
          simp only [ka_st2, ka_hd, List.getElem?_cons_succ] at h
          exact Or.inr ⟨by omega, by omega, by simpa using h, by omega⟩
  | succ n ih =>
    intro ls j w h
    cases ls with
    | nil => simp [ka_st2] at h
    | cons x l =>
      cases j with
      | zero =>
        cases n with
        | zero =>
          have h : some (ka_cut x) = some (some w) := h
          obtain ⟨h1, h2⟩ := ka_cut_some (Option.some.inj h)
          exact Or.inr ⟨by omega, by omega, by simp [h1], fun q => h2 q.2⟩
        | succ n =>
          have h : some x = some (some w) := h
          exact Or.inr ⟨by omega, by omega, by simpa using h, by omega⟩
      | succ j =>
        have h : (ka_st2 v n l)[j]? = some (some w) := by
          cases n with
          | zero => exact h
          | succ n => exact h
        rcases ih l j w h with ⟨a, b⟩ | ⟨a, a2, b, c⟩
        · exact Or.inl ⟨by omega, b⟩
        · exact Or.inr ⟨by omega, by omega, by simpa using b, fun q => c ⟨by omega, q.2⟩⟩
theorem ka_cat2 {ad : Nat → Int → Nat} {w : AV} : (gam ad w).category = 2 ↔ ∃ z, w = aL z := by
  match w with
  | .inl i => simp [gam, Value.category]
  | .inr (.inl i) => simp [gam, Value.category]
  | .inr (.inr x) => simp [gam, Value.category]
theorem ka_loc1 {ad : Nat → Int → Nat} {nL i : Nat} {lc' : Array Slot} {ls : List (Option AV)} {v : AV} (h : lv_has lc' nL ((i, gam ad v) :: (ka_prs ad ls).filter (fun q => !(q.1 == i) && !(q.1 + 1 == i && q.2.category == 2)))) : ka_loc ad nL lc' (ka_st1 v i ls) := by
  refine ⟨h.1, h.2.1, fun j w hj => ?_⟩
  rcases ka_st1_spec i ls j w hj with ⟨rfl, rfl⟩ | ⟨a, b, c⟩
  · exact h.2.2 (j, gam ad w) List.mem_cons_self
  · refine h.2.2 (j, gam ad w) (List.mem_cons_of_mem _ (List.mem_filter.mpr ⟨ka_prs_mem.mpr ⟨w, b, rfl⟩, ?_⟩))
    have c' : ¬ (j + 1 = i ∧ (gam ad w).category = 2) := fun q => c ⟨q.1, ka_cat2.mp q.2⟩
    simp only [Bool.and_eq_true, Bool.not_eq_true', beq_eq_false_iff_ne, ne_eq, Bool.and_eq_false_iff]
    refine ⟨a, ?_⟩
    by_cases h1 : j + 1 = i
    · exact Or.inr (fun q => c' ⟨h1, q⟩)
    · exact Or.inl h1
theorem ka_loc2 {ad : Nat → Int → Nat} {nL i : Nat} {lc' : Array Slot} {ls : List (Option AV)} {v : AV} (h : lv_has lc' nL ((i, gam ad v) :: (ka_prs ad ls).filter (fun q => !(q.1 == i) && (!(q.1 == i + 1) && !(q.1 + 1 == i && q.2.category == 2))))) : ka_loc ad nL lc' (ka_st2 v i ls) := by
  refine ⟨h.1, h.2.1, fun j w hj => ?_⟩
  rcases ka_st2_spec i ls j w hj with ⟨rfl, rfl⟩ | ⟨a, a2, b, c⟩
  · exact h.2.2 (j, gam ad w) List.mem_cons_self
  · refine h.2.2 (j, gam ad w) (List.mem_cons_of_mem _ (List.mem_filter.mpr ⟨ka_prs_mem.mpr ⟨w, b, rfl⟩, ?_⟩))
    have c' : ¬ (j + 1 = i ∧ (gam ad w).category = 2) := fun q => c ⟨q.1, ka_cat2.mp q.2⟩
    simp only [Bool.and_eq_true, Bool.not_eq_true', beq_eq_false_iff_ne, ne_eq, Bool.and_eq_false_iff]
    refine ⟨a, a2, ?_⟩
    by_cases h1 : j + 1 = i
    · exact Or.inr (fun q => c' ⟨h1, q⟩)
    · exact Or.inl h1
def layL : List Ly := [
  .inl (7, [(3, 1), (3, 2), (3, 3), (3, 4), (3, 5), (3, 6), (3, 7)]),
  .inl (3, [(0, 0), (3, 9), (3, 10)]),
  .inl (4, [(3, 11), (3, 12), (3, 13)]),
  .inl (2, [(0, 0), (3, 14), (3, 15), (3, 16), (3, 17), (3, 18), (0, 0)]),
  .inl (5, [(3, 1), (3, 3), (3, 13), (3, 19), (2, 0), (1, 0), (0, 0), (0, 0)]),
  .inl (1, [(3, 1), (3, 3), (3, 13), (3, 20), (3, 21), (2, 0), (3, 22), (2, 0), (1, 0), (0, 0)]),
  .inl (0, [(3, 1), (3, 3), (3, 13), (3, 23), (3, 24), (3, 25), (3, 26)]),
  .inl (6, [(3, 3), (3, 27), (3, 28), (3, 29)]),
  .inl (8, [(0, 0), (3, 30), (3, 31), (3, 32), (3, 33), (0, 0), (3, 34), (3, 35), (3, 36), (3, 37), (2, 0), (3, 38), (2, 0), (3, 39), (1, 0), (0, 0), (0, 0), (3, 40), (3, 41), (3, 42), (3, 43), (3, 44), (3, 45), (3, 46), (3, 47), (3, 48)]),
  .inr (0, 0, 10),
  .inr (0, 0, 12),
  .inr (0, 6, 300),
  .inr (0, 0, 6),
  .inr (0, 10, 10),
  .inr (0, 0, 12),
  .inr (0, 0, 12),
  .inr (0, 12, 12),
  .inr (0, 12, 12),
  .inr (0, 0, 3),
  .inr (0, 0, 10),
  .inr (0, 0, 10),
  .inr (2, 0, 12),
  .inr (0, 0, 10),
  .inr (0, 0, 10),
  .inr (0, 0, 12),
  .inr (1, 0, 10),
  .inr (1, 0, 1024),
  .inr (0, 0, 7),
  .inr (0, 0, 7),
  .inr (2, 0, 7),
  .inr (2, 0, 6),
  .inr (0, 0, 6),
  .inr (0, 0, 1800),
  .inr (0, 0, 100),
  .inr (0, 0, 12),
  .inr (0, 0, 12),
  .inr (0, 0, 144),
  .inr (0, 0, 10),
  .inr (0, 0, 10),
  .inr (0, 0, 10),
  .inr (0, 0, 3),
  .inr (0, 0, 10),
  .inr (1, 0, 11),
  .inr (0, 0, 10),
  .inr (0, 0, 12),
  .inr (1, 0, 4096),
  .inr (0, 0, 4096),
  .inr (1, 0, 120),
  .inr (0, 0, 7)]
def lay (c : Nat) : Ly := (layL[c]?).getD (.inr (0, 0, 0))
/-! the world -/
def ka_fa (f : Int → Int) (k : Int) (t z : Nat) : AV := match t with
  | 0 => aI (f k)
  | 1 => aL (f k)
  | 2 => aI (f k)
  | _ => aR z
def ka_fs (f : Int → Int) : Nat → List (Nat × Nat) → List AV
  | _, [] => []
  | k, x :: l => ka_fa f (k : Int) x.1 x.2 :: ka_fs f (k + 1) l
theorem ka_fs_at (f : Int → Int) : ∀ (l : List (Nat × Nat)) (k0 k : Nat), (ka_fs f k0 l)[k]? = (l[k]?).map (fun x => ka_fa f ((k0 + k : Nat) : Int) x.1 x.2) := by
  intro l
  induction l with
  | nil => intro k0 k; simp [ka_fs]
  | cons x l ih =>
    intro k0 k
    cases k with
    | zero => simp [ka_fs]
    | succ k =>
      simp only [ka_fs, List.getElem?_cons_succ]
      rw [ih (k0 + 1) k, show k0 + 1 + k = k0 + (k + 1) by omega]
theorem ka_fs_len (f : Int → Int) : ∀ (l : List (Nat × Nat)) (k0 : Nat), (ka_fs f k0 l).length = l.length := by
  intro l
  induction l with
  | nil => intro k0; rfl
  | cons x l ih => intro k0; simp [ka_fs, ih]
def ka_ct (cy : Nat → ClassId) (ad : Nat → Int → Nat) (f : Int → Int) (c : Nat) (r : Int) : va_E := match lay c with
  | .inl (ci, fds) => .inr (ci, (ka_fs f 0 fds).map (gam ad))
  | .inr (1, 0, n) => .inl (cy 1, n, .inr (.inl (fun j => Int64.ofInt (f j))))
  | .inr (t, 0, n) => .inl (cy t, n, .inl (fun j => Int32.ofInt (f j)))
  | .inr (_, k + 1, n) => if r = -1 then .inl (cy 3, k + 1, .inr (.inr (.inr (.inr (fun i => if i < k + 1 then some (ad c i) else none))))) else .inl (cy 0, n, .inl (fun j => if j < n then Int32.ofInt (f (n * r + j)) else 0))
def ka_rows (c : Nat) : Nat := match lay c with
  | .inl _ => 0
  | .inr x => x.2.1
def ka_cells : List (Nat × Int) := (List.range 49).flatMap (fun c => (c, -1) :: (List.range (ka_rows c)).map (fun (r : Nat) => (c, (r : Int))))
theorem ka_mem {c : Nat} {r : Int} : (c, r) ∈ ka_cells ↔ c < 49 ∧ (r = -1 ∨ (0 ≤ r ∧ r < ka_rows c)) := by
  unfold ka_cells
  simp only [List.mem_flatMap, List.mem_range, List.mem_cons, List.mem_map, Prod.mk.injEq]
  constructor
  · rintro ⟨c', hc, h⟩
    rcases h with ⟨rfl, rfl⟩ | ⟨r', hr, rfl, rfl⟩
    · exact ⟨hc, Or.inl rfl⟩
    · exact ⟨hc, Or.inr ⟨by omega, by omega⟩⟩
  · rintro ⟨hc, h⟩
    refine ⟨c, hc, ?_⟩
    rcases h with rfl | ⟨h1, h2⟩
    · exact Or.inl ⟨rfl, rfl⟩
    · exact Or.inr ⟨r.toNat, by omega, rfl, by omega⟩
theorem ka_nd : ka_cells.Nodup := by decide +kernel
def ka_ws (cy : Nat → ClassId) (ad : Nat → Int → Nat) (M : Mm) : va_W := ka_cells.map (fun x => (ad x.1 x.2, ka_ct cy ad (M x.1) x.1 x.2))
def ka_tys (cy : Nat → ClassId) : List (ClassId × FieldType) := [(cy 0, .int), (cy 1, .long), (cy 2, .boolean), (cy 3, .array .int)]
def ka_sty (c : Nat) (k : Int) : Nat := match lay c with
  | .inl (_, fds) => ((fds[k.toNat]?).map (fun x => x.1)).getD 3
  | .inr x => x.1
def ka_ok (t : Nat) (x : Int) : Prop := match t with
  | 0 => iR x
  | 1 => lR x
  | 2 => bR x
  | _ => True
def ka_rng (M : Mm) : Prop := ∀ (c : Nat) (k : Int), ka_ok (ka_sty c k) (M c k)
/-- the heap holds the memory M -/
def Wd (D : va_G) (cy : Nat → ClassId) (ad : Nat → Int → Nat) (M : Mm) (H : Heap) : Prop := va_P D vwCl (ka_ws cy ad M) H ∧ ka_rng M
def Gm (ad : Nat → Int → Nat) : Prop := ∀ x ∈ ka_cells, ∀ y ∈ ka_cells, ad x.1 x.2 = ad y.1 y.2 → x = y
def Ar (ad : Nat → Int → Nat) : Nat → Prop := fun q => ∃ x ∈ ka_cells, q = ad x.1 x.2
abbrev Kk (D : va_G) (cy : Nat → ClassId) (U : State) : Prop := va_K D vwCl (ka_tys cy) U
theorem ka_place {cy : Nat → ClassId} {ad : Nat → Int → Nat} (M : Mm) {c : Nat} {r : Int} (h : (c, r) ∈ ka_cells) : ∃ q0 : Nat, ka_cells[q0]? = some (c, r) ∧ (ka_ws cy ad M)[q0]? = some (ad c r, ka_ct cy ad (M c) c r) := by
  obtain ⟨q0, hq⟩ := List.getElem?_of_mem h
  refine ⟨q0, hq, ?_⟩
  unfold ka_ws
  rw [List.getElem?_map, hq]
  rfl
theorem ka_D {cy : Nat → ClassId} {ad : Nat → Int → Nat} {A : Nat → Prop} (hG : Gm ad) (hA : ∀ q, Ar ad q → A q) (M : Mm) : va_D A (ka_ws cy ad M) := by
  have at' : ∀ (i : Nat) (p : Nat × va_E), (ka_ws cy ad M)[i]? = some p → ∃ x, ka_cells[i]? = some x ∧ p.1 = ad x.1 x.2 := by
    intro i p hp
    unfold ka_ws at hp
    rw [List.getElem?_map] at hp
    cases hx : ka_cells[i]? with
    | none => rw [hx] at hp; cases hp
    | some x => rw [hx] at hp; cases hp; exact ⟨x, rfl, rfl⟩
  refine ⟨fun i j p q hi hj e => ?_, fun k q hk => ?_⟩
  · obtain ⟨x, hx, e1⟩ := at' i p hi
    obtain ⟨y, hy, e2⟩ := at' j q hj
    have hxy := hG x (List.mem_of_getElem? hx) y (List.mem_of_getElem? hy) (e1.symm.trans (e.trans e2))
    subst hxy
    have hl := (List.getElem?_eq_some_iff.mp hx)
    have hl2 := (List.getElem?_eq_some_iff.mp hy)
    exact (List.getElem?_inj hl.1 ka_nd).mp (hx.trans hy.symm)
  · obtain ⟨x, hx, e1⟩ := at' k q hk
    exact hA _ ⟨x, List.mem_of_getElem? hx, e1⟩
theorem ka_wset {cy : Nat → ClassId} {ad : Nat → Int → Nat} {M M' : Mm} {c : Nat} {r : Int} {q0 : Nat} {e : va_E} (hq : ka_cells[q0]? = some (c, r)) (he : ka_ct cy ad (M' c) c r = e) (ho : ∀ x ∈ ka_cells, x ≠ (c, r) → ka_ct cy ad (M' x.1) x.1 x.2 = ka_ct cy ad (M x.1) x.1 x.2) : (ka_ws cy ad M).set q0 (ad c r, e) = ka_ws cy ad M' := by
  have hl := (List.getElem?_eq_some_iff.mp hq)
  apply List.ext_getElem?
  intro i
  by_cases hi : i = q0
  · subst hi
    rw [List.getElem?_set_self (by unfold ka_ws; rw [List.length_map]; exact hl.1)]
    unfold ka_ws
    rw [List.getElem?_map, hq, ← he]
    rfl
  · rw [List.getElem?_set_ne (Ne.symm hi)]
    unfold ka_ws
    rw [List.getElem?_map, List.getElem?_map]
    cases hx : ka_cells[i]? with
    | none => rfl
    | some x =>
      have hxl := (List.getElem?_eq_some_iff.mp hx)
      have hne : x ≠ (c, r) := fun q => hi ((List.getElem?_inj hxl.1 ka_nd).mp (by rw [hx, hq, q]))

      exact congrArg (fun z => some (ad x.1 x.2, z)) (ho x (List.mem_of_getElem? hx) hne).symm
/-- a write into a cell of one dimension, or an object -/
theorem ka_wset1 {cy : Nat → ClassId} {ad : Nat → Int → Nat} {M : Mm} {c : Nat} {k v : Int} {q0 : Nat} {e : va_E} (hr : ka_rows c = 0) (hq : ka_cells[q0]? = some (c, -1)) (he : ka_ct cy ad (fu (M c) k v) c (-1) = e) : (ka_ws cy ad M).set q0 (ad c (-1), e) = ka_ws cy ad (mset M c k v) := by
  refine ka_wset hq (by unfold mset; rw [fu_s]; exact he) (fun x hx hne => ?_)
  have hc : x.1 ≠ c := by
    intro hc
    obtain ⟨c', r'⟩ := x
    cases hc
    rcases (ka_mem.mp hx).2 with h | ⟨h1, h2⟩
    · exact hne (by rw [h])
    · rw [hr] at h2; omega
  unfold mset
  rw [fu_n _ _ hc]
theorem ka_rng_set {M : Mm} {c : Nat} {k v : Int} (h : ka_rng M) (hv : ka_ok (ka_sty c k) v) : ka_rng (mset M c k v) := by
  intro c' k'
  unfold mset
  by_cases hc : c' = c
  · subst hc
    rw [fu_s]
    by_cases hk : k' = k
    · subst hk; rw [fu_s]; exact hv
    · rw [fu_n _ _ hk]; exact h _ _
  · rw [fu_n _ _ hc]; exact h _ _
