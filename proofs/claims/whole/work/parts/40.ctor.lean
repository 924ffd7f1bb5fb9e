/-! CONSTRUCTORS: worlds as lists of cells, while they grow -/
def kb_rows (cy : Nat → ClassId) (q N K : Nat) : va_W := (q, .inl (cy 3, N, .inr (.inr (.inr (.inr (fun i => if i < N then some (q + 1 + i) else none)))))) :: (List.range N).map (fun i => (q + 1 + i, .inl (cy 0, K, .inl (fun _ => 0))))
theorem kb_outer (c : ClassId) (N h0 : Nat) : ∀ i : Nat, Jvm.Free.Multi.outerC c N h0 i = arrV c N (fun j => va_rf (if j < i then some (h0 + 1 + j) else none))
  | 0 => by
    show ({ cls := c, slots := Array.replicate N .null, vm := .none } : Cell) = _
    rw [arrV_new]
    refine congrArg (arrV c N) (funext fun j => ?_)
    simp [va_rf]
  | i + 1 => by
    show (Jvm.Free.Multi.outerC c N h0 i).setSlot i (.ref (h0 + 1 + i)) = _
    rw [kb_outer c N h0 i, arrV_store]
    refine congrArg (arrV c N) (funext fun j => ?_)
    by_cases e : j = i
    · subst e
      simp [updV, va_rf]
    · by_cases h : j < i
      · simp [updV, e, h, Nat.lt_succ_of_lt h]
      · simp [updV, e, h, show ¬ j < i + 1 by omega]
theorem kb_rows_at {cy : Nat → ClassId} {q N K i : Nat} {x : Nat × va_E} (h : (kb_rows cy q N K)[i]? = some x) : x.1 = q + i := by
  cases i with
  | zero => cases h; rfl
  | succ i =>
    have h : ((List.range N).map (fun i => ((q + 1 + i, .inl (cy 0, K, .inl (fun _ => 0))) : Nat × va_E)))[i]? = some x := h
    rw [List.getElem?_map] at h
    cases hx : (List.range N)[i]? with
    | none => rw [hx] at h; cases h
    | some y =>
      rw [hx] at h
      cases h
      have := List.getElem?_eq_some_iff.mp hx
      obtain ⟨h1, h2⟩ := this
      rw [List.getElem_range] at h2
      show q + 1 + y = q + (i + 1)
      omega
/-- new cells, one behind the other, beside a world -/
theorem kb_app {A : Nat → Prop} {D : va_G} {cl : List vw_C} {ws l : va_W} {H : Heap} (hP : va_P D cl ws H) (hD : va_D A ws) (hl : ∀ (i : Nat) (x : Nat × va_E), l[i]? = some x → x.1 = H.size + i) (hA : ∀ q, H.size ≤ q → A q) : va_D A (ws ++ l) := by
  refine va_D.app hD ⟨fun i j x y hi hj e => ?_, fun k x hk => ?_⟩ (fun i j x y hi hj e => ?_)
  · have := hl i x hi; have := hl j y hj; omega
  · exact hA _ (by have := hl k x hk; omega)
  · have := (hP i x hi).lt; have := hl j y hj; omega
section KB
variable {p : Program} {l : Launch} {e : Env} {R : Room} {s : State} {m : MethodId} {args : Array Value} {below : List Frame} {meth : Method} {c : Code} {D : va_G} {cy : Nat → ClassId} {A : Nat → Prop} {Q : State → Prop} {cc : ByteArray} {nL : Nat} {own : String} {cells slots : Nat} {pc : Nat} {ls : List (Option Value)} {st : List Value} {ws : va_W}
def kb_loc (nL : Nat) (lc : Array Slot) (ls : List (Option Value)) : Prop := lc.size = nL ∧ lv_wf lc ∧ ∀ (i : Nat) (v : Value), ls[i]? = some (some v) → lc[i]? = some (.val v)
def Yj (p : Program) (l : Launch) (e : Env) (R : Room) (s : State) (m : MethodId) (args : Array Value) (below : List Frame) (meth : Method) (c : Code) (D : va_G) (A : Nat → Prop) (Q : State → Prop) (nL cells slots : Nat) (pc : Nat) (ls : List (Option Value)) (st : List Value) (ws : va_W) : Prop :=
  ∀ (H : Heap) (locs : List Loc) (lc : Array Slot), va_P D vwCl ws H → va_D A ws → va_S A s.heap H locs → kb_loc nL lc ls → W p l e R s m args below meth c H locs cells slots Q (F0 m pc lc st)
/-- words of the tables that are not carried by lists -/
def Kz (U : State) : Prop := (Cond.arrayOver (.array .int)).before #[] U = true ∧ va_Nw (.methodLinkNest RX7 18 yX4_init RX7) U ∧ va_Nw (.methodLinkNest RX7 25 yX2_init RX7) U
theorem Kz.warm {s U : State} (hW : s.WarmedH U.vm) (h : Kz s) : Kz U := ⟨over_moved hW.alike h.1, h.2.1.warmM hW, h.2.2.warmM hW⟩
theorem Kz.call {U : State} {g : JFrame} {mk : MethodId} {a : Array Value} (h : Kz U) : Kz (U.calling g mk a) := ⟨over_moved (Vm.Alike.refl U.vm) h.1, h.2.1.same rfl rfl, h.2.2.same rfl rfl⟩
abbrev Cy (p : Program) (s : State) (m : MethodId) (args : Array Value) (meth : Method) (c : Code) (D : va_G) (cy : Nat → ClassId) (A : Nat → Prop) (cc : ByteArray) (nL : Nat) (own : String) : Prop :=
  p.tables.exec = Jvm.exec ∧ c.code = cc ∧ c.maxLocals = nL ∧ s.vm.findClass own = some m.cls ∧ (∀ w ∈ kw, w.before args s = true) ∧ meth.locks = false ∧ Kk D cy s ∧ (∀ q, s.heap.size ≤ q → A q) ∧ Kz s
theorem y_aload (C : Cy p s m args meth c D cy A cc nL own) {k : Fin 4} {a : Nat} (hd : decode cc pc = .ok (.aload_n k, 1)) (hv : ls[(k : Nat)]? = some (some (.ref a))) (kk : Yj p l e R s m args below meth c D A Q nL cells slots (pc + 1) ls (.ref a :: st) ws) : Yj p l e R s m args below meth c D A Q nL cells slots pc ls st ws := fun H locs lc hP hD hS hL => lv_aload_n C.1 C.2.1 hd rfl (hL.2.2 _ _ hv) (kk H locs lc hP hD hS hL)
theorem y_iconst (C : Cy p s m args meth c D cy A cc nL own) {n : Int} {v : Int32} (hd : decode cc pc = .ok (.iconst n, 1)) (hv : Int32.ofInt n = v) (kk : Yj p l e R s m args below meth c D A Q nL cells slots (pc + 1) ls (.int v :: st) ws) : Yj p l e R s m args below meth c D A Q nL cells slots pc ls st ws := fun H locs lc hP hD hS hL => lv_iconst C.1 C.2.1 hd hv (kk H locs lc hP hD hS hL)
theorem y_bipush (C : Cy p s m args meth c D cy A cc nL own) {n : Int} {v : Int32} (hd : decode cc pc = .ok (.bipush n, 2)) (hv : (Int8.ofInt n).toInt32 = v) (kk : Yj p l e R s m args below meth c D A Q nL cells slots (pc + 2) ls (.int v :: st) ws) : Yj p l e R s m args below meth c D A Q nL cells slots pc ls st ws := fun H locs lc hP hD hS hL => lv_bipush C.1 C.2.1 hd hv (kk H locs lc hP hD hS hL)
theorem y_sipush (C : Cy p s m args meth c D cy A cc nL own) {n : Int} {v : Int32} (hd : decode cc pc = .ok (.sipush n, 3)) (hv : (Int16.ofInt n).toInt32 = v) (kk : Yj p l e R s m args below meth c D A Q nL cells slots (pc + 3) ls (.int v :: st) ws) : Yj p l e R s m args below meth c D A Q nL cells slots pc ls st ws := fun H locs lc hP hD hS hL => lv_sipush C.1 C.2.1 hd hv (kk H locs lc hP hD hS hL)
theorem y_dup (C : Cy p s m args meth c D cy A cc nL own) {v : Value} (hd : decode cc pc = .ok (.dup, 1)) (hv : v.category = 1) (kk : Yj p l e R s m args below meth c D A Q nL cells slots (pc + 1) ls (v :: v :: st) ws) : Yj p l e R s m args below meth c D A Q nL cells slots pc ls (v :: st) ws := fun H locs lc hP hD hS hL => lv_dup C.1 C.2.1 hd hv (kk H locs lc hP hD hS hL)
theorem y_objInit (C : Cy p s m args meth c D cy A cc nL own) {a idx : Nat} (hl : Cond.methodLink own idx Lib.objectInit ∈ kw) (hi : Cond.instanceMethod Lib.objectInit ∈ kw) (hc : Cond.code Lib.objectInit ⟨#[0xb1]⟩ 1 none ∈ kw) (hd : decode cc pc = .ok (.invokespecial idx, 3)) (hf : 1 ≤ R.frames) (hlo : (st.map fun v => v.category).sum ≤ 8 ∧ 20 ≤ R.locals) (kk : Yj p l e R s m args below meth c D A Q nL cells slots (pc + 3) ls st ws) : Yj p l e R s m args below meth c D A Q nL cells slots pc ls (.ref a :: st) ws := by
  intro H locs lc hP hD hS hL
  refine W.objInit C.1 C.2.1 C.2.2.2.1 (C.2.2.2.2.1 _ hl) (C.2.2.2.2.1 _ hi) (C.2.2.2.2.1 _ hc) rfl (by rw [C.2.2.1]; exact hL.1) rfl hd hf ?_ (kk H locs lc hP hD hS hL)
  have := lv_room (m := m) (pc := pc) (ls := lc) (rest := .ref a :: st) hlo.1
  omega
theorem kb_cls {ty : FieldType} {cA : ClassId} {tys : List (ClassId × FieldType)} (t0 : Nat) {c0 : ClassId} (ht : tys[t0]? = some (c0, ty)) (hn : va_RA s c0 ty → s.vm.findClass ("[" ++ ty.toString) = some c0) (hm : va_RA s cA ty → s.vm.findClass ("[" ++ ty.toString) = some cA) (hK : va_K D vwCl (tys ++ [(cA, ty)]) s) : cA = c0 := by
  have h1 := (hK.2 t0 (c0, ty) (by rw [List.getElem?_append_left (List.getElem?_eq_some_iff.mp ht).1]; exact ht)).2
  have h2 := (hK.2 tys.length (cA, ty) (by rw [List.getElem?_append_right (Nat.le_refl _), Nat.sub_self]; rfl)).2
  have := (hn h1).symm.trans (hm h2)
  exact (Option.some.inj this).symm
theorem y_newI (C : Cy p s m args meth c D cy A cc nL own) {n : Int32} {N : Nat} (harr : Cond.arrayClass .int ∈ kw) (hn : ¬ n < 0) (hN : n.toNatClampNeg = N) (hb : N * 4 ≤ 536870912) (hr : cells + 1 ≤ R.cells ∧ slots + N ≤ R.slots) (hd : decode cc pc = .ok (.newarray .int, 2)) (kk : ∀ q : Nat, Yj p l e R s m args below meth c D A Q nL (cells + 1) (slots + N) (pc + 2) ls (.ref q :: st) (ws ++ [(q, .inl (cy 0, N, .inl (fun _ => 0)))])) : Yj p l e R s m args below meth c D A Q nL cells slots pc ls (.int n :: st) ws := by
  intro H locs lc hP hD hS hL
  refine va_newa C.1 C.2.1 (atype := .int) (C.2.2.2.2.1 _ harr) (ty := .int) rfl C.2.2.2.2.2.2.1 hP hD hS C.2.2.2.2.2.2.2.1 (a0 := (N, .inl (fun _ => 0))) (fun cA => rfl) hn hN hb hr.1 hr.2 hd (fun q cA H1 hK1 hP1 hD1 hS1 => ?_)
  have e := kb_cls (s := s) (ty := .int) (cA := cA) (c0 := cy 0) (tys := ka_tys cy) 0 rfl (fun h => h) (fun h => h) hK1
  subst e
  exact kk q H1 locs lc hP1 hD1 hS1 hL
theorem y_newZ (C : Cy p s m args meth c D cy A cc nL own) {n : Int32} {N : Nat} (harr : Cond.arrayClass .boolean ∈ kw) (hn : ¬ n < 0) (hN : n.toNatClampNeg = N) (hb : N * 1 ≤ 536870912) (hr : cells + 1 ≤ R.cells ∧ slots + N ≤ R.slots) (hd : decode cc pc = .ok (.newarray .boolean, 2)) (kk : ∀ q : Nat, Yj p l e R s m args below meth c D A Q nL (cells + 1) (slots + N) (pc + 2) ls (.ref q :: st) (ws ++ [(q, .inl (cy 2, N, .inl (fun _ => 0)))])) : Yj p l e R s m args below meth c D A Q nL cells slots pc ls (.int n :: st) ws := by
  intro H locs lc hP hD hS hL
  refine va_newa C.1 C.2.1 (atype := .boolean) (C.2.2.2.2.1 _ harr) (ty := .boolean) rfl C.2.2.2.2.2.2.1 hP hD hS C.2.2.2.2.2.2.2.1 (a0 := (N, .inl (fun _ => 0))) (fun cA => rfl) hn hN hb hr.1 hr.2 hd (fun q cA H1 hK1 hP1 hD1 hS1 => ?_)
  have e := kb_cls (s := s) (ty := .boolean) (cA := cA) (c0 := cy 2) (tys := ka_tys cy) 2 rfl (fun h => h) (fun h => h) hK1
  subst e
  exact kk q H1 locs lc hP1 hD1 hS1 hL
theorem y_newJ (C : Cy p s m args meth c D cy A cc nL own) {n : Int32} {N : Nat} (harr : Cond.arrayClass .long ∈ kw) (hn : ¬ n < 0) (hN : n.toNatClampNeg = N) (hb : N * 8 ≤ 536870912) (hr : cells + 1 ≤ R.cells ∧ slots + N ≤ R.slots) (hd : decode cc pc = .ok (.newarray .long, 2)) (kk : ∀ q : Nat, Yj p l e R s m args below meth c D A Q nL (cells + 1) (slots + N) (pc + 2) ls (.ref q :: st) (ws ++ [(q, .inl (cy 1, N, .inr (.inl (fun _ => 0))))])) : Yj p l e R s m args below meth c D A Q nL cells slots pc ls (.int n :: st) ws := by
  intro H locs lc hP hD hS hL
  refine va_newa C.1 C.2.1 (atype := .long) (C.2.2.2.2.1 _ harr) (ty := .long) rfl C.2.2.2.2.2.2.1 hP hD hS C.2.2.2.2.2.2.2.1 (a0 := (N, .inr (.inl (fun _ => 0)))) (fun cA => rfl) hn hN hb hr.1 hr.2 hd (fun q cA H1 hK1 hP1 hD1 hS1 => ?_)
  have e := kb_cls (s := s) (ty := .long) (cA := cA) (c0 := cy 1) (tys := ka_tys cy) 1 rfl (fun h => h) (fun h => h) hK1
  subst e
  exact kk q H1 locs lc hP1 hD1 hS1 hL
theorem y_mna (C : Cy p s m args meth c D cy A cc nL own) {n k : Int32} {N K idx : Nat} (harr : Cond.arrayClass .int ∈ kw) (hcl : Cond.classLink own idx "[[I" ∈ kw) (hn : ¬ n < 0) (hk : ¬ k < 0) (hN : n.toNatClampNeg = N) (hKe : k.toNatClampNeg = K) (hb : N * 4 ≤ 536870912 ∧ K * 4 ≤ 536870912) (hr : cells + (1 + N) ≤ R.cells ∧ slots + (N + N * K) ≤ R.slots) (hd : decode cc pc = .ok (.multianewarray idx 2, 4)) (kk : ∀ q : Nat, Yj p l e R s m args below meth c D A Q nL (cells + 1 + N) (slots + N + N * K) (pc + 4) ls (.ref q :: st) (ws ++ kb_rows cy q N K)) : Yj p l e R s m args below meth c D A Q nL cells slots pc ls (.int k :: .int n :: st) ws := by
  intro H locs lc hP hD hS hL
  have hK := C.2.2.2.2.2.2.1
  have hA := C.2.2.2.2.2.2.2.1
  subst hN
  subst hKe
  intro T hT Xs
  obtain ⟨vm₁, cA, comp, -, fA, fC, hO, -, X', step⟩ := Xs.multianewarray2F (ty := .int) C.1 C.2.2.2.1 (C.2.2.2.2.1 _ hcl) (over_moved (Vm.Alike.refl s.vm) C.2.2.2.2.2.2.2.2.1) (C.2.2.2.2.1 _ harr) (g := F0 m pc lc (.int k :: .int n :: st)) rfl (by rw [C.2.1]; exact hd) rfl hn hk hb.1 hb.2 (by have := hb.2; omega) rfl rfl hr.1 hr.2
  have e1 : comp = cy 0 := (Option.some.inj ((hK.2 0 (cy 0, .int) rfl).2.symm.trans fC)).symm
  have e2 : cA = cy 3 := (Option.some.inj ((hK.2 3 (cy 3, .array .int) rfl).2.symm.trans fA)).symm
  subst e1
  subst e2
  generalize hF : Jvm.Free.Multi.fill (T.setVm vm₁) (cy 3) (cy 0) n.toNatClampNeg k.toNatClampNeg (defaultValue .int) n.toNatClampNeg = F at X' step
  have hTh : (T.setVm vm₁).heap = H := hT
  obtain ⟨f1, f2, -, -⟩ := Jvm.Free.Multi.fill_facts (T.setVm vm₁) (cy 3) (cy 0) n.toNatClampNeg k.toNatClampNeg (defaultValue .int) n.toNatClampNeg
  rw [hF, hTh] at f1 f2
  have hold : ∀ x : Nat, x < H.size → F.heap[x]? = H[x]? := fun x hx => by
    have := Jvm.Free.Multi.fill_old (T.setVm vm₁) (cy 3) (cy 0) n.toNatClampNeg k.toNatClampNeg (defaultValue .int) (a := x) (by rw [hTh]; exact hx) n.toNatClampNeg
    rw [hF, hTh] at this
    exact this
  have hrow : ∀ j : Nat, j < n.toNatClampNeg → F.heap[H.size + 1 + j]? = some (vp_cell (cy 0) (k.toNatClampNeg, .inl (fun _ => 0))) := fun j hj => by
    have := Jvm.Free.Multi.fill_inner (T.setVm vm₁) (cy 3) (cy 0) n.toNatClampNeg k.toNatClampNeg (defaultValue .int) n.toNatClampNeg j hj
    rw [hF, hTh] at this
    rw [this, vp_cell_i, ← arrV_new]
    rfl
  rw [kb_outer] at f2
  have hP1 : va_P D vwCl (ws ++ kb_rows cy H.size n.toNatClampNeg k.toNatClampNeg) F.heap := by
    refine va_P.app (hP.kept (fun k9 x hx => hold x.1 ((hP k9 x hx).lt))) (fun i x hx => ?_)
    cases i with
    | zero => cases hx; exact f2
    | succ i =>
      have hx : ((List.range n.toNatClampNeg).map (fun i => ((H.size + 1 + i, .inl (cy 0, k.toNatClampNeg, .inl (fun _ => 0))) : Nat × va_E)))[i]? = some x := hx
      obtain ⟨j, hj, rfl⟩ := List.mem_map.mp (List.mem_of_getElem? hx)
      exact hrow j (List.mem_range.mp hj)
  obtain ⟨t, a1, b1⟩ := kk H.size F.heap locs lc hP1 (kb_app hP hD (fun i x hx => kb_rows_at hx) (fun q hq => hA q (Nat.le_trans hS.1 hq))) ⟨by rw [f1]; have := hS.1; omega, fun x h1 h2 => (hold x (Nat.lt_of_lt_of_le h1 hS.1)).trans (hS.2.1 x h1 h2), hS.2.2⟩ hL F rfl X'
  refine ⟨t, step t ?_, b1⟩
  have e : T.heap.size = H.size := by rw [hT]
  rw [e]
  exact a1
theorem y_new (C : Cy p s m args meth c D cy A cc nL own) {ci idx N : Nat} {Cn : String} {T : u_T} {t0 : Nat → FieldType} {fs : List Value} (hc : vwCl[ci]? = some (Cn, T, N)) (hin : ∀ w ∈ u_ws Cn T N, w ∈ kw) (hty : ∀ k, k < N → parseFieldDescriptor (T k).2.2.1 = some (t0 k)) (hcl : Cond.classLink own idx Cn ∈ kw) (hi : Cond.instantiable Cn N ∈ kw) (hini : Cond.initialized Cn ∈ kw) (hfs : ∀ j, j < N → defaultValue (t0 j) = vp_V fs j) (hr : cells + 1 ≤ R.cells ∧ slots + N ≤ R.slots) (hd : decode cc pc = .ok (.new idx, 3)) (kk : ∀ q : Nat, Yj p l e R s m args below meth c D A Q nL (cells + 1) (slots + N) (pc + 3) ls (.ref q :: st) (ws ++ [(q, .inr (ci, fs))])) : Yj p l e R s m args below meth c D A Q nL cells slots pc ls st ws := by
  intro H locs lc hP hD hS hL
  exact va_new C.1 C.2.1 C.2.2.2.2.1 hin t0 hty C.2.2.2.1 (C.2.2.2.2.1 _ hcl) (C.2.2.2.2.1 _ hi) (C.2.2.2.2.1 _ hini) C.2.2.2.2.2.2.1 hP hD hS C.2.2.2.2.2.2.2.1 hc hfs hr.1 hr.2 hd (fun q H1 hP1 hD1 hS1 => kk q H1 locs lc hP1 hD1 hS1 hL)
/-- a final field, in a constructor -/
def Ff (own : String) (idx ci k : Nat) (ty : FieldType) : Prop := ∃ (C : String) (T : u_T) (N : Nat) (t0 : Nat → FieldType), vwCl[ci]? = some (C, T, N) ∧ k < N ∧ (∀ w ∈ u_ws C T N, w ∈ kw) ∧ Cond.fieldLink own idx (T k).1 (T k).2.1 (T k).2.2.1 ∈ kw ∧ (∀ k, k < N → parseFieldDescriptor (T k).2.2.1 = some (t0 k)) ∧ (∀ a, a < N → ∀ b, b < N → a ≠ b → (T a).2.1 ≠ (T b).2.1) ∧ (T k).2.2.2 = true ∧ (T k).1 = own ∧ parseFieldDescriptor (T k).2.2.1 = some ty
theorem y_putF (C : Cy p s m args meth c D cy A cc nL own) (hN : meth.name = "<init>") {a q0 ci k idx : Nat} {ty : FieldType} {v : Value} {fs : List Value} {ws' : va_W} (hg : Ff own idx ci k ty) (he : ws[q0]? = some (a, .inr (ci, fs))) (hw : ws.set q0 (a, .inr (ci, fs.set k v)) = ws') (hn : narrow ty v = v) (hft : fits ty v = true) (hl : k < fs.length) (hd : decode cc pc = .ok (.putfield idx, 3)) (kk : Yj p l e R s m args below meth c D A Q nL cells slots (pc + 3) ls st ws') : Yj p l e R s m args below meth c D A Q nL cells slots pc ls (v :: .ref a :: st) ws := by
  intro H locs lc hP hD hS hL
  obtain ⟨Cn, T, N, t0, h1, h2, h3, h4, h5, h6, h7, h8, h9⟩ := hg
  subst hw
  exact va_putF C.1 C.2.1 C.2.2.2.2.1 h3 t0 h5 h6 C.2.2.2.1 C.2.2.2.2.2.2.1 hP hD hS q0 he h1 k h2 (C.2.2.2.2.1 _ h4) (fun _ h => h) h7 hN h8 h9 hn hft hl hd (fun H1 locs1 hP1 hD1 hS1 => kk H1 locs1 lc hP1 hD1 hS1 hL)
theorem y_put (C : Cy p s m args meth c D cy A cc nL own) {a q0 ci k idx : Nat} {ty : FieldType} {v : Value} {fs : List Value} {ws' : va_W} (hg : Pf own idx ci k ty) (he : ws[q0]? = some (a, .inr (ci, fs))) (hw : ws.set q0 (a, .inr (ci, fs.set k v)) = ws') (hn : narrow ty v = v) (hft : fits ty v = true) (hl : k < fs.length) (hd : decode cc pc = .ok (.putfield idx, 3)) (kk : Yj p l e R s m args below meth c D A Q nL cells slots (pc + 3) ls st ws') : Yj p l e R s m args below meth c D A Q nL cells slots pc ls (v :: .ref a :: st) ws := by
  intro H locs lc hP hD hS hL
  obtain ⟨Cn, T, N, t0, h1, h2, h3, h4, h5, h6, h7, h8⟩ := hg
  subst hw
  exact va_put C.1 C.2.1 C.2.2.2.2.1 h3 t0 h5 h6 C.2.2.2.1 C.2.2.2.2.2.2.1 hP hD hS q0 he h1 k h2 (C.2.2.2.2.1 _ h4) (fun _ h => h) h7 h8 hn hft hl hd (fun H1 locs1 hP1 hD1 hS1 => kk H1 locs1 lc hP1 hD1 hS1 hL)
theorem y_get (C : Cy p s m args meth c D cy A cc nL own) {a q0 ci k idx : Nat} {v : Value} {fs : List Value} (hg : Gf own idx ci k) (he : ws[q0]? = some (a, .inr (ci, fs))) (hv : fs[k]? = some v) (hd : decode cc pc = .ok (.getfield idx, 3)) (kk : Yj p l e R s m args below meth c D A Q nL cells slots (pc + 3) ls (v :: st) ws) : Yj p l e R s m args below meth c D A Q nL cells slots pc ls (.ref a :: st) ws := by
  intro H locs lc hP hD hS hL
  obtain ⟨Cn, T, N, h1, h2, h3, h4⟩ := hg
  exact va_get C.1 C.2.1 C.2.2.2.2.1 h3 C.2.2.2.1 C.2.2.2.2.2.2.1 hP q0 he h1 k h2 (C.2.2.2.2.1 _ h4) (fun _ h => h) hv hd (kk H locs lc hP hD hS hL)
/-- the contract of a constructor, or of a method that works on a few cells alone: its world and what it becomes -/
def Cc (l : Launch) (D : va_G) (cy : Nat → ClassId) (y : MethodName) (bytes : ByteArray) (maxL : Nat) (rm : Room) (vs : List Value) (wc : va_W) (w1 : (Nat → Nat) → va_W) : Prop :=
  ∀ sz : Nat, Met l y (Cond.code y bytes maxL none :: kw) rm (va_Pc vs (fun U => U.heap.size = sz ∧ va_P D vwCl wc U.heap ∧ va_D (fun _ => True) wc ∧ Kk D cy U ∧ Kz U)) (va_Qv (fun _ : Nat → Nat => True) (fun u t => va_P D vwCl (w1 u) t.heap ∧ va_D (va_A wc sz) (w1 u)) (va_A wc sz)) rm.cells rm.slots (va_A wc sz)
theorem kb_blind {vs : List Value} {wc : va_W} {sz : Nat} : FrameBlind (va_Pc vs (fun U => U.heap.size = sz ∧ va_P D vwCl wc U.heap ∧ va_D (fun _ => True) wc ∧ Kk D cy U ∧ Kz U)) := fun a U g mk q => by
  obtain ⟨q0, q1, q2, q3, q4, q5⟩ := q
  exact ⟨q0, q1, q2, q3, va_K.moved (u := U) (U := U.calling g mk a) (Vm.Alike.refl U.vm) q4, q5.call⟩
def Rc (R rm : Room) (maxL cells slots : Nat) : Prop := rm.frames + 1 ≤ R.frames ∧ 8 + (maxL + 11) + rm.locals ≤ R.locals ∧ cells + rm.cells ≤ R.cells ∧ slots + rm.slots ≤ R.slots
/-- behind the call: the rest of the world, and what the callee's part became -/
theorem y_after {wc wr : va_W} {w1 : (Nat → Nat) → va_W} {rm : Room} {a : Array Value} {st0 : List Value} {H : Heap} {locs : List Loc} {lc : Array Slot} (isC isR : List Nat) (hC : isC.map (fun i => ws[i]?) = wc.map some) (hR : isR.map (fun i => ws[i]?) = wr.map some) (hn : va_nd isR = true) (hdis : ∀ i ∈ isR, i ∉ isC) (hA : ∀ q, s.heap.size ≤ q → A q) (hP : va_P D vwCl ws H) (hD : va_D A ws) (hS : va_S A s.heap H locs) (hL : kb_loc nL lc ls) (run : va_Run p l e R s m args below meth c H locs cells slots rm.cells rm.slots (F0 m pc lc st0) st (va_Qv (fun _ : Nat → Nat => True) (fun u t => va_P D vwCl (w1 u) t.heap ∧ va_D (va_A wc H.size) (w1 u)) (va_A wc H.size) a) (va_A wc H.size)) (kk : ∀ u : Nat → Nat, Yj p l e R s m args below meth c D A Q nL (cells + rm.cells) (slots + rm.slots) (pc + 3) ls st (wr ++ w1 u)) : W p l e R s m args below meth c H locs cells slots Q (F0 m pc lc st0) := by
  have hF := va_free (wc := wc) hD hS hA isC hC
  refine va_callv run hS (fun q _ h => hF q h) hF (fun u t H1 locs1 ht hvm hw hB hz1 hk1 hS1 => ?_)
  obtain ⟨hP1, hD1⟩ := hB
  rw [ht] at hP1
  obtain ⟨hP2, hD2⟩ := va_join (wr := wr) (w1 := w1 u) hP hD isC isR hC hR hn hdis hk1 hF hP1 hD1
  exact kk u H1 locs1 lc hP2 hD2 hS1 hL
theorem kb_wc {wc : va_W} (is : List Nat) (hs : is.map (fun i => ws[i]?) = wc.map some) {H : Heap} (hP : va_P D vwCl ws H) : va_P D vwCl wc H := by
  intro k q hk
  have h1 : (is.map (fun i => ws[i]?))[k]? = some (some q) := by rw [hs, List.getElem?_map, hk]; rfl
  rw [List.getElem?_map] at h1
  cases hi : is[k]? with
  | none => rw [hi] at h1; cases h1
  | some i => rw [hi] at h1; exact hP i q (Option.some.inj h1)
theorem y_init (C : Cy p s m args meth c D cy A cc nL own) {idx maxL n b : Nat} {y : MethodName} {bytes : ByteArray} {rm : Room} {vs st' : List Value} {wc wr : va_W} {w1 : (Nat → Nat) → va_W} (hcd : Cond.code y bytes maxL none ∈ kw) (hlk : Cond.methodLink own idx y ∈ kw) (hin : Cond.instanceMethod y ∈ kw) (hini : Cond.initialized y.cls ∈ kw) (hnm : y.name = "<init>") (hdd : y.cls ≠ "java/lang/invoke/MethodHandle" ∧ y.cls ≠ "java/lang/invoke/VarHandle" ∧ (parseMethodDescriptor y.desc).map (fun d => d.parameters.length) = some n) (hM : Cc l D cy y bytes maxL rm (.ref b :: vs) wc w1) (hrm : Rc R rm maxL cells slots) (isC isR : List Nat) (hC : isC.map (fun i => ws[i]?) = wc.map some) (hR : isR.map (fun i => ws[i]?) = wr.map some) (hnd : va_nd isC = true ∧ va_nd isR = true) (hdis : ∀ i ∈ isR, i ∉ isC) (hst : vs.reverse ++ .ref b :: st = st') (hn : vs.length = n) (hcat : (st.map fun v => v.category).sum ≤ 8) (hd : decode cc pc = .ok (.invokespecial idx, 3)) (kk : ∀ u : Nat → Nat, Yj p l e R s m args below meth c D A Q nL (cells + rm.cells) (slots + rm.slots) (pc + 3) ls st (wr ++ w1 u)) : Yj p l e R s m args below meth c D A Q nL cells slots pc ls st' ws := by
  intro H locs lc hP hD hS hL
  subst hst
  refine y_after isC isR hC hR hnd.2 hdis C.2.2.2.2.2.2.2.1 hP hD hS hL (va_runI (b := b) (As := vs) (rest := st) ⟨C.1, C.2.1, C.2.2.1, C.2.2.2.1, C.2.2.2.2.1⟩ (hM H.size) ⟨callB_of n C.2.2.2.2.1 (fun w hw => ?_) rfl rfl rfl (C.2.2.2.2.1 _ hini) (C.2.2.2.2.1 _ hlk) hdd ⟨hrm.1, hrm.2.1⟩, hnm, C.2.2.2.2.1 _ hin⟩ ⟨kb_blind, fun U hU hWm => ⟨rfl, by rw [hU], by rw [hU]; exact kb_wc isC hC hP, (hD.sub isC hnd.1 hC).weaken (fun _ _ _ _ => trivial), va_K.moved hWm.alike C.2.2.2.2.2.2.1, C.2.2.2.2.2.2.2.2.warm hWm⟩⟩ rfl hn hL.1 rfl (lv_room hcat) hd ⟨hrm.2.2.1, hrm.2.2.2⟩) kk
  have hk : w ∈ kw := by
    rcases List.mem_cons.mp hw with rfl | h2
    · exact hcd
    · exact h2
  exact ⟨hk, kw_good w hk⟩
theorem y_initN (C : Cy p s m args meth c D cy A cc nL own) {idx maxL n b : Nat} {host : String} {y : MethodName} {bytes : ByteArray} {rm : Room} {vs st' : List Value} {wc wr : va_W} {w1 : (Nat → Nat) → va_W} (hcd : Cond.code y bytes maxL none ∈ kw) (hlk : va_Nw (.methodLinkNest own idx y host) s) (hin : Cond.instanceMethod y ∈ kw) (hini : Cond.initialized y.cls ∈ kw) (hnm : y.name = "<init>") (hdd : y.cls ≠ "java/lang/invoke/MethodHandle" ∧ y.cls ≠ "java/lang/invoke/VarHandle" ∧ (parseMethodDescriptor y.desc).map (fun d => d.parameters.length) = some n) (hM : Cc l D cy y bytes maxL rm (.ref b :: vs) wc w1) (hrm : Rc R rm maxL cells slots) (isC isR : List Nat) (hC : isC.map (fun i => ws[i]?) = wc.map some) (hR : isR.map (fun i => ws[i]?) = wr.map some) (hnd : va_nd isC = true ∧ va_nd isR = true) (hdis : ∀ i ∈ isR, i ∉ isC) (hst : vs.reverse ++ .ref b :: st = st') (hn : vs.length = n) (hcat : (st.map fun v => v.category).sum ≤ 8) (hd : decode cc pc = .ok (.invokespecial idx, 3)) (kk : ∀ u : Nat → Nat, Yj p l e R s m args below meth c D A Q nL (cells + rm.cells) (slots + rm.slots) (pc + 3) ls st (wr ++ w1 u)) : Yj p l e R s m args below meth c D A Q nL cells slots pc ls st' ws := by
  intro H locs lc hP hD hS hL
  subst hst
  refine y_after isC isR hC hR hnd.2 hdis C.2.2.2.2.2.2.2.1 hP hD hS hL (va_runIN (host := host) (b := b) (As := vs) (rest := st) ⟨C.1, C.2.1, C.2.2.1, C.2.2.2.1, C.2.2.2.2.1⟩ (hM H.size) ⟨va_cnB n C.2.2.2.2.1 (fun w hw => ?_) rfl rfl rfl hlk (C.2.2.2.2.1 _ hini) hdd ⟨hrm.1, hrm.2.1⟩, hnm, C.2.2.2.2.1 _ hin⟩ ⟨kb_blind, fun U hU hWm => ⟨rfl, by rw [hU], by rw [hU]; exact kb_wc isC hC hP, (hD.sub isC hnd.1 hC).weaken (fun _ _ _ _ => trivial), va_K.moved hWm.alike C.2.2.2.2.2.2.1, C.2.2.2.2.2.2.2.2.warm hWm⟩⟩ rfl hn hL.1 rfl (lv_room hcat) hd ⟨hrm.2.2.1, hrm.2.2.2⟩) kk
  have hk : w ∈ kw := by
    rcases List.mem_cons.mp hw with rfl | h2
    · exact hcd
    · exact h2
  exact ⟨hk, kw_good w hk⟩
theorem y_static (C : Cy p s m args meth c D cy A cc nL own) {idx maxL n : Nat} {y : MethodName} {bytes : ByteArray} {rm : Room} {vs st' : List Value} {wc wr : va_W} {w1 : (Nat → Nat) → va_W} (hv : Cs own idx y bytes maxL none n) (hM : Cc l D cy y bytes maxL rm vs wc w1) (hrm : Rc R rm maxL cells slots) (isC isR : List Nat) (hC : isC.map (fun i => ws[i]?) = wc.map some) (hR : isR.map (fun i => ws[i]?) = wr.map some) (hnd : va_nd isC = true ∧ va_nd isR = true) (hdis : ∀ i ∈ isR, i ∉ isC) (hst : vs.reverse ++ st = st') (hn : vs.length = n) (hcat : (st.map fun v => v.category).sum ≤ 8) (hd : decode cc pc = .ok (.invokestatic idx, 3)) (kk : ∀ u : Nat → Nat, Yj p l e R s m args below meth c D A Q nL (cells + rm.cells) (slots + rm.slots) (pc + 3) ls st (wr ++ w1 u)) : Yj p l e R s m args below meth c D A Q nL cells slots pc ls st' ws := by
  intro H locs lc hP hD hS hL
  subst hst
  refine y_after isC isR hC hR hnd.2 hdis C.2.2.2.2.2.2.2.1 hP hD hS hL (va_runS (As := vs) (rest := st) ⟨C.1, C.2.1, C.2.2.1, C.2.2.2.1, C.2.2.2.2.1⟩ (hM H.size) ⟨callB_of n C.2.2.2.2.1 (fun w hw => ?_) rfl rfl rfl (C.2.2.2.2.1 _ hv.1.2.2.1) (C.2.2.2.2.1 _ hv.1.2.1) ⟨hv.1.2.2.2.1, hv.1.2.2.2.2.1, hv.1.2.2.2.2.2⟩ ⟨hrm.1, hrm.2.1⟩, C.2.2.2.2.1 _ hv.2⟩ ⟨kb_blind, fun U hU hWm => ⟨rfl, by rw [hU], by rw [hU]; exact kb_wc isC hC hP, (hD.sub isC hnd.1 hC).weaken (fun _ _ _ _ => trivial), va_K.moved hWm.alike C.2.2.2.2.2.2.1, C.2.2.2.2.2.2.2.2.warm hWm⟩⟩ rfl hn hL.1 rfl (lv_room hcat) hd ⟨hrm.2.2.1, hrm.2.2.2⟩) kk
  have hk : w ∈ kw := by
    rcases List.mem_cons.mp hw with rfl | h2
    · exact hv.1.1
    · exact h2
  exact ⟨hk, kw_good w hk⟩
theorem y_virt (C : Cy p s m args meth c D cy A cc nL own) {idx maxL n b q0 ci N : Nat} {y : MethodName} {bytes : ByteArray} {rm : Room} {vs st' fs : List Value} {T : u_T} {wc wr : va_W} {w1 : (Nat → Nat) → va_W} (hv : Cv own idx y bytes maxL none n) (hci : vwCl[ci]? = some (y.cls, T, N)) (hb : ws[q0]? = some (b, .inr (ci, fs))) (hM : Cc l D cy y bytes maxL rm (.ref b :: vs) wc w1) (hrm : Rc R rm maxL cells slots) (isC isR : List Nat) (hC : isC.map (fun i => ws[i]?) = wc.map some) (hR : isR.map (fun i => ws[i]?) = wr.map some) (hnd : va_nd isC = true ∧ va_nd isR = true) (hdis : ∀ i ∈ isR, i ∉ isC) (hst : vs.reverse ++ .ref b :: st = st') (hn : vs.length = n) (hcat : (st.map fun v => v.category).sum ≤ 8) (hd : decode cc pc = .ok (.invokevirtual idx, 3)) (kk : ∀ u : Nat → Nat, Yj p l e R s m args below meth c D A Q nL (cells + rm.cells) (slots + rm.slots) (pc + 3) ls st (wr ++ w1 u)) : Yj p l e R s m args below meth c D A Q nL cells slots pc ls st' ws := by
  intro H locs lc hP hD hS hL
  subst hst
  refine y_after isC isR hC hR hnd.2 hdis C.2.2.2.2.2.2.2.1 hP hD hS hL (va_runV (C := y.cls) (b := b) (As := vs) (rest := st) ⟨C.1, C.2.1, C.2.2.1, C.2.2.2.1, C.2.2.2.2.1⟩ (hM H.size) ⟨callB_of n C.2.2.2.2.1 (fun w hw => ?_) rfl rfl rfl (C.2.2.2.2.1 _ hv.1.2.2.1) (C.2.2.2.2.1 _ hv.1.2.1) ⟨hv.1.2.2.2.1, hv.1.2.2.2.2.1, hv.1.2.2.2.2.2⟩ ⟨hrm.1, hrm.2.1⟩, C.2.2.2.2.1 _ hv.2.1, C.2.2.2.2.1 _ hv.2.2⟩ ⟨kb_blind, va_recv C.2.2.2.2.2.2.1 hP (ci := ci) (q0 := q0) hci hb, fun U hU hWm => ⟨rfl, by rw [hU], by rw [hU]; exact kb_wc isC hC hP, (hD.sub isC hnd.1 hC).weaken (fun _ _ _ _ => trivial), va_K.moved hWm.alike C.2.2.2.2.2.2.1, C.2.2.2.2.2.2.2.2.warm hWm⟩⟩ rfl hn hL.1 rfl (lv_room hcat) hd ⟨hrm.2.2.1, hrm.2.2.2⟩) kk
  have hk : w ∈ kw := by
    rcases List.mem_cons.mp hw with rfl | h2
    · exact hv.1.1
    · exact h2
  exact ⟨hk, kw_good w hk⟩
end KB
