/-! the judgement: from pc, with these locals, stack and memory, the method comes to Q -/
def Xj (p : Program) (l : Launch) (e : Env) (R : Room) (s : State) (m : MethodId) (args : Array Value) (below : List Frame) (meth : Method) (c : Code) (D : va_G) (cy : Nat → ClassId) (ad : Nat → Int → Nat) (A : Nat → Prop) (Q : State → Prop) (nL cells slots : Nat) (pc : Nat) (ls : List (Option AV)) (st : List AV) (M : Mm) : Prop :=
  ∀ (H : Heap) (locs : List Loc) (lc : Array Slot), Wd D cy ad M H → va_S A s.heap H locs → ka_loc ad nL lc ls → W p l e R s m args below meth c H locs cells slots Q (F0 m pc lc (st.map (gam ad)))
abbrev Cx (p : Program) (s : State) (m : MethodId) (args : Array Value) (meth : Method) (c : Code) (D : va_G) (cy : Nat → ClassId) (ad : Nat → Int → Nat) (A : Nat → Prop) (cc : ByteArray) (nL : Nat) (own : String) (ret : Option FieldType) : Prop :=
  p.tables.exec = Jvm.exec ∧ c.code = cc ∧ c.maxLocals = nL ∧ s.vm.findClass own = some m.cls ∧ (∀ w ∈ kw, w.before args s = true) ∧ meth.locks = false ∧ meth.sig.returnType = ret ∧ Kk D cy s ∧ Gm ad ∧ (∀ q, Ar ad q → A q)
/-- what the tables say of a field of a class: its number ci, the field's place k -/
def Gf (own : String) (idx ci k : Nat) : Prop := ∃ (C : String) (T : u_T) (N : Nat), vwCl[ci]? = some (C, T, N) ∧ k < N ∧ (∀ w ∈ u_ws C T N, w ∈ kw) ∧ Cond.fieldLink own idx (T k).1 (T k).2.1 (T k).2.2.1 ∈ kw
def Pf (own : String) (idx ci k : Nat) (ty : FieldType) : Prop := ∃ (C : String) (T : u_T) (N : Nat) (t0 : Nat → FieldType), vwCl[ci]? = some (C, T, N) ∧ k < N ∧ (∀ w ∈ u_ws C T N, w ∈ kw) ∧ Cond.fieldLink own idx (T k).1 (T k).2.1 (T k).2.2.1 ∈ kw ∧ (∀ k, k < N → parseFieldDescriptor (T k).2.2.1 = some (t0 k)) ∧ (∀ a, a < N → ∀ b, b < N → a ≠ b → (T a).2.1 ≠ (T b).2.1) ∧ (T k).2.2.2 = false ∧ parseFieldDescriptor (T k).2.2.1 = some ty
section XR
variable {p : Program} {l : Launch} {e : Env} {R : Room} {s : State} {m : MethodId} {args : Array Value} {below : List Frame} {meth : Method} {c : Code} {D : va_G} {cy : Nat → ClassId} {ad : Nat → Int → Nat} {A : Nat → Prop} {Q : State → Prop} {cc : ByteArray} {nL : Nat} {own : String} {ret : Option FieldType} {cells slots : Nat} {pc : Nat} {ls : List (Option AV)} {st : List AV} {M : Mm}
theorem x_iconst (C : Cx p s m args meth c D cy ad A cc nL own ret) {n : Int} (hd : decode cc pc = .ok (.iconst n, 1)) (kk : Xj p l e R s m args below meth c D cy ad A Q nL cells slots (pc + 1) ls (aI n :: st) M) : Xj p l e R s m args below meth c D cy ad A Q nL cells slots pc ls st M := by
  intro H locs lc hW hS hL
  exact lv_iconst C.1 C.2.1 hd rfl (kk H locs lc hW hS hL)
theorem x_bipush (C : Cx p s m args meth c D cy ad A cc nL own ret) {n : Int} (hd : decode cc pc = .ok (.bipush n, 2)) (hn : (Int8.ofInt n).toInt32 = Int32.ofInt n) (kk : Xj p l e R s m args below meth c D cy ad A Q nL cells slots (pc + 2) ls (aI n :: st) M) : Xj p l e R s m args below meth c D cy ad A Q nL cells slots pc ls st M := by
  intro H locs lc hW hS hL
  exact lv_bipush C.1 C.2.1 hd hn (kk H locs lc hW hS hL)
theorem x_sipush (C : Cx p s m args meth c D cy ad A cc nL own ret) {n : Int} (hd : decode cc pc = .ok (.sipush n, 3)) (hn : (Int16.ofInt n).toInt32 = Int32.ofInt n) (kk : Xj p l e R s m args below meth c D cy ad A Q nL cells slots (pc + 3) ls (aI n :: st) M) : Xj p l e R s m args below meth c D cy ad A Q nL cells slots pc ls st M := by
  intro H locs lc hW hS hL
  exact lv_sipush C.1 C.2.1 hd hn (kk H locs lc hW hS hL)
theorem x_lconst (C : Cx p s m args meth c D cy ad A cc nL own ret) {n : Fin 2} {v : Int} (hd : decode cc pc = .ok (.lconst n, 1)) (hn : Int64.ofNat (n : Nat) = Int64.ofInt v) (kk : Xj p l e R s m args below meth c D cy ad A Q nL cells slots (pc + 1) ls (aL v :: st) M) : Xj p l e R s m args below meth c D cy ad A Q nL cells slots pc ls st M := by
  intro H locs lc hW hS hL
  exact lv_lconst C.1 C.2.1 hd hn (kk H locs lc hW hS hL)
theorem x_ldc (C : Cx p s m args meth c D cy ad A cc nL own ret) {idx : Nat} {v : Int} {w : Int32} (hc : Cond.constant own idx w ∈ kw) (hw : w = Int32.ofInt v) (hd : decode cc pc = .ok (.ldc idx, 2)) (kk : Xj p l e R s m args below meth c D cy ad A Q nL cells slots (pc + 2) ls (aI v :: st) M) : Xj p l e R s m args below meth c D cy ad A Q nL cells slots pc ls st M := by
  intro H locs lc hW hS hL
  subst hw
  exact lv_ldc C.1 C.2.1 C.2.2.2.1 (C.2.2.2.2.1 _ hc) hd (kk H locs lc hW hS hL)
theorem x_ldc2 (C : Cx p s m args meth c D cy ad A cc nL own ret) {idx : Nat} {v : Int} {w : Int64} (hc : Cond.constantLong own idx w ∈ kw) (hw : w = Int64.ofInt v) (hd : decode cc pc = .ok (.ldc2_w idx, 3)) (kk : Xj p l e R s m args below meth c D cy ad A Q nL cells slots (pc + 3) ls (aL v :: st) M) : Xj p l e R s m args below meth c D cy ad A Q nL cells slots pc ls st M := by
  intro H locs lc hW hS hL
  subst hw
  exact lv_ldc2 C.1 C.2.1 C.2.2.2.1 (C.2.2.2.2.1 _ hc) hd (kk H locs lc hW hS hL)
theorem x_iload_n (C : Cx p s m args meth c D cy ad A cc nL own ret) {k : Fin 4} {v : Int} (hd : decode cc pc = .ok (.iload_n k, 1)) (hv : ls[(k : Nat)]? = some (some (aI v))) (kk : Xj p l e R s m args below meth c D cy ad A Q nL cells slots (pc + 1) ls (aI v :: st) M) : Xj p l e R s m args below meth c D cy ad A Q nL cells slots pc ls st M := by
  intro H locs lc hW hS hL
  exact lv_iload_n C.1 C.2.1 hd rfl (hL.2.2 _ _ hv) (kk H locs lc hW hS hL)
theorem x_iload (C : Cx p s m args meth c D cy ad A cc nL own ret) {k : Nat} {v : Int} (hd : decode cc pc = .ok (.iload k, 2)) (hv : ls[k]? = some (some (aI v))) (kk : Xj p l e R s m args below meth c D cy ad A Q nL cells slots (pc + 2) ls (aI v :: st) M) : Xj p l e R s m args below meth c D cy ad A Q nL cells slots pc ls st M := by
  intro H locs lc hW hS hL
  exact lv_iload C.1 C.2.1 hd (hL.2.2 _ _ hv) (kk H locs lc hW hS hL)
theorem x_lload_n (C : Cx p s m args meth c D cy ad A cc nL own ret) {k : Fin 4} {v : Int} (hd : decode cc pc = .ok (.lload_n k, 1)) (hv : ls[(k : Nat)]? = some (some (aL v))) (kk : Xj p l e R s m args below meth c D cy ad A Q nL cells slots (pc + 1) ls (aL v :: st) M) : Xj p l e R s m args below meth c D cy ad A Q nL cells slots pc ls st M := by
  intro H locs lc hW hS hL
  exact lv_lload_n C.1 C.2.1 hd rfl (hL.2.2 _ _ hv) (kk H locs lc hW hS hL)
theorem x_lload (C : Cx p s m args meth c D cy ad A cc nL own ret) {k : Nat} {v : Int} (hd : decode cc pc = .ok (.lload k, 2)) (hv : ls[k]? = some (some (aL v))) (kk : Xj p l e R s m args below meth c D cy ad A Q nL cells slots (pc + 2) ls (aL v :: st) M) : Xj p l e R s m args below meth c D cy ad A Q nL cells slots pc ls st M := by
  intro H locs lc hW hS hL
  exact lv_lload C.1 C.2.1 hd (hL.2.2 _ _ hv) (kk H locs lc hW hS hL)
theorem x_aload_n (C : Cx p s m args meth c D cy ad A cc nL own ret) {k : Fin 4} {x : Nat × Int} (hd : decode cc pc = .ok (.aload_n k, 1)) (hv : ls[(k : Nat)]? = some (some (Sum.inr (Sum.inr x)))) (kk : Xj p l e R s m args below meth c D cy ad A Q nL cells slots (pc + 1) ls (Sum.inr (Sum.inr x) :: st) M) : Xj p l e R s m args below meth c D cy ad A Q nL cells slots pc ls st M := by
  intro H locs lc hW hS hL
  exact lv_aload_n C.1 C.2.1 hd rfl (hL.2.2 _ _ hv) (kk H locs lc hW hS hL)
theorem x_istore_n (C : Cx p s m args meth c D cy ad A cc nL own ret) {k : Fin 4} {v : Int} {ls' : List (Option AV)} (hd : decode cc pc = .ok (.istore_n k, 1)) (hn : (k : Nat) < nL) (hl : ka_st1 (aI v) (k : Nat) ls = ls') (kk : Xj p l e R s m args below meth c D cy ad A Q nL cells slots (pc + 1) ls' st M) : Xj p l e R s m args below meth c D cy ad A Q nL cells slots pc ls (aI v :: st) M := by
  intro H locs lc hW hS hL
  subst hl
  exact lv_istore_n C.1 C.2.1 hd rfl (ka_loc_has hL) hn rfl (fun lc' h => kk H locs lc' hW hS (ka_loc1 (v := aI v) h))
theorem x_istore (C : Cx p s m args meth c D cy ad A cc nL own ret) {k : Nat} {v : Int} {ls' : List (Option AV)} (hd : decode cc pc = .ok (.istore k, 2)) (hn : k < nL) (hl : ka_st1 (aI v) k ls = ls') (kk : Xj p l e R s m args below meth c D cy ad A Q nL cells slots (pc + 2) ls' st M) : Xj p l e R s m args below meth c D cy ad A Q nL cells slots pc ls (aI v :: st) M := by
  intro H locs lc hW hS hL
  subst hl
  exact lv_istore C.1 C.2.1 hd (ka_loc_has hL) hn rfl (fun lc' h => kk H locs lc' hW hS (ka_loc1 (v := aI v) h))
theorem x_astore_n (C : Cx p s m args meth c D cy ad A cc nL own ret) {k : Fin 4} {x : Nat × Int} {ls' : List (Option AV)} (hd : decode cc pc = .ok (.astore_n k, 1)) (hn : (k : Nat) < nL) (hl : ka_st1 (Sum.inr (Sum.inr x)) (k : Nat) ls = ls') (kk : Xj p l e R s m args below meth c D cy ad A Q nL cells slots (pc + 1) ls' st M) : Xj p l e R s m args below meth c D cy ad A Q nL cells slots pc ls (Sum.inr (Sum.inr x) :: st) M := by
  intro H locs lc hW hS hL
  subst hl
  exact lv_astore_n C.1 C.2.1 hd rfl (ka_loc_has hL) hn rfl (fun lc' h => kk H locs lc' hW hS (ka_loc1 (v := Sum.inr (Sum.inr x)) h))
theorem x_lstore_n (C : Cx p s m args meth c D cy ad A cc nL own ret) {k : Fin 4} {v : Int} {ls' : List (Option AV)} (hd : decode cc pc = .ok (.lstore_n k, 1)) (hn : (k : Nat) + 1 < nL) (hl : ka_st2 (aL v) (k : Nat) ls = ls') (kk : Xj p l e R s m args below meth c D cy ad A Q nL cells slots (pc + 1) ls' st M) : Xj p l e R s m args below meth c D cy ad A Q nL cells slots pc ls (aL v :: st) M := by
  intro H locs lc hW hS hL
  subst hl
  exact lv_lstore_n C.1 C.2.1 hd rfl (ka_loc_has hL) hn rfl (fun lc' h => kk H locs lc' hW hS (ka_loc2 (v := aL v) h))
theorem x_lstore (C : Cx p s m args meth c D cy ad A cc nL own ret) {k : Nat} {v : Int} {ls' : List (Option AV)} (hd : decode cc pc = .ok (.lstore k, 2)) (hn : k + 1 < nL) (hl : ka_st2 (aL v) k ls = ls') (kk : Xj p l e R s m args below meth c D cy ad A Q nL cells slots (pc + 2) ls' st M) : Xj p l e R s m args below meth c D cy ad A Q nL cells slots pc ls (aL v :: st) M := by
  intro H locs lc hW hS hL
  subst hl
  exact lv_lstore C.1 C.2.1 hd (ka_loc_has hL) hn rfl (fun lc' h => kk H locs lc' hW hS (ka_loc2 (v := aL v) h))
theorem x_iinc (C : Cx p s m args meth c D cy ad A cc nL own ret) {k : Nat} {n v : Int} {ls' : List (Option AV)} (hd : decode cc pc = .ok (.iinc k n, 3)) (hv : ls[k]? = some (some (aI v))) (hn : k < nL) (hl : ka_st1 (aI (v + n)) k ls = ls') (kk : Xj p l e R s m args below meth c D cy ad A Q nL cells slots (pc + 3) ls' st M) : Xj p l e R s m args below meth c D cy ad A Q nL cells slots pc ls st M := by
  intro H locs lc hW hS hL
  subst hl
  obtain ⟨i, hi⟩ := List.getElem?_of_mem (ka_prs_mem (ad := ad) (q := (k, gam ad (aI v))).mpr ⟨_, hv, rfl⟩)
  exact lv_iinc C.1 C.2.1 hd (ka_loc_has hL) hi (Int32.ofInt_add v n).symm hn rfl (fun lc' h => kk H locs lc' hW hS (ka_loc1 (v := aI (v + n)) h))
theorem x_goto (C : Cx p s m args meth c D cy ad A cc nL own ret) {off : Int} {tgt : Nat} (hd : decode cc pc = .ok (.goto off, 3)) (ht : (pc : Int) + off = (tgt : Int)) (kk : Xj p l e R s m args below meth c D cy ad A Q nL cells slots tgt ls st M) : Xj p l e R s m args below meth c D cy ad A Q nL cells slots pc ls st M := by
  intro H locs lc hW hS hL
  exact lv_goto C.1 C.2.1 hd ht (kk H locs lc hW hS hL)
theorem x_dup (C : Cx p s m args meth c D cy ad A cc nL own ret) {v : AV} (hd : decode cc pc = .ok (.dup, 1)) (hv : (gam ad v).category = 1) (kk : Xj p l e R s m args below meth c D cy ad A Q nL cells slots (pc + 1) ls (v :: v :: st) M) : Xj p l e R s m args below meth c D cy ad A Q nL cells slots pc ls (v :: st) M := by
  intro H locs lc hW hS hL
  exact lv_dup C.1 C.2.1 hd hv (kk H locs lc hW hS hL)
theorem x_dup2 (C : Cx p s m args meth c D cy ad A cc nL own ret) {v w : AV} (hd : decode cc pc = .ok (.dup2, 1)) (hv : (gam ad v).category = 1) (hw : (gam ad w).category = 1) (kk : Xj p l e R s m args below meth c D cy ad A Q nL cells slots (pc + 1) ls (v :: w :: v :: w :: st) M) : Xj p l e R s m args below meth c D cy ad A Q nL cells slots pc ls (v :: w :: st) M := by
  intro H locs lc hW hS hL
  exact lv_dup2_11 C.1 C.2.1 hd hv hw (kk H locs lc hW hS hL)
theorem x_iadd (C : Cx p s m args meth c D cy ad A cc nL own ret) {a b : Int} (hd : decode cc pc = .ok (.iadd, 1)) (kk : Xj p l e R s m args below meth c D cy ad A Q nL cells slots (pc + 1) ls (aI (a + b) :: st) M) : Xj p l e R s m args below meth c D cy ad A Q nL cells slots pc ls (aI b :: aI a :: st) M := by
  intro H locs lc hW hS hL
  have h := kk H locs lc hW hS hL
  simp only [List.map_cons, gam, Int32.ofInt_add] at h
  exact lv_iadd C.1 C.2.1 hd h
theorem x_isub (C : Cx p s m args meth c D cy ad A cc nL own ret) {a b : Int} (hd : decode cc pc = .ok (.isub, 1)) (kk : Xj p l e R s m args below meth c D cy ad A Q nL cells slots (pc + 1) ls (aI (a - b) :: st) M) : Xj p l e R s m args below meth c D cy ad A Q nL cells slots pc ls (aI b :: aI a :: st) M := by
  intro H locs lc hW hS hL
  have h := kk H locs lc hW hS hL
  simp only [List.map_cons, gam, Int32.ofInt_sub] at h
  exact lv_isub C.1 C.2.1 hd h
theorem x_imul (C : Cx p s m args meth c D cy ad A cc nL own ret) {a b : Int} (hd : decode cc pc = .ok (.imul, 1)) (kk : Xj p l e R s m args below meth c D cy ad A Q nL cells slots (pc + 1) ls (aI (a * b) :: st) M) : Xj p l e R s m args below meth c D cy ad A Q nL cells slots pc ls (aI b :: aI a :: st) M := by
  intro H locs lc hW hS hL
  have h := kk H locs lc hW hS hL
  simp only [List.map_cons, gam, Int32.ofInt_mul] at h
  exact lv_imul C.1 C.2.1 hd h
theorem x_ladd (C : Cx p s m args meth c D cy ad A cc nL own ret) {a b : Int} (hd : decode cc pc = .ok (.ladd, 1)) (kk : Xj p l e R s m args below meth c D cy ad A Q nL cells slots (pc + 1) ls (aL (a + b) :: st) M) : Xj p l e R s m args below meth c D cy ad A Q nL cells slots pc ls (aL b :: aL a :: st) M := by
  intro H locs lc hW hS hL
  have h := kk H locs lc hW hS hL
  simp only [List.map_cons, gam, Int64.ofInt_add] at h
  exact lv_ladd C.1 C.2.1 hd h
theorem x_lsub (C : Cx p s m args meth c D cy ad A cc nL own ret) {a b : Int} (hd : decode cc pc = .ok (.lsub, 1)) (kk : Xj p l e R s m args below meth c D cy ad A Q nL cells slots (pc + 1) ls (aL (a - b) :: st) M) : Xj p l e R s m args below meth c D cy ad A Q nL cells slots pc ls (aL b :: aL a :: st) M := by
  intro H locs lc hW hS hL
  have h := kk H locs lc hW hS hL
  simp only [List.map_cons, gam, Int64.ofInt_sub] at h
  exact lv_lsub C.1 C.2.1 hd h
theorem x_lmul (C : Cx p s m args meth c D cy ad A cc nL own ret) {a b : Int} (hd : decode cc pc = .ok (.lmul, 1)) (kk : Xj p l e R s m args below meth c D cy ad A Q nL cells slots (pc + 1) ls (aL (a * b) :: st) M) : Xj p l e R s m args below meth c D cy ad A Q nL cells slots pc ls (aL b :: aL a :: st) M := by
  intro H locs lc hW hS hL
  have h := kk H locs lc hW hS hL
  simp only [List.map_cons, gam, Int64.ofInt_mul] at h
  exact lv_lmul C.1 C.2.1 hd h
theorem x_icmp_lt (C : Cx p s m args meth c D cy ad A cc nL own ret) {a b : Int} {off : Int} {tgt : Nat} (ha : iR a) (hb : iR b) (hd : decode cc pc = .ok (.if_icmp .lt off, 3)) (ht : (pc : Int) + off = (tgt : Int)) (kt : a < b → Xj p l e R s m args below meth c D cy ad A Q nL cells slots tgt ls st M) (kf : ¬ (a < b) → Xj p l e R s m args below meth c D cy ad A Q nL cells slots (pc + 3) ls st M) : Xj p l e R s m args below meth c D cy ad A Q nL cells slots pc ls (aI b :: aI a :: st) M := by
  intro H locs lc hW hS hL
  exact lv_icmp_lt C.1 C.2.1 hd ht (fun h => kt ((ka_lt ha hb).mp h) H locs lc hW hS hL) (fun h => kf (fun q => h ((ka_lt ha hb).mpr q)) H locs lc hW hS hL)
theorem x_if_lt (C : Cx p s m args meth c D cy ad A cc nL own ret) {a : Int} {off : Int} {tgt : Nat} (ha : iR a) (hd : decode cc pc = .ok (.ifCond .lt off, 3)) (ht : (pc : Int) + off = (tgt : Int)) (kt : a < 0 → Xj p l e R s m args below meth c D cy ad A Q nL cells slots tgt ls st M) (kf : ¬ (a < 0) → Xj p l e R s m args below meth c D cy ad A Q nL cells slots (pc + 3) ls st M) : Xj p l e R s m args below meth c D cy ad A Q nL cells slots pc ls (aI a :: st) M := by
  intro H locs lc hW hS hL
  exact lv_if_lt C.1 C.2.1 hd ht (fun h => kt ((ka_lt ha ka_zr).mp h) H locs lc hW hS hL) (fun h => kf (fun q => h ((ka_lt ha ka_zr).mpr q)) H locs lc hW hS hL)
theorem x_icmp_ge (C : Cx p s m args meth c D cy ad A cc nL own ret) {a b : Int} {off : Int} {tgt : Nat} (ha : iR a) (hb : iR b) (hd : decode cc pc = .ok (.if_icmp .ge off, 3)) (ht : (pc : Int) + off = (tgt : Int)) (kt : b ≤ a → Xj p l e R s m args below meth c D cy ad A Q nL cells slots tgt ls st M) (kf : ¬ (b ≤ a) → Xj p l e R s m args below meth c D cy ad A Q nL cells slots (pc + 3) ls st M) : Xj p l e R s m args below meth c D cy ad A Q nL cells slots pc ls (aI b :: aI a :: st) M := by
  intro H locs lc hW hS hL
  exact lv_icmp_ge C.1 C.2.1 hd ht (fun h => kt ((ka_le hb ha).mp h) H locs lc hW hS hL) (fun h => kf (fun q => h ((ka_le hb ha).mpr q)) H locs lc hW hS hL)
theorem x_if_ge (C : Cx p s m args meth c D cy ad A cc nL own ret) {a : Int} {off : Int} {tgt : Nat} (ha : iR a) (hd : decode cc pc = .ok (.ifCond .ge off, 3)) (ht : (pc : Int) + off = (tgt : Int)) (kt : 0 ≤ a → Xj p l e R s m args below meth c D cy ad A Q nL cells slots tgt ls st M) (kf : ¬ (0 ≤ a) → Xj p l e R s m args below meth c D cy ad A Q nL cells slots (pc + 3) ls st M) : Xj p l e R s m args below meth c D cy ad A Q nL cells slots pc ls (aI a :: st) M := by
  intro H locs lc hW hS hL
  exact lv_if_ge C.1 C.2.1 hd ht (fun h => kt ((ka_le ka_zr ha).mp h) H locs lc hW hS hL) (fun h => kf (fun q => h ((ka_le ka_zr ha).mpr q)) H locs lc hW hS hL)
theorem x_icmp_gt (C : Cx p s m args meth c D cy ad A cc nL own ret) {a b : Int} {off : Int} {tgt : Nat} (ha : iR a) (hb : iR b) (hd : decode cc pc = .ok (.if_icmp .gt off, 3)) (ht : (pc : Int) + off = (tgt : Int)) (kt : b < a → Xj p l e R s m args below meth c D cy ad A Q nL cells slots tgt ls st M) (kf : ¬ (b < a) → Xj p l e R s m args below meth c D cy ad A Q nL cells slots (pc + 3) ls st M) : Xj p l e R s m args below meth c D cy ad A Q nL cells slots pc ls (aI b :: aI a :: st) M := by
  intro H locs lc hW hS hL
  exact lv_icmp_gt C.1 C.2.1 hd ht (fun h => kt ((ka_lt hb ha).mp h) H locs lc hW hS hL) (fun h => kf (fun q => h ((ka_lt hb ha).mpr q)) H locs lc hW hS hL)
theorem x_if_gt (C : Cx p s m args meth c D cy ad A cc nL own ret) {a : Int} {off : Int} {tgt : Nat} (ha : iR a) (hd : decode cc pc = .ok (.ifCond .gt off, 3)) (ht : (pc : Int) + off = (tgt : Int)) (kt : 0 < a → Xj p l e R s m args below meth c D cy ad A Q nL cells slots tgt ls st M) (kf : ¬ (0 < a) → Xj p l e R s m args below meth c D cy ad A Q nL cells slots (pc + 3) ls st M) : Xj p l e R s m args below meth c D cy ad A Q nL cells slots pc ls (aI a :: st) M := by
  intro H locs lc hW hS hL
  exact lv_if_gt C.1 C.2.1 hd ht (fun h => kt ((ka_lt ka_zr ha).mp h) H locs lc hW hS hL) (fun h => kf (fun q => h ((ka_lt ka_zr ha).mpr q)) H locs lc hW hS hL)
theorem x_icmp_le (C : Cx p s m args meth c D cy ad A cc nL own ret) {a b : Int} {off : Int} {tgt : Nat} (ha : iR a) (hb : iR b) (hd : decode cc pc = .ok (.if_icmp .le off, 3)) (ht : (pc : Int) + off = (tgt : Int)) (kt : a ≤ b → Xj p l e R s m args below meth c D cy ad A Q nL cells slots tgt ls st M) (kf : ¬ (a ≤ b) → Xj p l e R s m args below meth c D cy ad A Q nL cells slots (pc + 3) ls st M) : Xj p l e R s m args below meth c D cy ad A Q nL cells slots pc ls (aI b :: aI a :: st) M := by
  intro H locs lc hW hS hL
  exact lv_icmp_le C.1 C.2.1 hd ht (fun h => kt ((ka_le ha hb).mp h) H locs lc hW hS hL) (fun h => kf (fun q => h ((ka_le ha hb).mpr q)) H locs lc hW hS hL)
theorem x_if_le (C : Cx p s m args meth c D cy ad A cc nL own ret) {a : Int} {off : Int} {tgt : Nat} (ha : iR a) (hd : decode cc pc = .ok (.ifCond .le off, 3)) (ht : (pc : Int) + off = (tgt : Int)) (kt : a ≤ 0 → Xj p l e R s m args below meth c D cy ad A Q nL cells slots tgt ls st M) (kf : ¬ (a ≤ 0) → Xj p l e R s m args below meth c D cy ad A Q nL cells slots (pc + 3) ls st M) : Xj p l e R s m args below meth c D cy ad A Q nL cells slots pc ls (aI a :: st) M := by
  intro H locs lc hW hS hL
  exact lv_if_le C.1 C.2.1 hd ht (fun h => kt ((ka_le ha ka_zr).mp h) H locs lc hW hS hL) (fun h => kf (fun q => h ((ka_le ha ka_zr).mpr q)) H locs lc hW hS hL)
theorem x_icmp_eq (C : Cx p s m args meth c D cy ad A cc nL own ret) {a b : Int} {off : Int} {tgt : Nat} (ha : iR a) (hb : iR b) (hd : decode cc pc = .ok (.if_icmp .eq off, 3)) (ht : (pc : Int) + off = (tgt : Int)) (kt : a = b → Xj p l e R s m args below meth c D cy ad A Q nL cells slots tgt ls st M) (kf : ¬ (a = b) → Xj p l e R s m args below meth c D cy ad A Q nL cells slots (pc + 3) ls st M) : Xj p l e R s m args below meth c D cy ad A Q nL cells slots pc ls (aI b :: aI a :: st) M := by
  intro H locs lc hW hS hL
  exact lv_icmp_eq C.1 C.2.1 hd ht (fun h => kt ((ka_eq ha hb).mp h) H locs lc hW hS hL) (fun h => kf (fun q => h ((ka_eq ha hb).mpr q)) H locs lc hW hS hL)
theorem x_if_eq (C : Cx p s m args meth c D cy ad A cc nL own ret) {a : Int} {off : Int} {tgt : Nat} (ha : iR a) (hd : decode cc pc = .ok (.ifCond .eq off, 3)) (ht : (pc : Int) + off = (tgt : Int)) (kt : a = 0 → Xj p l e R s m args below meth c D cy ad A Q nL cells slots tgt ls st M) (kf : ¬ (a = 0) → Xj p l e R s m args below meth c D cy ad A Q nL cells slots (pc + 3) ls st M) : Xj p l e R s m args below meth c D cy ad A Q nL cells slots pc ls (aI a :: st) M := by
  intro H locs lc hW hS hL
  exact lv_if_eq C.1 C.2.1 hd ht (fun h => kt ((ka_eq ha ka_zr).mp h) H locs lc hW hS hL) (fun h => kf (fun q => h ((ka_eq ha ka_zr).mpr q)) H locs lc hW hS hL)
theorem x_icmp_ne (C : Cx p s m args meth c D cy ad A cc nL own ret) {a b : Int} {off : Int} {tgt : Nat} (ha : iR a) (hb : iR b) (hd : decode cc pc = .ok (.if_icmp .ne off, 3)) (ht : (pc : Int) + off = (tgt : Int)) (kt : ¬ a = b → Xj p l e R s m args below meth c D cy ad A Q nL cells slots tgt ls st M) (kf : a = b → Xj p l e R s m args below meth c D cy ad A Q nL cells slots (pc + 3) ls st M) : Xj p l e R s m args below meth c D cy ad A Q nL cells slots pc ls (aI b :: aI a :: st) M := by
  intro H locs lc hW hS hL
  exact lv_icmp_ne C.1 C.2.1 hd ht (fun h => kt (fun q => h ((ka_eq ha hb).mpr q)) H locs lc hW hS hL) (fun h => kf ((ka_eq ha hb).mp h) H locs lc hW hS hL)
theorem x_if_ne (C : Cx p s m args meth c D cy ad A cc nL own ret) {a : Int} {off : Int} {tgt : Nat} (ha : iR a) (hd : decode cc pc = .ok (.ifCond .ne off, 3)) (ht : (pc : Int) + off = (tgt : Int)) (kt : ¬ a = 0 → Xj p l e R s m args below meth c D cy ad A Q nL cells slots tgt ls st M) (kf : a = 0 → Xj p l e R s m args below meth c D cy ad A Q nL cells slots (pc + 3) ls st M) : Xj p l e R s m args below meth c D cy ad A Q nL cells slots pc ls (aI a :: st) M := by
  intro H locs lc hW hS hL
  exact lv_if_ne C.1 C.2.1 hd ht (fun h => kt (fun q => h ((ka_eq ha ka_zr).mpr q)) H locs lc hW hS hL) (fun h => kf ((ka_eq ha ka_zr).mp h) H locs lc hW hS hL)
/-! fields -/
theorem x_getf0 (C : Cx p s m args meth c D cy ad A cc nL own ret) {c0 ci k idx t z : Nat} {fds : List (Nat × Nat)} (hg : Gf own idx ci k) (hl : lay c0 = .inl (ci, fds)) (hf : fds[k]? = some (t, z)) (hm : c0 < 49) (hd : decode cc pc = .ok (.getfield idx, 3)) (kk : Xj p l e R s m args below meth c D cy ad A Q nL cells slots (pc + 3) ls (ka_fa (M c0) (k : Int) t z :: st) M) : Xj p l e R s m args below meth c D cy ad A Q nL cells slots pc ls (aR c0 :: st) M := by
  intro H locs lc hW hS hL
  obtain ⟨Cn, T, N, h1, h2, h3, h4⟩ := hg
  obtain ⟨q0, hq, hws⟩ := ka_place (cy := cy) (ad := ad) M (c := c0) (r := -1) (ka_mem.mpr ⟨hm, Or.inl rfl⟩)
  have hct : ka_ct cy ad (M c0) c0 (-1) = .inr (ci, (ka_fs (M c0) 0 fds).map (gam ad)) := by unfold ka_ct; rw [hl]
  rw [hct] at hws
  refine va_get (v := gam ad (ka_fa (M c0) (k : Int) t z)) C.1 C.2.1 C.2.2.2.2.1 h3 C.2.2.2.1 C.2.2.2.2.2.2.2.1 hW.1 q0 hws h1 k h2 (C.2.2.2.2.1 _ h4) (fun _ h => h) ?_ hd (kk H locs lc hW hS hL)
  rw [List.getElem?_map, ka_fs_at, hf]
  simp
theorem x_getI (C : Cx p s m args meth c D cy ad A cc nL own ret) {c0 ci k idx z : Nat} {kI : Int} {fds : List (Nat × Nat)} (hg : Gf own idx ci k) (hl : lay c0 = .inl (ci, fds)) (hf : fds[k]? = some (0, z)) (hk : (k : Int) = kI) (hm : c0 < 49) (hd : decode cc pc = .ok (.getfield idx, 3)) (kk : Xj p l e R s m args below meth c D cy ad A Q nL cells slots (pc + 3) ls (aI (M c0 kI) :: st) M) : Xj p l e R s m args below meth c D cy ad A Q nL cells slots pc ls (aR c0 :: st) M := by
  subst hk; exact x_getf0 C hg hl hf hm hd kk
theorem x_getL (C : Cx p s m args meth c D cy ad A cc nL own ret) {c0 ci k idx z : Nat} {kI : Int} {fds : List (Nat × Nat)} (hg : Gf own idx ci k) (hl : lay c0 = .inl (ci, fds)) (hf : fds[k]? = some (1, z)) (hk : (k : Int) = kI) (hm : c0 < 49) (hd : decode cc pc = .ok (.getfield idx, 3)) (kk : Xj p l e R s m args below meth c D cy ad A Q nL cells slots (pc + 3) ls (aL (M c0 kI) :: st) M) : Xj p l e R s m args below meth c D cy ad A Q nL cells slots pc ls (aR c0 :: st) M := by
  subst hk; exact x_getf0 C hg hl hf hm hd kk
theorem x_getZ (C : Cx p s m args meth c D cy ad A cc nL own ret) {c0 ci k idx z : Nat} {kI : Int} {fds : List (Nat × Nat)} (hg : Gf own idx ci k) (hl : lay c0 = .inl (ci, fds)) (hf : fds[k]? = some (2, z)) (hk : (k : Int) = kI) (hm : c0 < 49) (hd : decode cc pc = .ok (.getfield idx, 3)) (kk : Xj p l e R s m args below meth c D cy ad A Q nL cells slots (pc + 3) ls (aI (M c0 kI) :: st) M) : Xj p l e R s m args below meth c D cy ad A Q nL cells slots pc ls (aR c0 :: st) M := by
  subst hk; exact x_getf0 C hg hl hf hm hd kk
theorem x_getR (C : Cx p s m args meth c D cy ad A cc nL own ret) {c0 ci k idx z : Nat} {fds : List (Nat × Nat)} (hg : Gf own idx ci k) (hl : lay c0 = .inl (ci, fds)) (hf : fds[k]? = some (3, z)) (hm : c0 < 49) (hd : decode cc pc = .ok (.getfield idx, 3)) (kk : Xj p l e R s m args below meth c D cy ad A Q nL cells slots (pc + 3) ls (aR z :: st) M) : Xj p l e R s m args below meth c D cy ad A Q nL cells slots pc ls (aR c0 :: st) M := by
  exact x_getf0 C hg hl hf hm hd kk
theorem ka_fs_set {f : Int → Int} {fds : List (Nat × Nat)} {k t z : Nat} {v : Int} {w : AV} (hf : fds[k]? = some (t, z)) (ht : ka_fa (fu f (k : Int) v) (k : Int) t z = w) : (ka_fs (fu f (k : Int) v) 0 fds).map (gam ad) = ((ka_fs f 0 fds).map (gam ad)).set k (gam ad w) := by
  have hkl : k < fds.length := (List.getElem?_eq_some_iff.mp hf).1
  apply List.ext_getElem?
  intro i
  by_cases hi : i = k
  · subst hi
    rw [List.getElem?_set_self (by rw [List.length_map, ka_fs_len]; exact hkl), List.getElem?_map, ka_fs_at, hf, ← ht]
    simp
  · rw [List.getElem?_set_ne (Ne.symm hi), List.getElem?_map, List.getElem?_map, ka_fs_at, ka_fs_at]
    cases hx : fds[i]? with
    | none => rfl
    | some x =>
      obtain ⟨t', z'⟩ := x
      have e : fu f (k : Int) v ((0 + i : Nat) : Int) = f ((0 + i : Nat) : Int) := fu_n _ _ (by omega)
      show some (gam ad (ka_fa _ _ t' z')) = some (gam ad (ka_fa _ _ t' z'))
      unfold ka_fa
      rw [e]
theorem x_putf0 (C : Cx p s m args meth c D cy ad A cc nL own ret) {c0 ci k idx t z : Nat} {v : Int} {w : AV} {ty : FieldType} {fds : List (Nat × Nat)} (hg : Pf own idx ci k ty) (hl : lay c0 = .inl (ci, fds)) (hf : fds[k]? = some (t, z)) (hm : c0 < 49) (hok : ka_ok t v) (hw : ∀ f : Int → Int, ka_fa (fu f (k : Int) v) (k : Int) t z = w) (hn : narrow ty (gam ad w) = gam ad w) (hft : fits ty (gam ad w) = true) (hd : decode cc pc = .ok (.putfield idx, 3)) (kk : Xj p l e R s m args below meth c D cy ad A Q nL cells slots (pc + 3) ls st (mset M c0 (k : Int) v)) : Xj p l e R s m args below meth c D cy ad A Q nL cells slots pc ls (w :: aR c0 :: st) M := by
  intro H locs lc hW hS hL
  obtain ⟨Cn, T, N, t0, h1, h2, h3, h4, h5, h6, h7, h8⟩ := hg
  obtain ⟨q0, hq, hws⟩ := ka_place (cy := cy) (ad := ad) M (c := c0) (r := -1) (ka_mem.mpr ⟨hm, Or.inl rfl⟩)
  have hct : ∀ f, ka_ct cy ad f c0 (-1) = .inr (ci, (ka_fs f 0 fds).map (gam ad)) := fun f => by unfold ka_ct; rw [hl]
  rw [hct] at hws
  have hkl : k < fds.length := (List.getElem?_eq_some_iff.mp hf).1
  refine va_put (v := gam ad w) C.1 C.2.1 C.2.2.2.2.1 h3 t0 h5 h6 C.2.2.2.1 C.2.2.2.2.2.2.2.1 hW.1 (ka_D C.2.2.2.2.2.2.2.2.1 C.2.2.2.2.2.2.2.2.2 M) hS q0 hws h1 k h2 (C.2.2.2.2.1 _ h4) (fun _ h => h) h7 h8 hn hft (by rw [List.length_map, ka_fs_len]; exact hkl) hd (fun H1 locs1 hP1 hD1 hS1 => ?_)
  refine kk H1 locs1 lc ⟨?_, ?_⟩ hS1 hL
  · rw [ka_wset1 (k := (k : Int)) (v := v) (by unfold ka_rows; rw [hl]) hq (by rw [hct, ka_fs_set hf (hw (M c0))])] at hP1
    exact hP1
  · refine ka_rng_set hW.2 ?_
    have e : ka_sty c0 (k : Int) = t := by unfold ka_sty; rw [hl]; show (Option.map _ fds[((k : Nat) : Int).toNat]?).getD 3 = t; rw [Int.toNat_natCast, hf]; rfl
    rw [e]
    exact hok
theorem x_putI (C : Cx p s m args meth c D cy ad A cc nL own ret) {c0 ci k idx z : Nat} {v kI : Int} {fds : List (Nat × Nat)} (hg : Pf own idx ci k .int) (hl : lay c0 = .inl (ci, fds)) (hf : fds[k]? = some (0, z)) (hk : (k : Int) = kI) (hm : c0 < 49) (hv : iR v) (hd : decode cc pc = .ok (.putfield idx, 3)) (kk : Xj p l e R s m args below meth c D cy ad A Q nL cells slots (pc + 3) ls st (mset M c0 kI v)) : Xj p l e R s m args below meth c D cy ad A Q nL cells slots pc ls (aI v :: aR c0 :: st) M := by
  subst hk
  exact x_putf0 (w := aI v) C hg hl hf hm hv (fun f => by show aI (fu f _ v _) = _; rw [fu_s]) rfl rfl hd kk
theorem x_putL (C : Cx p s m args meth c D cy ad A cc nL own ret) {c0 ci k idx z : Nat} {v kI : Int} {fds : List (Nat × Nat)} (hg : Pf own idx ci k .long) (hl : lay c0 = .inl (ci, fds)) (hf : fds[k]? = some (1, z)) (hk : (k : Int) = kI) (hm : c0 < 49) (hv : lR v) (hd : decode cc pc = .ok (.putfield idx, 3)) (kk : Xj p l e R s m args below meth c D cy ad A Q nL cells slots (pc + 3) ls st (mset M c0 kI v)) : Xj p l e R s m args below meth c D cy ad A Q nL cells slots pc ls (aL v :: aR c0 :: st) M := by
  subst hk
  exact x_putf0 (w := aL v) C hg hl hf hm hv (fun f => by show aL (fu f _ v _) = _; rw [fu_s]) rfl rfl hd kk
theorem ka_b01 {v : Int} (h : bR v) : v = 0 ∨ v = 1 := by omega
theorem x_putZ (C : Cx p s m args meth c D cy ad A cc nL own ret) {c0 ci k idx z : Nat} {v kI : Int} {fds : List (Nat × Nat)} (hg : Pf own idx ci k .boolean) (hl : lay c0 = .inl (ci, fds)) (hf : fds[k]? = some (2, z)) (hk : (k : Int) = kI) (hm : c0 < 49) (hv : bR v) (hd : decode cc pc = .ok (.putfield idx, 3)) (kk : Xj p l e R s m args below meth c D cy ad A Q nL cells slots (pc + 3) ls st (mset M c0 kI v)) : Xj p l e R s m args below meth c D cy ad A Q nL cells slots pc ls (aI v :: aR c0 :: st) M := by
  subst hk
  exact x_putf0 (w := aI v) C hg hl hf hm hv (fun f => by show aI (fu f _ v _) = _; rw [fu_s]) (by rcases ka_b01 hv with rfl | rfl <;> rfl) (by rcases ka_b01 hv with rfl | rfl <;> rfl) hd kk
/-! arrays -/
theorem ka_ctI {c0 n : Nat} (f : Int → Int) (r : Int) (hl : lay c0 = .inr (0, 0, n)) : ka_ct cy ad f c0 r = .inl (cy 0, n, .inl (fun j => Int32.ofInt (f j))) := by unfold ka_ct; rw [hl]; rfl
theorem ka_ctZ {c0 n : Nat} (f : Int → Int) (r : Int) (hl : lay c0 = .inr (2, 0, n)) : ka_ct cy ad f c0 r = .inl (cy 2, n, .inl (fun j => Int32.ofInt (f j))) := by unfold ka_ct; rw [hl]; rfl
theorem ka_ctL {c0 n : Nat} (f : Int → Int) (r : Int) (hl : lay c0 = .inr (1, 0, n)) : ka_ct cy ad f c0 r = .inl (cy 1, n, .inr (.inl (fun j => Int64.ofInt (f j)))) := by unfold ka_ct; rw [hl]; rfl
theorem ka_ctO {c0 n k : Nat} (f : Int → Int) (hl : lay c0 = .inr (0, k + 1, n)) : ka_ct cy ad f c0 (-1) = .inl (cy 3, k + 1, .inr (.inr (.inr (.inr (fun i => if i < k + 1 then some (ad c0 i) else none))))) := by unfold ka_ct; rw [hl]; rfl
theorem ka_ctW {c0 n k : Nat} (f : Int → Int) {r : Int} (hr : 0 ≤ r) (hl : lay c0 = .inr (0, k + 1, n)) : ka_ct cy ad f c0 r = .inl (cy 0, n, .inl (fun j => if j < n then Int32.ofInt (f (n * r + j)) else 0)) := by unfold ka_ct; rw [hl]; exact if_neg (by omega)
theorem ka_updI {f : Int → Int} {i v : Int} (h0 : 0 ≤ i) (h1 : i < 2147483648) : upd (fun j : Nat => Int32.ofInt (f j)) (Int32.ofInt i).toNatClampNeg (Int32.ofInt v) = fun j : Nat => Int32.ofInt (fu f i v j) := by
  have hc := ka_clamp h0 h1
  funext j
  by_cases hj : j = (Int32.ofInt i).toNatClampNeg
  · subst hj; rw [pk_us, hc, fu_s]
  · rw [pk_un hj, fu_n]
    intro q; apply hj; omega
theorem ka_updL {f : Int → Int} {i v : Int} (h0 : 0 ≤ i) (h1 : i < 2147483648) : vp_updL (fun j : Nat => Int64.ofInt (f j)) (Int32.ofInt i).toNatClampNeg (Int64.ofInt v) = fun j : Nat => Int64.ofInt (fu f i v j) := by
  have hc := ka_clamp h0 h1
  funext j
  by_cases hj : j = (Int32.ofInt i).toNatClampNeg
  · subst hj; rw [pk_uLs, hc, fu_s]
  · rw [pk_uLn hj, fu_n]
    intro q; apply hj; omega
theorem x_iald (C : Cx p s m args meth c D cy ad A cc nL own ret) {c0 n : Nat} {i nI : Int} (hl : lay c0 = .inr (0, 0, n)) (hn : (n : Int) = nI) (hb : nI ≤ 100000) (hm : c0 < 49) (hi : 0 ≤ i ∧ i < nI) (hd : decode cc pc = .ok (.iaload, 1)) (kk : Xj p l e R s m args below meth c D cy ad A Q nL cells slots (pc + 1) ls (aI (M c0 i) :: st) M) : Xj p l e R s m args below meth c D cy ad A Q nL cells slots pc ls (aI i :: aR c0 :: st) M := by
  intro H locs lc hW hS hL
  subst hn
  obtain ⟨q0, hq, hws⟩ := ka_place (cy := cy) (ad := ad) M (c := c0) (r := -1) (ka_mem.mpr ⟨hm, Or.inl rfl⟩)
  rw [ka_ctI _ _ hl] at hws
  have h := kk H locs lc hW hS hL
  refine va_iald C.1 C.2.1 C.2.2.2.2.2.2.2.1 hW.1 q0 0 hws rfl (ka_in hi.1 hi.2 (by omega)) hd ?_
  rw [ka_clamp hi.1 (by omega)]
  exact h
theorem x_zald (C : Cx p s m args meth c D cy ad A cc nL own ret) {c0 n : Nat} {i nI : Int} (hl : lay c0 = .inr (2, 0, n)) (hn : (n : Int) = nI) (hb : nI ≤ 100000) (hm : c0 < 49) (hi : 0 ≤ i ∧ i < nI) (hd : decode cc pc = .ok (.baload, 1)) (kk : Xj p l e R s m args below meth c D cy ad A Q nL cells slots (pc + 1) ls (aI (M c0 i) :: st) M) : Xj p l e R s m args below meth c D cy ad A Q nL cells slots pc ls (aI i :: aR c0 :: st) M := by
  intro H locs lc hW hS hL
  subst hn
  obtain ⟨q0, hq, hws⟩ := ka_place (cy := cy) (ad := ad) M (c := c0) (r := -1) (ka_mem.mpr ⟨hm, Or.inl rfl⟩)
  rw [ka_ctZ _ _ hl] at hws
  have h := kk H locs lc hW hS hL
  refine va_zald C.1 C.2.1 C.2.2.2.2.2.2.2.1 hW.1 q0 2 hws rfl (ka_in hi.1 hi.2 (by omega)) hd ?_
  rw [ka_clamp hi.1 (by omega)]
  exact h
theorem x_lald (C : Cx p s m args meth c D cy ad A cc nL own ret) {c0 n : Nat} {i nI : Int} (hl : lay c0 = .inr (1, 0, n)) (hn : (n : Int) = nI) (hb : nI ≤ 100000) (hm : c0 < 49) (hi : 0 ≤ i ∧ i < nI) (hd : decode cc pc = .ok (.laload, 1)) (kk : Xj p l e R s m args below meth c D cy ad A Q nL cells slots (pc + 1) ls (aL (M c0 i) :: st) M) : Xj p l e R s m args below meth c D cy ad A Q nL cells slots pc ls (aI i :: aR c0 :: st) M := by
  intro H locs lc hW hS hL
  subst hn
  obtain ⟨q0, hq, hws⟩ := ka_place (cy := cy) (ad := ad) M (c := c0) (r := -1) (ka_mem.mpr ⟨hm, Or.inl rfl⟩)
  rw [ka_ctL _ _ hl] at hws
  have h := kk H locs lc hW hS hL
  refine va_lald C.1 C.2.1 C.2.2.2.2.2.2.2.1 hW.1 q0 1 hws rfl (ka_in hi.1 hi.2 (by omega)) hd ?_
  rw [ka_clamp hi.1 (by omega)]
  exact h
theorem x_aald (C : Cx p s m args meth c D cy ad A cc nL own ret) {c0 n k : Nat} {i kI : Int} (hl : lay c0 = .inr (0, k + 1, n)) (hn : ((k + 1 : Nat) : Int) = kI) (hb : kI ≤ 100000) (hm : c0 < 49) (hi : 0 ≤ i ∧ i < kI) (hd : decode cc pc = .ok (.aaload, 1)) (kk : Xj p l e R s m args below meth c D cy ad A Q nL cells slots (pc + 1) ls (aW c0 i :: st) M) : Xj p l e R s m args below meth c D cy ad A Q nL cells slots pc ls (aI i :: aR c0 :: st) M := by
  intro H locs lc hW hS hL
  subst hn
  obtain ⟨q0, hq, hws⟩ := ka_place (cy := cy) (ad := ad) M (c := c0) (r := -1) (ka_mem.mpr ⟨hm, Or.inl rfl⟩)
  rw [ka_ctO _ hl] at hws
  have h := kk H locs lc hW hS hL
  have hin := ka_in (n := k + 1) hi.1 hi.2 (by omega)
  have hlt : (Int32.ofInt i).toNatClampNeg < k + 1 := Nat.not_le.mp fun q => hin (Or.inr q)
  refine W.aald (v := .ref (ad c0 i)) (ty := .array .int) C.1 C.2.1 (hW.1 q0 _ hws) ((C.2.2.2.2.2.2.2.1.2 3 _ rfl).1 (k + 1) (fun j => va_rf ((fun i => if i < k + 1 then some (ad c0 (i : Int)) else none) j))) rfl (fun q => by cases q) (by show ¬ (_ ∨ (arrV _ _ _).slots.size ≤ _); rw [arrV_size]; exact hin) ?_ rfl rfl hd h
  show (arrV _ _ _).slots[_]? = _
  rw [arrV_read _ _ hlt]
  show some (va_rf (if _ then _ else _)) = _
  rw [if_pos hlt, ka_clamp hi.1 (by omega)]
  rfl
theorem x_iald2 (C : Cx p s m args meth c D cy ad A cc nL own ret) {c0 n k : Nat} {r j nI kI : Int} (hl : lay c0 = .inr (0, k + 1, n)) (hn : (n : Int) = nI) (hb : nI ≤ 100000) (hm : c0 < 49) (hk : ((k + 1 : Nat) : Int) = kI) (hr : 0 ≤ r ∧ r < kI) (hj : 0 ≤ j ∧ j < nI) (hd : decode cc pc = .ok (.iaload, 1)) (kk : Xj p l e R s m args below meth c D cy ad A Q nL cells slots (pc + 1) ls (aI (M c0 (nI * r + j)) :: st) M) : Xj p l e R s m args below meth c D cy ad A Q nL cells slots pc ls (aI j :: aW c0 r :: st) M := by
  intro H locs lc hW hS hL
  subst hn
  subst hk
  obtain ⟨q0, hq, hws⟩ := ka_place (cy := cy) (ad := ad) M (c := c0) (r := r) (ka_mem.mpr ⟨hm, Or.inr ⟨hr.1, by unfold ka_rows; rw [hl]; exact hr.2⟩⟩)
  rw [ka_ctW _ hr.1 hl] at hws
  have h := kk H locs lc hW hS hL
  have hin := ka_in (n := n) hj.1 hj.2 (by omega)
  have hlt : (Int32.ofInt j).toNatClampNeg < n := Nat.not_le.mp fun q => hin (Or.inr q)
  refine va_iald C.1 C.2.1 C.2.2.2.2.2.2.2.1 hW.1 q0 0 hws rfl hin hd ?_
  show W _ _ _ _ _ _ _ _ _ _ _ _ _ _ _ (F0 m (pc + 1) lc (.int (if _ then _ else _) :: _))
  rw [if_pos hlt, ka_clamp hj.1 (by omega)]
  exact h
theorem x_alen (C : Cx p s m args meth c D cy ad A cc nL own ret) {c0 n : Nat} {nI : Int} (hl : lay c0 = .inr (0, 0, n)) (hn : (n : Int) = nI) (hm : c0 < 49) (hd : decode cc pc = .ok (.arraylength, 1)) (kk : Xj p l e R s m args below meth c D cy ad A Q nL cells slots (pc + 1) ls (aI nI :: st) M) : Xj p l e R s m args below meth c D cy ad A Q nL cells slots pc ls (aR c0 :: st) M := by
  intro H locs lc hW hS hL
  subst hn
  obtain ⟨q0, hq, hws⟩ := ka_place (cy := cy) (ad := ad) M (c := c0) (r := -1) (ka_mem.mpr ⟨hm, Or.inl rfl⟩)
  rw [ka_ctI _ _ hl] at hws
  exact va_alen C.1 C.2.1 C.2.2.2.2.2.2.2.1 hW.1 q0 0 hws rfl (by rw [Int32.ofInt_eq_ofNat]) hd (kk H locs lc hW hS hL)
theorem x_alenL (C : Cx p s m args meth c D cy ad A cc nL own ret) {c0 n : Nat} {nI : Int} (hl : lay c0 = .inr (1, 0, n)) (hn : (n : Int) = nI) (hm : c0 < 49) (hd : decode cc pc = .ok (.arraylength, 1)) (kk : Xj p l e R s m args below meth c D cy ad A Q nL cells slots (pc + 1) ls (aI nI :: st) M) : Xj p l e R s m args below meth c D cy ad A Q nL cells slots pc ls (aR c0 :: st) M := by
  intro H locs lc hW hS hL
  subst hn
  obtain ⟨q0, hq, hws⟩ := ka_place (cy := cy) (ad := ad) M (c := c0) (r := -1) (ka_mem.mpr ⟨hm, Or.inl rfl⟩)
  rw [ka_ctL _ _ hl] at hws
  exact va_alen C.1 C.2.1 C.2.2.2.2.2.2.2.1 hW.1 q0 1 hws rfl (by rw [Int32.ofInt_eq_ofNat]) hd (kk H locs lc hW hS hL)
theorem x_iast (C : Cx p s m args meth c D cy ad A cc nL own ret) {c0 n : Nat} {i v nI : Int} (hl : lay c0 = .inr (0, 0, n)) (hn : (n : Int) = nI) (hb : nI ≤ 100000) (hm : c0 < 49) (hi : 0 ≤ i ∧ i < nI) (hv : iR v) (hd : decode cc pc = .ok (.iastore, 1)) (kk : Xj p l e R s m args below meth c D cy ad A Q nL cells slots (pc + 1) ls st (mset M c0 i v)) : Xj p l e R s m args below meth c D cy ad A Q nL cells slots pc ls (aI v :: aI i :: aR c0 :: st) M := by
  intro H locs lc hW hS hL
  subst hn
  obtain ⟨q0, hq, hws⟩ := ka_place (cy := cy) (ad := ad) M (c := c0) (r := -1) (ka_mem.mpr ⟨hm, Or.inl rfl⟩)
  rw [ka_ctI _ _ hl] at hws
  refine va_iast C.1 C.2.1 C.2.2.2.2.2.2.2.1 hW.1 (ka_D C.2.2.2.2.2.2.2.2.1 C.2.2.2.2.2.2.2.2.2 M) hS q0 0 hws rfl (ka_in hi.1 hi.2 (by omega)) hd (fun H1 locs1 hP1 hD1 hS1 => ?_)
  refine kk H1 locs1 lc ⟨?_, ka_rng_set hW.2 (by unfold ka_sty; rw [hl]; exact hv)⟩ hS1 hL
  rw [ka_updI hi.1 (by omega), ka_wset1 (k := i) (v := v) (by unfold ka_rows; rw [hl]) hq (ka_ctI _ _ hl)] at hP1
  exact hP1
theorem x_zast (C : Cx p s m args meth c D cy ad A cc nL own ret) {c0 n : Nat} {i v nI : Int} (hl : lay c0 = .inr (2, 0, n)) (hn : (n : Int) = nI) (hb : nI ≤ 100000) (hm : c0 < 49) (hi : 0 ≤ i ∧ i < nI) (hv : bR v) (hd : decode cc pc = .ok (.bastore, 1)) (kk : Xj p l e R s m args below meth c D cy ad A Q nL cells slots (pc + 1) ls st (mset M c0 i v)) : Xj p l e R s m args below meth c D cy ad A Q nL cells slots pc ls (aI v :: aI i :: aR c0 :: st) M := by
  intro H locs lc hW hS hL
  subst hn
  obtain ⟨q0, hq, hws⟩ := ka_place (cy := cy) (ad := ad) M (c := c0) (r := -1) (ka_mem.mpr ⟨hm, Or.inl rfl⟩)
  rw [ka_ctZ _ _ hl] at hws
  have hnv : vp_nar .boolean (Int32.ofInt v) = Int32.ofInt v := by rcases ka_b01 hv with rfl | rfl <;> rfl
  refine va_zast C.1 C.2.1 C.2.2.2.2.2.2.2.1 hW.1 (ka_D C.2.2.2.2.2.2.2.2.1 C.2.2.2.2.2.2.2.2.2 M) hS q0 2 hws rfl (ka_in hi.1 hi.2 (by omega)) hd (fun H1 locs1 hP1 hD1 hS1 => ?_)
  refine kk H1 locs1 lc ⟨?_, ka_rng_set hW.2 (by unfold ka_sty; rw [hl]; exact hv)⟩ hS1 hL
  rw [hnv, ka_updI hi.1 (by omega), ka_wset1 (k := i) (v := v) (by unfold ka_rows; rw [hl]) hq (ka_ctZ _ _ hl)] at hP1
  exact hP1
theorem x_last (C : Cx p s m args meth c D cy ad A cc nL own ret) {c0 n : Nat} {i v nI : Int} (hl : lay c0 = .inr (1, 0, n)) (hn : (n : Int) = nI) (hb : nI ≤ 100000) (hm : c0 < 49) (hi : 0 ≤ i ∧ i < nI) (hv : lR v) (hd : decode cc pc = .ok (.lastore, 1)) (kk : Xj p l e R s m args below meth c D cy ad A Q nL cells slots (pc + 1) ls st (mset M c0 i v)) : Xj p l e R s m args below meth c D cy ad A Q nL cells slots pc ls (aL v :: aI i :: aR c0 :: st) M := by
  intro H locs lc hW hS hL
  subst hn
  obtain ⟨q0, hq, hws⟩ := ka_place (cy := cy) (ad := ad) M (c := c0) (r := -1) (ka_mem.mpr ⟨hm, Or.inl rfl⟩)
  rw [ka_ctL _ _ hl] at hws
  refine va_last C.1 C.2.1 C.2.2.2.2.2.2.2.1 hW.1 (ka_D C.2.2.2.2.2.2.2.2.1 C.2.2.2.2.2.2.2.2.2 M) hS q0 1 hws rfl (ka_in hi.1 hi.2 (by omega)) hd (fun H1 locs1 hP1 hD1 hS1 => ?_)
  refine kk H1 locs1 lc ⟨?_, ka_rng_set hW.2 (by unfold ka_sty; rw [hl]; exact hv)⟩ hS1 hL
  rw [ka_updL hi.1 (by omega), ka_wset1 (k := i) (v := v) (by unfold ka_rows; rw [hl]) hq (ka_ctL _ _ hl)] at hP1
  exact hP1
theorem x_iast2 (C : Cx p s m args meth c D cy ad A cc nL own ret) {c0 n k : Nat} {r j v nI kI : Int} (hl : lay c0 = .inr (0, k + 1, n)) (hn : (n : Int) = nI) (hb : nI ≤ 100000) (hm : c0 < 49) (hk : ((k + 1 : Nat) : Int) = kI) (hr : 0 ≤ r ∧ r < kI) (hj : 0 ≤ j ∧ j < nI) (hv : iR v) (hd : decode cc pc = .ok (.iastore, 1)) (kk : Xj p l e R s m args below meth c D cy ad A Q nL cells slots (pc + 1) ls st (mset M c0 (nI * r + j) v)) : Xj p l e R s m args below meth c D cy ad A Q nL cells slots pc ls (aI v :: aI j :: aW c0 r :: st) M := by
  intro H locs lc hW hS hL
  subst hn
  subst hk
  obtain ⟨q0, hq, hws⟩ := ka_place (cy := cy) (ad := ad) M (c := c0) (r := r) (ka_mem.mpr ⟨hm, Or.inr ⟨hr.1, by unfold ka_rows; rw [hl]; exact hr.2⟩⟩)
  rw [ka_ctW _ hr.1 hl] at hws
  have hin := ka_in (n := n) hj.1 hj.2 (by omega)
  refine va_iast C.1 C.2.1 C.2.2.2.2.2.2.2.1 hW.1 (ka_D C.2.2.2.2.2.2.2.2.1 C.2.2.2.2.2.2.2.2.2 M) hS q0 0 hws rfl hin hd (fun H1 locs1 hP1 hD1 hS1 => ?_)
  refine kk H1 locs1 lc ⟨?_, ka_rng_set hW.2 (by unfold ka_sty; rw [hl]; exact hv)⟩ hS1 hL
  have hc := ka_clamp hj.1 (show j < 2147483648 by omega)
  rw [ka_wset (M' := mset M c0 ((n : Int) * r + j) v) hq ?_ ?_] at hP1
  · exact hP1
  · unfold mset
    rw [fu_s, ka_ctW _ hr.1 hl]
    refine congrArg (fun g => (Sum.inl (cy 0, n, Sum.inl g) : va_E)) (funext fun x => ?_)
    by_cases hx : x = (Int32.ofInt j).toNatClampNeg
    · subst hx
      rw [pk_us, if_pos (by omega), hc, fu_s]
    · rw [pk_un hx]
      by_cases hxn : x < n
      · rw [if_pos hxn, if_pos hxn, fu_n]
        intro q; apply hx; omega
      · rw [if_neg hxn, if_neg hxn]
  · intro x hx hne
    obtain ⟨c', r'⟩ := x
    unfold mset
    by_cases hc' : c' = c0
    · subst hc'
      show ka_ct cy ad (fu M c' _ c') c' r' = ka_ct cy ad (M c') c' r'
      rw [fu_s]
      rcases (ka_mem.mp hx).2 with h | ⟨h1, h2⟩
      · subst h
        rw [ka_ctO _ hl, ka_ctO _ hl]
      · rw [ka_ctW _ h1 hl, ka_ctW _ h1 hl]
        refine congrArg (fun g => (Sum.inl (cy 0, n, Sum.inl g) : va_E)) (funext fun x => ?_)
        by_cases hxn : x < n
        · rw [if_pos hxn, if_pos hxn, fu_n]
          intro q
          apply hne
          have hrr : r' = r := by
            have q2 : (n : Int) * (r' - r) = j - x := by rw [Int.mul_sub]; omega
            rcases Int.lt_trichotomy (r' - r) 0 with h | h | h
            · have : (n : Int) * (r' - r) ≤ (n : Int) * (-1) := Int.mul_le_mul_of_nonneg_left (by omega) (by omega)
              omega
            · omega
            · have : (n : Int) * 1 ≤ (n : Int) * (r' - r) := Int.mul_le_mul_of_nonneg_left (by omega) (by omega)
              omega
          rw [hrr]
        · rw [if_neg hxn, if_neg hxn]
    · show ka_ct cy ad (fu M c0 _ c') c' r' = ka_ct cy ad (M c') c' r'
      rw [fu_n _ _ hc']
/-! bits, longs -/
def a_and32 (a b : Int) : Int := (Int32.ofInt a &&& Int32.ofInt b).toInt
def a_or32 (a b : Int) : Int := (Int32.ofInt a ||| Int32.ofInt b).toInt
def a_shl32 (a b : Int) : Int := (Int32.ofInt a <<< (Int32.ofInt b &&& 31)).toInt
def a_div32 (a b : Int) : Int := (Int32.ofInt a / Int32.ofInt b).toInt
def a_and64 (a b : Int) : Int := (Int64.ofInt a &&& Int64.ofInt b).toInt
def a_or64 (a b : Int) : Int := (Int64.ofInt a ||| Int64.ofInt b).toInt
def a_shl64 (a b : Int) : Int := (Int64.ofInt a <<< ((Int32.ofInt b).toInt64 &&& 63)).toInt
def a_shr64 (a b : Int) : Int := (Int64.ofInt a >>> ((Int32.ofInt b).toInt64 &&& 63)).toInt
def a_ushr64 (a b : Int) : Int := ((Int64.ofInt a).toUInt64 >>> ((Int32.ofInt b).toInt64.toUInt64 &&& Int64.toUInt64 63)).toInt64.toInt
theorem ka_r32 (x : Int32) : iR x.toInt := by
  have h1 := Int32.minValue_le_toInt x
  have h2 := Int32.toInt_le x
  have e1 : Int32.minValue.toInt = -2147483648 := by decide
  have e2 : Int32.maxValue.toInt = 2147483647 := by decide
  omega
theorem ka_r64 (x : Int64) : lR x.toInt := by
  have h1 := Int64.minValue_le_toInt x
  have h2 := Int64.toInt_le x
  have e1 : Int64.minValue.toInt = -9223372036854775808 := by decide
  have e2 : Int64.maxValue.toInt = 9223372036854775807 := by decide
  omega
theorem x_iand (C : Cx p s m args meth c D cy ad A cc nL own ret) {a b : Int} (hd : decode cc pc = .ok (.iand, 1)) (kk : Xj p l e R s m args below meth c D cy ad A Q nL cells slots (pc + 1) ls (aI (a_and32 a b) :: st) M) : Xj p l e R s m args below meth c D cy ad A Q nL cells slots pc ls (aI b :: aI a :: st) M := by
  intro H locs lc hW hS hL
  have h := kk H locs lc hW hS hL
  simp only [List.map_cons, gam, a_and32, Int32.ofInt_toInt] at h
  exact lv_iand C.1 C.2.1 hd h
theorem x_ior (C : Cx p s m args meth c D cy ad A cc nL own ret) {a b : Int} (hd : decode cc pc = .ok (.ior, 1)) (kk : Xj p l e R s m args below meth c D cy ad A Q nL cells slots (pc + 1) ls (aI (a_or32 a b) :: st) M) : Xj p l e R s m args below meth c D cy ad A Q nL cells slots pc ls (aI b :: aI a :: st) M := by
  intro H locs lc hW hS hL
  have h := kk H locs lc hW hS hL
  simp only [List.map_cons, gam, a_or32, Int32.ofInt_toInt] at h
  exact lv_ior C.1 C.2.1 hd h
theorem x_ishl (C : Cx p s m args meth c D cy ad A cc nL own ret) {a b : Int} (hd : decode cc pc = .ok (.ishl, 1)) (kk : Xj p l e R s m args below meth c D cy ad A Q nL cells slots (pc + 1) ls (aI (a_shl32 a b) :: st) M) : Xj p l e R s m args below meth c D cy ad A Q nL cells slots pc ls (aI b :: aI a :: st) M := by
  intro H locs lc hW hS hL
  have h := kk H locs lc hW hS hL
  simp only [List.map_cons, gam, a_shl32, Int32.ofInt_toInt] at h
  exact lv_ishl C.1 C.2.1 hd h
theorem x_idiv (C : Cx p s m args meth c D cy ad A cc nL own ret) {a b : Int} (hb : iR b) (hne : ¬ b = 0) (hd : decode cc pc = .ok (.idiv, 1)) (kk : Xj p l e R s m args below meth c D cy ad A Q nL cells slots (pc + 1) ls (aI (a_div32 a b) :: st) M) : Xj p l e R s m args below meth c D cy ad A Q nL cells slots pc ls (aI b :: aI a :: st) M := by
  intro H locs lc hW hS hL
  have h := kk H locs lc hW hS hL
  simp only [List.map_cons, gam, a_div32, Int32.ofInt_toInt] at h
  exact lv_idiv C.1 C.2.1 hd (fun q => hne ((ka_eq hb ka_zr).mp q)) h
theorem x_land (C : Cx p s m args meth c D cy ad A cc nL own ret) {a b : Int} (hd : decode cc pc = .ok (.land, 1)) (kk : Xj p l e R s m args below meth c D cy ad A Q nL cells slots (pc + 1) ls (aL (a_and64 a b) :: st) M) : Xj p l e R s m args below meth c D cy ad A Q nL cells slots pc ls (aL b :: aL a :: st) M := by
  intro H locs lc hW hS hL
  have h := kk H locs lc hW hS hL
  simp only [List.map_cons, gam, a_and64, Int64.ofInt_toInt] at h
  exact lv_land C.1 C.2.1 hd h
theorem x_lor (C : Cx p s m args meth c D cy ad A cc nL own ret) {a b : Int} (hd : decode cc pc = .ok (.lor, 1)) (kk : Xj p l e R s m args below meth c D cy ad A Q nL cells slots (pc + 1) ls (aL (a_or64 a b) :: st) M) : Xj p l e R s m args below meth c D cy ad A Q nL cells slots pc ls (aL b :: aL a :: st) M := by
  intro H locs lc hW hS hL
  have h := kk H locs lc hW hS hL
  simp only [List.map_cons, gam, a_or64, Int64.ofInt_toInt] at h
  exact lv_lor C.1 C.2.1 hd h
theorem x_lshl (C : Cx p s m args meth c D cy ad A cc nL own ret) {a b : Int} (hd : decode cc pc = .ok (.lshl, 1)) (kk : Xj p l e R s m args below meth c D cy ad A Q nL cells slots (pc + 1) ls (aL (a_shl64 a b) :: st) M) : Xj p l e R s m args below meth c D cy ad A Q nL cells slots pc ls (aI b :: aL a :: st) M := by
  intro H locs lc hW hS hL
  exact lv_lshl C.1 C.2.1 hd (by rw [a_shl64, Int64.ofInt_toInt]) (kk H locs lc hW hS hL)
theorem x_lshr (C : Cx p s m args meth c D cy ad A cc nL own ret) {a b : Int} (hd : decode cc pc = .ok (.lshr, 1)) (kk : Xj p l e R s m args below meth c D cy ad A Q nL cells slots (pc + 1) ls (aL (a_shr64 a b) :: st) M) : Xj p l e R s m args below meth c D cy ad A Q nL cells slots pc ls (aI b :: aL a :: st) M := by
  intro H locs lc hW hS hL
  exact lv_lshr C.1 C.2.1 hd (by rw [a_shr64, Int64.ofInt_toInt]) (kk H locs lc hW hS hL)
theorem x_lushr (C : Cx p s m args meth c D cy ad A cc nL own ret) {a b : Int} (hd : decode cc pc = .ok (.lushr, 1)) (kk : Xj p l e R s m args below meth c D cy ad A Q nL cells slots (pc + 1) ls (aL (a_ushr64 a b) :: st) M) : Xj p l e R s m args below meth c D cy ad A Q nL cells slots pc ls (aI b :: aL a :: st) M := by
  intro H locs lc hW hS hL
  exact lv_lushr C.1 C.2.1 hd (by rw [a_ushr64, Int64.ofInt_toInt]) (kk H locs lc hW hS hL)
theorem x_i2l (C : Cx p s m args meth c D cy ad A cc nL own ret) {a : Int} (ha : iR a) (hd : decode cc pc = .ok (.i2l, 1)) (kk : Xj p l e R s m args below meth c D cy ad A Q nL cells slots (pc + 1) ls (aL a :: st) M) : Xj p l e R s m args below meth c D cy ad A Q nL cells slots pc ls (aI a :: st) M := by
  intro H locs lc hW hS hL
  refine lv_i2l C.1 C.2.1 hd ?_ (kk H locs lc hW hS hL)
  apply Int64.toInt.inj
  rw [Int32.toInt_toInt64, ka_ii ha, ka_ll ⟨by omega, by omega⟩]
theorem x_l2i (C : Cx p s m args meth c D cy ad A cc nL own ret) {a : Int} (hd : decode cc pc = .ok (.l2i, 1)) (kk : Xj p l e R s m args below meth c D cy ad A Q nL cells slots (pc + 1) ls (aI a :: st) M) : Xj p l e R s m args below meth c D cy ad A Q nL cells slots pc ls (aL a :: st) M := by
  intro H locs lc hW hS hL
  exact lv_l2i C.1 C.2.1 hd Int64.toInt32_ofInt (kk H locs lc hW hS hL)
theorem ka_cmp {a b : Int} (h : (lR a ∧ lR b) ∨ a = b) : lg_cmp (Int64.ofInt a) (Int64.ofInt b) = if b < a then 1 else if a = b then 0 else -1 := by
  unfold lg_cmp
  rcases h with ⟨ha, hb⟩ | rfl
  · have e1 : (Int64.ofInt a > Int64.ofInt b) ↔ b < a := by show Int64.ofInt b < Int64.ofInt a ↔ _; rw [Int64.lt_iff_toInt_lt, ka_ll ha, ka_ll hb]
    have e2 : (Int64.ofInt a = Int64.ofInt b) ↔ a = b := ⟨fun q => by rw [← ka_ll ha, ← ka_ll hb, q], fun q => by rw [q]⟩
    by_cases h1 : b < a
    · rw [if_pos (e1.mpr h1), if_pos h1]
    · rw [if_neg (fun q => h1 (e1.mp q)), if_neg h1]
      by_cases h2 : a = b
      · rw [if_pos (e2.mpr h2), if_pos h2]
      · rw [if_neg (fun q => h2 (e2.mp q)), if_neg h2]
  · have : ¬ (Int64.ofInt a > Int64.ofInt a) := by show ¬ Int64.ofInt a < Int64.ofInt a; rw [Int64.lt_iff_toInt_lt]; omega
    rw [if_neg this, if_pos rfl, if_neg (by omega), if_pos rfl]
theorem x_lcmp_lt (C : Cx p s m args meth c D cy ad A cc nL own ret) {a b : Int} {off : Int} {tgt : Nat} (hab : (lR a ∧ lR b) ∨ a = b) (hd : decode cc pc = .ok (.lcmp, 1)) (hd2 : decode cc (pc + 1) = .ok (.ifCond .lt off, 3)) (ht : ((pc + 1 : Nat) : Int) + off = (tgt : Int)) (kt : a < b → Xj p l e R s m args below meth c D cy ad A Q nL cells slots tgt ls st M) (kf : ¬ (a < b) → Xj p l e R s m args below meth c D cy ad A Q nL cells slots (pc + 4) ls st M) : Xj p l e R s m args below meth c D cy ad A Q nL cells slots pc ls (aL b :: aL a :: st) M := by
  intro H locs lc hW hS hL
  refine W.lcmp C.1 C.2.1 hd ?_
  rw [ka_cmp hab]
  by_cases h1 : b < a
  · rw [if_pos h1]
    exact lv_if_lt C.1 C.2.1 hd2 ht (fun h => kt (by first | omega | (exact absurd h (by decide))) H locs lc hW hS hL) (fun h => kf (by first | omega | (exact absurd h (by decide)) | (exact (h (by decide)).elim)) H locs lc hW hS hL)
  · rw [if_neg h1]
    by_cases h2 : a = b
    · rw [if_pos h2]
      exact lv_if_lt C.1 C.2.1 hd2 ht (fun h => kt (by first | omega | (exact absurd h (by decide))) H locs lc hW hS hL) (fun h => kf (by first | omega | (exact absurd h (by decide)) | (exact (h (by decide)).elim)) H locs lc hW hS hL)
    · rw [if_neg h2]
      exact lv_if_lt C.1 C.2.1 hd2 ht (fun h => kt (by first | omega | (exact absurd h (by decide))) H locs lc hW hS hL) (fun h => kf (by first | omega | (exact absurd h (by decide)) | (exact (h (by decide)).elim)) H locs lc hW hS hL)
theorem x_lcmp_ge (C : Cx p s m args meth c D cy ad A cc nL own ret) {a b : Int} {off : Int} {tgt : Nat} (hab : (lR a ∧ lR b) ∨ a = b) (hd : decode cc pc = .ok (.lcmp, 1)) (hd2 : decode cc (pc + 1) = .ok (.ifCond .ge off, 3)) (ht : ((pc + 1 : Nat) : Int) + off = (tgt : Int)) (kt : b ≤ a → Xj p l e R s m args below meth c D cy ad A Q nL cells slots tgt ls st M) (kf : ¬ (b ≤ a) → Xj p l e R s m args below meth c D cy ad A Q nL cells slots (pc + 4) ls st M) : Xj p l e R s m args below meth c D cy ad A Q nL cells slots pc ls (aL b :: aL a :: st) M := by
  intro H locs lc hW hS hL
  refine W.lcmp C.1 C.2.1 hd ?_
  rw [ka_cmp hab]
  by_cases h1 : b < a
  · rw [if_pos h1]
    exact lv_if_ge C.1 C.2.1 hd2 ht (fun h => kt (by first | omega | (exact absurd h (by decide))) H locs lc hW hS hL) (fun h => kf (by first | omega | (exact absurd h (by decide)) | (exact (h (by decide)).elim)) H locs lc hW hS hL)
  · rw [if_neg h1]
    by_cases h2 : a = b
    · rw [if_pos h2]
      exact lv_if_ge C.1 C.2.1 hd2 ht (fun h => kt (by first | omega | (exact absurd h (by decide))) H locs lc hW hS hL) (fun h => kf (by first | omega | (exact absurd h (by decide)) | (exact (h (by decide)).elim)) H locs lc hW hS hL)
    · rw [if_neg h2]
      exact lv_if_ge C.1 C.2.1 hd2 ht (fun h => kt (by first | omega | (exact absurd h (by decide))) H locs lc hW hS hL) (fun h => kf (by first | omega | (exact absurd h (by decide)) | (exact (h (by decide)).elim)) H locs lc hW hS hL)
theorem x_lcmp_gt (C : Cx p s m args meth c D cy ad A cc nL own ret) {a b : Int} {off : Int} {tgt : Nat} (hab : (lR a ∧ lR b) ∨ a = b) (hd : decode cc pc = .ok (.lcmp, 1)) (hd2 : decode cc (pc + 1) = .ok (.ifCond .gt off, 3)) (ht : ((pc + 1 : Nat) : Int) + off = (tgt : Int)) (kt : b < a → Xj p l e R s m args below meth c D cy ad A Q nL cells slots tgt ls st M) (kf : ¬ (b < a) → Xj p l e R s m args below meth c D cy ad A Q nL cells slots (pc + 4) ls st M) : Xj p l e R s m args below meth c D cy ad A Q nL cells slots pc ls (aL b :: aL a :: st) M := by
  intro H locs lc hW hS hL
  refine W.lcmp C.1 C.2.1 hd ?_
  rw [ka_cmp hab]
  by_cases h1 : b < a
  · rw [if_pos h1]
    exact lv_if_gt C.1 C.2.1 hd2 ht (fun h => kt (by first | omega | (exact absurd h (by decide))) H locs lc hW hS hL) (fun h => kf (by first | omega | (exact absurd h (by decide)) | (exact (h (by decide)).elim)) H locs lc hW hS hL)
  · rw [if_neg h1]
    by_cases h2 : a = b
    · rw [if_pos h2]
      exact lv_if_gt C.1 C.2.1 hd2 ht (fun h => kt (by first | omega | (exact absurd h (by decide))) H locs lc hW hS hL) (fun h => kf (by first | omega | (exact absurd h (by decide)) | (exact (h (by decide)).elim)) H locs lc hW hS hL)
    · rw [if_neg h2]
      exact lv_if_gt C.1 C.2.1 hd2 ht (fun h => kt (by first | omega | (exact absurd h (by decide))) H locs lc hW hS hL) (fun h => kf (by first | omega | (exact absurd h (by decide)) | (exact (h (by decide)).elim)) H locs lc hW hS hL)
theorem x_lcmp_le (C : Cx p s m args meth c D cy ad A cc nL own ret) {a b : Int} {off : Int} {tgt : Nat} (hab : (lR a ∧ lR b) ∨ a = b) (hd : decode cc pc = .ok (.lcmp, 1)) (hd2 : decode cc (pc + 1) = .ok (.ifCond .le off, 3)) (ht : ((pc + 1 : Nat) : Int) + off = (tgt : Int)) (kt : a ≤ b → Xj p l e R s m args below meth c D cy ad A Q nL cells slots tgt ls st M) (kf : ¬ (a ≤ b) → Xj p l e R s m args below meth c D cy ad A Q nL cells slots (pc + 4) ls st M) : Xj p l e R s m args below meth c D cy ad A Q nL cells slots pc ls (aL b :: aL a :: st) M := by
  intro H locs lc hW hS hL
  refine W.lcmp C.1 C.2.1 hd ?_
  rw [ka_cmp hab]
  by_cases h1 : b < a
  · rw [if_pos h1]
    exact lv_if_le C.1 C.2.1 hd2 ht (fun h => kt (by first | omega | (exact absurd h (by decide))) H locs lc hW hS hL) (fun h => kf (by first | omega | (exact absurd h (by decide)) | (exact (h (by decide)).elim)) H locs lc hW hS hL)
  · rw [if_neg h1]
    by_cases h2 : a = b
    · rw [if_pos h2]
      exact lv_if_le C.1 C.2.1 hd2 ht (fun h => kt (by first | omega | (exact absurd h (by decide))) H locs lc hW hS hL) (fun h => kf (by first | omega | (exact absurd h (by decide)) | (exact (h (by decide)).elim)) H locs lc hW hS hL)
    · rw [if_neg h2]
      exact lv_if_le C.1 C.2.1 hd2 ht (fun h => kt (by first | omega | (exact absurd h (by decide))) H locs lc hW hS hL) (fun h => kf (by first | omega | (exact absurd h (by decide)) | (exact (h (by decide)).elim)) H locs lc hW hS hL)
theorem x_lcmp_eq (C : Cx p s m args meth c D cy ad A cc nL own ret) {a b : Int} {off : Int} {tgt : Nat} (hab : (lR a ∧ lR b) ∨ a = b) (hd : decode cc pc = .ok (.lcmp, 1)) (hd2 : decode cc (pc + 1) = .ok (.ifCond .eq off, 3)) (ht : ((pc + 1 : Nat) : Int) + off = (tgt : Int)) (kt : a = b → Xj p l e R s m args below meth c D cy ad A Q nL cells slots tgt ls st M) (kf : ¬ (a = b) → Xj p l e R s m args below meth c D cy ad A Q nL cells slots (pc + 4) ls st M) : Xj p l e R s m args below meth c D cy ad A Q nL cells slots pc ls (aL b :: aL a :: st) M := by
  intro H locs lc hW hS hL
  refine W.lcmp C.1 C.2.1 hd ?_
  rw [ka_cmp hab]
  by_cases h1 : b < a
  · rw [if_pos h1]
    exact lv_if_eq C.1 C.2.1 hd2 ht (fun h => kt (by first | omega | (exact absurd h (by decide))) H locs lc hW hS hL) (fun h => kf (by first | omega | (exact absurd h (by decide)) | (exact (h (by decide)).elim)) H locs lc hW hS hL)
  · rw [if_neg h1]
    by_cases h2 : a = b
    · rw [if_pos h2]
      exact lv_if_eq C.1 C.2.1 hd2 ht (fun h => kt (by first | omega | (exact absurd h (by decide))) H locs lc hW hS hL) (fun h => kf (by first | omega | (exact absurd h (by decide)) | (exact (h (by decide)).elim)) H locs lc hW hS hL)
    · rw [if_neg h2]
      exact lv_if_eq C.1 C.2.1 hd2 ht (fun h => kt (by first | omega | (exact absurd h (by decide))) H locs lc hW hS hL) (fun h => kf (by first | omega | (exact absurd h (by decide)) | (exact (h (by decide)).elim)) H locs lc hW hS hL)
theorem x_lcmp_ne (C : Cx p s m args meth c D cy ad A cc nL own ret) {a b : Int} {off : Int} {tgt : Nat} (hab : (lR a ∧ lR b) ∨ a = b) (hd : decode cc pc = .ok (.lcmp, 1)) (hd2 : decode cc (pc + 1) = .ok (.ifCond .ne off, 3)) (ht : ((pc + 1 : Nat) : Int) + off = (tgt : Int)) (kt : ¬ a = b → Xj p l e R s m args below meth c D cy ad A Q nL cells slots tgt ls st M) (kf : a = b → Xj p l e R s m args below meth c D cy ad A Q nL cells slots (pc + 4) ls st M) : Xj p l e R s m args below meth c D cy ad A Q nL cells slots pc ls (aL b :: aL a :: st) M := by
  intro H locs lc hW hS hL
  refine W.lcmp C.1 C.2.1 hd ?_
  rw [ka_cmp hab]
  by_cases h1 : b < a
  · rw [if_pos h1]
    exact lv_if_ne C.1 C.2.1 hd2 ht (fun h => kt (by first | omega | (exact absurd h (by decide))) H locs lc hW hS hL) (fun h => kf (by first | omega | (exact absurd h (by decide)) | (exact (h (by decide)).elim)) H locs lc hW hS hL)
  · rw [if_neg h1]
    by_cases h2 : a = b
    · rw [if_pos h2]
      exact lv_if_ne C.1 C.2.1 hd2 ht (fun h => kt (by first | omega | (exact absurd h (by decide))) H locs lc hW hS hL) (fun h => kf (by first | omega | (exact absurd h (by decide)) | (exact (h (by decide)).elim)) H locs lc hW hS hL)
    · rw [if_neg h2]
      exact lv_if_ne C.1 C.2.1 hd2 ht (fun h => kt (by first | omega | (exact absurd h (by decide))) H locs lc hW hS hL) (fun h => kf (by first | omega | (exact absurd h (by decide)) | (exact (h (by decide)).elim)) H locs lc hW hS hL)
theorem x_tin (C : Cx p s m args meth c D cy ad A cc nL own ret) {a dflt lo hi off : Int} {offs : Array Int} {len tgt : Nat} (ha : iR a) (h1 : lo ≤ a) (h2 : a ≤ hi) (ho : offs[(a - lo).toNat]? = some off) (hd : decode cc pc = .ok (.tableswitch dflt lo hi offs, len)) (ht : (pc : Int) + off = (tgt : Int)) (kk : Xj p l e R s m args below meth c D cy ad A Q nL cells slots tgt ls st M) : Xj p l e R s m args below meth c D cy ad A Q nL cells slots pc ls (aI a :: st) M := by
  intro H locs lc hW hS hL
  exact lv_tableIn C.1 C.2.1 hd (by rw [ka_ii ha]; omega) (by rw [ka_ii ha]; omega) (by rw [ka_ii ha]; exact ho) ht (kk H locs lc hW hS hL)
theorem x_tout (C : Cx p s m args meth c D cy ad A cc nL own ret) {a dflt lo hi : Int} {offs : Array Int} {len tgt : Nat} (ha : iR a) (h : a < lo ∨ hi < a) (hd : decode cc pc = .ok (.tableswitch dflt lo hi offs, len)) (ht : (pc : Int) + dflt = (tgt : Int)) (kk : Xj p l e R s m args below meth c D cy ad A Q nL cells slots tgt ls st M) : Xj p l e R s m args below meth c D cy ad A Q nL cells slots pc ls (aI a :: st) M := by
  intro H locs lc hW hS hL
  exact lv_tableOut C.1 C.2.1 hd (by rw [ka_ii ha]; exact h) ht (kk H locs lc hW hS hL)
/-! calls, returns, a method's entry -/
def QX (D : va_G) (cy : Nat → ClassId) (ad : Nat → Int → Nat) (Qp : Option AV → Mm → Prop) : Array Value → State → Outcome → State → Prop := fun _ s0 oc t => (∃ (r : Option AV) (M' : Mm), oc = .returned (r.map (gam ad)) ∧ Qp r M' ∧ Wd D cy ad M' t.heap) ∧ va_F (Ar ad) s0 t
/-- the contract of a method at these arguments and this memory -/
def Ct (l : Launch) (D : va_G) (cy : Nat → ClassId) (ad : Nat → Int → Nat) (y : MethodName) (bytes : ByteArray) (maxL : Nat) (rt : Option FieldType) (rm : Room) (vs : List AV) (M : Mm) (Qp : Option AV → Mm → Prop) : Prop :=
  Met l y (Cond.code y bytes maxL rt :: kw) rm (va_Pc (vs.map (gam ad)) (fun U => Kk D cy U ∧ Gm ad ∧ Wd D cy ad M U.heap)) (QX D cy ad Qp) 0 0 (Ar ad)
def Cb (own : String) (idx : Nat) (y : MethodName) (bytes : ByteArray) (maxL : Nat) (rt : Option FieldType) (n : Nat) : Prop := Cond.code y bytes maxL rt ∈ kw ∧ Cond.methodLink own idx y ∈ kw ∧ Cond.initialized y.cls ∈ kw ∧ y.cls ≠ "java/lang/invoke/MethodHandle" ∧ y.cls ≠ "java/lang/invoke/VarHandle" ∧ (parseMethodDescriptor y.desc).map (fun d => d.parameters.length) = some n
def Cv (own : String) (idx : Nat) (y : MethodName) (bytes : ByteArray) (maxL : Nat) (rt : Option FieldType) (n : Nat) : Prop := Cb own idx y bytes maxL rt n ∧ Cond.instanceMethod y ∈ kw ∧ Cond.selects y.cls y y ∈ kw
def Cs (own : String) (idx : Nat) (y : MethodName) (bytes : ByteArray) (maxL : Nat) (rt : Option FieldType) (n : Nat) : Prop := Cb own idx y bytes maxL rt n ∧ Cond.static y ∈ kw
def Rm (R rm : Room) (maxL : Nat) : Prop := rm.cells = 0 ∧ rm.slots = 0 ∧ rm.frames + 1 ≤ R.frames ∧ 8 + (maxL + 11) + rm.locals ≤ R.locals
theorem ka_callB {idx : Nat} {y : MethodName} {bytes : ByteArray} {maxL n : Nat} {rt : Option FieldType} {rm : Room} (hts : ∀ w ∈ kw, w.before args s = true) (h : Cb own idx y bytes maxL rt n) (hr : Rm R rm maxL) : CallB R s args own idx y bytes maxL rt (Cond.code y bytes maxL rt :: kw) rm 0 0 n := by
  refine callB_of n hts (fun w hw => ?_) rfl hr.1 hr.2.1 (hts _ h.2.2.1) (hts _ h.2.1) ⟨h.2.2.2.1, h.2.2.2.2.1, h.2.2.2.2.2⟩ ⟨hr.2.2.1, hr.2.2.2⟩
  have hk : w ∈ kw := by
    rcases List.mem_cons.mp hw with rfl | h2
    · exact h.1
    · exact h2
  exact ⟨hk, kw_good w hk⟩
theorem ka_blind {vs : List AV} : FrameBlind (va_Pc (vs.map (gam ad)) (fun U => Kk D cy U ∧ Gm ad ∧ Wd D cy ad M U.heap)) := fun a U g mk q => by
  obtain ⟨q0, qK, qG, qW⟩ := q
  exact ⟨q0, va_K.moved (u := U) (U := U.calling g mk a) (Vm.Alike.refl U.vm) qK, qG, qW⟩
theorem x_run {Qp : Option AV → Mm → Prop} {a : Array Value} {st0 : List Value} {H : Heap} {locs : List Loc} {lc : Array Slot} (hA : ∀ q, Ar ad q → A q) (hS : va_S A s.heap H locs) (hL : ka_loc ad nL lc ls) (run : va_Run p l e R s m args below meth c H locs cells slots 0 0 (F0 m pc lc st0) (st.map (gam ad)) (QX D cy ad Qp a) (Ar ad)) (kk : ∀ (r : Option AV) (M' : Mm), Qp r M' → Xj p l e R s m args below meth c D cy ad A Q nL cells slots (pc + 3) ls (r.toList ++ st) M') : W p l e R s m args below meth c H locs cells slots Q (F0 m pc lc st0) := by
  intro T hT XT
  obtain ⟨v, s0, t, T', L, h0, X', hL', e1, e2, ⟨⟨r, M', hv, hQ, hWd⟩, hz, hk⟩, stp⟩ := run T hT XT
  cases hv
  rw [h0] at hz hk
  obtain ⟨t2, a1, b1⟩ := kk r M' hQ T'.heap (locs ++ L) lc (by rw [e1]; exact hWd)
    ⟨Nat.le_trans hS.1 (by rw [e1]; exact hz), fun q h1 h2 => by rw [e1, hk q (Nat.lt_of_lt_of_le h1 hS.1) (fun z => h2 (hA q z))]; exact hS.2.1 q h1 h2, fun q hq => by
      rcases List.mem_append.mp hq with h | h
      · exact hS.2.2 q h
      · exact hA _ (hL' q h)⟩ hL T' rfl X'
  refine ⟨t2, stp t2 ?_, b1⟩
  have e3 : (r.map (gam ad)).toList ++ st.map (gam ad) = (r.toList ++ st).map (gam ad) := by cases r <;> simp
  rw [e3]
  exact a1
theorem x_callV (C : Cx p s m args meth c D cy ad A cc nL own ret) {idx maxL n c0 ci N : Nat} {y : MethodName} {bytes : ByteArray} {rt : Option FieldType} {rm : Room} {vs st' : List AV} {Qp : Option AV → Mm → Prop} {fds : List (Nat × Nat)} {T : u_T} (hv : Cv own idx y bytes maxL rt n) (hl : lay c0 = .inl (ci, fds)) (hci : vwCl[ci]? = some (y.cls, T, N)) (hm : c0 < 49) (hr : Rm R rm maxL) (hcs : cells ≤ R.cells ∧ slots ≤ R.slots) (hst : vs.reverse ++ aR c0 :: st = st') (hn : vs.length = n) (hcat : ((st.map (gam ad)).map fun v => v.category).sum ≤ 8) (hd : decode cc pc = .ok (.invokevirtual idx, 3)) (hM : Ct l D cy ad y bytes maxL rt rm (aR c0 :: vs) M Qp) (kk : ∀ (r : Option AV) (M' : Mm), Qp r M' → Xj p l e R s m args below meth c D cy ad A Q nL cells slots (pc + 3) ls (r.toList ++ st) M') : Xj p l e R s m args below meth c D cy ad A Q nL cells slots pc ls st' M := by
  intro H locs lc hW hS hL
  obtain ⟨q0, hq, hws⟩ := ka_place (cy := cy) (ad := ad) M (c := c0) (r := -1) (ka_mem.mpr ⟨hm, Or.inl rfl⟩)
  have hct : ka_ct cy ad (M c0) c0 (-1) = .inr (ci, (ka_fs (M c0) 0 fds).map (gam ad)) := by unfold ka_ct; rw [hl]
  rw [hct] at hws
  refine x_run C.2.2.2.2.2.2.2.2.2 hS hL (va_runV (C := y.cls) (b := ad c0 (-1)) (As := vs.map (gam ad)) (rest := st.map (gam ad)) ⟨C.1, C.2.1, C.2.2.1, C.2.2.2.1, C.2.2.2.2.1⟩ hM ⟨ka_callB C.2.2.2.2.1 hv.1 hr, C.2.2.2.2.1 _ hv.2.1, C.2.2.2.2.1 _ hv.2.2⟩ ⟨ka_blind (vs := aR c0 :: vs), va_recv C.2.2.2.2.2.2.2.1 hW.1 (ci := ci) (q0 := q0) hci hws, fun U hU hWm => ⟨rfl, va_K.moved hWm.alike C.2.2.2.2.2.2.2.1, C.2.2.2.2.2.2.2.2.1, by rw [hU]; exact hW⟩⟩ rfl (by rw [List.length_map]; exact hn) hL.1 ?_ (lv_room hcat) hd ⟨hcs.1, hcs.2⟩) kk
  subst hst
  show List.map (gam ad) (vs.reverse ++ aR c0 :: st) = (vs.map (gam ad)).reverse ++ Value.ref (ad c0 (-1)) :: st.map (gam ad)
  rw [List.map_append, List.map_reverse]
  rfl
theorem x_callS (C : Cx p s m args meth c D cy ad A cc nL own ret) {idx maxL n : Nat} {y : MethodName} {bytes : ByteArray} {rt : Option FieldType} {rm : Room} {vs st' : List AV} {Qp : Option AV → Mm → Prop} (hv : Cs own idx y bytes maxL rt n) (hr : Rm R rm maxL) (hcs : cells ≤ R.cells ∧ slots ≤ R.slots) (hst : vs.reverse ++ st = st') (hn : vs.length = n) (hcat : ((st.map (gam ad)).map fun v => v.category).sum ≤ 8) (hd : decode cc pc = .ok (.invokestatic idx, 3)) (hM : Ct l D cy ad y bytes maxL rt rm vs M Qp) (kk : ∀ (r : Option AV) (M' : Mm), Qp r M' → Xj p l e R s m args below meth c D cy ad A Q nL cells slots (pc + 3) ls (r.toList ++ st) M') : Xj p l e R s m args below meth c D cy ad A Q nL cells slots pc ls st' M := by
  intro H locs lc hW hS hL
  refine x_run C.2.2.2.2.2.2.2.2.2 hS hL (va_runS (As := vs.map (gam ad)) (rest := st.map (gam ad)) ⟨C.1, C.2.1, C.2.2.1, C.2.2.2.1, C.2.2.2.2.1⟩ hM ⟨ka_callB C.2.2.2.2.1 hv.1 hr, C.2.2.2.2.1 _ hv.2⟩ ⟨ka_blind (vs := vs), fun U hU hWm => ⟨rfl, va_K.moved hWm.alike C.2.2.2.2.2.2.2.1, C.2.2.2.2.2.2.2.2.1, by rw [hU]; exact hW⟩⟩ rfl (by rw [List.length_map]; exact hn) hL.1 ?_ (lv_room hcat) hd ⟨hcs.1, hcs.2⟩) kk
  subst hst
  show List.map (gam ad) (vs.reverse ++ st) = (vs.map (gam ad)).reverse ++ st.map (gam ad)
  rw [List.map_append, List.map_reverse]
theorem x_min (C : Cx p s m args meth c D cy ad A cc nL own ret) {a b : Int} {idx : Nat} (hv : Cond.methodLink own idx Lib.MathLoose.min_long.x ∈ kw ∧ Cond.static Lib.MathLoose.min_long.x ∈ kw ∧ Cond.initialized "java/lang/Math" ∈ kw ∧ Cond.code Lib.MathLoose.min_long.x Lib.MathLoose.min_long.code 4 (some .long) ∈ kw) (hab : (lR a ∧ lR b) ∨ a = b) (hd : decode cc pc = .ok (.invokestatic idx, 3)) (hr : 1 ≤ R.frames ∧ ((st.map (gam ad)).map fun v => v.category).sum + 15 ≤ R.locals) (hcs : cells ≤ R.cells ∧ slots ≤ R.slots) (_ : ((st.map (gam ad)).map fun v => v.category).sum ≤ 8) (kk : Xj p l e R s m args below meth c D cy ad A Q nL cells slots (pc + 3) ls (aL (min a b) :: st) M) : Xj p l e R s m args below meth c D cy ad A Q nL cells slots pc ls (aL b :: aL a :: st) M := by
  intro H locs lc hW hS hL
  have h := kk H locs lc hW hS hL
  refine va_mmin_long C.1 C.2.1 (C.2.2.1.trans hL.1.symm) C.2.2.2.1 (C.2.2.2.2.1 _ hv.1) (C.2.2.2.2.1 _ hv.2.1) (C.2.2.2.2.1 _ hv.2.2.1) (C.2.2.2.2.1 _ hv.2.2.2) hr.1 hr.2 hcs.1 hcs.2 hd ?_
  have e : (if Int64.ofInt b < Int64.ofInt a then Int64.ofInt b else Int64.ofInt a) = Int64.ofInt (min a b) := by
    rcases hab with ⟨ha, hb⟩ | rfl
    · have e1 : (Int64.ofInt b < Int64.ofInt a) ↔ b < a := by rw [Int64.lt_iff_toInt_lt, ka_ll ha, ka_ll hb]
      by_cases h1 : b < a
      · rw [if_pos (e1.mpr h1), Int.min_def, if_neg (by omega)]
      · rw [if_neg (fun q => h1 (e1.mp q)), Int.min_def, if_pos (by omega)]
    · rw [Int.min_self, ite_self]
  rw [e]
  exact h
theorem x_rng (kk : ka_rng M → Xj p l e R s m args below meth c D cy ad A Q nL cells slots pc ls st M) : Xj p l e R s m args below meth c D cy ad A Q nL cells slots pc ls st M := fun H locs lc hW hS hL => kk hW.2 H locs lc hW hS hL
def ka_mask : List Bool → List (Option AV) → List (Option AV)
  | true :: b, x :: l => x :: ka_mask b l
  | false :: b, _ :: l => none :: ka_mask b l
  | _, _ => []
theorem ka_mask_in : ∀ (b : List Bool) (l : List (Option AV)) (i : Nat) (v : AV), (ka_mask b l)[i]? = some (some v) → l[i]? = some (some v)
  | [], _, i, v, h => by simp [ka_mask] at h
  | true :: b, [], i, v, h => by simp [ka_mask] at h
  | false :: b, [], i, v, h => by simp [ka_mask] at h
  | true :: b, x :: l, 0, v, h => by simpa [ka_mask] using h
  | false :: b, x :: l, 0, v, h => by simp [ka_mask] at h
  | true :: b, x :: l, i + 1, v, h => by
    simp only [ka_mask, List.getElem?_cons_succ] at h
    simpa using ka_mask_in b l i v h
  | false :: b, x :: l, i + 1, v, h => by
    simp only [ka_mask, List.getElem?_cons_succ] at h
    simpa using ka_mask_in b l i v h
theorem x_mask (b : List Bool) {ls' : List (Option AV)} (hb : ka_mask b ls = ls') (kk : Xj p l e R s m args below meth c D cy ad A Q nL cells slots pc ls' st M) : Xj p l e R s m args below meth c D cy ad A Q nL cells slots pc ls st M := fun H locs lc hW hS hL => kk H locs lc hW hS ⟨hL.1, hL.2.1, fun i v h => hL.2.2 i v (ka_mask_in b ls i v (by rw [hb]; exact h))⟩
theorem ka_gI (hR : ka_rng M) {c0 rows n : Nat} (hl : lay c0 = .inr (0, rows, n)) (k : Int) : iR (M c0 k) := by
  have h := hR c0 k
  unfold ka_sty at h
  rw [hl] at h
  exact h
theorem ka_gL (hR : ka_rng M) {c0 rows n : Nat} (hl : lay c0 = .inr (1, rows, n)) (k : Int) : lR (M c0 k) := by
  have h := hR c0 k
  unfold ka_sty at h
  rw [hl] at h
  exact h
theorem ka_gZ (hR : ka_rng M) {c0 rows n : Nat} (hl : lay c0 = .inr (2, rows, n)) (k : Int) : bR (M c0 k) := by
  have h := hR c0 k
  unfold ka_sty at h
  rw [hl] at h
  exact h
theorem ka_fI (hR : ka_rng M) {c0 ci z : Nat} {fds : List (Nat × Nat)} {k : Int} (hl : lay c0 = .inl (ci, fds)) (hf : fds[k.toNat]? = some (0, z)) : iR (M c0 k) := by
  have h := hR c0 k
  unfold ka_sty at h
  rw [hl] at h
  simp only [hf] at h
  exact h
theorem ka_fL (hR : ka_rng M) {c0 ci z : Nat} {fds : List (Nat × Nat)} {k : Int} (hl : lay c0 = .inl (ci, fds)) (hf : fds[k.toNat]? = some (1, z)) : lR (M c0 k) := by
  have h := hR c0 k
  unfold ka_sty at h
  rw [hl] at h
  simp only [hf] at h
  exact h
theorem ka_fZ (hR : ka_rng M) {c0 ci z : Nat} {fds : List (Nat × Nat)} {k : Int} (hl : lay c0 = .inl (ci, fds)) (hf : fds[k.toNat]? = some (2, z)) : bR (M c0 k) := by
  have h := hR c0 k
  unfold ka_sty at h
  rw [hl] at h
  simp only [hf] at h
  exact h
theorem ka_bi {x : Int} (h : bR x) : iR x := by omega
abbrev rI (Qp : Int → Mm → Prop) : Option AV → Mm → Prop := fun o M' => ∃ r : Int, o = some (aI r) ∧ iR r ∧ Qp r M'
abbrev rZ (Qp : Int → Mm → Prop) : Option AV → Mm → Prop := fun o M' => ∃ r : Int, o = some (aI r) ∧ bR r ∧ Qp r M'
abbrev rL (Qp : Int → Mm → Prop) : Option AV → Mm → Prop := fun o M' => ∃ r : Int, o = some (aL r) ∧ Qp r M'
abbrev rV (Qp : Mm → Prop) : Option AV → Mm → Prop := fun o M' => o = none ∧ Qp M'
end XR
section XE
variable {p : Program} {l : Launch} {e : Env} {R : Room} {s : State} {m : MethodId} {args : Array Value} {below : List Frame} {meth : Method} {c : Code} {D : va_G} {cy : Nat → ClassId} {ad : Nat → Int → Nat} {cc : ByteArray} {nL : Nat} {own : String} {pc : Nat} {ls : List (Option AV)} {M : Mm}
theorem x_iret {Qp : Int → Mm → Prop} {v : Int} (C : Cx p s m args meth c D cy ad (Ar ad) cc nL own (some .int)) (hv : iR v) (hq : Qp v M) (hd : decode cc pc = .ok (.ireturn, 1)) : Xj p l e R s m args below meth c D cy ad (Ar ad) (MQ below (QX D cy ad (rI Qp)) args s 0 0 (Ar ad)) nL 0 0 pc ls [aI v] M := by
  intro H locs lc hW hS hL
  exact W.iret C.1 C.2.1 C.2.2.2.2.2.2.1 (fun t ht _ => ⟨⟨some (aI v), M, rfl, ⟨v, rfl, hv, hq⟩, by rw [ht]; exact hW⟩, hS.F ht⟩) hS.2.2 hd C.2.2.2.2.2.1
theorem x_zret {Qp : Int → Mm → Prop} {v : Int} (C : Cx p s m args meth c D cy ad (Ar ad) cc nL own (some .boolean)) (hv : bR v) (hq : Qp v M) (hd : decode cc pc = .ok (.ireturn, 1)) : Xj p l e R s m args below meth c D cy ad (Ar ad) (MQ below (QX D cy ad (rZ Qp)) args s 0 0 (Ar ad)) nL 0 0 pc ls [aI v] M := by
  intro H locs lc hW hS hL
  exact W.zret C.1 C.2.1 C.2.2.2.2.2.2.1 (by rcases ka_b01 hv with rfl | rfl <;> rfl) (fun t ht _ => ⟨⟨some (aI v), M, rfl, ⟨v, rfl, hv, hq⟩, by rw [ht]; exact hW⟩, hS.F ht⟩) hS.2.2 hd C.2.2.2.2.2.1
theorem x_lret {Qp : Int → Mm → Prop} {v : Int} (C : Cx p s m args meth c D cy ad (Ar ad) cc nL own (some .long)) (hq : Qp v M) (hd : decode cc pc = .ok (.lreturn, 1)) : Xj p l e R s m args below meth c D cy ad (Ar ad) (MQ below (QX D cy ad (rL Qp)) args s 0 0 (Ar ad)) nL 0 0 pc ls [aL v] M := by
  intro H locs lc hW hS hL
  exact W.lret C.1 C.2.1 C.2.2.2.2.2.2.1 (fun t ht _ => ⟨⟨some (aL v), M, rfl, ⟨v, rfl, hq⟩, by rw [ht]; exact hW⟩, hS.F ht⟩) hS.2.2 hd C.2.2.2.2.2.1
theorem x_vret {Qp : Mm → Prop} (C : Cx p s m args meth c D cy ad (Ar ad) cc nL own none) (hq : Qp M) (hd : decode cc pc = .ok (.return_, 1)) : Xj p l e R s m args below meth c D cy ad (Ar ad) (MQ below (QX D cy ad (rV Qp)) args s 0 0 (Ar ad)) nL 0 0 pc ls [] M := by
  intro H locs lc hW hS hL
  exact W.vret C.1 C.2.1 C.2.2.2.2.2.2.1 (fun t ht _ => ⟨⟨none, M, rfl, ⟨rfl, hq⟩, by rw [ht]; exact hW⟩, hS.F ht⟩) hS.2.2 hd C.2.2.2.2.2.1
/-- the locals at entry -/
def ka_args : List AV → List (Option AV)
  | [] => []
  | Sum.inr (Sum.inl x) :: l => some (Sum.inr (Sum.inl x)) :: none :: ka_args l
  | v :: l => some v :: ka_args l
theorem ka_args_in : ∀ (vs : List AV) (k i : Nat) (v : AV), (ka_args vs)[i]? = some (some v) → (k + i, gam ad v) ∈ lv_args k (vs.map (gam ad))
  | [], k, i, v, h => by simp [ka_args] at h
  | Sum.inr (Sum.inl x) :: l, k, i, v, h => by
    match i, h with
    | 0, h =>
      simp only [ka_args, List.getElem?_cons_zero] at h
      cases h
      exact List.mem_cons_self
    | 1, h => simp [ka_args] at h
    | i + 2, h =>
      simp only [ka_args, List.getElem?_cons_succ] at h
      have := ka_args_in l (k + 2) i v h
      rw [show k + 2 + i = k + (i + 2) by omega] at this
      exact List.mem_cons_of_mem _ this
  | Sum.inl x :: l, k, i, v, h => by
    match i, h with
    | 0, h =>
      simp only [ka_args, List.getElem?_cons_zero] at h
      cases h
      exact List.mem_cons_self
    | i + 1, h =>
      simp only [ka_args, List.getElem?_cons_succ] at h
      have := ka_args_in l (k + 1) i v h
      rw [show k + 1 + i = k + (i + 1) by omega] at this
      exact List.mem_cons_of_mem _ this
  | Sum.inr (Sum.inr x) :: l, k, i, v, h => by
    match i, h with
    | 0, h =>
      simp only [ka_args, List.getElem?_cons_zero] at h
      cases h
      exact List.mem_cons_self
    | i + 1, h =>
      simp only [ka_args, List.getElem?_cons_succ] at h
      have := ka_args_in l (k + 1) i v h
      rw [show k + 1 + i = k + (i + 1) by omega] at this
      exact List.mem_cons_of_mem _ this
theorem ka_rep {z : Nat} {l : List (Option AV)} {i : Nat} {v : AV} (h : (l ++ List.replicate z none)[i]? = some (some v)) : l[i]? = some (some v) := by
  by_cases hi : i < l.length
  · rwa [List.getElem?_append_left hi] at h
  · rw [List.getElem?_append_right (by omega)] at h
    have := List.mem_of_getElem? h
    rw [List.mem_replicate] at this
    cases this.2
theorem ct_of {y : MethodName} {rt : Option FieldType} {rm : Room} {vs : List AV} {Qp : Option AV → Mm → Prop} {z : Nat} (hy : plainName y.cls = true) (hl : ka_args vs ++ List.replicate z none = ls) (hn : (lg_sl (vs.map (gam ad))).length ≤ nL)
    (body : ∀ (p : Program) (e : Env) (s : State) (m : MethodId) (args : Array Value) (below : List Frame) (meth : Method) (c : Code), Cx p s m args meth c D cy ad (Ar ad) cc nL y.cls rt → Xj p l e rm s m args below meth c D cy ad (Ar ad) (MQ below (QX D cy ad Qp) args s 0 0 (Ar ad)) nL 0 0 0 ls [] M) : Ct l D cy ad y cc nL rt rm vs M Qp := by
  refine Met.ofW (cc := cc) (maxL := nL) (ret := rt) hy rfl ?_
  intro p e s m args below meth c s₁ B hml hv
  obtain ⟨rfl, hK, hG, hW⟩ := hv
  have hts := atoms_spec (ws := Cond.code y cc nL rt :: kw) B.pre
  have hown : s.vm.findClass y.cls = some m.cls := findClass_of_methodNamed B.named
  have h := body p e s m _ below meth c ⟨B.exec, B.bytes, hml, hown, fun w hw => hts w (List.mem_cons_of_mem _ hw), B.notSynchronized, B.returns, hK, hG, fun _ q => q⟩
  have he := lv_entry (vs.map (gam ad)) (n := nL) hn
  rw [lg_entry_eq]
  refine h s.heap [] _ hW va_S.rf ⟨he.1, he.2.1, fun i v hi => ?_⟩
  have h1 := ka_args_in (ad := ad) vs 0 i v (ka_rep (by rw [hl]; exact hi))
  rw [Nat.zero_add] at h1
  exact he.2.2 _ h1
end XE
section XR
end XR
/-! loops: a body that may go on at another state -/
def lpw0 (b : (Mm → Prop) → Mm → Prop) : Nat → Mm → Prop
  | 0 => fun  _ => False
  | n + 1 => b (lpw0 b n)
def LP0 (b : (Mm → Prop) → Mm → Prop) (M : Mm) : Prop := ∃ n, lpw0 b n M
theorem LP0.ind {b : (Mm → Prop) → Mm → Prop} {P : Mm → Prop} (step : ∀ R : Mm → Prop, (∀ (M : Mm), R M → P M) → ∀ (M : Mm), b R M → P M) : ∀ (M : Mm), LP0 b M → P M := by
  have key : ∀ n, ∀ (M : Mm), lpw0 b n M → P M := by
    intro n
    induction n with
    | zero => intro  M h; exact h.elim
    | succ n ih => intro  M h; exact step _ ih M h
  intro  M h
  obtain ⟨n, h⟩ := h
  exact key n M h
theorem LP0.of {b : (Mm → Prop) → Mm → Prop} (I : Mm → Prop) (m : Mm → Nat) (h : ∀ (R : Mm → Prop) (M : Mm), I M → (∀ (M' : Mm), I M' → m M' < m M → R M') → b R M) : ∀ (M : Mm), I M → LP0 b M := by
  have key : ∀ n, ∀ (M : Mm), m M < n → I M → lpw0 b n M := by
    intro n
    induction n with
    | zero => intro  M h0; exact absurd h0 (by omega)
    | succ n ih => intro  M h0 hI; exact h _ M hI (fun M' hI' hm => ih M' (by omega) hI')
  intro  M hI
  exact ⟨m M + 1, key _ M (by omega) hI⟩
def lpw1 (b : (Int → Mm → Prop) → Int → Mm → Prop) : Nat → Int → Mm → Prop
  | 0 => fun _ _ => False
  | n + 1 => b (lpw1 b n)
def LP1 (b : (Int → Mm → Prop) → Int → Mm → Prop) (x0 : Int) (M : Mm) : Prop := ∃ n, lpw1 b n x0 M
theorem LP1.ind {b : (Int → Mm → Prop) → Int → Mm → Prop} {P : Int → Mm → Prop} (step : ∀ R : Int → Mm → Prop, (∀ (x0 : Int) (M : Mm), R x0 M → P x0 M) → ∀ (x0 : Int) (M : Mm), b R x0 M → P x0 M) : ∀ (x0 : Int) (M : Mm), LP1 b x0 M → P x0 M := by
  have key : ∀ n, ∀ (x0 : Int) (M : Mm), lpw1 b n x0 M → P x0 M := by
    intro n
    induction n with
    | zero => intro x0 M h; exact h.elim
    | succ n ih => intro x0 M h; exact step _ ih x0 M h
  intro x0 M h
  obtain ⟨n, h⟩ := h
  exact key n x0 M h
theorem LP1.of {b : (Int → Mm → Prop) → Int → Mm → Prop} (I : Int → Mm → Prop) (m : Int → Mm → Nat) (h : ∀ (R : Int → Mm → Prop) (x0 : Int) (M : Mm), I x0 M → (∀ (y0 : Int) (M' : Mm), I y0 M' → m y0 M' < m x0 M → R y0 M') → b R x0 M) : ∀ (x0 : Int) (M : Mm), I x0 M → LP1 b x0 M := by
  have key : ∀ n, ∀ (x0 : Int) (M : Mm), m x0 M < n → I x0 M → lpw1 b n x0 M := by
    intro n
    induction n with
    | zero => intro x0 M h0; exact absurd h0 (by omega)
    | succ n ih => intro x0 M h0 hI; exact h _ x0 M hI (fun y0 M' hI' hm => ih y0 M' (by omega) hI')
  intro x0 M hI
  exact ⟨m x0 M + 1, key _ x0 M (by omega) hI⟩
def lpw2 (b : (Int → Int → Mm → Prop) → Int → Int → Mm → Prop) : Nat → Int → Int → Mm → Prop
  | 0 => fun _ _ _ => False
  | n + 1 => b (lpw2 b n)
def LP2 (b : (Int → Int → Mm → Prop) → Int → Int → Mm → Prop) (x0 x1 : Int) (M : Mm) : Prop := ∃ n, lpw2 b n x0 x1 M
theorem LP2.ind {b : (Int → Int → Mm → Prop) → Int → Int → Mm → Prop} {P : Int → Int → Mm → Prop} (step : ∀ R : Int → Int → Mm → Prop, (∀ (x0 x1 : Int) (M : Mm), R x0 x1 M → P x0 x1 M) → ∀ (x0 x1 : Int) (M : Mm), b R x0 x1 M → P x0 x1 M) : ∀ (x0 x1 : Int) (M : Mm), LP2 b x0 x1 M → P x0 x1 M := by
  have key : ∀ n, ∀ (x0 x1 : Int) (M : Mm), lpw2 b n x0 x1 M → P x0 x1 M := by
    intro n
    induction n with
    | zero => intro x0 x1 M h; exact h.elim
    | succ n ih => intro x0 x1 M h; exact step _ ih x0 x1 M h
  intro x0 x1 M h
  obtain ⟨n, h⟩ := h
  exact key n x0 x1 M h
theorem LP2.of {b : (Int → Int → Mm → Prop) → Int → Int → Mm → Prop} (I : Int → Int → Mm → Prop) (m : Int → Int → Mm → Nat) (h : ∀ (R : Int → Int → Mm → Prop) (x0 x1 : Int) (M : Mm), I x0 x1 M → (∀ (y0 y1 : Int) (M' : Mm), I y0 y1 M' → m y0 y1 M' < m x0 x1 M → R y0 y1 M') → b R x0 x1 M) : ∀ (x0 x1 : Int) (M : Mm), I x0 x1 M → LP2 b x0 x1 M := by
  have key : ∀ n, ∀ (x0 x1 : Int) (M : Mm), m x0 x1 M < n → I x0 x1 M → lpw2 b n x0 x1 M := by
    intro n
    induction n with
    | zero => intro x0 x1 M h0; exact absurd h0 (by omega)
    | succ n ih => intro x0 x1 M h0 hI; exact h _ x0 x1 M hI (fun y0 y1 M' hI' hm => ih y0 y1 M' (by omega) hI')
  intro x0 x1 M hI
  exact ⟨m x0 x1 M + 1, key _ x0 x1 M (by omega) hI⟩
def lpw3 (b : (Int → Int → Int → Mm → Prop) → Int → Int → Int → Mm → Prop) : Nat → Int → Int → Int → Mm → Prop
  | 0 => fun _ _ _ _ => False
  | n + 1 => b (lpw3 b n)
def LP3 (b : (Int → Int → Int → Mm → Prop) → Int → Int → Int → Mm → Prop) (x0 x1 x2 : Int) (M : Mm) : Prop := ∃ n, lpw3 b n x0 x1 x2 M
theorem LP3.ind {b : (Int → Int → Int → Mm → Prop) → Int → Int → Int → Mm → Prop} {P : Int → Int → Int → Mm → Prop} (step : ∀ R : Int → Int → Int → Mm → Prop, (∀ (x0 x1 x2 : Int) (M : Mm), R x0 x1 x2 M → P x0 x1 x2 M) → ∀ (x0 x1 x2 : Int) (M : Mm), b R x0 x1 x2 M → P x0 x1 x2 M) : ∀ (x0 x1 x2 : Int) (M : Mm), LP3 b x0 x1 x2 M → P x0 x1 x2 M := by
  have key : ∀ n, ∀ (x0 x1 x2 : Int) (M : Mm), lpw3 b n x0 x1 x2 M → P x0 x1 x2 M := by
    intro n
    induction n with
    | zero => intro x0 x1 x2 M h; exact h.elim
    | succ n ih => intro x0 x1 x2 M h; exact step _ ih x0 x1 x2 M h
  intro x0 x1 x2 M h
  obtain ⟨n, h⟩ := h
  exact key n x0 x1 x2 M h
theorem LP3.of {b : (Int → Int → Int → Mm → Prop) → Int → Int → Int → Mm → Prop} (I : Int → Int → Int → Mm → Prop) (m : Int → Int → Int → Mm → Nat) (h : ∀ (R : Int → Int → Int → Mm → Prop) (x0 x1 x2 : Int) (M : Mm), I x0 x1 x2 M → (∀ (y0 y1 y2 : Int) (M' : Mm), I y0 y1 y2 M' → m y0 y1 y2 M' < m x0 x1 x2 M → R y0 y1 y2 M') → b R x0 x1 x2 M) : ∀ (x0 x1 x2 : Int) (M : Mm), I x0 x1 x2 M → LP3 b x0 x1 x2 M := by
  have key : ∀ n, ∀ (x0 x1 x2 : Int) (M : Mm), m x0 x1 x2 M < n → I x0 x1 x2 M → lpw3 b n x0 x1 x2 M := by
    intro n
    induction n with
    | zero => intro x0 x1 x2 M h0; exact absurd h0 (by omega)
    | succ n ih => intro x0 x1 x2 M h0 hI; exact h _ x0 x1 x2 M hI (fun y0 y1 y2 M' hI' hm => ih y0 y1 y2 M' (by omega) hI')
  intro x0 x1 x2 M hI
  exact ⟨m x0 x1 x2 M + 1, key _ x0 x1 x2 M (by omega) hI⟩
def lpw4 (b : (Int → Int → Int → Int → Mm → Prop) → Int → Int → Int → Int → Mm → Prop) : Nat → Int → Int → Int → Int → Mm → Prop
  | 0 => fun _ _ _ _ _ => False
  | n + 1 => b (lpw4 b n)
def LP4 (b : (Int → Int → Int → Int → Mm → Prop) → Int → Int → Int → Int → Mm → Prop) (x0 x1 x2 x3 : Int) (M : Mm) : Prop := ∃ n, lpw4 b n x0 x1 x2 x3 M
theorem LP4.ind {b : (Int → Int → Int → Int → Mm → Prop) → Int → Int → Int → Int → Mm → Prop} {P : Int → Int → Int → Int → Mm → Prop} (step : ∀ R : Int → Int → Int → Int → Mm → Prop, (∀ (x0 x1 x2 x3 : Int) (M : Mm), R x0 x1 x2 x3 M → P x0 x1 x2 x3 M) → ∀ (x0 x1 x2 x3 : Int) (M : Mm), b R x0 x1 x2 x3 M → P x0 x1 x2 x3 M) : ∀ (x0 x1 x2 x3 : Int) (M : Mm), LP4 b x0 x1 x2 x3 M → P x0 x1 x2 x3 M := by
  have key : ∀ n, ∀ (x0 x1 x2 x3 : Int) (M : Mm), lpw4 b n x0 x1 x2 x3 M → P x0 x1 x2 x3 M := by
    intro n
    induction n with
    | zero => intro x0 x1 x2 x3 M h; exact h.elim
    | succ n ih => intro x0 x1 x2 x3 M h; exact step _ ih x0 x1 x2 x3 M h
  intro x0 x1 x2 x3 M h
  obtain ⟨n, h⟩ := h
  exact key n x0 x1 x2 x3 M h
theorem LP4.of {b : (Int → Int → Int → Int → Mm → Prop) → Int → Int → Int → Int → Mm → Prop} (I : Int → Int → Int → Int → Mm → Prop) (m : Int → Int → Int → Int → Mm → Nat) (h : ∀ (R : Int → Int → Int → Int → Mm → Prop) (x0 x1 x2 x3 : Int) (M : Mm), I x0 x1 x2 x3 M → (∀ (y0 y1 y2 y3 : Int) (M' : Mm), I y0 y1 y2 y3 M' → m y0 y1 y2 y3 M' < m x0 x1 x2 x3 M → R y0 y1 y2 y3 M') → b R x0 x1 x2 x3 M) : ∀ (x0 x1 x2 x3 : Int) (M : Mm), I x0 x1 x2 x3 M → LP4 b x0 x1 x2 x3 M := by
  have key : ∀ n, ∀ (x0 x1 x2 x3 : Int) (M : Mm), m x0 x1 x2 x3 M < n → I x0 x1 x2 x3 M → lpw4 b n x0 x1 x2 x3 M := by
    intro n
    induction n with
    | zero => intro x0 x1 x2 x3 M h0; exact absurd h0 (by omega)
    | succ n ih => intro x0 x1 x2 x3 M h0 hI; exact h _ x0 x1 x2 x3 M hI (fun y0 y1 y2 y3 M' hI' hm => ih y0 y1 y2 y3 M' (by omega) hI')
  intro x0 x1 x2 x3 M hI
  exact ⟨m x0 x1 x2 x3 M + 1, key _ x0 x1 x2 x3 M (by omega) hI⟩
def lpw5 (b : (Int → Int → Int → Int → Int → Mm → Prop) → Int → Int → Int → Int → Int → Mm → Prop) : Nat → Int → Int → Int → Int → Int → Mm → Prop
  | 0 => fun _ _ _ _ _ _ => False
  | n + 1 => b (lpw5 b n)
def LP5 (b : (Int → Int → Int → Int → Int → Mm → Prop) → Int → Int → Int → Int → Int → Mm → Prop) (x0 x1 x2 x3 x4 : Int) (M : Mm) : Prop := ∃ n, lpw5 b n x0 x1 x2 x3 x4 M
theorem LP5.ind {b : (Int → Int → Int → Int → Int → Mm → Prop) → Int → Int → Int → Int → Int → Mm → Prop} {P : Int → Int → Int → Int → Int → Mm → Prop} (step : ∀ R : Int → Int → Int → Int → Int → Mm → Prop, (∀ (x0 x1 x2 x3 x4 : Int) (M : Mm), R x0 x1 x2 x3 x4 M → P x0 x1 x2 x3 x4 M) → ∀ (x0 x1 x2 x3 x4 : Int) (M : Mm), b R x0 x1 x2 x3 x4 M → P x0 x1 x2 x3 x4 M) : ∀ (x0 x1 x2 x3 x4 : Int) (M : Mm), LP5 b x0 x1 x2 x3 x4 M → P x0 x1 x2 x3 x4 M := by
  have key : ∀ n, ∀ (x0 x1 x2 x3 x4 : Int) (M : Mm), lpw5 b n x0 x1 x2 x3 x4 M → P x0 x1 x2 x3 x4 M := by
    intro n
    induction n with
    | zero => intro x0 x1 x2 x3 x4 M h; exact h.elim
    | succ n ih => intro x0 x1 x2 x3 x4 M h; exact step _ ih x0 x1 x2 x3 x4 M h
  intro x0 x1 x2 x3 x4 M h
  obtain ⟨n, h⟩ := h
  exact key n x0 x1 x2 x3 x4 M h
theorem LP5.of {b : (Int → Int → Int → Int → Int → Mm → Prop) → Int → Int → Int → Int → Int → Mm → Prop} (I : Int → Int → Int → Int → Int → Mm → Prop) (m : Int → Int → Int → Int → Int → Mm → Nat) (h : ∀ (R : Int → Int → Int → Int → Int → Mm → Prop) (x0 x1 x2 x3 x4 : Int) (M : Mm), I x0 x1 x2 x3 x4 M → (∀ (y0 y1 y2 y3 y4 : Int) (M' : Mm), I y0 y1 y2 y3 y4 M' → m y0 y1 y2 y3 y4 M' < m x0 x1 x2 x3 x4 M → R y0 y1 y2 y3 y4 M') → b R x0 x1 x2 x3 x4 M) : ∀ (x0 x1 x2 x3 x4 : Int) (M : Mm), I x0 x1 x2 x3 x4 M → LP5 b x0 x1 x2 x3 x4 M := by
  have key : ∀ n, ∀ (x0 x1 x2 x3 x4 : Int) (M : Mm), m x0 x1 x2 x3 x4 M < n → I x0 x1 x2 x3 x4 M → lpw5 b n x0 x1 x2 x3 x4 M := by
    intro n
    induction n with
    | zero => intro x0 x1 x2 x3 x4 M h0; exact absurd h0 (by omega)
    | succ n ih => intro x0 x1 x2 x3 x4 M h0 hI; exact h _ x0 x1 x2 x3 x4 M hI (fun y0 y1 y2 y3 y4 M' hI' hm => ih y0 y1 y2 y3 y4 M' (by omega) hI')
  intro x0 x1 x2 x3 x4 M hI
  exact ⟨m x0 x1 x2 x3 x4 M + 1, key _ x0 x1 x2 x3 x4 M (by omega) hI⟩
def lpw6 (b : (Int → Int → Int → Int → Int → Int → Mm → Prop) → Int → Int → Int → Int → Int → Int → Mm → Prop) : Nat → Int → Int → Int → Int → Int → Int → Mm → Prop
  | 0 => fun _ _ _ _ _ _ _ => False
  | n + 1 => b (lpw6 b n)
def LP6 (b : (Int → Int → Int → Int → Int → Int → Mm → Prop) → Int → Int → Int → Int → Int → Int → Mm → Prop) (x0 x1 x2 x3 x4 x5 : Int) (M : Mm) : Prop := ∃ n, lpw6 b n x0 x1 x2 x3 x4 x5 M
theorem LP6.ind {b : (Int → Int → Int → Int → Int → Int → Mm → Prop) → Int → Int → Int → Int → Int → Int → Mm → Prop} {P : Int → Int → Int → Int → Int → Int → Mm → Prop} (step : ∀ R : Int → Int → Int → Int → Int → Int → Mm → Prop, (∀ (x0 x1 x2 x3 x4 x5 : Int) (M : Mm), R x0 x1 x2 x3 x4 x5 M → P x0 x1 x2 x3 x4 x5 M) → ∀ (x0 x1 x2 x3 x4 x5 : Int) (M : Mm), b R x0 x1 x2 x3 x4 x5 M → P x0 x1 x2 x3 x4 x5 M) : ∀ (x0 x1 x2 x3 x4 x5 : Int) (M : Mm), LP6 b x0 x1 x2 x3 x4 x5 M → P x0 x1 x2 x3 x4 x5 M := by
  have key : ∀ n, ∀ (x0 x1 x2 x3 x4 x5 : Int) (M : Mm), lpw6 b n x0 x1 x2 x3 x4 x5 M → P x0 x1 x2 x3 x4 x5 M := by
    intro n
    induction n with
    | zero => intro x0 x1 x2 x3 x4 x5 M h; exact h.elim
    | succ n ih => intro x0 x1 x2 x3 x4 x5 M h; exact step _ ih x0 x1 x2 x3 x4 x5 M h
  intro x0 x1 x2 x3 x4 x5 M h
  obtain ⟨n, h⟩ := h
  exact key n x0 x1 x2 x3 x4 x5 M h
theorem LP6.of {b : (Int → Int → Int → Int → Int → Int → Mm → Prop) → Int → Int → Int → Int → Int → Int → Mm → Prop} (I : Int → Int → Int → Int → Int → Int → Mm → Prop) (m : Int → Int → Int → Int → Int → Int → Mm → Nat) (h : ∀ (R : Int → Int → Int → Int → Int → Int → Mm → Prop) (x0 x1 x2 x3 x4 x5 : Int) (M : Mm), I x0 x1 x2 x3 x4 x5 M → (∀ (y0 y1 y2 y3 y4 y5 : Int) (M' : Mm), I y0 y1 y2 y3 y4 y5 M' → m y0 y1 y2 y3 y4 y5 M' < m x0 x1 x2 x3 x4 x5 M → R y0 y1 y2 y3 y4 y5 M') → b R x0 x1 x2 x3 x4 x5 M) : ∀ (x0 x1 x2 x3 x4 x5 : Int) (M : Mm), I x0 x1 x2 x3 x4 x5 M → LP6 b x0 x1 x2 x3 x4 x5 M := by
  have key : ∀ n, ∀ (x0 x1 x2 x3 x4 x5 : Int) (M : Mm), m x0 x1 x2 x3 x4 x5 M < n → I x0 x1 x2 x3 x4 x5 M → lpw6 b n x0 x1 x2 x3 x4 x5 M := by
    intro n
    induction n with
    | zero => intro x0 x1 x2 x3 x4 x5 M h0; exact absurd h0 (by omega)
    | succ n ih => intro x0 x1 x2 x3 x4 x5 M h0 hI; exact h _ x0 x1 x2 x3 x4 x5 M hI (fun y0 y1 y2 y3 y4 y5 M' hI' hm => ih y0 y1 y2 y3 y4 y5 M' (by omega) hI')
  intro x0 x1 x2 x3 x4 x5 M hI
  exact ⟨m x0 x1 x2 x3 x4 x5 M + 1, key _ x0 x1 x2 x3 x4 x5 M (by omega) hI⟩
def lpw7 (b : (Int → Int → Int → Int → Int → Int → Int → Mm → Prop) → Int → Int → Int → Int → Int → Int → Int → Mm → Prop) : Nat → Int → Int → Int → Int → Int → Int → Int → Mm → Prop
  | 0 => fun _ _ _ _ _ _ _ _ => False
  | n + 1 => b (lpw7 b n)
def LP7 (b : (Int → Int → Int → Int → Int → Int → Int → Mm → Prop) → Int → Int → Int → Int → Int → Int → Int → Mm → Prop) (x0 x1 x2 x3 x4 x5 x6 : Int) (M : Mm) : Prop := ∃ n, lpw7 b n x0 x1 x2 x3 x4 x5 x6 M
theorem LP7.ind {b : (Int → Int → Int → Int → Int → Int → Int → Mm → Prop) → Int → Int → Int → Int → Int → Int → Int → Mm → Prop} {P : Int → Int → Int → Int → Int → Int → Int → Mm → Prop} (step : ∀ R : Int → Int → Int → Int → Int → Int → Int → Mm → Prop, (∀ (x0 x1 x2 x3 x4 x5 x6 : Int) (M : Mm), R x0 x1 x2 x3 x4 x5 x6 M → P x0 x1 x2 x3 x4 x5 x6 M) → ∀ (x0 x1 x2 x3 x4 x5 x6 : Int) (M : Mm), b R x0 x1 x2 x3 x4 x5 x6 M → P x0 x1 x2 x3 x4 x5 x6 M) : ∀ (x0 x1 x2 x3 x4 x5 x6 : Int) (M : Mm), LP7 b x0 x1 x2 x3 x4 x5 x6 M → P x0 x1 x2 x3 x4 x5 x6 M := by
  have key : ∀ n, ∀ (x0 x1 x2 x3 x4 x5 x6 : Int) (M : Mm), lpw7 b n x0 x1 x2 x3 x4 x5 x6 M → P x0 x1 x2 x3 x4 x5 x6 M := by
    intro n
    induction n with
    | zero => intro x0 x1 x2 x3 x4 x5 x6 M h; exact h.elim
    | succ n ih => intro x0 x1 x2 x3 x4 x5 x6 M h; exact step _ ih x0 x1 x2 x3 x4 x5 x6 M h
  intro x0 x1 x2 x3 x4 x5 x6 M h
  obtain ⟨n, h⟩ := h
  exact key n x0 x1 x2 x3 x4 x5 x6 M h
theorem LP7.of {b : (Int → Int → Int → Int → Int → Int → Int → Mm → Prop) → Int → Int → Int → Int → Int → Int → Int → Mm → Prop} (I : Int → Int → Int → Int → Int → Int → Int → Mm → Prop) (m : Int → Int → Int → Int → Int → Int → Int → Mm → Nat) (h : ∀ (R : Int → Int → Int → Int → Int → Int → Int → Mm → Prop) (x0 x1 x2 x3 x4 x5 x6 : Int) (M : Mm), I x0 x1 x2 x3 x4 x5 x6 M → (∀ (y0 y1 y2 y3 y4 y5 y6 : Int) (M' : Mm), I y0 y1 y2 y3 y4 y5 y6 M' → m y0 y1 y2 y3 y4 y5 y6 M' < m x0 x1 x2 x3 x4 x5 x6 M → R y0 y1 y2 y3 y4 y5 y6 M') → b R x0 x1 x2 x3 x4 x5 x6 M) : ∀ (x0 x1 x2 x3 x4 x5 x6 : Int) (M : Mm), I x0 x1 x2 x3 x4 x5 x6 M → LP7 b x0 x1 x2 x3 x4 x5 x6 M := by
  have key : ∀ n, ∀ (x0 x1 x2 x3 x4 x5 x6 : Int) (M : Mm), m x0 x1 x2 x3 x4 x5 x6 M < n → I x0 x1 x2 x3 x4 x5 x6 M → lpw7 b n x0 x1 x2 x3 x4 x5 x6 M := by
    intro n
    induction n with
    | zero => intro x0 x1 x2 x3 x4 x5 x6 M h0; exact absurd h0 (by omega)
    | succ n ih => intro x0 x1 x2 x3 x4 x5 x6 M h0 hI; exact h _ x0 x1 x2 x3 x4 x5 x6 M hI (fun y0 y1 y2 y3 y4 y5 y6 M' hI' hm => ih y0 y1 y2 y3 y4 y5 y6 M' (by omega) hI')
  intro x0 x1 x2 x3 x4 x5 x6 M hI
  exact ⟨m x0 x1 x2 x3 x4 x5 x6 M + 1, key _ x0 x1 x2 x3 x4 x5 x6 M (by omega) hI⟩
def lpw8 (b : (Int → Int → Int → Int → Int → Int → Int → Int → Mm → Prop) → Int → Int → Int → Int → Int → Int → Int → Int → Mm → Prop) : Nat → Int → Int → Int → Int → Int → Int → Int → Int → Mm → Prop
  | 0 => fun _ _ _ _ _ _ _ _ _ => False
  | n + 1 => b (lpw8 b n)
def LP8 (b : (Int → Int → Int → Int → Int → Int → Int → Int → Mm → Prop) → Int → Int → Int → Int → Int → Int → Int → Int → Mm → Prop) (x0 x1 x2 x3 x4 x5 x6 x7 : Int) (M : Mm) : Prop := ∃ n, lpw8 b n x0 x1 x2 x3 x4 x5 x6 x7 M
theorem LP8.ind {b : (Int → Int → Int → Int → Int → Int → Int → Int → Mm → Prop) → Int → Int → Int → Int → Int → Int → Int → Int → Mm → Prop} {P : Int → Int → Int → Int → Int → Int → Int → Int → Mm → Prop} (step : ∀ R : Int → Int → Int → Int → Int → Int → Int → Int → Mm → Prop, (∀ (x0 x1 x2 x3 x4 x5 x6 x7 : Int) (M : Mm), R x0 x1 x2 x3 x4 x5 x6 x7 M → P x0 x1 x2 x3 x4 x5 x6 x7 M) → ∀ (x0 x1 x2 x3 x4 x5 x6 x7 : Int) (M : Mm), b R x0 x1 x2 x3 x4 x5 x6 x7 M → P x0 x1 x2 x3 x4 x5 x6 x7 M) : ∀ (x0 x1 x2 x3 x4 x5 x6 x7 : Int) (M : Mm), LP8 b x0 x1 x2 x3 x4 x5 x6 x7 M → P x0 x1 x2 x3 x4 x5 x6 x7 M := by
  have key : ∀ n, ∀ (x0 x1 x2 x3 x4 x5 x6 x7 : Int) (M : Mm), lpw8 b n x0 x1 x2 x3 x4 x5 x6 x7 M → P x0 x1 x2 x3 x4 x5 x6 x7 M := by
    intro n
    induction n with
    | zero => intro x0 x1 x2 x3 x4 x5 x6 x7 M h; exact h.elim
    | succ n ih => intro x0 x1 x2 x3 x4 x5 x6 x7 M h; exact step _ ih x0 x1 x2 x3 x4 x5 x6 x7 M h
  intro x0 x1 x2 x3 x4 x5 x6 x7 M h
  obtain ⟨n, h⟩ := h
  exact key n x0 x1 x2 x3 x4 x5 x6 x7 M h
theorem LP8.of {b : (Int → Int → Int → Int → Int → Int → Int → Int → Mm → Prop) → Int → Int → Int → Int → Int → Int → Int → Int → Mm → Prop} (I : Int → Int → Int → Int → Int → Int → Int → Int → Mm → Prop) (m : Int → Int → Int → Int → Int → Int → Int → Int → Mm → Nat) (h : ∀ (R : Int → Int → Int → Int → Int → Int → Int → Int → Mm → Prop) (x0 x1 x2 x3 x4 x5 x6 x7 : Int) (M : Mm), I x0 x1 x2 x3 x4 x5 x6 x7 M → (∀ (y0 y1 y2 y3 y4 y5 y6 y7 : Int) (M' : Mm), I y0 y1 y2 y3 y4 y5 y6 y7 M' → m y0 y1 y2 y3 y4 y5 y6 y7 M' < m x0 x1 x2 x3 x4 x5 x6 x7 M → R y0 y1 y2 y3 y4 y5 y6 y7 M') → b R x0 x1 x2 x3 x4 x5 x6 x7 M) : ∀ (x0 x1 x2 x3 x4 x5 x6 x7 : Int) (M : Mm), I x0 x1 x2 x3 x4 x5 x6 x7 M → LP8 b x0 x1 x2 x3 x4 x5 x6 x7 M := by
  have key : ∀ n, ∀ (x0 x1 x2 x3 x4 x5 x6 x7 : Int) (M : Mm), m x0 x1 x2 x3 x4 x5 x6 x7 M < n → I x0 x1 x2 x3 x4 x5 x6 x7 M → lpw8 b n x0 x1 x2 x3 x4 x5 x6 x7 M := by
    intro n
    induction n with
    | zero => intro x0 x1 x2 x3 x4 x5 x6 x7 M h0; exact absurd h0 (by omega)
    | succ n ih => intro x0 x1 x2 x3 x4 x5 x6 x7 M h0 hI; exact h _ x0 x1 x2 x3 x4 x5 x6 x7 M hI (fun y0 y1 y2 y3 y4 y5 y6 y7 M' hI' hm => ih y0 y1 y2 y3 y4 y5 y6 y7 M' (by omega) hI')
  intro x0 x1 x2 x3 x4 x5 x6 x7 M hI
  exact ⟨m x0 x1 x2 x3 x4 x5 x6 x7 M + 1, key _ x0 x1 x2 x3 x4 x5 x6 x7 M (by omega) hI⟩
theorem ly_0 : lay 0 = .inl (7, [(3, 1), (3, 2), (3, 3), (3, 4), (3, 5), (3, 6), (3, 7)]) := rfl
theorem ly_1 : lay 1 = .inl (3, [(0, 0), (3, 9), (3, 10)]) := rfl
theorem ly_2 : lay 2 = .inl (4, [(3, 11), (3, 12), (3, 13)]) := rfl
theorem ly_3 : lay 3 = .inl (2, [(0, 0), (3, 14), (3, 15), (3, 16), (3, 17), (3, 18), (0, 0)]) := rfl
theorem ly_4 : lay 4 = .inl (5, [(3, 1), (3, 3), (3, 13), (3, 19), (2, 0), (1, 0), (0, 0), (0, 0)]) := rfl
theorem ly_5 : lay 5 = .inl (1, [(3, 1), (3, 3), (3, 13), (3, 20), (3, 21), (2, 0), (3, 22), (2, 0), (1, 0), (0, 0)]) := rfl
theorem ly_6 : lay 6 = .inl (0, [(3, 1), (3, 3), (3, 13), (3, 23), (3, 24), (3, 25), (3, 26)]) := rfl
theorem ly_7 : lay 7 = .inl (6, [(3, 3), (3, 27), (3, 28), (3, 29)]) := rfl
theorem ly_8 : lay 8 = .inl (8, [(0, 0), (3, 30), (3, 31), (3, 32), (3, 33), (0, 0), (3, 34), (3, 35), (3, 36), (3, 37), (2, 0), (3, 38), (2, 0), (3, 39), (1, 0), (0, 0), (0, 0), (3, 40), (3, 41), (3, 42), (3, 43), (3, 44), (3, 45), (3, 46), (3, 47), (3, 48)]) := rfl
theorem ly_9 : lay 9 = .inr (0, 0, 10) := rfl
theorem ly_10 : lay 10 = .inr (0, 0, 12) := rfl
theorem ly_11 : lay 11 = .inr (0, 6, 300) := rfl
theorem ly_12 : lay 12 = .inr (0, 0, 6) := rfl
theorem ly_13 : lay 13 = .inr (0, 10, 10) := rfl
theorem ly_14 : lay 14 = .inr (0, 0, 12) := rfl
theorem ly_15 : lay 15 = .inr (0, 0, 12) := rfl
theorem ly_16 : lay 16 = .inr (0, 12, 12) := rfl
theorem ly_17 : lay 17 = .inr (0, 12, 12) := rfl
theorem ly_18 : lay 18 = .inr (0, 0, 3) := rfl
theorem ly_19 : lay 19 = .inr (0, 0, 10) := rfl
theorem ly_20 : lay 20 = .inr (0, 0, 10) := rfl
theorem ly_21 : lay 21 = .inr (2, 0, 12) := rfl
theorem ly_22 : lay 22 = .inr (0, 0, 10) := rfl
theorem ly_23 : lay 23 = .inr (0, 0, 10) := rfl
theorem ly_24 : lay 24 = .inr (0, 0, 12) := rfl
theorem ly_25 : lay 25 = .inr (1, 0, 10) := rfl
theorem ly_26 : lay 26 = .inr (1, 0, 1024) := rfl
theorem ly_27 : lay 27 = .inr (0, 0, 7) := rfl
theorem ly_28 : lay 28 = .inr (0, 0, 7) := rfl
theorem ly_29 : lay 29 = .inr (2, 0, 7) := rfl
theorem ly_30 : lay 30 = .inr (2, 0, 6) := rfl
theorem ly_31 : lay 31 = .inr (0, 0, 6) := rfl
theorem ly_32 : lay 32 = .inr (0, 0, 1800) := rfl
theorem ly_33 : lay 33 = .inr (0, 0, 100) := rfl
theorem ly_34 : lay 34 = .inr (0, 0, 12) := rfl
theorem ly_35 : lay 35 = .inr (0, 0, 12) := rfl
theorem ly_36 : lay 36 = .inr (0, 0, 144) := rfl
theorem ly_37 : lay 37 = .inr (0, 0, 10) := rfl
theorem ly_38 : lay 38 = .inr (0, 0, 10) := rfl
theorem ly_39 : lay 39 = .inr (0, 0, 10) := rfl
theorem ly_40 : lay 40 = .inr (0, 0, 3) := rfl
theorem ly_41 : lay 41 = .inr (0, 0, 10) := rfl
theorem ly_42 : lay 42 = .inr (1, 0, 11) := rfl
theorem ly_43 : lay 43 = .inr (0, 0, 10) := rfl
theorem ly_44 : lay 44 = .inr (0, 0, 12) := rfl
theorem ly_45 : lay 45 = .inr (1, 0, 4096) := rfl
theorem ly_46 : lay 46 = .inr (0, 0, 4096) := rfl
theorem ly_47 : lay 47 = .inr (1, 0, 120) := rfl
theorem ly_48 : lay 48 = .inr (0, 0, 7) := rfl
