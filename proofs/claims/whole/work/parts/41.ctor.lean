section KC
variable {l : Launch} {D : va_G} {cy : Nat → ClassId}
theorem y_vret {p : Program} {e : Env} {R rm : Room} {s : State} {m : MethodId} {args : Array Value} {below : List Frame} {meth : Method} {c : Code} {A : Nat → Prop} {cc : ByteArray} {nL cells slots pc : Nat} {own : String} {ls : List (Option Value)} {ws : va_W} {w1 : (Nat → Nat) → va_W} (C : Cy p s m args meth c D cy A cc nL own) (hr : meth.sig.returnType = none) (hc : cells = rm.cells) (hs : slots = rm.slots) (u : Nat → Nat) (hw : w1 u = ws) (hd : decode cc pc = .ok (.return_, 1)) : Yj p l e R s m args below meth c D A (MQ below (va_Qv (fun _ : Nat → Nat => True) (fun u t => va_P D vwCl (w1 u) t.heap ∧ va_D A (w1 u)) A) args s rm.cells rm.slots A) nL cells slots pc ls [] ws := by
  intro H locs lc hP hD hS hL
  subst hw
  rw [← hc, ← hs]
  exact W.vret C.1 C.2.1 hr (fun t ht _ => ⟨⟨u, rfl, trivial, by rw [ht]; exact hP, hD⟩, hS.F ht⟩) hS.2.2 hd C.2.2.2.2.2.1
theorem kb_args_in : ∀ (vs : List Value) (k i : Nat) (v : Value), (∀ x ∈ vs, x.category = 1) → vs[i]? = some v → (k + i, v) ∈ lv_args k vs
  | [], k, i, v, _, h => by simp at h
  | x :: l, k, 0, v, hc, h => by
    simp only [List.getElem?_cons_zero] at h
    cases h
    exact List.mem_cons_self
  | x :: l, k, i + 1, v, hc, h => by
    simp only [List.getElem?_cons_succ] at h
    have h1 := kb_args_in l (k + 1) i v (fun y hy => hc y (List.mem_cons_of_mem _ hy)) h
    rw [show k + 1 + i = k + (i + 1) by omega] at h1
    have h2 : ¬ x.category = 2 := by have := hc x List.mem_cons_self; omega
    unfold lv_args
    rw [if_neg h2]
    exact List.mem_cons_of_mem _ h1
theorem cc_of {y : MethodName} {cc : ByteArray} {nL : Nat} {rm : Room} {vs : List Value} {wc : va_W} {w1 : (Nat → Nat) → va_W} {ls : List (Option Value)} (hy : plainName y.cls = true) (hnm : y.name = "<init>") (hl : vs.map some = ls) (hcat : ∀ x ∈ vs, x.category = 1) (hn : (lg_sl vs).length ≤ nL)
    (body : ∀ (p : Program) (e : Env) (s : State) (m : MethodId) (args : Array Value) (below : List Frame) (meth : Method) (c : Code) (A : Nat → Prop), va_D A wc → meth.name = "<init>" → meth.sig.returnType = none → Cy p s m args meth c D cy A cc nL y.cls → Yj p l e rm s m args below meth c D A (MQ below (va_Qv (fun _ : Nat → Nat => True) (fun u t => va_P D vwCl (w1 u) t.heap ∧ va_D A (w1 u)) A) args s rm.cells rm.slots A) nL 0 0 0 ls [] wc) : Cc l D cy y cc nL rm vs wc w1 := by
  intro sz
  refine Met.ofW (cc := cc) (maxL := nL) (ret := none) hy rfl ?_
  intro p e s m args below meth c s₁ B hml hv
  obtain ⟨rfl, hsz, hP, hD0, hK, hZ⟩ := hv
  subst hsz
  have hts := atoms_spec (ws := Cond.code y cc nL none :: kw) B.pre
  have hown : s.vm.findClass y.cls = some m.cls := findClass_of_methodNamed B.named
  have hin : meth.name = "<init>" := (name_of_methodNamed B.named B.method).1.trans hnm
  have hD := hD0.self (sz := s.heap.size)
  have h := body p e s m vs.toArray below meth c (va_A wc s.heap.size) hD hin B.returns ⟨B.exec, B.bytes, hml, hown, fun w hw => hts w (List.mem_cons_of_mem _ hw), B.notSynchronized, hK, fun q hq => Or.inr hq, hZ⟩
  have he := lv_entry vs (n := nL) hn
  rw [lg_entry_eq]
  refine h s.heap [] _ hP hD va_S.rf ⟨he.1, he.2.1, fun i v hi => ?_⟩
  subst hl
  rw [List.getElem?_map] at hi
  cases hx : vs[i]? with
  | none => rw [hx] at hi; cases hi
  | some z =>
    rw [hx] at hi
    cases hi
    have h1 := kb_args_in vs 0 i _ hcat hx
    rw [Nat.zero_add] at h1
    exact he.2.2 _ h1
abbrev rm_c0 : Room := { frames := 0, cells := 0, slots := 0, locals := 0 }
theorem kb_const {cA : ClassId} {n : Nat} {g : Nat → Int32} {v : Int32} (h : ∀ j, j < n → g j = v) : vp_cell cA (n, .inl g) = vp_cell cA (n, .inl (fun _ => v)) := by
  rw [vp_cell_i, vp_cell_i]
  unfold arrV
  congr 1
  apply Array.ext
  · simp
  · intro i h1 h2
    simp at h1
    simp [h i h1]
set_option maxHeartbeats 4000000 in
set_option maxRecDepth 100000 in
theorem cc_fill (h n : Nat) (hn : n < 2 ^ 31) (v : Int32) (f : Nat → Int32) : Cc l D cy yJ7_fill_53178 cJ7_fill_53178 4 rm_c0 [.ref h, .int v] [(h, .inl (cy 0, n, .inl f))] (fun _ => [(h, .inl (cy 0, n, .inl (fun _ => v)))]) := by
  intro sz
  refine Met.ofW (cc := cJ7_fill_53178) (maxL := 4) (ret := none) (by decide) rfl ?_
  intro p e s m args below meth c s₁ B hml hv
  obtain ⟨rfl, hsz, hP, hD0, hK, hZ⟩ := hv
  subst hsz
  have hx := B.exec
  have hb := B.bytes
  have hr := B.returns
  have hlocks := B.notSynchronized
  have hD := hD0.self (sz := s.heap.size)
  generalize hAe : va_A [(h, .inl (cy 0, n, .inl f))] s.heap.size = A at hD ⊢
  have hS : va_S A s.heap s.heap [] := va_S.rf
  have hl := lv_entry ([.ref h, .int v]) (n := 4) (Nat.le_of_ble_eq_true rfl)
  rw [lg_entry_eq]
  generalize (lg_sl ([.ref h, .int v]) ++ List.replicate (4 - (lg_sl ([.ref h, .int v])).length) Slot.unset).toArray = ls at hl ⊢
  have hl : lv_has ls 4 [(0, .ref h), (1, .int v)] := hl
  have loop : ∀ (k i : Nat) (H : Heap) (locs : List Loc) (ls : Array Slot), n = i + k → va_P D vwCl [(h, .inl (cy 0, n, .inl (fun j => if j < i then v else f j)))] H → va_D A [(h, .inl (cy 0, n, .inl (fun j => if j < i then v else f j)))] → va_S A s.heap H locs → lv_has ls 4 [(2, .int (nI i)), (3, .int (nI n)), (0, .ref h), (1, .int v)] → W p l e (headSpec (Cond.code yJ7_fill_53178 cJ7_fill_53178 4 none :: kw) rm_c0).room s m [Value.ref h, Value.int v].toArray below meth c H locs 0 0 (MQ below (va_Qv (fun _ : Nat → Nat => True) (fun u t => va_P D vwCl [(h, .inl (cy 0, n, .inl (fun _ => v)))] t.heap ∧ va_D A [(h, .inl (cy 0, n, .inl (fun _ => v)))]) A) [Value.ref h, Value.int v].toArray s rm_c0.cells rm_c0.slots A) (F0 m 5 ls []) := by
    intro k
    induction k with
    | zero =>
      intro i H locs ls hni hP hD hS hl
      have hi : i = n := by omega
      subst hi
      refine lv_iload_n hx hb dJ7_fill_53178_5 rfl (lv_at hl 0 rfl) ?_
      refine lv_iload_n hx hb dJ7_fill_53178_6 rfl (lv_at hl 1 rfl) ?_
      refine lv_icmp_ge (tgt := 20) hx hb dJ7_fill_53178_7 (by decide) (fun q => ?_) (fun q => ?_)
      · refine W.vret hx hb hr (fun t ht _ => ⟨⟨fun _ => 0, rfl, trivial, ?_, ⟨fun i j x y hi hj e => ?_, fun k x hk => ?_⟩⟩, hS.F ht⟩) hS.2.2 dJ7_fill_53178_20 hlocks
        · rw [ht]
          intro k q hk
          have h0 : k < 1 := (List.getElem?_eq_some_iff.mp hk).1
          have hk0 : k = 0 := by omega
          subst hk0
          cases hk
          have h1 := hP 0 _ rfl
          have h1 : H[h]? = some (vp_cell (cy 0) (i, .inl (fun j => if j < i then v else f j))) := h1
          rw [kb_const (fun j hj => if_pos hj)] at h1
          exact h1
        · have h0 : i < 1 := (List.getElem?_eq_some_iff.mp hi).1
          have h1 : j < 1 := (List.getElem?_eq_some_iff.mp hj).1
          omega
        · have h0 : k < 1 := (List.getElem?_eq_some_iff.mp hk).1
          have hk0 : k = 0 := by omega
          subst hk0
          cases hk
          exact hD.2 0 (h, .inl (cy 0, i, .inl (fun j => if j < i then v else f j))) rfl
      · exact absurd (nI_le (Nat.le_refl _) hn) q
    | succ k ih =>
      intro i H locs ls hni hP hD hS hl
      refine lv_iload_n hx hb dJ7_fill_53178_5 rfl (lv_at hl 0 rfl) ?_
      refine lv_iload_n hx hb dJ7_fill_53178_6 rfl (lv_at hl 1 rfl) ?_
      refine lv_icmp_ge (tgt := 20) hx hb dJ7_fill_53178_7 (by decide) (fun q => ?_) (fun q => ?_)
      · exact absurd q (nI_ge (by omega) hn)
      · refine lv_aload_n hx hb dJ7_fill_53178_10 rfl (lv_at hl 2 rfl) ?_
        refine lv_iload_n hx hb dJ7_fill_53178_11 rfl (lv_at hl 0 rfl) ?_
        refine lv_iload_n hx hb dJ7_fill_53178_12 rfl (lv_at hl 3 rfl) ?_
        refine va_iast hx hb hK hP hD hS 0 0 rfl rfl (vp_in_nI (by omega) hn) dJ7_fill_53178_13 (fun H1 locs1 hP1 hD1 hS1 => ?_)
        rw [nI_clamp (by omega)] at hP1 hD1
        have e : upd (fun j => if j < i then v else f j) i v = fun j => if j < i + 1 then v else f j := by
          funext j
          by_cases hj : j = i
          · subst hj; rw [pk_us, if_pos (by omega)]
          · rw [pk_un hj]
            by_cases hj2 : j < i
            · rw [if_pos hj2, if_pos (by omega)]
            · rw [if_neg hj2, if_neg (by omega)]
        rw [e] at hP1 hD1
        obtain ⟨x2, ex2⟩ : ∃ z : Int32, z = nI i + 1 := ⟨_, rfl⟩
        refine lv_iinc (v := x2) (lv' := [(2, .int x2), (3, .int (nI n)), (0, .ref h), (1, .int v)]) hx hb dJ7_fill_53178_14 hl (k := 0) rfl (by rw [ex2]; rfl) (by decide) rfl (fun ls hl => ?_)
        refine lv_goto (tgt := 5) hx hb dJ7_fill_53178_17 (by decide) ?_
        rw [ex2, nI_1] at hl
        exact ih (i + 1) H1 locs1 ls (by omega) hP1 hD1 hS1 hl
  refine lv_iconst (v := 0) hx hb dJ7_fill_53178_0 (by decide) ?_
  refine lv_istore_n (lv' := [(2, .int 0), (0, .ref h), (1, .int v)]) hx hb dJ7_fill_53178_1 rfl hl (by decide) rfl (fun ls hl => ?_)
  refine lv_aload_n hx hb dJ7_fill_53178_2 rfl (lv_at hl 1 rfl) ?_
  refine va_alen hx hb hK hP 0 0 rfl rfl (v := nI n) rfl dJ7_fill_53178_3 ?_
  refine lv_istore_n (lv' := [(3, .int (nI n)), (2, .int 0), (0, .ref h), (1, .int v)]) hx hb dJ7_fill_53178_4 rfl hl (by decide) rfl (fun ls hl => ?_)
  have e0 : (fun j => if j < 0 then v else f j) = f := by funext j; exact if_neg (by omega)
  exact loop n 0 s.heap [] ls (by omega) (by rw [e0]; exact hP) (by rw [e0]; exact hD) hS (lv_sub hl [1, 0, 2, 3] rfl)
set_option maxHeartbeats 4000000 in
set_option maxRecDepth 100000 in
theorem cc_unfix (h q : Nat) (fs : List Value) (hf : fs[9]? = some (.ref q)) (f : Nat → Int32) : Cc l D cy yX8_unfix cX8_unfix 2 rm_c0 [.ref h] [(h, .inr (8, fs)), (q, .inl (cy 0, 10, .inl f))] (fun _ => [(h, .inr (8, fs)), (q, .inl (cy 0, 10, .inl (fun _ => -1)))]) := by
  intro sz
  refine Met.ofW (cc := cX8_unfix) (maxL := 2) (ret := none) (by decide) rfl ?_
  intro p e s m args below meth c s₁ B hml hv
  obtain ⟨rfl, hsz, hP, hD0, hK, hZ⟩ := hv
  subst hsz
  have hx := B.exec
  have hb := B.bytes
  have hr := B.returns
  have hlocks := B.notSynchronized
  have hts := atoms_spec (ws := Cond.code yX8_unfix cX8_unfix 2 none :: kw) B.pre
  have hts : ∀ w ∈ kw, w.before [Value.ref h].toArray s = true := fun w hw => hts w (List.mem_cons_of_mem _ hw)
  have hown : s.vm.findClass RX8 = some m.cls := findClass_of_methodNamed B.named
  obtain ⟨Cn, T, N, g1, g2, g3, g4⟩ := gf_RX8_36
  have hD := hD0.self (sz := s.heap.size)
  generalize hAe : va_A [(h, .inr (8, fs)), (q, .inl (cy 0, 10, .inl f))] s.heap.size = A at hD ⊢
  have hS : va_S A s.heap s.heap [] := va_S.rf
  have hl := lv_entry ([.ref h]) (n := 2) (Nat.le_of_ble_eq_true rfl)
  rw [lg_entry_eq]
  generalize (lg_sl ([.ref h]) ++ List.replicate (2 - (lg_sl ([.ref h])).length) Slot.unset).toArray = ls at hl ⊢
  have hl : lv_has ls 2 [(0, .ref h)] := hl
  have loop : ∀ (k i : Nat) (H : Heap) (locs : List Loc) (ls : Array Slot), 10 = i + k → va_P D vwCl [(h, .inr (8, fs)), (q, .inl (cy 0, 10, .inl (fun j => if j < i then -1 else f j)))] H → va_D A [(h, .inr (8, fs)), (q, .inl (cy 0, 10, .inl (fun j => if j < i then -1 else f j)))] → va_S A s.heap H locs → lv_has ls 2 [(1, .int (nI i)), (0, .ref h)] → W p l e (headSpec (Cond.code yX8_unfix cX8_unfix 2 none :: kw) rm_c0).room s m [Value.ref h].toArray below meth c H locs 0 0 (MQ below (va_Qv (fun _ : Nat → Nat => True) (fun u t => va_P D vwCl [(h, .inr (8, fs)), (q, .inl (cy 0, 10, .inl (fun _ => -1)))] t.heap ∧ va_D A [(h, .inr (8, fs)), (q, .inl (cy 0, 10, .inl (fun _ => -1)))]) A) [Value.ref h].toArray s rm_c0.cells rm_c0.slots A) (F0 m 2 ls []) := by
    intro k
    induction k with
    | zero =>
      intro i H locs ls hni hP hD hS hl
      have hi : i = 10 := by omega
      subst hi
      refine lv_iload_n hx hb dX8_unfix_2 rfl (lv_at hl 0 rfl) ?_
      refine lv_bipush (v := 10) hx hb dX8_unfix_3 rfl ?_
      refine lv_icmp_ge (tgt := 21) hx hb dX8_unfix_5 (by decide) (fun z => ?_) (fun z => ?_)
      · have hD' : va_D A [(h, .inr (8, fs)), (q, .inl (cy 0, 10, .inl (fun _ => -1)))] := hD.set (p := 1) (e := .inl (cy 0, 10, .inl (fun _ => -1))) rfl
        have hP' : va_P D vwCl [(h, .inr (8, fs)), (q, .inl (cy 0, 10, .inl (fun _ => -1)))] H := by
          refine hP.set (p := 1) (e := .inl (cy 0, 10, .inl (fun _ => -1))) hD rfl ?_ (fun _ _ => rfl)
          have h1 := hP 1 _ rfl
          have h1 : H[q]? = some (vp_cell (cy 0) (10, .inl (fun j => if j < 10 then -1 else f j))) := h1
          rw [kb_const (v := -1) (fun j hj => if_pos hj)] at h1
          exact h1
        exact W.vret hx hb hr (fun t ht _ => ⟨⟨fun _ => 0, rfl, trivial, by rw [ht]; exact hP', hD'⟩, hS.F ht⟩) hS.2.2 dX8_unfix_21 hlocks
      · exact absurd (by decide) z
    | succ k ih =>
      intro i H locs ls hni hP hD hS hl
      refine lv_iload_n hx hb dX8_unfix_2 rfl (lv_at hl 0 rfl) ?_
      refine lv_bipush (v := nI 10) hx hb dX8_unfix_3 (by decide) ?_
      refine lv_icmp_ge (tgt := 21) hx hb dX8_unfix_5 (by decide) (fun z => ?_) (fun z => ?_)
      · exact absurd z (nI_ge (by omega) (by decide))
      · refine lv_aload_n hx hb dX8_unfix_8 rfl (lv_at hl 1 rfl) ?_
        refine va_get hx hb hts g3 hown hK hP 0 rfl g1 9 g2 (hts _ g4) (fun _ h => h) hf dX8_unfix_9 ?_
        refine lv_iload_n hx hb dX8_unfix_12 rfl (lv_at hl 0 rfl) ?_
        refine lv_iconst (v := -1) hx hb dX8_unfix_13 (by decide) ?_
        refine va_iast hx hb hK hP hD hS 1 0 rfl rfl (vp_in_nI (by omega) (by decide)) dX8_unfix_14 (fun H1 locs1 hP1 hD1 hS1 => ?_)
        rw [nI_clamp (by omega)] at hP1 hD1
        have e : upd (fun j => if j < i then -1 else f j) i (-1) = fun j => if j < i + 1 then -1 else f j := by
          funext j
          by_cases hj : j = i
          · subst hj; rw [pk_us, if_pos (by omega)]
          · rw [pk_un hj]
            by_cases hj2 : j < i
            · rw [if_pos hj2, if_pos (by omega)]
            · rw [if_neg hj2, if_neg (by omega)]
        rw [e] at hP1 hD1
        obtain ⟨x2, ex2⟩ : ∃ z : Int32, z = nI i + 1 := ⟨_, rfl⟩
        refine lv_iinc (v := x2) (lv' := [(1, .int x2), (0, .ref h)]) hx hb dX8_unfix_15 hl (k := 0) rfl (by rw [ex2]; rfl) (by decide) rfl (fun ls hl => ?_)
        refine lv_goto (tgt := 2) hx hb dX8_unfix_18 (by decide) ?_
        rw [ex2, nI_1] at hl
        exact ih (i + 1) H1 locs1 ls (by omega) hP1 hD1 hS1 hl
  refine lv_iconst (v := 0) hx hb dX8_unfix_0 (by decide) ?_
  refine lv_istore_n (lv' := [(1, .int 0), (0, .ref h)]) hx hb dX8_unfix_1 rfl hl (by decide) rfl (fun ls hl => ?_)
  have e0 : (fun j => if j < 0 then (-1 : Int32) else f j) = f := by funext j; exact if_neg (by omega)
  exact loop 10 0 s.heap [] ls (by omega) (by rw [e0]; exact hP) (by rw [e0]; exact hD) hS hl
end KC
