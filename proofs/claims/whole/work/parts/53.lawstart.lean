def kb_prs (ls : List (Option Value)) : List (Nat × Value) := (List.range ls.length).filterMap (fun i => match ls[i]? with
  | some (some v) => some (i, v)
  | _ => none)
theorem kb_prs_mem {ls : List (Option Value)} {q : Nat × Value} : q ∈ kb_prs ls ↔ ls[q.1]? = some (some q.2) := by
  unfold kb_prs
  rw [List.mem_filterMap]
  constructor
  · rintro ⟨i, -, h⟩
    split at h
    · rename_i v hv
      cases h
      exact hv
    · cases h
  · intro hv
    have hl := (List.getElem?_eq_some_iff.mp hv).1
    refine ⟨q.1, List.mem_range.mpr hl, ?_⟩
    rw [hv]
theorem y_astore {p : Program} {l : Launch} {e : Env} {R : Room} {s : State} {m : MethodId} {args : Array Value} {below : List Frame} {meth : Method} {c : Code} {D : va_G} {cy : Nat → ClassId} {A : Nat → Prop} {Q : State → Prop} {cc : ByteArray} {nL : Nat} {own : String} {cells slots : Nat} {pc : Nat} {ls : List (Option Value)} {st : List Value} {ws : va_W} (C : Cy p s m args meth c D cy A cc nL own) {k : Fin 4} {a : Nat} {ls' : List (Option Value)} (hd : decode cc pc = .ok (.astore_n k, 1)) (hn : (k : Nat) < nL) (hl : ls.set (k : Nat) (some (.ref a)) = ls') (hc : ∀ v, some v ∈ ls → v.category = 1) (kk : Yj p l e R s m args below meth c D A Q nL cells slots (pc + 1) ls' st ws) : Yj p l e R s m args below meth c D A Q nL cells slots pc ls (.ref a :: st) ws := by
  intro H locs lc hP hD hS hL
  subst hl
  have hh : lv_has lc nL (kb_prs ls) := ⟨hL.1, hL.2.1, fun q hq => hL.2.2 _ _ (kb_prs_mem.mp hq)⟩
  refine lv_astore_n C.1 C.2.1 hd rfl hh hn rfl (fun lc' h => kk H locs lc' hP hD hS ⟨h.1, h.2.1, fun i v hi => ?_⟩)
  by_cases hik : i = (k : Nat)
  · subst hik
    have h1 : (k : Nat) < ls.length := by
      have := (List.getElem?_eq_some_iff.mp hi).1
      rw [List.length_set] at this
      exact this
    rw [List.getElem?_set_self h1] at hi
    cases hi
    exact h.2.2 ((k : Nat), Value.ref a) List.mem_cons_self
  · rw [List.getElem?_set_ne (Ne.symm hik)] at hi
    refine h.2.2 (i, v) (List.mem_cons_of_mem _ (List.mem_filter.mpr ⟨kb_prs_mem.mpr hi, ?_⟩))
    have hv := hc v (List.mem_of_getElem? hi)
    simp [hik, hv]
theorem kb_arr {s : State} {args : Array Value} {ty : FieldType} (h : (Cond.arrayClass ty).before args s = true) : ∃ cA : ClassId, ArrOfT s cA ty ∧ s.vm.findClass ("[" ++ ty.toString) = some cA := by
  obtain ⟨cA, kA, comp, h1, h2, h3⟩ := Cond.arrayClass_spec h
  exact ⟨cA, fun n z => ⟨fun k h => (by cases h), kA, h2, comp, h3⟩, h1⟩
theorem kb_arr2 {s : State} {args : Array Value} (h : (Cond.arrayOver (.array .int)).before args s = true) : ∃ cA : ClassId, ArrOfT s cA (.array .int) ∧ s.vm.findClass ("[" ++ (FieldType.array .int).toString) = some cA := by
  obtain ⟨comp, cA, kA, h1, h2, h3, h4, h5⟩ := arrayOverA_spec h
  exact ⟨cA, fun n z => ⟨fun k h => (by cases h), kA, h3, comp, h4⟩, h5⟩
/-- what is left of the claim: the law's loop, from the memory at first, over every script -/
def LawPure : Prop := ∀ (sx : Int → Int) (Ln : Int), 0 ≤ Ln → Ln ≤ 2560 → (∀ i, iR (sx i)) → wp_L_law_L18 sx Ln (fun r _ => r = 1) 0 M0
set_option maxHeartbeats 4000000 in
set_option maxRecDepth 100000 in
theorem whole_start_open (hpure : LawPure) {p : Program} {e : Env} {s : State} {m : MethodId} {below : List Frame} {meth : Method} {c : Code} (l : Launch) {b L : Nat} {xs : Nat → Int32} (hL : L ≤ 2560) (C0 : lw_At p s m meth c b L xs) : W p l e room_1 s m #[Value.ref b] below meth c s.heap [] 0 0 (lw_Z below #[Value.ref b] s) (entryFrame m ([Value.ref b] : List Value).toArray 4) := by
  obtain ⟨hx, hb, hr, hml, hown, hts, hX, hbl, hlocks, hgv⟩ := C0
  have htk : ∀ w ∈ kw, w.before #[Value.ref b] s = true := fun w hw => hts w (kw_in w hw)
  obtain ⟨k0, i0, hKn0⟩ := u_known (C := RX0) (T := TX0) (N := 7) (n := 7) hts (fun w hw => kw_in w (ku_0 w hw)) (hts (.instantiable RX0 7) (kw_in _ kin_0))
  obtain ⟨k1, i1, hKn1⟩ := u_known (C := RX1) (T := TX1) (N := 10) (n := 10) hts (fun w hw => kw_in w (ku_1 w hw)) (hts (.instantiable RX1 10) (kw_in _ kin_1))
  obtain ⟨k2, i2, hKn2⟩ := u_known (C := RX2) (T := TX2) (N := 7) (n := 7) hts (fun w hw => kw_in w (ku_2 w hw)) (hts (.instantiable RX2 7) (kw_in _ kin_2))
  obtain ⟨k3, i3, hKn3⟩ := u_known (C := RX3) (T := TX3) (N := 3) (n := 3) hts (fun w hw => kw_in w (ku_3 w hw)) (hts (.instantiable RX3 3) (kw_in _ kin_3))
  obtain ⟨k4, i4, hKn4⟩ := u_known (C := RX4) (T := TX4) (N := 3) (n := 3) hts (fun w hw => kw_in w (ku_4 w hw)) (hts (.instantiable RX4 3) (kw_in _ kin_4))
  obtain ⟨k5, i5, hKn5⟩ := u_known (C := RX5) (T := TX5) (N := 8) (n := 8) hts (fun w hw => kw_in w (ku_5 w hw)) (hts (.instantiable RX5 8) (kw_in _ kin_5))
  obtain ⟨k6, i6, hKn6⟩ := u_known (C := RX6) (T := TX6) (N := 4) (n := 4) hts (fun w hw => kw_in w (ku_6 w hw)) (hts (.instantiable RX6 4) (kw_in _ kin_6))
  obtain ⟨k7, i7, hKn7⟩ := u_known (C := RX7) (T := TX7) (N := 7) (n := 7) hts (fun w hw => kw_in w (ku_7 w hw)) (hts (.instantiable RX7 7) (kw_in _ kin_7))
  obtain ⟨k8, i8, hKn8⟩ := u_known (C := RX8) (T := TX8) (N := 26) (n := 26) hts (fun w hw => kw_in w (ku_8 w hw)) (hts (.instantiable RX8 26) (kw_in _ kin_8))
  obtain ⟨dC, dI, hKc⟩ : ∃ (dC : Nat → ClassId) (dI : Nat → Nat → Nat), ∀ (k : Nat) (q : vw_C), vwCl[k]? = some q → u_Kn s q.1 q.2.1 q.2.2 (dC k) (dI k) := by
    refine ⟨fun k => if k = 0 then k0 else if k = 1 then k1 else if k = 2 then k2 else if k = 3 then k3 else if k = 4 then k4 else if k = 5 then k5 else if k = 6 then k6 else if k = 7 then k7 else k8, fun k => if k = 0 then i0 else if k = 1 then i1 else if k = 2 then i2 else if k = 3 then i3 else if k = 4 then i4 else if k = 5 then i5 else if k = 6 then i6 else if k = 7 then i7 else i8, ?_⟩
    intro k q hq
    match k, hq with
    | 0, hq => cases hq; exact hKn0
    | 1, hq => cases hq; exact hKn1
    | 2, hq => cases hq; exact hKn2
    | 3, hq => cases hq; exact hKn3
    | 4, hq => cases hq; exact hKn4
    | 5, hq => cases hq; exact hKn5
    | 6, hq => cases hq; exact hKn6
    | 7, hq => cases hq; exact hKn7
    | 8, hq => cases hq; exact hKn8
    | k + 9, hq => simp [vwCl] at hq
  obtain ⟨c0, hc0, hn0⟩ := kb_arr (htk _ kar_0)
  obtain ⟨c1, hc1, hn1⟩ := kb_arr (htk _ kar_1)
  obtain ⟨c2, hc2, hn2⟩ := kb_arr (htk _ kar_2)
  obtain ⟨c3, hc3, hn3⟩ := kb_arr2 (hts _ tb_over)
  obtain ⟨cy, e0, e1, e2, e3⟩ : ∃ cy : Nat → ClassId, cy 0 = c0 ∧ cy 1 = c1 ∧ cy 2 = c2 ∧ cy 3 = c3 := ⟨fun k => if k = 0 then c0 else if k = 1 then c1 else if k = 2 then c2 else c3, rfl, rfl, rfl, rfl⟩
  subst e0; subst e1; subst e2; subst e3
  have hK : Kk (dC, dI) cy s := ⟨hKc, fun k q hk => by
    match k, hk with
    | 0, hk => cases hk; exact ⟨hc0, hn0⟩
    | 1, hk => cases hk; exact ⟨hc1, hn1⟩
    | 2, hk => cases hk; exact ⟨hc2, hn2⟩
    | 3, hk => cases hk; exact ⟨hc3, hn3⟩
    | k + 4, hk => simp [ka_tys] at hk⟩
  have hZ : Kz s := ⟨over_moved (Vm.Alike.refl s.vm) (hts _ tb_over), va_Nw.of rfl (hts _ tb_n18), va_Nw.of rfl (hts _ tb_n25)⟩
  have hA : ∀ q : Nat, s.heap.size ≤ q → (fun q : Nat => s.heap.size ≤ q) q := fun _ h => h
  have C : Cy p s m #[Value.ref b] meth c (dC, dI) cy (fun q : Nat => s.heap.size ≤ q) cL_law 4 RL := ⟨hx, hb, hml, hown, htk, hlocks, hK, hA, hZ⟩
  have hstart : Yj p l e room_1 s m #[Value.ref b] below meth c (dC, dI) (fun q : Nat => s.heap.size ≤ q) (lw_Z below #[Value.ref b] s) 4 0 0 0 [some (.ref b), none, none, none] [] [] := by
    refine y_new (ci := 7) (fs := [.null, .null, .null, .null, .null, .null, .null]) C rfl ku_7 tyX7_ok kcl_RL_7 kin_7 kit_7 (fun j hj => by rcases (show j = 0 ∨ j = 1 ∨ j = 2 ∨ j = 3 ∨ j = 4 ∨ j = 5 ∨ j = 6 by omega) with rfl | rfl | rfl | rfl | rfl | rfl | rfl <;> rfl) ⟨Nat.le_of_ble_eq_true rfl, Nat.le_of_ble_eq_true rfl⟩ dL_law_0 (fun q1 => ?_)
    refine y_dup C dL_law_3 rfl ?_
    refine y_init (n := 0) (vs := []) (wr := []) C kx_X7_init km_RL_9 ki_X7_init kit_7 rfl (by decide +kernel) (cc_X7_init l (dC, dI) cy q1) ⟨Nat.le_of_ble_eq_true rfl, Nat.le_of_ble_eq_true rfl, Nat.le_of_ble_eq_true rfl, Nat.le_of_ble_eq_true rfl⟩ [0] [] rfl rfl ⟨by decide, by decide⟩ (by decide) rfl rfl (Nat.le_of_ble_eq_true rfl) dL_law_4 (fun u1 => ?_)
    refine y_astore (ls' := [some (.ref b), some (.ref q1), none, none]) C dL_law_7 (Nat.le_of_ble_eq_true rfl) rfl (fun v hv => by simp at hv; rw [hv]; rfl) ?_
    refine y_new (ci := 8) (fs := [.int 0, .null, .null, .null, .null, .int 0, .null, .null, .null, .null, .int 0, .null, .int 0, .null, .long 0, .int 0, .int 0, .null, .null, .null, .null, .null, .null, .null, .null, .null]) C rfl ku_8 tyX8_ok kcl_RL_10 kin_8 kit_8 (fun j hj => by rcases (show j = 0 ∨ j = 1 ∨ j = 2 ∨ j = 3 ∨ j = 4 ∨ j = 5 ∨ j = 6 ∨ j = 7 ∨ j = 8 ∨ j = 9 ∨ j = 10 ∨ j = 11 ∨ j = 12 ∨ j = 13 ∨ j = 14 ∨ j = 15 ∨ j = 16 ∨ j = 17 ∨ j = 18 ∨ j = 19 ∨ j = 20 ∨ j = 21 ∨ j = 22 ∨ j = 23 ∨ j = 24 ∨ j = 25 by omega) with rfl | rfl | rfl | rfl | rfl | rfl | rfl | rfl | rfl | rfl | rfl | rfl | rfl | rfl | rfl | rfl | rfl | rfl | rfl | rfl | rfl | rfl | rfl | rfl | rfl | rfl <;> rfl) ⟨Nat.le_of_ble_eq_true rfl, Nat.le_of_ble_eq_true rfl⟩ dL_law_8 (fun q2 => ?_)
    refine y_dup C dL_law_11 rfl ?_
    refine y_init (n := 0) (vs := []) (wr := wc_X7_init cy q1 u1) C kx_X8_init km_RL_12 ki_X8_init kit_8 rfl (by decide +kernel) (cc_X8_init l (dC, dI) cy q2) ⟨Nat.le_of_ble_eq_true rfl, Nat.le_of_ble_eq_true rfl, Nat.le_of_ble_eq_true rfl, Nat.le_of_ble_eq_true rfl⟩ [69] [0, 1, 2, 3, 4, 5, 6, 7, 8, 9, 10, 11, 12, 13, 14, 15, 16, 17, 18, 19, 20, 21, 22, 23, 24, 25, 26, 27, 28, 29, 30, 31, 32, 33, 34, 35, 36, 37, 38, 39, 40, 41, 42, 43, 44, 45, 46, 47, 48, 49, 50, 51, 52, 53, 54, 55, 56, 57, 58, 59, 60, 61, 62, 63, 64, 65, 66, 67, 68] rfl rfl ⟨by decide, by decide⟩ (by decide) rfl rfl (Nat.le_of_ble_eq_true rfl) dL_law_12 (fun u2 => ?_)
    refine y_astore (ls' := [some (.ref b), some (.ref q1), some (.ref q2), none]) C dL_law_15 (Nat.le_of_ble_eq_true rfl) rfl (fun v hv => by simp at hv; rcases hv with rfl | rfl <;> rfl) ?_
    intro H locs lc hP hD hS hLc
    have hW := wd_all b hP
    obtain ⟨hG, hAr⟩ := gm_all b hD
    have CX : Cx p s m #[Value.ref b] meth c (dC, dI) cy (adr q1 q2 b u1 u2) (fun q : Nat => s.heap.size ≤ q) cL_law 4 RL (some .boolean) := ⟨hx, hb, hml, hown, htk, hlocks, hr, hK, hG, hAr⟩
    have hs : Sc s b L xs (adr q1 q2 b u1 u2) (fun i => (xs i.toNat).toInt) (L : Int) := ⟨hX, hbl, rfl, hL, rfl, fun _ _ _ => rfl, fun _ => ka_r32 _⟩
    have hX16 : Xj p l e room_1 s m #[Value.ref b] below meth c (dC, dI) cy (adr q1 q2 b u1 u2) (fun q : Nat => s.heap.size ≤ q) (lw_Z below #[Value.ref b] s) 4 89 13952 16 [some (aR 49), some (aR 0), some (aR 8), none] [] M0 := by
      refine x_iconst CX dL_law_16 ?_
      refine x_istore_n CX dL_law_17 (Nat.le_of_ble_eq_true rfl) rfl ?_
      exact lp_L_law_L18 (args := #[]) (fun i => (xs i.toNat).toInt) (L : Int) hs CX (fun r _ => r = 1) (fun _ _ h => h) 0 M0 (hpure _ _ (by omega) (by omega) (fun _ => ka_r32 _)) (by decide)
    refine hX16 H locs lc hW hS ⟨hLc.1, hLc.2.1, fun i v hi => ?_⟩
    match i, hi with
    | 0, hi => cases hi; exact hLc.2.2 0 _ rfl
    | 1, hi => cases hi; exact hLc.2.2 1 _ rfl
    | 2, hi => cases hi; exact hLc.2.2 2 _ rfl
    | 3, hi => cases hi
    | i + 4, hi => simp at hi
  have he := lv_entry ([.ref b]) (n := 4) (Nat.le_of_ble_eq_true rfl)
  rw [lg_entry_eq]
  refine hstart s.heap [] _ (fun k q h => by simp at h) ⟨fun i j p q h => by simp at h, fun k q h => by simp at h⟩ va_S.rf ⟨he.1, he.2.1, fun i v hi => ?_⟩
  match i, hi with
  | 0, hi => cases hi; exact he.2.2 (0, Value.ref b) List.mem_cons_self
  | 1, hi => cases hi
  | 2, hi => cases hi
  | 3, hi => cases hi
  | i + 4, hi => simp at hi
