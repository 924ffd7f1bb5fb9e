set_option maxRecDepth 100000 in
set_option maxHeartbeats 4000000 in
theorem lp_X4_present_L13 {p : Program} {l : Launch} {e : Env} {s : State} {m : MethodId} {args : Array Value} {below : List Frame} {meth : Method} {c : Code} {D : va_G} {cy : Nat → ClassId} {ad : Nat → Int → Nat} (C : Cx p s m args meth c D cy ad (Ar ad) cX4_present 6 RX4 (some .int)) (x3 : Int) (r3 : iR x3) (Q : Int → Mm → Prop) : ∀ (x1 : Int) (x4 : Int) (M : Mm), wp_X4_present_L13 x3 Q x1 x4 M → iR x1 → iR x4 → Xj p l e rm_X4_present s m args below meth c D cy ad (Ar ad) (MQ below (QX D cy ad (rI Q)) args s 0 0 (Ar ad)) 6 0 0 13 [none, some (aI x1), some (aR 12), some (aI x3), some (aI x4), none] [] M :=
  LP2.ind (P := fun x1 x4 M => iR x1 → iR x4 → Xj p l e rm_X4_present s m args below meth c D cy ad (Ar ad) (MQ below (QX D cy ad (rI Q)) args s 0 0 (Ar ad)) 6 0 0 13 [none, some (aI x1), some (aR 12), some (aI x3), some (aI x4), none] [] M) (fun R ih => by
    intro x1 x4 M h r1 r4
    unfold bc_X4_present_L13 at h
    refine x_iload C dX4_present_13 rfl ?_
    refine x_iload_n C dX4_present_15 rfl ?_
    refine x_icmp_ge (tgt := 39) C r4 r3 dX4_present_16 (by decide) (fun q1 => ?_) (fun q1 => ?_)
    · have h := h.1 q1
      refine x_iload_n C dX4_present_39 rfl ?_
      exact x_iret C r1 h dX4_present_40
    · have h := h.2 q1
      refine x_aload_n C dX4_present_19 rfl ?_
      refine x_iload C dX4_present_20 rfl ?_
      obtain ⟨o1, h⟩ := h
      refine x_rng (fun hR1 => ?_)
      refine x_iald C ly_12 rfl (by decide) (by decide) o1 dX4_present_22 ?_
      refine x_istore C dX4_present_23 (Nat.le_of_ble_eq_true rfl) rfl ?_
      refine x_iload C dX4_present_25 rfl ?_
      refine x_if_le (tgt := 33) C (ka_gI hR1 ly_12 _) dX4_present_27 (by decide) (fun q2 => ?_) (fun q2 => ?_)
      · have h := h.1 q2
        refine x_iinc C dX4_present_33 rfl (Nat.le_of_ble_eq_true rfl) rfl ?_
        refine x_goto (tgt := 13) C dX4_present_36 (by decide) ?_
        obtain ⟨o2, h⟩ := h
        refine x_mask [false, true, true, true, true, false] rfl ?_
        exact ih _ _ _ h r1 o2
      · have h := h.2 q2
        refine x_iinc C dX4_present_30 rfl (Nat.le_of_ble_eq_true rfl) rfl ?_
        refine x_iinc C dX4_present_33 rfl (Nat.le_of_ble_eq_true rfl) rfl ?_
        refine x_goto (tgt := 13) C dX4_present_36 (by decide) ?_
        obtain ⟨o3, h⟩ := h
        obtain ⟨o4, h⟩ := h
        refine x_mask [false, true, true, true, true, false] rfl ?_
        exact ih _ _ _ h o3 o4)
set_option maxRecDepth 100000 in
set_option maxHeartbeats 4000000 in
theorem sd_X4_present (l : Launch) (D : va_G) (cy : Nat → ClassId) (ad : Nat → Int → Nat) (M : Mm) (Q : Int → Mm → Prop) (h : wp_X4_present M Q) : Ct l D cy ad yX4_present cX4_present 6 (some .int) rm_X4_present [aR 2] M (rI Q) := by
  refine ct_of (z := 5) (ls := [some (aR 2), none, none, none, none, none]) (by decide) rfl (Nat.le_of_ble_eq_true rfl) ?_
  intro p e s m args below meth c C
  have C : Cx p s m args meth c D cy ad (Ar ad) cX4_present 6 RX4 (some .int) := C
  unfold wp_X4_present at h
  refine x_iconst C dX4_present_0 ?_
  refine x_istore_n C dX4_present_1 (Nat.le_of_ble_eq_true rfl) rfl ?_
  refine x_aload_n C dX4_present_2 rfl ?_
  refine x_getR C gf_RX4_16 ly_2 rfl (by decide) dX4_present_3 ?_
  refine x_astore_n C dX4_present_6 (Nat.le_of_ble_eq_true rfl) rfl ?_
  refine x_aload_n C dX4_present_7 rfl ?_
  refine x_alen C ly_12 rfl (by decide) dX4_present_8 ?_
  refine x_istore_n C dX4_present_9 (Nat.le_of_ble_eq_true rfl) rfl ?_
  refine x_iconst C dX4_present_10 ?_
  refine x_istore C dX4_present_11 (Nat.le_of_ble_eq_true rfl) rfl ?_
  refine x_mask [false, true, true, true, true, false] rfl ?_
  refine lp_X4_present_L13 C 6 (by decide) Q _ _ _ h (by decide) (by decide)
set_option maxRecDepth 100000 in
set_option maxHeartbeats 4000000 in
theorem lp_X4_signsTogether_L13 {p : Program} {l : Launch} {e : Env} {s : State} {m : MethodId} {args : Array Value} {below : List Frame} {meth : Method} {c : Code} {D : va_G} {cy : Nat → ClassId} {ad : Nat → Int → Nat} (C : Cx p s m args meth c D cy ad (Ar ad) cX4_signsTogether 6 RX4 (some .int)) (x3 : Int) (r3 : iR x3) (Q : Int → Mm → Prop) : ∀ (x1 : Int) (x4 : Int) (M : Mm), wp_X4_signsTogether_L13 x3 Q x1 x4 M → iR x1 → iR x4 → Xj p l e rm_X4_signsTogether s m args below meth c D cy ad (Ar ad) (MQ below (QX D cy ad (rI Q)) args s 0 0 (Ar ad)) 6 0 0 13 [none, some (aI x1), some (aR 12), some (aI x3), some (aI x4), none] [] M :=
  LP2.ind (P := fun x1 x4 M => iR x1 → iR x4 → Xj p l e rm_X4_signsTogether s m args below meth c D cy ad (Ar ad) (MQ below (QX D cy ad (rI Q)) args s 0 0 (Ar ad)) 6 0 0 13 [none, some (aI x1), some (aR 12), some (aI x3), some (aI x4), none] [] M) (fun R ih => by
    intro x1 x4 M h r1 r4
    unfold bc_X4_signsTogether_L13 at h
    refine x_iload C dX4_signsTogether_13 rfl ?_
    refine x_iload_n C dX4_signsTogether_15 rfl ?_
    refine x_icmp_ge (tgt := 36) C r4 r3 dX4_signsTogether_16 (by decide) (fun q1 => ?_) (fun q1 => ?_)
    · have h := h.1 q1
      refine x_iload_n C dX4_signsTogether_36 rfl ?_
      exact x_iret C r1 h dX4_signsTogether_37
    · have h := h.2 q1
      refine x_aload_n C dX4_signsTogether_19 rfl ?_
      refine x_iload C dX4_signsTogether_20 rfl ?_
      obtain ⟨o1, h⟩ := h
      refine x_rng (fun hR1 => ?_)
      refine x_iald C ly_12 rfl (by decide) (by decide) o1 dX4_signsTogether_22 ?_
      refine x_istore C dX4_signsTogether_23 (Nat.le_of_ble_eq_true rfl) rfl ?_
      refine x_iload_n C dX4_signsTogether_25 rfl ?_
      refine x_iload C dX4_signsTogether_26 rfl ?_
      refine x_iadd C dX4_signsTogether_28 ?_
      refine x_istore_n C dX4_signsTogether_29 (Nat.le_of_ble_eq_true rfl) rfl ?_
      refine x_iinc C dX4_signsTogether_30 rfl (Nat.le_of_ble_eq_true rfl) rfl ?_
      refine x_goto (tgt := 13) C dX4_signsTogether_33 (by decide) ?_
      obtain ⟨o2, h⟩ := h
      obtain ⟨o3, h⟩ := h
      refine x_mask [false, true, true, true, true, false] rfl ?_
      exact ih _ _ _ h o2 o3)
set_option maxRecDepth 100000 in
set_option maxHeartbeats 4000000 in
theorem sd_X4_signsTogether (l : Launch) (D : va_G) (cy : Nat → ClassId) (ad : Nat → Int → Nat) (M : Mm) (Q : Int → Mm → Prop) (h : wp_X4_signsTogether M Q) : Ct l D cy ad yX4_signsTogether cX4_signsTogether 6 (some .int) rm_X4_signsTogether [aR 2] M (rI Q) := by
  refine ct_of (z := 5) (ls := [some (aR 2), none, none, none, none, none]) (by decide) rfl (Nat.le_of_ble_eq_true rfl) ?_
  intro p e s m args below meth c C
  have C : Cx p s m args meth c D cy ad (Ar ad) cX4_signsTogether 6 RX4 (some .int) := C
  unfold wp_X4_signsTogether at h
  refine x_iconst C dX4_signsTogether_0 ?_
  refine x_istore_n C dX4_signsTogether_1 (Nat.le_of_ble_eq_true rfl) rfl ?_
  refine x_aload_n C dX4_signsTogether_2 rfl ?_
  refine x_getR C gf_RX4_16 ly_2 rfl (by decide) dX4_signsTogether_3 ?_
  refine x_astore_n C dX4_signsTogether_6 (Nat.le_of_ble_eq_true rfl) rfl ?_
  refine x_aload_n C dX4_signsTogether_7 rfl ?_
  refine x_alen C ly_12 rfl (by decide) dX4_signsTogether_8 ?_
  refine x_istore_n C dX4_signsTogether_9 (Nat.le_of_ble_eq_true rfl) rfl ?_
  refine x_iconst C dX4_signsTogether_10 ?_
  refine x_istore C dX4_signsTogether_11 (Nat.le_of_ble_eq_true rfl) rfl ?_
  refine x_mask [false, true, true, true, true, false] rfl ?_
  refine lp_X4_signsTogether_L13 C 6 (by decide) Q _ _ _ h (by decide) (by decide)
set_option maxRecDepth 100000 in
set_option maxHeartbeats 4000000 in
theorem lp_X4_pairsOf_L12 {p : Program} {l : Launch} {e : Env} {s : State} {m : MethodId} {args : Array Value} {below : List Frame} {meth : Method} {c : Code} {D : va_G} {cy : Nat → ClassId} {ad : Nat → Int → Nat} (C : Cx p s m args meth c D cy ad (Ar ad) cX4_pairsOf 5 RX4 (some .int)) (x1 : Int) (x3 : Int) (r1 : iR x1) (r3 : iR x3) (Q : Int → Mm → Prop) (K36 : Int → Mm → Prop) (k36 : ∀ (x2 : Int) (M : Mm), iR x2 → K36 x2 M → Xj p l e rm_X4_pairsOf s m args below meth c D cy ad (Ar ad) (MQ below (QX D cy ad (rI Q)) args s 0 0 (Ar ad)) 5 0 0 36 [some (aR 2), some (aI x1), some (aI x2), some (aI x3), none] [] M) : ∀ (x2 : Int) (x4 : Int) (M : Mm), wp_X4_pairsOf_L12 x1 x3 Q K36 x2 x4 M → iR x2 → iR x4 → Xj p l e rm_X4_pairsOf s m args below meth c D cy ad (Ar ad) (MQ below (QX D cy ad (rI Q)) args s 0 0 (Ar ad)) 5 0 0 12 [some (aR 2), some (aI x1), some (aI x2), some (aI x3), some (aI x4)] [] M :=
  LP2.ind (P := fun x2 x4 M => iR x2 → iR x4 → Xj p l e rm_X4_pairsOf s m args below meth c D cy ad (Ar ad) (MQ below (QX D cy ad (rI Q)) args s 0 0 (Ar ad)) 5 0 0 12 [some (aR 2), some (aI x1), some (aI x2), some (aI x3), some (aI x4)] [] M) (fun R ih => by
    intro x2 x4 M h r2 r4
    unfold bc_X4_pairsOf_L12 at h
    refine x_iload C dX4_pairsOf_12 rfl ?_
    refine x_iload_n C dX4_pairsOf_14 rfl ?_
    refine x_icmp_ge (tgt := 36) C r4 r1 dX4_pairsOf_15 (by decide) (fun q1 => ?_) (fun q1 => ?_)
    · have h := h.1 q1
      refine x_mask [true, true, true, true, false] rfl ?_
      exact k36 _ _ r2 h
    · have h := h.2 q1
      refine x_iload_n C dX4_pairsOf_18 rfl ?_
      refine x_aload_n C dX4_pairsOf_19 rfl ?_
      refine x_getR C gf_RX4_20 ly_2 rfl (by decide) dX4_pairsOf_20 ?_
      refine x_iload_n C dX4_pairsOf_23 rfl ?_
      obtain ⟨o1, h⟩ := h
      refine x_aald C ly_13 rfl (by decide) (by decide) o1 dX4_pairsOf_24 ?_
      refine x_iload C dX4_pairsOf_25 rfl ?_
      obtain ⟨o2, h⟩ := h
      refine x_rng (fun hR1 => ?_)
      refine x_iald2 C ly_13 rfl (by decide) (by decide) rfl o1 o2 dX4_pairsOf_27 ?_
      refine x_iadd C dX4_pairsOf_28 ?_
      refine x_istore_n C dX4_pairsOf_29 (Nat.le_of_ble_eq_true rfl) rfl ?_
      refine x_iinc C dX4_pairsOf_30 rfl (Nat.le_of_ble_eq_true rfl) rfl ?_
      refine x_goto (tgt := 12) C dX4_pairsOf_33 (by decide) ?_
      obtain ⟨o3, h⟩ := h
      obtain ⟨o4, h⟩ := h
      exact ih _ _ _ h o3 o4)
set_option maxRecDepth 100000 in
set_option maxHeartbeats 4000000 in
theorem lp_X4_pairsOf_L4 {p : Program} {l : Launch} {e : Env} {s : State} {m : MethodId} {args : Array Value} {below : List Frame} {meth : Method} {c : Code} {D : va_G} {cy : Nat → ClassId} {ad : Nat → Int → Nat} (C : Cx p s m args meth c D cy ad (Ar ad) cX4_pairsOf 5 RX4 (some .int)) (x1 : Int) (r1 : iR x1) (Q : Int → Mm → Prop) : ∀ (x2 : Int) (x3 : Int) (M : Mm), wp_X4_pairsOf_L4 x1 Q x2 x3 M → iR x2 → iR x3 → Xj p l e rm_X4_pairsOf s m args below meth c D cy ad (Ar ad) (MQ below (QX D cy ad (rI Q)) args s 0 0 (Ar ad)) 5 0 0 4 [some (aR 2), some (aI x1), some (aI x2), some (aI x3), none] [] M :=
  LP2.ind (P := fun x2 x3 M => iR x2 → iR x3 → Xj p l e rm_X4_pairsOf s m args below meth c D cy ad (Ar ad) (MQ below (QX D cy ad (rI Q)) args s 0 0 (Ar ad)) 5 0 0 4 [some (aR 2), some (aI x1), some (aI x2), some (aI x3), none] [] M) (fun R ih => by
    intro x2 x3 M h r2 r3
    unfold bc_X4_pairsOf_L4 at h
    refine x_iload_n C dX4_pairsOf_4 rfl ?_
    refine x_iload_n C dX4_pairsOf_5 rfl ?_
    refine x_icmp_ge (tgt := 42) C r3 r1 dX4_pairsOf_6 (by decide) (fun q1 => ?_) (fun q1 => ?_)
    · have h := h.1 q1
      refine x_iload_n C dX4_pairsOf_42 rfl ?_
      exact x_iret C r2 h dX4_pairsOf_43
    · have h := h.2 q1
      refine x_iconst C dX4_pairsOf_9 ?_
      refine x_istore C dX4_pairsOf_10 (Nat.le_of_ble_eq_true rfl) rfl ?_
      refine lp_X4_pairsOf_L12 C x1 x3 r1 r3 Q _ (fun y2_1 M1 ryy2_1 h => ?_) _ _ _ h r2 (by decide)
      · refine x_iinc C dX4_pairsOf_36 rfl (Nat.le_of_ble_eq_true rfl) rfl ?_
        refine x_goto (tgt := 4) C dX4_pairsOf_39 (by decide) ?_
        obtain ⟨o1, h⟩ := h
        exact ih _ _ _ h ryy2_1 o1)
set_option maxRecDepth 100000 in
set_option maxHeartbeats 4000000 in
theorem sd_X4_pairsOf (l : Launch) (D : va_G) (cy : Nat → ClassId) (ad : Nat → Int → Nat) (x1 : Int) (r1 : iR x1) (M : Mm) (Q : Int → Mm → Prop) (h : wp_X4_pairsOf x1 M Q) : Ct l D cy ad yX4_pairsOf cX4_pairsOf 5 (some .int) rm_X4_pairsOf [aR 2, aI x1] M (rI Q) := by
  refine ct_of (z := 3) (ls := [some (aR 2), some (aI x1), none, none, none]) (by decide) rfl (Nat.le_of_ble_eq_true rfl) ?_
  intro p e s m args below meth c C
  have C : Cx p s m args meth c D cy ad (Ar ad) cX4_pairsOf 5 RX4 (some .int) := C
  unfold wp_X4_pairsOf at h
  refine x_iconst C dX4_pairsOf_0 ?_
  refine x_istore_n C dX4_pairsOf_1 (Nat.le_of_ble_eq_true rfl) rfl ?_
  refine x_iconst C dX4_pairsOf_2 ?_
  refine x_istore_n C dX4_pairsOf_3 (Nat.le_of_ble_eq_true rfl) rfl ?_
  refine lp_X4_pairsOf_L4 C x1 r1 Q _ _ _ h (by decide) (by decide)
set_option maxRecDepth 100000 in
set_option maxHeartbeats 4000000 in
theorem lp_X3_fixedTogether_L4 {p : Program} {l : Launch} {e : Env} {s : State} {m : MethodId} {args : Array Value} {below : List Frame} {meth : Method} {c : Code} {D : va_G} {cy : Nat → ClassId} {ad : Nat → Int → Nat} (C : Cx p s m args meth c D cy ad (Ar ad) cX3_fixedTogether 3 RX3 (some .int)) (Q : Int → Mm → Prop) : ∀ (x1 : Int) (x2 : Int) (M : Mm), wp_X3_fixedTogether_L4 Q x1 x2 M → iR x1 → iR x2 → Xj p l e rm_X3_fixedTogether s m args below meth c D cy ad (Ar ad) (MQ below (QX D cy ad (rI Q)) args s 0 0 (Ar ad)) 3 0 0 4 [some (aR 1), some (aI x1), some (aI x2)] [] M :=
  LP2.ind (P := fun x1 x2 M => iR x1 → iR x2 → Xj p l e rm_X3_fixedTogether s m args below meth c D cy ad (Ar ad) (MQ below (QX D cy ad (rI Q)) args s 0 0 (Ar ad)) 3 0 0 4 [some (aR 1), some (aI x1), some (aI x2)] [] M) (fun R ih => by
    intro x1 x2 M h r1 r2
    unfold bc_X3_fixedTogether_L4 at h
    refine x_iload_n C dX3_fixedTogether_4 rfl ?_
    refine x_aload_n C dX3_fixedTogether_5 rfl ?_
    refine x_rng (fun hR1 => ?_)
    refine x_getI C gf_RX3_9 ly_1 rfl rfl (by decide) dX3_fixedTogether_6 ?_
    refine x_icmp_ge (tgt := 29) C r2 (ka_fI hR1 ly_1 rfl) dX3_fixedTogether_9 (by decide) (fun q1 => ?_) (fun q1 => ?_)
    · have h := h.1 q1
      refine x_iload_n C dX3_fixedTogether_29 rfl ?_
      exact x_iret C r1 h dX3_fixedTogether_30
    · have h := h.2 q1
      refine x_aload_n C dX3_fixedTogether_12 rfl ?_
      refine x_iload_n C dX3_fixedTogether_13 rfl ?_
      refine x_callV (vs := [aI x2]) C cv_RX3_28 ly_1 rfl (by decide) ⟨rfl, rfl, Nat.le_of_ble_eq_true rfl, Nat.le_of_ble_eq_true rfl⟩ ⟨Nat.zero_le _, Nat.zero_le _⟩ rfl rfl (Nat.le_of_ble_eq_true rfl) dX3_fixedTogether_14 (sd_X3_isFixed l D cy ad x2 r2 M _ h) (fun _ M1 qz => ?_)
      obtain ⟨z1, rfl, rz1, h⟩ := qz
      refine x_if_eq (tgt := 23) C (ka_bi rz1) dX3_fixedTogether_17 (by decide) (fun q2 => ?_) (fun q2 => ?_)
      · have h := h.1 q2
        refine x_iinc C dX3_fixedTogether_23 rfl (Nat.le_of_ble_eq_true rfl) rfl ?_
        refine x_goto (tgt := 4) C dX3_fixedTogether_26 (by decide) ?_
        obtain ⟨o1, h⟩ := h
        exact ih _ _ _ h r1 o1
      · have h := h.2 q2
        refine x_iinc C dX3_fixedTogether_20 rfl (Nat.le_of_ble_eq_true rfl) rfl ?_
        refine x_iinc C dX3_fixedTogether_23 rfl (Nat.le_of_ble_eq_true rfl) rfl ?_
        refine x_goto (tgt := 4) C dX3_fixedTogether_26 (by decide) ?_
        obtain ⟨o2, h⟩ := h
        obtain ⟨o3, h⟩ := h
        exact ih _ _ _ h o2 o3)
set_option maxRecDepth 100000 in
set_option maxHeartbeats 4000000 in
theorem sd_X3_fixedTogether (l : Launch) (D : va_G) (cy : Nat → ClassId) (ad : Nat → Int → Nat) (M : Mm) (Q : Int → Mm → Prop) (h : wp_X3_fixedTogether M Q) : Ct l D cy ad yX3_fixedTogether cX3_fixedTogether 3 (some .int) rm_X3_fixedTogether [aR 1] M (rI Q) := by
  refine ct_of (z := 2) (ls := [some (aR 1), none, none]) (by decide) rfl (Nat.le_of_ble_eq_true rfl) ?_
  intro p e s m args below meth c C
  have C : Cx p s m args meth c D cy ad (Ar ad) cX3_fixedTogether 3 RX3 (some .int) := C
  unfold wp_X3_fixedTogether at h
  refine x_iconst C dX3_fixedTogether_0 ?_
  refine x_istore_n C dX3_fixedTogether_1 (Nat.le_of_ble_eq_true rfl) rfl ?_
  refine x_iconst C dX3_fixedTogether_2 ?_
  refine x_istore_n C dX3_fixedTogether_3 (Nat.le_of_ble_eq_true rfl) rfl ?_
  refine lp_X3_fixedTogether_L4 C Q _ _ _ h (by decide) (by decide)
set_option maxRecDepth 100000 in
set_option maxHeartbeats 4000000 in
theorem sd_X7_count (l : Launch) (D : va_G) (cy : Nat → ClassId) (ad : Nat → Int → Nat) (x1 : Int) (r1 : iR x1) (M : Mm) (Q : Int → Mm → Prop) (h : wp_X7_count x1 M Q) : Ct l D cy ad yX7_count cX7_count 2 (some .int) rm_X7_count [aR 0, aI x1] M (rI Q) := by
  refine ct_of (z := 0) (ls := [some (aR 0), some (aI x1)]) (by decide) rfl (Nat.le_of_ble_eq_true rfl) ?_
  intro p e s m args below meth c C
  have C : Cx p s m args meth c D cy ad (Ar ad) cX7_count 2 RX7 (some .int) := C
  unfold wp_X7_count at h
  refine x_iload_n C dX7_count_0 rfl ?_
  by_cases q1_0 : x1 = 0
  · have h := h.1 q1_0
    refine x_tin (tgt := 44) (off := 43) C r1 (by omega) (by omega) (by rw [q1_0]; rfl) dX7_count_1 (by decide) ?_
    refine x_aload_n C dX7_count_44 rfl ?_
    refine x_getR C gf_RX7_10 ly_0 rfl (by decide) dX7_count_45 ?_
    refine x_rng (fun hR1 => ?_)
    refine x_getI C gf_RX7_66 ly_1 rfl rfl (by decide) dX7_count_48 ?_
    exact x_iret C (ka_fI hR1 ly_1 rfl) h dX7_count_51
  by_cases q1_1 : x1 = 1
  · have h := h.2.1 q1_1
    refine x_tin (tgt := 52) (off := 51) C r1 (by omega) (by omega) (by rw [q1_1]; rfl) dX7_count_1 (by decide) ?_
    refine x_aload_n C dX7_count_52 rfl ?_
    refine x_getR C gf_RX7_26 ly_0 rfl (by decide) dX7_count_53 ?_
    refine x_rng (fun hR2 => ?_)
    refine x_getI C gf_RX7_99 ly_3 rfl rfl (by decide) dX7_count_56 ?_
    exact x_iret C (ka_fI hR2 ly_3 rfl) h dX7_count_59
  by_cases q1_2 : x1 = 2
  · have h := h.2.2.1 q1_2
    refine x_tin (tgt := 60) (off := 59) C r1 (by omega) (by omega) (by rw [q1_2]; rfl) dX7_count_1 (by decide) ?_
    refine x_aload_n C dX7_count_60 rfl ?_
    refine x_getR C gf_RX7_19 ly_0 rfl (by decide) dX7_count_61 ?_
    refine x_callV (vs := []) C cv_RX7_206 ly_2 rfl (by decide) ⟨rfl, rfl, Nat.le_of_ble_eq_true rfl, Nat.le_of_ble_eq_true rfl⟩ ⟨Nat.zero_le _, Nat.zero_le _⟩ rfl rfl (Nat.le_of_ble_eq_true rfl) dX7_count_64 (sd_X4_present l D cy ad M _ h) (fun _ M1 qz => ?_)
    obtain ⟨z1, rfl, rz1, h⟩ := qz
    exact x_iret C rz1 h dX7_count_67
  by_cases q1_3 : x1 = 3
  · have h := h.2.2.2.1 q1_3
    refine x_tin (tgt := 68) (off := 67) C r1 (by omega) (by omega) (by rw [q1_3]; rfl) dX7_count_1 (by decide) ?_
    refine x_aload_n C dX7_count_68 rfl ?_
    refine x_getR C gf_RX7_19 ly_0 rfl (by decide) dX7_count_69 ?_
    refine x_callV (vs := []) C cv_RX7_208 ly_2 rfl (by decide) ⟨rfl, rfl, Nat.le_of_ble_eq_true rfl, Nat.le_of_ble_eq_true rfl⟩ ⟨Nat.zero_le _, Nat.zero_le _⟩ rfl rfl (Nat.le_of_ble_eq_true rfl) dX7_count_72 (sd_X4_signsTogether l D cy ad M _ h) (fun _ M2 qz => ?_)
    obtain ⟨z2, rfl, rz2, h⟩ := qz
    exact x_iret C rz2 h dX7_count_75
  by_cases q1_4 : x1 = 4
  · have h := h.2.2.2.2.1 q1_4
    refine x_tin (tgt := 76) (off := 75) C r1 (by omega) (by omega) (by rw [q1_4]; rfl) dX7_count_1 (by decide) ?_
    refine x_aload_n C dX7_count_76 rfl ?_
    refine x_getR C gf_RX7_19 ly_0 rfl (by decide) dX7_count_77 ?_
    refine x_aload_n C dX7_count_80 rfl ?_
    refine x_getR C gf_RX7_10 ly_0 rfl (by decide) dX7_count_81 ?_
    refine x_rng (fun hR3 => ?_)
    refine x_getI C gf_RX7_66 ly_1 rfl rfl (by decide) dX7_count_84 ?_
    refine x_callV (vs := [aI (M 1 0)]) C cv_RX7_211 ly_2 rfl (by decide) ⟨rfl, rfl, Nat.le_of_ble_eq_true rfl, Nat.le_of_ble_eq_true rfl⟩ ⟨Nat.zero_le _, Nat.zero_le _⟩ rfl rfl (Nat.le_of_ble_eq_true rfl) dX7_count_87 (sd_X4_pairsOf l D cy ad (M 1 0) (ka_fI hR3 ly_1 rfl) M _ h) (fun _ M3 qz => ?_)
    obtain ⟨z3, rfl, rz3, h⟩ := qz
    exact x_iret C rz3 h dX7_count_90
  by_cases q1_5 : x1 = 5
  · have h := h.2.2.2.2.2.1 q1_5
    refine x_tin (tgt := 91) (off := 90) C r1 (by omega) (by omega) (by rw [q1_5]; rfl) dX7_count_1 (by decide) ?_
    refine x_aload_n C dX7_count_91 rfl ?_
    refine x_getR C gf_RX7_10 ly_0 rfl (by decide) dX7_count_92 ?_
    refine x_callV (vs := []) C cv_RX7_215 ly_1 rfl (by decide) ⟨rfl, rfl, Nat.le_of_ble_eq_true rfl, Nat.le_of_ble_eq_true rfl⟩ ⟨Nat.zero_le _, Nat.zero_le _⟩ rfl rfl (Nat.le_of_ble_eq_true rfl) dX7_count_95 (sd_X3_fixedTogether l D cy ad M _ h) (fun _ M4 qz => ?_)
    obtain ⟨z4, rfl, rz4, h⟩ := qz
    exact x_iret C rz4 h dX7_count_98
  by_cases q1_6 : x1 = 6
  · have h := h.2.2.2.2.2.2.1 q1_6
    refine x_tin (tgt := 99) (off := 98) C r1 (by omega) (by omega) (by rw [q1_6]; rfl) dX7_count_1 (by decide) ?_
    refine x_aload_n C dX7_count_99 rfl ?_
    refine x_getR C gf_RX7_39 ly_0 rfl (by decide) dX7_count_100 ?_
    refine x_rng (fun hR4 => ?_)
    refine x_getZ C gf_RX7_74 ly_4 rfl rfl (by decide) dX7_count_103 ?_
    refine x_if_eq (tgt := 113) C (ka_bi (ka_fZ hR4 ly_4 rfl)) dX7_count_106 (by decide) (fun q2 => ?_) (fun q2 => ?_)
    · have h := h.1 q2
      refine x_iconst C dX7_count_113 ?_
      exact x_iret C (by decide) h dX7_count_114
    · have h := h.2 q2
      refine x_iconst C dX7_count_109 ?_
      refine x_goto (tgt := 114) C dX7_count_110 (by decide) ?_
      exact x_iret C (by decide) h dX7_count_114
  have q1 : x1 < 0 ∨ 6 < x1 := by omega
  have h := h.2.2.2.2.2.2.2 q1
  refine x_tout (tgt := 115) C r1 q1 dX7_count_1 (by decide) ?_
  refine x_bipush C dX7_count_115 rfl ?_
  exact x_iret C (by decide) h dX7_count_117
set_option maxRecDepth 100000 in
set_option maxHeartbeats 4000000 in
theorem lp_X8_count_L56 {p : Program} {l : Launch} {e : Env} {s : State} {m : MethodId} {args : Array Value} {below : List Frame} {meth : Method} {c : Code} {D : va_G} {cy : Nat → ClassId} {ad : Nat → Int → Nat} (C : Cx p s m args meth c D cy ad (Ar ad) cX8_count 4 RX8 (some .int)) (x1 : Int) (r1 : iR x1) (Q : Int → Mm → Prop) : ∀ (x2 : Int) (x3 : Int) (M : Mm), wp_X8_count_L56 x1 Q x2 x3 M → iR x2 → iR x3 → Xj p l e rm_X8_count s m args below meth c D cy ad (Ar ad) (MQ below (QX D cy ad (rI Q)) args s 0 0 (Ar ad)) 4 0 0 56 [some (aR 8), some (aI x1), some (aI x2), some (aI x3)] [] M :=
  LP2.ind (P := fun x2 x3 M => iR x2 → iR x3 → Xj p l e rm_X8_count s m args below meth c D cy ad (Ar ad) (MQ below (QX D cy ad (rI Q)) args s 0 0 (Ar ad)) 4 0 0 56 [some (aR 8), some (aI x1), some (aI x2), some (aI x3)] [] M) (fun R ih => by
    intro x2 x3 M h r2 r3
    unfold bc_X8_count_L56 at h
    refine x_iload_n C dX8_count_56 rfl ?_
    refine x_bipush C dX8_count_57 rfl ?_
    refine x_icmp_ge (tgt := 99) C r3 (by decide) dX8_count_59 (by decide) (fun q1 => ?_) (fun q1 => ?_)
    · have h := h.1 q1
      refine x_iload_n C dX8_count_99 rfl ?_
      exact x_iret C r2 h dX8_count_100
    · have h := h.2 q1
      refine x_iload_n C dX8_count_62 rfl ?_
      refine x_aload_n C dX8_count_63 rfl ?_
      refine x_getR C gf_RX8_13 ly_8 rfl (by decide) dX8_count_64 ?_
      refine x_iload_n C dX8_count_67 rfl ?_
      obtain ⟨o1, h⟩ := h
      refine x_rng (fun hR1 => ?_)
      refine x_zald C ly_30 rfl (by decide) (by decide) o1 dX8_count_68 ?_
      refine x_if_ne (tgt := 76) C (ka_bi (ka_gZ hR1 ly_30 _)) dX8_count_69 (by decide) (fun q2 => ?_) (fun q2 => ?_)
      · have h := h.1 q2
        refine x_iload_n C dX8_count_76 rfl ?_
        refine x_iconst C dX8_count_77 ?_
        refine x_icmp_ne (tgt := 85) C r1 (by decide) dX8_count_78 (by decide) (fun q3 => ?_) (fun q3 => ?_)
        · have h := h.1 q3
          refine x_aload_n C dX8_count_85 rfl ?_
          refine x_getR C gf_RX8_17 ly_8 rfl (by decide) dX8_count_86 ?_
          refine x_iload_n C dX8_count_89 rfl ?_
          obtain ⟨o2, h⟩ := h
          refine x_iald C ly_31 rfl (by decide) (by decide) o2 dX8_count_90 ?_
          refine x_iadd C dX8_count_91 ?_
          refine x_istore_n C dX8_count_92 (Nat.le_of_ble_eq_true rfl) rfl ?_
          refine x_iinc C dX8_count_93 rfl (Nat.le_of_ble_eq_true rfl) rfl ?_
          refine x_goto (tgt := 56) C dX8_count_96 (by decide) ?_
          obtain ⟨o3, h⟩ := h
          obtain ⟨o4, h⟩ := h
          exact ih _ _ _ h o3 o4
        · have h := h.2 q3
          refine x_iconst C dX8_count_81 ?_
          refine x_goto (tgt := 91) C dX8_count_82 (by decide) ?_
          refine x_iadd C dX8_count_91 ?_
          refine x_istore_n C dX8_count_92 (Nat.le_of_ble_eq_true rfl) rfl ?_
          refine x_iinc C dX8_count_93 rfl (Nat.le_of_ble_eq_true rfl) rfl ?_
          refine x_goto (tgt := 56) C dX8_count_96 (by decide) ?_
          obtain ⟨o5, h⟩ := h
          obtain ⟨o6, h⟩ := h
          exact ih _ _ _ h o5 o6
      · have h := h.2 q2
        refine x_iconst C dX8_count_72 ?_
        refine x_goto (tgt := 91) C dX8_count_73 (by decide) ?_
        refine x_iadd C dX8_count_91 ?_
        refine x_istore_n C dX8_count_92 (Nat.le_of_ble_eq_true rfl) rfl ?_
        refine x_iinc C dX8_count_93 rfl (Nat.le_of_ble_eq_true rfl) rfl ?_
        refine x_goto (tgt := 56) C dX8_count_96 (by decide) ?_
        obtain ⟨o7, h⟩ := h
        obtain ⟨o8, h⟩ := h
        exact ih _ _ _ h o7 o8)
set_option maxRecDepth 100000 in
set_option maxHeartbeats 4000000 in
theorem lp_X8_count_L103 {p : Program} {l : Launch} {e : Env} {s : State} {m : MethodId} {args : Array Value} {below : List Frame} {meth : Method} {c : Code} {D : va_G} {cy : Nat → ClassId} {ad : Nat → Int → Nat} (C : Cx p s m args meth c D cy ad (Ar ad) cX8_count 4 RX8 (some .int)) (Q : Int → Mm → Prop) : ∀ (x2 : Int) (x3 : Int) (M : Mm), wp_X8_count_L103 Q x2 x3 M → iR x2 → iR x3 → Xj p l e rm_X8_count s m args below meth c D cy ad (Ar ad) (MQ below (QX D cy ad (rI Q)) args s 0 0 (Ar ad)) 4 0 0 103 [some (aR 8), none, some (aI x2), some (aI x3)] [] M :=
  LP2.ind (P := fun x2 x3 M => iR x2 → iR x3 → Xj p l e rm_X8_count s m args below meth c D cy ad (Ar ad) (MQ below (QX D cy ad (rI Q)) args s 0 0 (Ar ad)) 4 0 0 103 [some (aR 8), none, some (aI x2), some (aI x3)] [] M) (fun R ih => by
    intro x2 x3 M h r2 r3
    unfold bc_X8_count_L103 at h
    refine x_iload_n C dX8_count_103 rfl ?_
    refine x_bipush C dX8_count_104 rfl ?_
    refine x_icmp_ge (tgt := 124) C r3 (by decide) dX8_count_106 (by decide) (fun q1 => ?_) (fun q1 => ?_)
    · have h := h.1 q1
      refine x_iload_n C dX8_count_124 rfl ?_
      exact x_iret C r2 h dX8_count_125
    · have h := h.2 q1
      refine x_iload_n C dX8_count_109 rfl ?_
      refine x_aload_n C dX8_count_110 rfl ?_
      refine x_getR C gf_RX8_24 ly_8 rfl (by decide) dX8_count_111 ?_
      refine x_iload_n C dX8_count_114 rfl ?_
      obtain ⟨o1, h⟩ := h
      refine x_rng (fun hR1 => ?_)
      refine x_iald C ly_33 rfl (by decide) (by decide) o1 dX8_count_115 ?_
      refine x_iadd C dX8_count_116 ?_
      refine x_istore_n C dX8_count_117 (Nat.le_of_ble_eq_true rfl) rfl ?_
      refine x_iinc C dX8_count_118 rfl (Nat.le_of_ble_eq_true rfl) rfl ?_
      refine x_goto (tgt := 103) C dX8_count_121 (by decide) ?_
      obtain ⟨o2, h⟩ := h
      obtain ⟨o3, h⟩ := h
      exact ih _ _ _ h o2 o3)
set_option maxRecDepth 100000 in
set_option maxHeartbeats 4000000 in
theorem lp_X8_count_L128 {p : Program} {l : Launch} {e : Env} {s : State} {m : MethodId} {args : Array Value} {below : List Frame} {meth : Method} {c : Code} {D : va_G} {cy : Nat → ClassId} {ad : Nat → Int → Nat} (C : Cx p s m args meth c D cy ad (Ar ad) cX8_count 4 RX8 (some .int)) (Q : Int → Mm → Prop) : ∀ (x2 : Int) (x3 : Int) (M : Mm), wp_X8_count_L128 Q x2 x3 M → iR x2 → iR x3 → Xj p l e rm_X8_count s m args below meth c D cy ad (Ar ad) (MQ below (QX D cy ad (rI Q)) args s 0 0 (Ar ad)) 4 0 0 128 [some (aR 8), none, some (aI x2), some (aI x3)] [] M :=
  LP2.ind (P := fun x2 x3 M => iR x2 → iR x3 → Xj p l e rm_X8_count s m args below meth c D cy ad (Ar ad) (MQ below (QX D cy ad (rI Q)) args s 0 0 (Ar ad)) 4 0 0 128 [some (aR 8), none, some (aI x2), some (aI x3)] [] M) (fun R ih => by
    intro x2 x3 M h r2 r3
    unfold bc_X8_count_L128 at h
    refine x_iload_n C dX8_count_128 rfl ?_
    refine x_aload_n C dX8_count_129 rfl ?_
    refine x_rng (fun hR1 => ?_)
    refine x_getI C gf_RX8_7 ly_8 rfl rfl (by decide) dX8_count_130 ?_
    refine x_icmp_ge (tgt := 160) C r3 (ka_fI hR1 ly_8 rfl) dX8_count_133 (by decide) (fun q1 => ?_) (fun q1 => ?_)
    · have h := h.1 q1
      refine x_iload_n C dX8_count_160 rfl ?_
      exact x_iret C r2 h dX8_count_161
    · have h := h.2 q1
      refine x_iload_n C dX8_count_136 rfl ?_
      refine x_aload_n C dX8_count_137 rfl ?_
      refine x_getR C gf_RX8_36 ly_8 rfl (by decide) dX8_count_138 ?_
      refine x_iload_n C dX8_count_141 rfl ?_
      obtain ⟨o1, h⟩ := h
      refine x_iald C ly_37 rfl (by decide) (by decide) o1 dX8_count_142 ?_
      refine x_iconst C dX8_count_143 ?_
      refine x_icmp_ne (tgt := 151) C (ka_gI hR1 ly_37 _) (by decide) dX8_count_144 (by decide) (fun q2 => ?_) (fun q2 => ?_)
      · have h := h.1 q2
        refine x_iconst C dX8_count_151 ?_
        refine x_iadd C dX8_count_152 ?_
        refine x_istore_n C dX8_count_153 (Nat.le_of_ble_eq_true rfl) rfl ?_
        refine x_iinc C dX8_count_154 rfl (Nat.le_of_ble_eq_true rfl) rfl ?_
        refine x_goto (tgt := 128) C dX8_count_157 (by decide) ?_
        obtain ⟨o2, h⟩ := h
        obtain ⟨o3, h⟩ := h
        exact ih _ _ _ h o2 o3
      · have h := h.2 q2
        refine x_iconst C dX8_count_147 ?_
        refine x_goto (tgt := 152) C dX8_count_148 (by decide) ?_
        refine x_iadd C dX8_count_152 ?_
        refine x_istore_n C dX8_count_153 (Nat.le_of_ble_eq_true rfl) rfl ?_
        refine x_iinc C dX8_count_154 rfl (Nat.le_of_ble_eq_true rfl) rfl ?_
        refine x_goto (tgt := 128) C dX8_count_157 (by decide) ?_
        obtain ⟨o4, h⟩ := h
        obtain ⟨o5, h⟩ := h
        exact ih _ _ _ h o4 o5)
set_option maxRecDepth 100000 in
set_option maxHeartbeats 4000000 in
theorem sd_X8_count (l : Launch) (D : va_G) (cy : Nat → ClassId) (ad : Nat → Int → Nat) (x1 : Int) (r1 : iR x1) (M : Mm) (Q : Int → Mm → Prop) (h : wp_X8_count x1 M Q) : Ct l D cy ad yX8_count cX8_count 4 (some .int) rm_X8_count [aR 8, aI x1] M (rI Q) := by
  refine ct_of (z := 2) (ls := [some (aR 8), some (aI x1), none, none]) (by decide) rfl (Nat.le_of_ble_eq_true rfl) ?_
  intro p e s m args below meth c C
  have C : Cx p s m args meth c D cy ad (Ar ad) cX8_count 4 RX8 (some .int) := C
  unfold wp_X8_count at h
  refine x_iconst C dX8_count_0 ?_
  refine x_istore_n C dX8_count_1 (Nat.le_of_ble_eq_true rfl) rfl ?_
  refine x_iload_n C dX8_count_2 rfl ?_
  by_cases q1_0 : x1 = 0
  · have h := h.1 q1_0
    refine x_tin (tgt := 44) (off := 41) C r1 (by omega) (by omega) (by rw [q1_0]; rfl) dX8_count_3 (by decide) ?_
    refine x_aload_n C dX8_count_44 rfl ?_
    refine x_rng (fun hR1 => ?_)
    refine x_getI C gf_RX8_7 ly_8 rfl rfl (by decide) dX8_count_45 ?_
    exact x_iret C (ka_fI hR1 ly_8 rfl) h dX8_count_48
  by_cases q1_1 : x1 = 1
  · have h := h.2.1 q1_1
    refine x_tin (tgt := 49) (off := 46) C r1 (by omega) (by omega) (by rw [q1_1]; rfl) dX8_count_3 (by decide) ?_
    refine x_aload_n C dX8_count_49 rfl ?_
    refine x_rng (fun hR2 => ?_)
    refine x_getI C gf_RX8_80 ly_8 rfl rfl (by decide) dX8_count_50 ?_
    exact x_iret C (ka_fI hR2 ly_8 rfl) h dX8_count_53
  by_cases q1_2 : x1 = 2
  · have h := h.2.2.1 q1_2
    refine x_tin (tgt := 54) (off := 51) C r1 (by omega) (by omega) (by rw [q1_2]; rfl) dX8_count_3 (by decide) ?_
    refine x_iconst C dX8_count_54 ?_
    refine x_istore_n C dX8_count_55 (Nat.le_of_ble_eq_true rfl) rfl ?_
    refine lp_X8_count_L56 C x1 r1 Q _ _ _ h (by decide) (by decide)
  by_cases q1_3 : x1 = 3
  · have h := h.2.2.2.1 q1_3
    refine x_tin (tgt := 54) (off := 51) C r1 (by omega) (by omega) (by rw [q1_3]; rfl) dX8_count_3 (by decide) ?_
    refine x_iconst C dX8_count_54 ?_
    refine x_istore_n C dX8_count_55 (Nat.le_of_ble_eq_true rfl) rfl ?_
    refine lp_X8_count_L56 C x1 r1 Q _ _ _ h (by decide) (by decide)
  by_cases q1_4 : x1 = 4
  · have h := h.2.2.2.2.1 q1_4
    refine x_tin (tgt := 101) (off := 98) C r1 (by omega) (by omega) (by rw [q1_4]; rfl) dX8_count_3 (by decide) ?_
    refine x_iconst C dX8_count_101 ?_
    refine x_istore_n C dX8_count_102 (Nat.le_of_ble_eq_true rfl) rfl ?_
    refine x_mask [true, false, true, true] rfl ?_
    refine lp_X8_count_L103 C Q _ _ _ h (by decide) (by decide)
  by_cases q1_5 : x1 = 5
  · have h := h.2.2.2.2.2.1 q1_5
    refine x_tin (tgt := 126) (off := 123) C r1 (by omega) (by omega) (by rw [q1_5]; rfl) dX8_count_3 (by decide) ?_
    refine x_iconst C dX8_count_126 ?_
    refine x_istore_n C dX8_count_127 (Nat.le_of_ble_eq_true rfl) rfl ?_
    refine x_mask [true, false, true, true] rfl ?_
    refine lp_X8_count_L128 C Q _ _ _ h (by decide) (by decide)
  by_cases q1_6 : x1 = 6
  · have h := h.2.2.2.2.2.2.1 q1_6
    refine x_tin (tgt := 162) (off := 159) C r1 (by omega) (by omega) (by rw [q1_6]; rfl) dX8_count_3 (by decide) ?_
    refine x_aload_n C dX8_count_162 rfl ?_
    refine x_rng (fun hR3 => ?_)
    refine x_getZ C gf_RX8_83 ly_8 rfl rfl (by decide) dX8_count_163 ?_
    refine x_if_eq (tgt := 173) C (ka_bi (ka_fZ hR3 ly_8 rfl)) dX8_count_166 (by decide) (fun q2 => ?_) (fun q2 => ?_)
    · have h := h.1 q2
      refine x_iconst C dX8_count_173 ?_
      exact x_iret C (by decide) h dX8_count_174
    · have h := h.2 q2
      refine x_iconst C dX8_count_169 ?_
      refine x_goto (tgt := 174) C dX8_count_170 (by decide) ?_
      exact x_iret C (by decide) h dX8_count_174
  have q1 : x1 < 0 ∨ 6 < x1 := by omega
  have h := h.2.2.2.2.2.2.2 q1
  refine x_tout (tgt := 175) C r1 q1 dX8_count_3 (by decide) ?_
  refine x_bipush C dX8_count_175 rfl ?_
  exact x_iret C (by decide) h dX8_count_177
set_option maxRecDepth 100000 in
set_option maxHeartbeats 4000000 in
theorem lp_X7_mixSquare_c13_L15 {p : Program} {l : Launch} {e : Env} {s : State} {m : MethodId} {args : Array Value} {below : List Frame} {meth : Method} {c : Code} {D : va_G} {cy : Nat → ClassId} {ad : Nat → Int → Nat} (C : Cx p s m args meth c D cy ad (Ar ad) cX7_mixSquare 8 RX7 (some .long)) (x3 : Int) (x6 : Int) (r3 : iR x3) (r6 : iR x6) (Q : Int → Mm → Prop) (K44 : Int → Mm → Prop) (k44 : ∀ (x4 : Int) (M : Mm), K44 x4 M → Xj p l e rm_X7_mixSquare_c13 s m args below meth c D cy ad (Ar ad) (MQ below (QX D cy ad (rL Q)) args s 0 0 (Ar ad)) 8 0 0 44 [none, none, some (aR 13), some (aI x3), some (aL x4), none, some (aI x6), none] [] M) : ∀ (x4 : Int) (x7 : Int) (M : Mm), wp_X7_mixSquare_c13_L15 x3 x6 Q K44 x4 x7 M → iR x7 → Xj p l e rm_X7_mixSquare_c13 s m args below meth c D cy ad (Ar ad) (MQ below (QX D cy ad (rL Q)) args s 0 0 (Ar ad)) 8 0 0 15 [none, none, some (aR 13), some (aI x3), some (aL x4), none, some (aI x6), some (aI x7)] [] M :=
  LP2.ind (P := fun x4 x7 M => iR x7 → Xj p l e rm_X7_mixSquare_c13 s m args below meth c D cy ad (Ar ad) (MQ below (QX D cy ad (rL Q)) args s 0 0 (Ar ad)) 8 0 0 15 [none, none, some (aR 13), some (aI x3), some (aL x4), none, some (aI x6), some (aI x7)] [] M) (fun R ih => by
    intro x4 x7 M h r7
    unfold bc_X7_mixSquare_c13_L15 at h
    refine x_iload C dX7_mixSquare_15 rfl ?_
    refine x_iload_n C dX7_mixSquare_17 rfl ?_
    refine x_icmp_ge (tgt := 44) C r7 r3 dX7_mixSquare_18 (by decide) (fun q1 => ?_) (fun q1 => ?_)
    · have h := h.1 q1
      refine x_mask [false, false, true, true, true, false, true, false] rfl ?_
      exact k44 _ _ h
    · have h := h.2 q1
      refine x_ldc2 (v := 31) C kc_RX7_220 rfl dX7_mixSquare_21 ?_
      refine x_lload C dX7_mixSquare_24 rfl ?_
      refine x_lmul C dX7_mixSquare_26 ?_
      refine x_aload_n C dX7_mixSquare_27 rfl ?_
      refine x_iload C dX7_mixSquare_28 rfl ?_
      obtain ⟨o1, h⟩ := h
      refine x_aald C ly_13 rfl (by decide) (by decide) o1 dX7_mixSquare_30 ?_
      refine x_iload C dX7_mixSquare_31 rfl ?_
      obtain ⟨o2, h⟩ := h
      refine x_rng (fun hR1 => ?_)
      refine x_iald2 C ly_13 rfl (by decide) (by decide) rfl o1 o2 dX7_mixSquare_33 ?_
      refine x_i2l C (ka_gI hR1 ly_13 _) dX7_mixSquare_34 ?_
      refine x_ladd C dX7_mixSquare_35 ?_
      refine x_lstore C dX7_mixSquare_36 (Nat.le_of_ble_eq_true rfl) rfl ?_
      refine x_iinc C dX7_mixSquare_38 rfl (Nat.le_of_ble_eq_true rfl) rfl ?_
      refine x_goto (tgt := 15) C dX7_mixSquare_41 (by decide) ?_
      obtain ⟨o3, h⟩ := h
      exact ih _ _ _ h o3)
set_option maxRecDepth 100000 in
set_option maxHeartbeats 4000000 in
theorem lp_X7_mixSquare_c13_L6 {p : Program} {l : Launch} {e : Env} {s : State} {m : MethodId} {args : Array Value} {below : List Frame} {meth : Method} {c : Code} {D : va_G} {cy : Nat → ClassId} {ad : Nat → Int → Nat} (C : Cx p s m args meth c D cy ad (Ar ad) cX7_mixSquare 8 RX7 (some .long)) (x3 : Int) (r3 : iR x3) (Q : Int → Mm → Prop) : ∀ (x4 : Int) (x6 : Int) (M : Mm), wp_X7_mixSquare_c13_L6 x3 Q x4 x6 M → iR x6 → Xj p l e rm_X7_mixSquare_c13 s m args below meth c D cy ad (Ar ad) (MQ below (QX D cy ad (rL Q)) args s 0 0 (Ar ad)) 8 0 0 6 [none, none, some (aR 13), some (aI x3), some (aL x4), none, some (aI x6), none] [] M :=
  LP2.ind (P := fun x4 x6 M => iR x6 → Xj p l e rm_X7_mixSquare_c13 s m args below meth c D cy ad (Ar ad) (MQ below (QX D cy ad (rL Q)) args s 0 0 (Ar ad)) 8 0 0 6 [none, none, some (aR 13), some (aI x3), some (aL x4), none, some (aI x6), none] [] M) (fun R ih => by
    intro x4 x6 M h r6
    unfold bc_X7_mixSquare_c13_L6 at h
    refine x_iload C dX7_mixSquare_6 rfl ?_
    refine x_iload_n C dX7_mixSquare_8 rfl ?_
    refine x_icmp_ge (tgt := 50) C r6 r3 dX7_mixSquare_9 (by decide) (fun q1 => ?_) (fun q1 => ?_)
    · have h := h.1 q1
      refine x_lload C dX7_mixSquare_50 rfl ?_
      exact x_lret C h dX7_mixSquare_52
    · have h := h.2 q1
      refine x_iconst C dX7_mixSquare_12 ?_
      refine x_istore C dX7_mixSquare_13 (Nat.le_of_ble_eq_true rfl) rfl ?_
      refine lp_X7_mixSquare_c13_L15 C x3 x6 r3 r6 Q _ (fun y4_1 M1 h => ?_) _ _ _ h (by decide)
      · refine x_iinc C dX7_mixSquare_44 rfl (Nat.le_of_ble_eq_true rfl) rfl ?_
        refine x_goto (tgt := 6) C dX7_mixSquare_47 (by decide) ?_
        obtain ⟨o1, h⟩ := h
        exact ih _ _ _ h o1)
set_option maxRecDepth 100000 in
set_option maxHeartbeats 4000000 in
theorem sd_X7_mixSquare_c13 (l : Launch) (D : va_G) (cy : Nat → ClassId) (ad : Nat → Int → Nat) (x0 : Int) (x3 : Int) (r3 : iR x3) (M : Mm) (Q : Int → Mm → Prop) (h : wp_X7_mixSquare_c13 x0 x3 M Q) : Ct l D cy ad yX7_mixSquare cX7_mixSquare 8 (some .long) rm_X7_mixSquare_c13 [aL x0, aR 13, aI x3] M (rL Q) := by
  refine ct_of (z := 4) (ls := [some (aL x0), none, some (aR 13), some (aI x3), none, none, none, none]) (by decide) rfl (Nat.le_of_ble_eq_true rfl) ?_
  intro p e s m args below meth c C
  have C : Cx p s m args meth c D cy ad (Ar ad) cX7_mixSquare 8 RX7 (some .long) := C
  unfold wp_X7_mixSquare_c13 at h
  refine x_lload_n C dX7_mixSquare_0 rfl ?_
  refine x_lstore C dX7_mixSquare_1 (Nat.le_of_ble_eq_true rfl) rfl ?_
  refine x_iconst C dX7_mixSquare_3 ?_
  refine x_istore C dX7_mixSquare_4 (Nat.le_of_ble_eq_true rfl) rfl ?_
  refine x_mask [false, false, true, true, true, false, true, false] rfl ?_
  refine lp_X7_mixSquare_c13_L6 C x3 r3 Q _ _ _ h (by decide)
set_option maxRecDepth 100000 in
set_option maxHeartbeats 4000000 in
theorem lp_X7_mixSquare_c17_L15 {p : Program} {l : Launch} {e : Env} {s : State} {m : MethodId} {args : Array Value} {below : List Frame} {meth : Method} {c : Code} {D : va_G} {cy : Nat → ClassId} {ad : Nat → Int → Nat} (C : Cx p s m args meth c D cy ad (Ar ad) cX7_mixSquare 8 RX7 (some .long)) (x3 : Int) (x6 : Int) (r3 : iR x3) (r6 : iR x6) (Q : Int → Mm → Prop) (K44 : Int → Mm → Prop) (k44 : ∀ (x4 : Int) (M : Mm), K44 x4 M → Xj p l e rm_X7_mixSquare_c17 s m args below meth c D cy ad (Ar ad) (MQ below (QX D cy ad (rL Q)) args s 0 0 (Ar ad)) 8 0 0 44 [none, none, some (aR 17), some (aI x3), some (aL x4), none, some (aI x6), none] [] M) : ∀ (x4 : Int) (x7 : Int) (M : Mm), wp_X7_mixSquare_c17_L15 x3 x6 Q K44 x4 x7 M → iR x7 → Xj p l e rm_X7_mixSquare_c17 s m args below meth c D cy ad (Ar ad) (MQ below (QX D cy ad (rL Q)) args s 0 0 (Ar ad)) 8 0 0 15 [none, none, some (aR 17), some (aI x3), some (aL x4), none, some (aI x6), some (aI x7)] [] M :=
  LP2.ind (P := fun x4 x7 M => iR x7 → Xj p l e rm_X7_mixSquare_c17 s m args below meth c D cy ad (Ar ad) (MQ below (QX D cy ad (rL Q)) args s 0 0 (Ar ad)) 8 0 0 15 [none, none, some (aR 17), some (aI x3), some (aL x4), none, some (aI x6), some (aI x7)] [] M) (fun R ih => by
    intro x4 x7 M h r7
    unfold bc_X7_mixSquare_c17_L15 at h
    refine x_iload C dX7_mixSquare_15 rfl ?_
    refine x_iload_n C dX7_mixSquare_17 rfl ?_
    refine x_icmp_ge (tgt := 44) C r7 r3 dX7_mixSquare_18 (by decide) (fun q1 => ?_) (fun q1 => ?_)
    · have h := h.1 q1
      refine x_mask [false, false, true, true, true, false, true, false] rfl ?_
      exact k44 _ _ h
    · have h := h.2 q1
      refine x_ldc2 (v := 31) C kc_RX7_220 rfl dX7_mixSquare_21 ?_
      refine x_lload C dX7_mixSquare_24 rfl ?_
      refine x_lmul C dX7_mixSquare_26 ?_
      refine x_aload_n C dX7_mixSquare_27 rfl ?_
      refine x_iload C dX7_mixSquare_28 rfl ?_
      obtain ⟨o1, h⟩ := h
      refine x_aald C ly_17 rfl (by decide) (by decide) o1 dX7_mixSquare_30 ?_
      refine x_iload C dX7_mixSquare_31 rfl ?_
      obtain ⟨o2, h⟩ := h
      refine x_rng (fun hR1 => ?_)
      refine x_iald2 C ly_17 rfl (by decide) (by decide) rfl o1 o2 dX7_mixSquare_33 ?_
      refine x_i2l C (ka_gI hR1 ly_17 _) dX7_mixSquare_34 ?_
      refine x_ladd C dX7_mixSquare_35 ?_
      refine x_lstore C dX7_mixSquare_36 (Nat.le_of_ble_eq_true rfl) rfl ?_
      refine x_iinc C dX7_mixSquare_38 rfl (Nat.le_of_ble_eq_true rfl) rfl ?_
      refine x_goto (tgt := 15) C dX7_mixSquare_41 (by decide) ?_
      obtain ⟨o3, h⟩ := h
      exact ih _ _ _ h o3)
set_option maxRecDepth 100000 in
set_option maxHeartbeats 4000000 in
theorem lp_X7_mixSquare_c17_L6 {p : Program} {l : Launch} {e : Env} {s : State} {m : MethodId} {args : Array Value} {below : List Frame} {meth : Method} {c : Code} {D : va_G} {cy : Nat → ClassId} {ad : Nat → Int → Nat} (C : Cx p s m args meth c D cy ad (Ar ad) cX7_mixSquare 8 RX7 (some .long)) (x3 : Int) (r3 : iR x3) (Q : Int → Mm → Prop) : ∀ (x4 : Int) (x6 : Int) (M : Mm), wp_X7_mixSquare_c17_L6 x3 Q x4 x6 M → iR x6 → Xj p l e rm_X7_mixSquare_c17 s m args below meth c D cy ad (Ar ad) (MQ below (QX D cy ad (rL Q)) args s 0 0 (Ar ad)) 8 0 0 6 [none, none, some (aR 17), some (aI x3), some (aL x4), none, some (aI x6), none] [] M :=
  LP2.ind (P := fun x4 x6 M => iR x6 → Xj p l e rm_X7_mixSquare_c17 s m args below meth c D cy ad (Ar ad) (MQ below (QX D cy ad (rL Q)) args s 0 0 (Ar ad)) 8 0 0 6 [none, none, some (aR 17), some (aI x3), some (aL x4), none, some (aI x6), none] [] M) (fun R ih => by
    intro x4 x6 M h r6
    unfold bc_X7_mixSquare_c17_L6 at h
    refine x_iload C dX7_mixSquare_6 rfl ?_
    refine x_iload_n C dX7_mixSquare_8 rfl ?_
    refine x_icmp_ge (tgt := 50) C r6 r3 dX7_mixSquare_9 (by decide) (fun q1 => ?_) (fun q1 => ?_)
    · have h := h.1 q1
      refine x_lload C dX7_mixSquare_50 rfl ?_
      exact x_lret C h dX7_mixSquare_52
    · have h := h.2 q1
      refine x_iconst C dX7_mixSquare_12 ?_
      refine x_istore C dX7_mixSquare_13 (Nat.le_of_ble_eq_true rfl) rfl ?_
      refine lp_X7_mixSquare_c17_L15 C x3 x6 r3 r6 Q _ (fun y4_1 M1 h => ?_) _ _ _ h (by decide)
      · refine x_iinc C dX7_mixSquare_44 rfl (Nat.le_of_ble_eq_true rfl) rfl ?_
        refine x_goto (tgt := 6) C dX7_mixSquare_47 (by decide) ?_
        obtain ⟨o1, h⟩ := h
        exact ih _ _ _ h o1)
set_option maxRecDepth 100000 in
set_option maxHeartbeats 4000000 in
theorem sd_X7_mixSquare_c17 (l : Launch) (D : va_G) (cy : Nat → ClassId) (ad : Nat → Int → Nat) (x0 : Int) (x3 : Int) (r3 : iR x3) (M : Mm) (Q : Int → Mm → Prop) (h : wp_X7_mixSquare_c17 x0 x3 M Q) : Ct l D cy ad yX7_mixSquare cX7_mixSquare 8 (some .long) rm_X7_mixSquare_c17 [aL x0, aR 17, aI x3] M (rL Q) := by
  refine ct_of (z := 4) (ls := [some (aL x0), none, some (aR 17), some (aI x3), none, none, none, none]) (by decide) rfl (Nat.le_of_ble_eq_true rfl) ?_
  intro p e s m args below meth c C
  have C : Cx p s m args meth c D cy ad (Ar ad) cX7_mixSquare 8 RX7 (some .long) := C
  unfold wp_X7_mixSquare_c17 at h
  refine x_lload_n C dX7_mixSquare_0 rfl ?_
  refine x_lstore C dX7_mixSquare_1 (Nat.le_of_ble_eq_true rfl) rfl ?_
  refine x_iconst C dX7_mixSquare_3 ?_
  refine x_istore C dX7_mixSquare_4 (Nat.le_of_ble_eq_true rfl) rfl ?_
  refine x_mask [false, false, true, true, true, false, true, false] rfl ?_
  refine lp_X7_mixSquare_c17_L6 C x3 r3 Q _ _ _ h (by decide)
set_option maxRecDepth 100000 in
set_option maxHeartbeats 4000000 in
theorem lp_X7_digest_L6 {p : Program} {l : Launch} {e : Env} {s : State} {m : MethodId} {args : Array Value} {below : List Frame} {meth : Method} {c : Code} {D : va_G} {cy : Nat → ClassId} {ad : Nat → Int → Nat} (C : Cx p s m args meth c D cy ad (Ar ad) cX7_digest 4 RX7 (some .long)) (Q : Int → Mm → Prop) (K31 : Int → Mm → Prop) (k31 : ∀ (x1 : Int) (M : Mm), K31 x1 M → Xj p l e rm_X7_digest s m args below meth c D cy ad (Ar ad) (MQ below (QX D cy ad (rL Q)) args s 0 0 (Ar ad)) 4 0 0 31 [some (aR 0), some (aL x1), none, none] [] M) : ∀ (x1 : Int) (x3 : Int) (M : Mm), wp_X7_digest_L6 Q K31 x1 x3 M → iR x3 → Xj p l e rm_X7_digest s m args below meth c D cy ad (Ar ad) (MQ below (QX D cy ad (rL Q)) args s 0 0 (Ar ad)) 4 0 0 6 [some (aR 0), some (aL x1), none, some (aI x3)] [] M :=
  LP2.ind (P := fun x1 x3 M => iR x3 → Xj p l e rm_X7_digest s m args below meth c D cy ad (Ar ad) (MQ below (QX D cy ad (rL Q)) args s 0 0 (Ar ad)) 4 0 0 6 [some (aR 0), some (aL x1), none, some (aI x3)] [] M) (fun R ih => by
    intro x1 x3 M h r3
    unfold bc_X7_digest_L6 at h
    refine x_iload_n C dX7_digest_6 rfl ?_
    refine x_bipush C dX7_digest_7 rfl ?_
    refine x_icmp_ge (tgt := 31) C r3 (by decide) dX7_digest_9 (by decide) (fun q1 => ?_) (fun q1 => ?_)
    · have h := h.1 q1
      refine x_mask [true, true, false, false] rfl ?_
      exact k31 _ _ h
    · have h := h.2 q1
      refine x_ldc2 (v := 31) C kc_RX7_220 rfl dX7_digest_12 ?_
      refine x_lload_n C dX7_digest_15 rfl ?_
      refine x_lmul C dX7_digest_16 ?_
      refine x_aload_n C dX7_digest_17 rfl ?_
      refine x_iload_n C dX7_digest_18 rfl ?_
      refine x_callV (vs := [aI x3]) C cv_RX7_222 ly_0 rfl (by decide) ⟨rfl, rfl, Nat.le_of_ble_eq_true rfl, Nat.le_of_ble_eq_true rfl⟩ ⟨Nat.zero_le _, Nat.zero_le _⟩ rfl rfl (Nat.le_of_ble_eq_true rfl) dX7_digest_19 (sd_X7_count l D cy ad x3 r3 M _ h) (fun _ M1 qz => ?_)
      obtain ⟨z1, rfl, rz1, h⟩ := qz
      refine x_i2l C rz1 dX7_digest_22 ?_
      refine x_ladd C dX7_digest_23 ?_
      refine x_lstore_n C dX7_digest_24 (Nat.le_of_ble_eq_true rfl) rfl ?_
      refine x_iinc C dX7_digest_25 rfl (Nat.le_of_ble_eq_true rfl) rfl ?_
      refine x_goto (tgt := 6) C dX7_digest_28 (by decide) ?_
      obtain ⟨o1, h⟩ := h
      exact ih _ _ _ h o1)
set_option maxRecDepth 100000 in
set_option maxHeartbeats 4000000 in
theorem lp_X7_digest_L81 {p : Program} {l : Launch} {e : Env} {s : State} {m : MethodId} {args : Array Value} {below : List Frame} {meth : Method} {c : Code} {D : va_G} {cy : Nat → ClassId} {ad : Nat → Int → Nat} (C : Cx p s m args meth c D cy ad (Ar ad) cX7_digest 4 RX7 (some .long)) (Q : Int → Mm → Prop) : ∀ (x1 : Int) (x3 : Int) (M : Mm), wp_X7_digest_L81 Q x1 x3 M → iR x3 → Xj p l e rm_X7_digest s m args below meth c D cy ad (Ar ad) (MQ below (QX D cy ad (rL Q)) args s 0 0 (Ar ad)) 4 0 0 81 [some (aR 0), some (aL x1), none, some (aI x3)] [] M :=
  LP2.ind (P := fun x1 x3 M => iR x3 → Xj p l e rm_X7_digest s m args below meth c D cy ad (Ar ad) (MQ below (QX D cy ad (rL Q)) args s 0 0 (Ar ad)) 4 0 0 81 [some (aR 0), some (aL x1), none, some (aI x3)] [] M) (fun R ih => by
    intro x1 x3 M h r3
    unfold bc_X7_digest_L81 at h
    refine x_iload_n C dX7_digest_81 rfl ?_
    refine x_aload_n C dX7_digest_82 rfl ?_
    refine x_getR C gf_RX7_10 ly_0 rfl (by decide) dX7_digest_83 ?_
    refine x_rng (fun hR1 => ?_)
    refine x_getI C gf_RX7_66 ly_1 rfl rfl (by decide) dX7_digest_86 ?_
    refine x_icmp_ge (tgt := 115) C r3 (ka_fI hR1 ly_1 rfl) dX7_digest_89 (by decide) (fun q1 => ?_) (fun q1 => ?_)
    · have h := h.1 q1
      refine x_ldc2 (v := 31) C kc_RX7_220 rfl dX7_digest_115 ?_
      refine x_lload_n C dX7_digest_118 rfl ?_
      refine x_lmul C dX7_digest_119 ?_
      refine x_aload_n C dX7_digest_120 rfl ?_
      refine x_callV (vs := []) C cv_RX7_229 ly_0 rfl (by decide) ⟨rfl, rfl, Nat.le_of_ble_eq_true rfl, Nat.le_of_ble_eq_true rfl⟩ ⟨Nat.zero_le _, Nat.zero_le _⟩ rfl rfl (Nat.le_of_ble_eq_true rfl) dX7_digest_121 (sd_X7_least l D cy ad M _ h) (fun _ M1 qz => ?_)
      obtain ⟨z1, rfl, h⟩ := qz
      refine x_ladd C dX7_digest_124 ?_
      exact x_lret C h dX7_digest_125
    · have h := h.2 q1
      refine x_ldc2 (v := 31) C kc_RX7_220 rfl dX7_digest_92 ?_
      refine x_lload_n C dX7_digest_95 rfl ?_
      refine x_lmul C dX7_digest_96 ?_
      refine x_aload_n C dX7_digest_97 rfl ?_
      refine x_getR C gf_RX7_39 ly_0 rfl (by decide) dX7_digest_98 ?_
      refine x_getR C gf_RX7_145 ly_4 rfl (by decide) dX7_digest_101 ?_
      refine x_iload_n C dX7_digest_104 rfl ?_
      obtain ⟨o1, h⟩ := h
      refine x_iald C ly_19 rfl (by decide) (by decide) o1 dX7_digest_105 ?_
      refine x_i2l C (ka_gI hR1 ly_19 _) dX7_digest_106 ?_
      refine x_ladd C dX7_digest_107 ?_
      refine x_lstore_n C dX7_digest_108 (Nat.le_of_ble_eq_true rfl) rfl ?_
      refine x_iinc C dX7_digest_109 rfl (Nat.le_of_ble_eq_true rfl) rfl ?_
      refine x_goto (tgt := 81) C dX7_digest_112 (by decide) ?_
      obtain ⟨o2, h⟩ := h
      exact ih _ _ _ h o2)
set_option maxRecDepth 100000 in
set_option maxHeartbeats 4000000 in
theorem sd_X7_digest (l : Launch) (D : va_G) (cy : Nat → ClassId) (ad : Nat → Int → Nat) (M : Mm) (Q : Int → Mm → Prop) (h : wp_X7_digest M Q) : Ct l D cy ad yX7_digest cX7_digest 4 (some .long) rm_X7_digest [aR 0] M (rL Q) := by
  refine ct_of (z := 3) (ls := [some (aR 0), none, none, none]) (by decide) rfl (Nat.le_of_ble_eq_true rfl) ?_
  intro p e s m args below meth c C
  have C : Cx p s m args meth c D cy ad (Ar ad) cX7_digest 4 RX7 (some .long) := C
  unfold wp_X7_digest at h
  refine x_ldc2 (v := 59) C kc_RX7_218 rfl dX7_digest_0 ?_
  refine x_lstore_n C dX7_digest_3 (Nat.le_of_ble_eq_true rfl) rfl ?_
  refine x_iconst C dX7_digest_4 ?_
  refine x_istore_n C dX7_digest_5 (Nat.le_of_ble_eq_true rfl) rfl ?_
  refine lp_X7_digest_L6 C Q _ (fun y1_1 M1 h => ?_) _ _ _ h (by decide)
  · refine x_lload_n C dX7_digest_31 rfl ?_
    refine x_aload_n C dX7_digest_32 rfl ?_
    refine x_getR C gf_RX7_19 ly_0 rfl (by decide) dX7_digest_33 ?_
    refine x_getR C gf_RX7_32 ly_2 rfl (by decide) dX7_digest_36 ?_
    refine x_aload_n C dX7_digest_39 rfl ?_
    refine x_getR C gf_RX7_10 ly_0 rfl (by decide) dX7_digest_40 ?_
    refine x_rng (fun hR1 => ?_)
    refine x_getI C gf_RX7_66 ly_1 rfl rfl (by decide) dX7_digest_43 ?_
    refine x_callS (vs := [aL y1_1, aR 13, aI (M1 1 0)]) C cv_RX7_225 ⟨rfl, rfl, Nat.le_of_ble_eq_true rfl, Nat.le_of_ble_eq_true rfl⟩ ⟨Nat.zero_le _, Nat.zero_le _⟩ rfl rfl (Nat.le_of_ble_eq_true rfl) dX7_digest_46 (sd_X7_mixSquare_c13 l D cy ad y1_1 (M1 1 0) (ka_fI hR1 ly_1 rfl) M1 _ h) (fun _ M2 qz => ?_)
    obtain ⟨z1, rfl, h⟩ := qz
    refine x_lstore_n C dX7_digest_49 (Nat.le_of_ble_eq_true rfl) rfl ?_
    refine x_lload_n C dX7_digest_50 rfl ?_
    refine x_aload_n C dX7_digest_51 rfl ?_
    refine x_getR C gf_RX7_26 ly_0 rfl (by decide) dX7_digest_52 ?_
    refine x_getR C gf_RX7_112 ly_3 rfl (by decide) dX7_digest_55 ?_
    refine x_aload_n C dX7_digest_58 rfl ?_
    refine x_getR C gf_RX7_26 ly_0 rfl (by decide) dX7_digest_59 ?_
    refine x_rng (fun hR2 => ?_)
    refine x_getI C gf_RX7_99 ly_3 rfl rfl (by decide) dX7_digest_62 ?_
    refine x_callS (vs := [aL z1, aR 17, aI (M2 3 0)]) C cv_RX7_225 ⟨rfl, rfl, Nat.le_of_ble_eq_true rfl, Nat.le_of_ble_eq_true rfl⟩ ⟨Nat.zero_le _, Nat.zero_le _⟩ rfl rfl (Nat.le_of_ble_eq_true rfl) dX7_digest_65 (sd_X7_mixSquare_c17 l D cy ad z1 (M2 3 0) (ka_fI hR2 ly_3 rfl) M2 _ h) (fun _ M3 qz => ?_)
    obtain ⟨z2, rfl, h⟩ := qz
    refine x_lstore_n C dX7_digest_68 (Nat.le_of_ble_eq_true rfl) rfl ?_
    refine x_aload_n C dX7_digest_69 rfl ?_
    refine x_getR C gf_RX7_39 ly_0 rfl (by decide) dX7_digest_70 ?_
    refine x_rng (fun hR3 => ?_)
    refine x_getZ C gf_RX7_74 ly_4 rfl rfl (by decide) dX7_digest_73 ?_
    refine x_if_eq (tgt := 115) C (ka_bi (ka_fZ hR3 ly_4 rfl)) dX7_digest_76 (by decide) (fun q1 => ?_) (fun q1 => ?_)
    · have h := h.1 q1
      refine x_ldc2 (v := 31) C kc_RX7_220 rfl dX7_digest_115 ?_
      refine x_lload_n C dX7_digest_118 rfl ?_
      refine x_lmul C dX7_digest_119 ?_
      refine x_aload_n C dX7_digest_120 rfl ?_
      refine x_callV (vs := []) C cv_RX7_229 ly_0 rfl (by decide) ⟨rfl, rfl, Nat.le_of_ble_eq_true rfl, Nat.le_of_ble_eq_true rfl⟩ ⟨Nat.zero_le _, Nat.zero_le _⟩ rfl rfl (Nat.le_of_ble_eq_true rfl) dX7_digest_121 (sd_X7_least l D cy ad M3 _ h) (fun _ M4 qz => ?_)
      obtain ⟨z3, rfl, h⟩ := qz
      refine x_ladd C dX7_digest_124 ?_
      exact x_lret C h dX7_digest_125
    · have h := h.2 q1
      refine x_iconst C dX7_digest_79 ?_
      refine x_istore_n C dX7_digest_80 (Nat.le_of_ble_eq_true rfl) rfl ?_
      refine lp_X7_digest_L81 C Q _ _ _ h (by decide)
set_option maxRecDepth 100000 in
set_option maxHeartbeats 4000000 in
theorem lp_X8_digest_L6 {p : Program} {l : Launch} {e : Env} {s : State} {m : MethodId} {args : Array Value} {below : List Frame} {meth : Method} {c : Code} {D : va_G} {cy : Nat → ClassId} {ad : Nat → Int → Nat} (C : Cx p s m args meth c D cy ad (Ar ad) cX8_digest 5 RX8 (some .long)) (Q : Int → Mm → Prop) (K31 : Int → Mm → Prop) (k31 : ∀ (x1 : Int) (M : Mm), K31 x1 M → Xj p l e rm_X8_digest s m args below meth c D cy ad (Ar ad) (MQ below (QX D cy ad (rL Q)) args s 0 0 (Ar ad)) 5 0 0 31 [some (aR 8), some (aL x1), none, none, none] [] M) : ∀ (x1 : Int) (x3 : Int) (M : Mm), wp_X8_digest_L6 Q K31 x1 x3 M → iR x3 → Xj p l e rm_X8_digest s m args below meth c D cy ad (Ar ad) (MQ below (QX D cy ad (rL Q)) args s 0 0 (Ar ad)) 5 0 0 6 [some (aR 8), some (aL x1), none, some (aI x3), none] [] M :=
  LP2.ind (P := fun x1 x3 M => iR x3 → Xj p l e rm_X8_digest s m args below meth c D cy ad (Ar ad) (MQ below (QX D cy ad (rL Q)) args s 0 0 (Ar ad)) 5 0 0 6 [some (aR 8), some (aL x1), none, some (aI x3), none] [] M) (fun R ih => by
    intro x1 x3 M h r3
    unfold bc_X8_digest_L6 at h
    refine x_iload_n C dX8_digest_6 rfl ?_
    refine x_bipush C dX8_digest_7 rfl ?_
    refine x_icmp_ge (tgt := 31) C r3 (by decide) dX8_digest_9 (by decide) (fun q1 => ?_) (fun q1 => ?_)
    · have h := h.1 q1
      refine x_mask [true, true, false, false, false] rfl ?_
      exact k31 _ _ h
    · have h := h.2 q1
      refine x_ldc2 (v := 31) C kc_RX8_168 rfl dX8_digest_12 ?_
      refine x_lload_n C dX8_digest_15 rfl ?_
      refine x_lmul C dX8_digest_16 ?_
      refine x_aload_n C dX8_digest_17 rfl ?_
      refine x_iload_n C dX8_digest_18 rfl ?_
      refine x_callV (vs := [aI x3]) C cv_RX8_170 ly_8 rfl (by decide) ⟨rfl, rfl, Nat.le_of_ble_eq_true rfl, Nat.le_of_ble_eq_true rfl⟩ ⟨Nat.zero_le _, Nat.zero_le _⟩ rfl rfl (Nat.le_of_ble_eq_true rfl) dX8_digest_19 (sd_X8_count l D cy ad x3 r3 M _ h) (fun _ M1 qz => ?_)
      obtain ⟨z1, rfl, rz1, h⟩ := qz
      refine x_i2l C rz1 dX8_digest_22 ?_
      refine x_ladd C dX8_digest_23 ?_
      refine x_lstore_n C dX8_digest_24 (Nat.le_of_ble_eq_true rfl) rfl ?_
      refine x_iinc C dX8_digest_25 rfl (Nat.le_of_ble_eq_true rfl) rfl ?_
      refine x_goto (tgt := 6) C dX8_digest_28 (by decide) ?_
      obtain ⟨o1, h⟩ := h
      exact ih _ _ _ h o1)
set_option maxRecDepth 100000 in
set_option maxHeartbeats 4000000 in
theorem lp_X8_digest_L44 {p : Program} {l : Launch} {e : Env} {s : State} {m : MethodId} {args : Array Value} {below : List Frame} {meth : Method} {c : Code} {D : va_G} {cy : Nat → ClassId} {ad : Nat → Int → Nat} (C : Cx p s m args meth c D cy ad (Ar ad) cX8_digest 5 RX8 (some .long)) (x3 : Int) (r3 : iR x3) (Q : Int → Mm → Prop) (K79 : Int → Mm → Prop) (k79 : ∀ (x1 : Int) (M : Mm), K79 x1 M → Xj p l e rm_X8_digest s m args below meth c D cy ad (Ar ad) (MQ below (QX D cy ad (rL Q)) args s 0 0 (Ar ad)) 5 0 0 79 [some (aR 8), some (aL x1), none, some (aI x3), none] [] M) : ∀ (x1 : Int) (x4 : Int) (M : Mm), wp_X8_digest_L44 x3 Q K79 x1 x4 M → iR x4 → Xj p l e rm_X8_digest s m args below meth c D cy ad (Ar ad) (MQ below (QX D cy ad (rL Q)) args s 0 0 (Ar ad)) 5 0 0 44 [some (aR 8), some (aL x1), none, some (aI x3), some (aI x4)] [] M :=
  LP2.ind (P := fun x1 x4 M => iR x4 → Xj p l e rm_X8_digest s m args below meth c D cy ad (Ar ad) (MQ below (QX D cy ad (rL Q)) args s 0 0 (Ar ad)) 5 0 0 44 [some (aR 8), some (aL x1), none, some (aI x3), some (aI x4)] [] M) (fun R ih => by
    intro x1 x4 M h r4
    unfold bc_X8_digest_L44 at h
    refine x_iload C dX8_digest_44 rfl ?_
    refine x_aload_n C dX8_digest_46 rfl ?_
    refine x_rng (fun hR1 => ?_)
    refine x_getI C gf_RX8_7 ly_8 rfl rfl (by decide) dX8_digest_47 ?_
    refine x_icmp_ge (tgt := 79) C r4 (ka_fI hR1 ly_8 rfl) dX8_digest_50 (by decide) (fun q1 => ?_) (fun q1 => ?_)
    · have h := h.1 q1
      refine x_mask [true, true, false, true, false] rfl ?_
      exact k79 _ _ h
    · have h := h.2 q1
      refine x_ldc2 (v := 31) C kc_RX8_168 rfl dX8_digest_53 ?_
      refine x_lload_n C dX8_digest_56 rfl ?_
      refine x_lmul C dX8_digest_57 ?_
      refine x_aload_n C dX8_digest_58 rfl ?_
      refine x_getR C gf_RX8_24 ly_8 rfl (by decide) dX8_digest_59 ?_
      refine x_bipush C dX8_digest_62 rfl ?_
      refine x_iload_n C dX8_digest_64 rfl ?_
      refine x_imul C dX8_digest_65 ?_
      refine x_iload C dX8_digest_66 rfl ?_
      refine x_iadd C dX8_digest_68 ?_
      obtain ⟨o1, h⟩ := h
      refine x_iald C ly_33 rfl (by decide) (by decide) o1 dX8_digest_69 ?_
      refine x_i2l C (ka_gI hR1 ly_33 _) dX8_digest_70 ?_
      refine x_ladd C dX8_digest_71 ?_
      refine x_lstore_n C dX8_digest_72 (Nat.le_of_ble_eq_true rfl) rfl ?_
      refine x_iinc C dX8_digest_73 rfl (Nat.le_of_ble_eq_true rfl) rfl ?_
      refine x_goto (tgt := 44) C dX8_digest_76 (by decide) ?_
      obtain ⟨o2, h⟩ := h
      exact ih _ _ _ h o2)
set_option maxRecDepth 100000 in
set_option maxHeartbeats 4000000 in
theorem lp_X8_digest_L33 {p : Program} {l : Launch} {e : Env} {s : State} {m : MethodId} {args : Array Value} {below : List Frame} {meth : Method} {c : Code} {D : va_G} {cy : Nat → ClassId} {ad : Nat → Int → Nat} (C : Cx p s m args meth c D cy ad (Ar ad) cX8_digest 5 RX8 (some .long)) (Q : Int → Mm → Prop) (K85 : Int → Mm → Prop) (k85 : ∀ (x1 : Int) (M : Mm), K85 x1 M → Xj p l e rm_X8_digest s m args below meth c D cy ad (Ar ad) (MQ below (QX D cy ad (rL Q)) args s 0 0 (Ar ad)) 5 0 0 85 [some (aR 8), some (aL x1), none, none, none] [] M) : ∀ (x1 : Int) (x3 : Int) (M : Mm), wp_X8_digest_L33 Q K85 x1 x3 M → iR x3 → Xj p l e rm_X8_digest s m args below meth c D cy ad (Ar ad) (MQ below (QX D cy ad (rL Q)) args s 0 0 (Ar ad)) 5 0 0 33 [some (aR 8), some (aL x1), none, some (aI x3), none] [] M :=
  LP2.ind (P := fun x1 x3 M => iR x3 → Xj p l e rm_X8_digest s m args below meth c D cy ad (Ar ad) (MQ below (QX D cy ad (rL Q)) args s 0 0 (Ar ad)) 5 0 0 33 [some (aR 8), some (aL x1), none, some (aI x3), none] [] M) (fun R ih => by
    intro x1 x3 M h r3
    unfold bc_X8_digest_L33 at h
    refine x_iload_n C dX8_digest_33 rfl ?_
    refine x_aload_n C dX8_digest_34 rfl ?_
    refine x_rng (fun hR1 => ?_)
    refine x_getI C gf_RX8_7 ly_8 rfl rfl (by decide) dX8_digest_35 ?_
    refine x_icmp_ge (tgt := 85) C r3 (ka_fI hR1 ly_8 rfl) dX8_digest_38 (by decide) (fun q1 => ?_) (fun q1 => ?_)
    · have h := h.1 q1
      refine x_mask [true, true, false, false, false] rfl ?_
      exact k85 _ _ h
    · have h := h.2 q1
      refine x_iconst C dX8_digest_41 ?_
      refine x_istore C dX8_digest_42 (Nat.le_of_ble_eq_true rfl) rfl ?_
      refine lp_X8_digest_L44 C x3 r3 Q _ (fun y1_1 M1 h => ?_) _ _ _ h (by decide)
      · refine x_iinc C dX8_digest_79 rfl (Nat.le_of_ble_eq_true rfl) rfl ?_
        refine x_goto (tgt := 33) C dX8_digest_82 (by decide) ?_
        obtain ⟨o1, h⟩ := h
        exact ih _ _ _ h o1)
set_option maxRecDepth 100000 in
set_option maxHeartbeats 4000000 in
theorem lp_X8_digest_L98 {p : Program} {l : Launch} {e : Env} {s : State} {m : MethodId} {args : Array Value} {below : List Frame} {meth : Method} {c : Code} {D : va_G} {cy : Nat → ClassId} {ad : Nat → Int → Nat} (C : Cx p s m args meth c D cy ad (Ar ad) cX8_digest 5 RX8 (some .long)) (x3 : Int) (r3 : iR x3) (Q : Int → Mm → Prop) (K128 : Int → Mm → Prop) (k128 : ∀ (x1 : Int) (M : Mm), K128 x1 M → Xj p l e rm_X8_digest s m args below meth c D cy ad (Ar ad) (MQ below (QX D cy ad (rL Q)) args s 0 0 (Ar ad)) 5 0 0 128 [some (aR 8), some (aL x1), none, some (aI x3), none] [] M) : ∀ (x1 : Int) (x4 : Int) (M : Mm), wp_X8_digest_L98 x3 Q K128 x1 x4 M → iR x4 → Xj p l e rm_X8_digest s m args below meth c D cy ad (Ar ad) (MQ below (QX D cy ad (rL Q)) args s 0 0 (Ar ad)) 5 0 0 98 [some (aR 8), some (aL x1), none, some (aI x3), some (aI x4)] [] M :=
  LP2.ind (P := fun x1 x4 M => iR x4 → Xj p l e rm_X8_digest s m args below meth c D cy ad (Ar ad) (MQ below (QX D cy ad (rL Q)) args s 0 0 (Ar ad)) 5 0 0 98 [some (aR 8), some (aL x1), none, some (aI x3), some (aI x4)] [] M) (fun R ih => by
    intro x1 x4 M h r4
    unfold bc_X8_digest_L98 at h
    refine x_iload C dX8_digest_98 rfl ?_
    refine x_aload_n C dX8_digest_100 rfl ?_
    refine x_rng (fun hR1 => ?_)
    refine x_getI C gf_RX8_80 ly_8 rfl rfl (by decide) dX8_digest_101 ?_
    refine x_icmp_ge (tgt := 128) C r4 (ka_fI hR1 ly_8 rfl) dX8_digest_104 (by decide) (fun q1 => ?_) (fun q1 => ?_)
    · have h := h.1 q1
      refine x_mask [true, true, false, true, false] rfl ?_
      exact k128 _ _ h
    · have h := h.2 q1
      refine x_ldc2 (v := 31) C kc_RX8_168 rfl dX8_digest_107 ?_
      refine x_lload_n C dX8_digest_110 rfl ?_
      refine x_lmul C dX8_digest_111 ?_
      refine x_aload_n C dX8_digest_112 rfl ?_
      refine x_iload_n C dX8_digest_113 rfl ?_
      refine x_iload C dX8_digest_114 rfl ?_
      refine x_callV (vs := [aI x3, aI x4]) C cv_RX8_107 ly_8 rfl (by decide) ⟨rfl, rfl, Nat.le_of_ble_eq_true rfl, Nat.le_of_ble_eq_true rfl⟩ ⟨Nat.zero_le _, Nat.zero_le _⟩ rfl rfl (Nat.le_of_ble_eq_true rfl) dX8_digest_116 (sd_X8_costOf l D cy ad x3 x4 r3 r4 M _ h) (fun _ M1 qz => ?_)
      obtain ⟨z1, rfl, rz1, h⟩ := qz
      refine x_i2l C rz1 dX8_digest_119 ?_
      refine x_ladd C dX8_digest_120 ?_
      refine x_lstore_n C dX8_digest_121 (Nat.le_of_ble_eq_true rfl) rfl ?_
      refine x_iinc C dX8_digest_122 rfl (Nat.le_of_ble_eq_true rfl) rfl ?_
      refine x_goto (tgt := 98) C dX8_digest_125 (by decide) ?_
      obtain ⟨o1, h⟩ := h
      exact ih _ _ _ h o1)
set_option maxRecDepth 100000 in
set_option maxHeartbeats 4000000 in
theorem lp_X8_digest_L87 {p : Program} {l : Launch} {e : Env} {s : State} {m : MethodId} {args : Array Value} {below : List Frame} {meth : Method} {c : Code} {D : va_G} {cy : Nat → ClassId} {ad : Nat → Int → Nat} (C : Cx p s m args meth c D cy ad (Ar ad) cX8_digest 5 RX8 (some .long)) (Q : Int → Mm → Prop) (K134 : Int → Mm → Prop) (k134 : ∀ (x1 : Int) (M : Mm), K134 x1 M → Xj p l e rm_X8_digest s m args below meth c D cy ad (Ar ad) (MQ below (QX D cy ad (rL Q)) args s 0 0 (Ar ad)) 5 0 0 134 [some (aR 8), some (aL x1), none, none, none] [] M) : ∀ (x1 : Int) (x3 : Int) (M : Mm), wp_X8_digest_L87 Q K134 x1 x3 M → iR x3 → Xj p l e rm_X8_digest s m args below meth c D cy ad (Ar ad) (MQ below (QX D cy ad (rL Q)) args s 0 0 (Ar ad)) 5 0 0 87 [some (aR 8), some (aL x1), none, some (aI x3), none] [] M :=
  LP2.ind (P := fun x1 x3 M => iR x3 → Xj p l e rm_X8_digest s m args below meth c D cy ad (Ar ad) (MQ below (QX D cy ad (rL Q)) args s 0 0 (Ar ad)) 5 0 0 87 [some (aR 8), some (aL x1), none, some (aI x3), none] [] M) (fun R ih => by
    intro x1 x3 M h r3
    unfold bc_X8_digest_L87 at h
    refine x_iload_n C dX8_digest_87 rfl ?_
    refine x_aload_n C dX8_digest_88 rfl ?_
    refine x_rng (fun hR1 => ?_)
    refine x_getI C gf_RX8_80 ly_8 rfl rfl (by decide) dX8_digest_89 ?_
    refine x_icmp_ge (tgt := 134) C r3 (ka_fI hR1 ly_8 rfl) dX8_digest_92 (by decide) (fun q1 => ?_) (fun q1 => ?_)
    · have h := h.1 q1
      refine x_mask [true, true, false, false, false] rfl ?_
      exact k134 _ _ h
    · have h := h.2 q1
      refine x_iconst C dX8_digest_95 ?_
      refine x_istore C dX8_digest_96 (Nat.le_of_ble_eq_true rfl) rfl ?_
      refine lp_X8_digest_L98 C x3 r3 Q _ (fun y1_1 M1 h => ?_) _ _ _ h (by decide)
      · refine x_iinc C dX8_digest_128 rfl (Nat.le_of_ble_eq_true rfl) rfl ?_
        refine x_goto (tgt := 87) C dX8_digest_131 (by decide) ?_
        obtain ⟨o1, h⟩ := h
        exact ih _ _ _ h o1)
set_option maxRecDepth 100000 in
set_option maxHeartbeats 4000000 in
theorem lp_X8_digest_L136 {p : Program} {l : Launch} {e : Env} {s : State} {m : MethodId} {args : Array Value} {below : List Frame} {meth : Method} {c : Code} {D : va_G} {cy : Nat → ClassId} {ad : Nat → Int → Nat} (C : Cx p s m args meth c D cy ad (Ar ad) cX8_digest 5 RX8 (some .long)) (Q : Int → Mm → Prop) : ∀ (x1 : Int) (x3 : Int) (M : Mm), wp_X8_digest_L136 Q x1 x3 M → iR x3 → Xj p l e rm_X8_digest s m args below meth c D cy ad (Ar ad) (MQ below (QX D cy ad (rL Q)) args s 0 0 (Ar ad)) 5 0 0 136 [some (aR 8), some (aL x1), none, some (aI x3), none] [] M :=
  LP2.ind (P := fun x1 x3 M => iR x3 → Xj p l e rm_X8_digest s m args below meth c D cy ad (Ar ad) (MQ below (QX D cy ad (rL Q)) args s 0 0 (Ar ad)) 5 0 0 136 [some (aR 8), some (aL x1), none, some (aI x3), none] [] M) (fun R ih => by
    intro x1 x3 M h r3
    unfold bc_X8_digest_L136 at h
    refine x_iload_n C dX8_digest_136 rfl ?_
    refine x_aload_n C dX8_digest_137 rfl ?_
    refine x_rng (fun hR1 => ?_)
    refine x_getI C gf_RX8_7 ly_8 rfl rfl (by decide) dX8_digest_138 ?_
    refine x_icmp_ge (tgt := 171) C r3 (ka_fI hR1 ly_8 rfl) dX8_digest_141 (by decide) (fun q1 => ?_) (fun q1 => ?_)
    · have h := h.1 q1
      refine x_ldc2 (v := 31) C kc_RX8_168 rfl dX8_digest_171 ?_
      refine x_lload_n C dX8_digest_174 rfl ?_
      refine x_lmul C dX8_digest_175 ?_
      refine x_aload_n C dX8_digest_176 rfl ?_
      refine x_callV (vs := []) C cv_RX8_173 ly_8 rfl (by decide) ⟨rfl, rfl, Nat.le_of_ble_eq_true rfl, Nat.le_of_ble_eq_true rfl⟩ ⟨Nat.zero_le _, Nat.zero_le _⟩ rfl rfl (Nat.le_of_ble_eq_true rfl) dX8_digest_177 (sd_X8_least l D cy ad M _ h) (fun _ M1 qz => ?_)
      obtain ⟨z1, rfl, h⟩ := qz
      refine x_ladd C dX8_digest_180 ?_
      exact x_lret C h dX8_digest_181
    · have h := h.2 q1
      refine x_aload_n C dX8_digest_144 rfl ?_
      refine x_getZ C gf_RX8_83 ly_8 rfl rfl (by decide) dX8_digest_145 ?_
      refine x_if_eq (tgt := 171) C (ka_bi (ka_fZ hR1 ly_8 rfl)) dX8_digest_148 (by decide) (fun q2 => ?_) (fun q2 => ?_)
      · have h := h.1 q2
        refine x_ldc2 (v := 31) C kc_RX8_168 rfl dX8_digest_171 ?_
        refine x_lload_n C dX8_digest_174 rfl ?_
        refine x_lmul C dX8_digest_175 ?_
        refine x_aload_n C dX8_digest_176 rfl ?_
        refine x_callV (vs := []) C cv_RX8_173 ly_8 rfl (by decide) ⟨rfl, rfl, Nat.le_of_ble_eq_true rfl, Nat.le_of_ble_eq_true rfl⟩ ⟨Nat.zero_le _, Nat.zero_le _⟩ rfl rfl (Nat.le_of_ble_eq_true rfl) dX8_digest_177 (sd_X8_least l D cy ad M _ h) (fun _ M2 qz => ?_)
        obtain ⟨z2, rfl, h⟩ := qz
        refine x_ladd C dX8_digest_180 ?_
        exact x_lret C h dX8_digest_181
      · have h := h.2 q2
        refine x_ldc2 (v := 31) C kc_RX8_168 rfl dX8_digest_151 ?_
        refine x_lload_n C dX8_digest_154 rfl ?_
        refine x_lmul C dX8_digest_155 ?_
        refine x_aload_n C dX8_digest_156 rfl ?_
        refine x_getR C gf_RX8_39 ly_8 rfl (by decide) dX8_digest_157 ?_
        refine x_iload_n C dX8_digest_160 rfl ?_
        obtain ⟨o1, h⟩ := h
        refine x_iald C ly_38 rfl (by decide) (by decide) o1 dX8_digest_161 ?_
        refine x_i2l C (ka_gI hR1 ly_38 _) dX8_digest_162 ?_
        refine x_ladd C dX8_digest_163 ?_
        refine x_lstore_n C dX8_digest_164 (Nat.le_of_ble_eq_true rfl) rfl ?_
        refine x_iinc C dX8_digest_165 rfl (Nat.le_of_ble_eq_true rfl) rfl ?_
        refine x_goto (tgt := 136) C dX8_digest_168 (by decide) ?_
        obtain ⟨o2, h⟩ := h
        exact ih _ _ _ h o2)
set_option maxRecDepth 100000 in
set_option maxHeartbeats 4000000 in
theorem sd_X8_digest (l : Launch) (D : va_G) (cy : Nat → ClassId) (ad : Nat → Int → Nat) (M : Mm) (Q : Int → Mm → Prop) (h : wp_X8_digest M Q) : Ct l D cy ad yX8_digest cX8_digest 5 (some .long) rm_X8_digest [aR 8] M (rL Q) := by
  refine ct_of (z := 4) (ls := [some (aR 8), none, none, none, none]) (by decide) rfl (Nat.le_of_ble_eq_true rfl) ?_
  intro p e s m args below meth c C
  have C : Cx p s m args meth c D cy ad (Ar ad) cX8_digest 5 RX8 (some .long) := C
  unfold wp_X8_digest at h
  refine x_ldc2 (v := 59) C kc_RX8_166 rfl dX8_digest_0 ?_
  refine x_lstore_n C dX8_digest_3 (Nat.le_of_ble_eq_true rfl) rfl ?_
  refine x_iconst C dX8_digest_4 ?_
  refine x_istore_n C dX8_digest_5 (Nat.le_of_ble_eq_true rfl) rfl ?_
  refine lp_X8_digest_L6 C Q _ (fun y1_1 M1 h => ?_) _ _ _ h (by decide)
  · refine x_iconst C dX8_digest_31 ?_
    refine x_istore_n C dX8_digest_32 (Nat.le_of_ble_eq_true rfl) rfl ?_
    refine lp_X8_digest_L33 C Q _ (fun y1_2 M2 h => ?_) _ _ _ h (by decide)
    · refine x_iconst C dX8_digest_85 ?_
      refine x_istore_n C dX8_digest_86 (Nat.le_of_ble_eq_true rfl) rfl ?_
      refine lp_X8_digest_L87 C Q _ (fun y1_3 M3 h => ?_) _ _ _ h (by decide)
      · refine x_iconst C dX8_digest_134 ?_
        refine x_istore_n C dX8_digest_135 (Nat.le_of_ble_eq_true rfl) rfl ?_
        refine lp_X8_digest_L136 C Q _ _ _ h (by decide)
