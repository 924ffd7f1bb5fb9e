set_option maxRecDepth 100000 in
set_option maxHeartbeats 4000000 in
theorem lp_X8_take_L12 {p : Program} {l : Launch} {e : Env} {s : State} {m : MethodId} {args : Array Value} {below : List Frame} {meth : Method} {c : Code} {D : va_G} {cy : Nat → ClassId} {ad : Nat → Int → Nat} (C : Cx p s m args meth c D cy ad (Ar ad) cX8_take 2 RX8 (some .int)) (Q : Int → Mm → Prop) : ∀ (x1 : Int) (M : Mm), wp_X8_take_L12 Q x1 M → iR x1 → Xj p l e rm_X8_take s m args below meth c D cy ad (Ar ad) (MQ below (QX D cy ad (rI Q)) args s 0 0 (Ar ad)) 2 0 0 12 [some (aR 8), some (aI x1)] [] M :=
  LP1.ind (P := fun x1 M => iR x1 → Xj p l e rm_X8_take s m args below meth c D cy ad (Ar ad) (MQ below (QX D cy ad (rI Q)) args s 0 0 (Ar ad)) 2 0 0 12 [some (aR 8), some (aI x1)] [] M) (fun R ih => by
    intro x1 M h r1
    unfold bc_X8_take_L12 at h
    refine x_iload_n C dX8_take_12 rfl ?_
    refine x_aload_n C dX8_take_13 rfl ?_
    refine x_rng (fun hR1 => ?_)
    refine x_getI C gf_RX8_7 ly_8 rfl rfl (by decide) dX8_take_14 ?_
    refine x_icmp_ge (tgt := 38) C r1 (ka_fI hR1 ly_8 rfl) dX8_take_17 (by decide) (fun q1 => ?_) (fun q1 => ?_)
    · have h := h.1 q1
      refine x_aload_n C dX8_take_38 rfl ?_
      refine x_iconst C dX8_take_39 ?_
      refine x_putZ C pf_RX8_83 ly_8 rfl rfl (by decide) (by decide) dX8_take_40 ?_
      refine x_iconst C dX8_take_43 ?_
      exact x_iret C (by decide) h dX8_take_44
    · have h := h.2 q1
      refine x_aload_n C dX8_take_20 rfl ?_
      refine x_getR C gf_RX8_39 ly_8 rfl (by decide) dX8_take_21 ?_
      refine x_iload_n C dX8_take_24 rfl ?_
      refine x_aload_n C dX8_take_25 rfl ?_
      refine x_getR C gf_RX8_42 ly_8 rfl (by decide) dX8_take_26 ?_
      refine x_iload_n C dX8_take_29 rfl ?_
      obtain ⟨o1, h⟩ := h
      refine x_iald C ly_39 rfl (by decide) (by decide) o1 dX8_take_30 ?_
      obtain ⟨o2, h⟩ := h
      refine x_iast C ly_38 rfl (by decide) (by decide) o2 (ka_gI hR1 ly_39 _) dX8_take_31 ?_
      refine x_iinc C dX8_take_32 rfl (Nat.le_of_ble_eq_true rfl) rfl ?_
      refine x_goto (tgt := 12) C dX8_take_35 (by decide) ?_
      obtain ⟨o3, h⟩ := h
      exact ih _ _ h o3)
set_option maxRecDepth 100000 in
set_option maxHeartbeats 4000000 in
theorem sd_X8_take (l : Launch) (D : va_G) (cy : Nat → ClassId) (ad : Nat → Int → Nat) (M : Mm) (Q : Int → Mm → Prop) (h : wp_X8_take M Q) : Ct l D cy ad yX8_take cX8_take 2 (some .int) rm_X8_take [aR 8] M (rI Q) := by
  refine ct_of (z := 1) (ls := [some (aR 8), none]) (by decide) rfl (Nat.le_of_ble_eq_true rfl) ?_
  intro p e s m args below meth c C
  have C : Cx p s m args meth c D cy ad (Ar ad) cX8_take 2 RX8 (some .int) := C
  unfold wp_X8_take at h
  refine x_aload_n C dX8_take_0 rfl ?_
  refine x_rng (fun hR1 => ?_)
  refine x_getZ C gf_RX8_87 ly_8 rfl rfl (by decide) dX8_take_1 ?_
  refine x_if_ne (tgt := 10) C (ka_bi (ka_fZ hR1 ly_8 rfl)) dX8_take_4 (by decide) (fun q1 => ?_) (fun q1 => ?_)
  · have h := h.1 q1
    refine x_iconst C dX8_take_10 ?_
    refine x_istore_n C dX8_take_11 (Nat.le_of_ble_eq_true rfl) rfl ?_
    refine lp_X8_take_L12 C Q _ _ h (by decide)
  · have h := h.2 q1
    refine x_bipush C dX8_take_7 rfl ?_
    exact x_iret C (by decide) h dX8_take_9
set_option maxRecDepth 100000 in
set_option maxHeartbeats 4000000 in
theorem sd_X7_tries (l : Launch) (D : va_G) (cy : Nat → ClassId) (ad : Nat → Int → Nat) (M : Mm) (Q : Int → Mm → Prop) (h : wp_X7_tries M Q) : Ct l D cy ad yX7_tries cX7_tries 1 (some .int) rm_X7_tries [aR 0] M (rI Q) := by
  refine ct_of (z := 0) (ls := [some (aR 0)]) (by decide) rfl (Nat.le_of_ble_eq_true rfl) ?_
  intro p e s m args below meth c C
  have C : Cx p s m args meth c D cy ad (Ar ad) cX7_tries 1 RX7 (some .int) := C
  unfold wp_X7_tries at h
  refine x_aload_n C dX7_tries_0 rfl ?_
  refine x_getR C gf_RX7_46 ly_0 rfl (by decide) dX7_tries_1 ?_
  refine x_rng (fun hR1 => ?_)
  refine x_getI C gf_RX7_190 ly_5 rfl rfl (by decide) dX7_tries_4 ?_
  exact x_iret C (ka_fI hR1 ly_5 rfl) h dX7_tries_7
set_option maxRecDepth 100000 in
set_option maxHeartbeats 4000000 in
theorem sd_X8_tries (l : Launch) (D : va_G) (cy : Nat → ClassId) (ad : Nat → Int → Nat) (M : Mm) (Q : Int → Mm → Prop) (h : wp_X8_tries M Q) : Ct l D cy ad yX8_tries cX8_tries 1 (some .int) rm_X8_tries [aR 8] M (rI Q) := by
  refine ct_of (z := 0) (ls := [some (aR 8)]) (by decide) rfl (Nat.le_of_ble_eq_true rfl) ?_
  intro p e s m args below meth c C
  have C : Cx p s m args meth c D cy ad (Ar ad) cX8_tries 1 RX8 (some .int) := C
  unfold wp_X8_tries at h
  refine x_aload_n C dX8_tries_0 rfl ?_
  refine x_rng (fun hR1 => ?_)
  refine x_getI C gf_RX8_138 ly_8 rfl rfl (by decide) dX8_tries_1 ?_
  exact x_iret C (ka_fI hR1 ly_8 rfl) h dX8_tries_4
set_option maxRecDepth 100000 in
set_option maxHeartbeats 4000000 in
theorem lp_J7_fill_d0a16_c26_L6 {p : Program} {l : Launch} {e : Env} {s : State} {m : MethodId} {args : Array Value} {below : List Frame} {meth : Method} {c : Code} {D : va_G} {cy : Nat → ClassId} {ad : Nat → Int → Nat} (C : Cx p s m args meth c D cy ad (Ar ad) cJ7_fill_d0a16 5 RJ7 none) (x1 : Int) (x4 : Int) (r4 : iR x4) (Q : Mm → Prop) : ∀ (x3 : Int) (M : Mm), wp_J7_fill_d0a16_c26_L6 x1 x4 Q x3 M → iR x3 → Xj p l e rm_J7_fill_d0a16_c26 s m args below meth c D cy ad (Ar ad) (MQ below (QX D cy ad (rV Q)) args s 0 0 (Ar ad)) 5 0 0 6 [some (aR 26), some (aL x1), none, some (aI x3), some (aI x4)] [] M :=
  LP1.ind (P := fun x3 M => iR x3 → Xj p l e rm_J7_fill_d0a16_c26 s m args below meth c D cy ad (Ar ad) (MQ below (QX D cy ad (rV Q)) args s 0 0 (Ar ad)) 5 0 0 6 [some (aR 26), some (aL x1), none, some (aI x3), some (aI x4)] [] M) (fun R ih => by
    intro x3 M h r3
    unfold bc_J7_fill_d0a16_c26_L6 at h
    refine x_iload_n C dJ7_fill_d0a16_6 rfl ?_
    refine x_iload C dJ7_fill_d0a16_7 rfl ?_
    refine x_icmp_ge (tgt := 22) C r3 r4 dJ7_fill_d0a16_9 (by decide) (fun q1 => ?_) (fun q1 => ?_)
    · have h := h.1 q1
      exact x_vret C h dJ7_fill_d0a16_22
    · have h := h.2 q1
      refine x_aload_n C dJ7_fill_d0a16_12 rfl ?_
      refine x_iload_n C dJ7_fill_d0a16_13 rfl ?_
      refine x_lload_n C dJ7_fill_d0a16_14 rfl ?_
      obtain ⟨o1, h⟩ := h
      obtain ⟨o2, h⟩ := h
      refine x_last C ly_26 rfl (by decide) (by decide) o2 o1 dJ7_fill_d0a16_15 ?_
      refine x_iinc C dJ7_fill_d0a16_16 rfl (Nat.le_of_ble_eq_true rfl) rfl ?_
      refine x_goto (tgt := 6) C dJ7_fill_d0a16_19 (by decide) ?_
      obtain ⟨o3, h⟩ := h
      exact ih _ _ h o3)
set_option maxRecDepth 100000 in
set_option maxHeartbeats 4000000 in
theorem sd_J7_fill_d0a16_c26 (l : Launch) (D : va_G) (cy : Nat → ClassId) (ad : Nat → Int → Nat) (x1 : Int) (M : Mm) (Q : Mm → Prop) (h : wp_J7_fill_d0a16_c26 x1 M Q) : Ct l D cy ad yJ7_fill_d0a16 cJ7_fill_d0a16 5 none rm_J7_fill_d0a16_c26 [aR 26, aL x1] M (rV Q) := by
  refine ct_of (z := 2) (ls := [some (aR 26), some (aL x1), none, none, none]) (by decide) rfl (Nat.le_of_ble_eq_true rfl) ?_
  intro p e s m args below meth c C
  have C : Cx p s m args meth c D cy ad (Ar ad) cJ7_fill_d0a16 5 RJ7 none := C
  unfold wp_J7_fill_d0a16_c26 at h
  refine x_iconst C dJ7_fill_d0a16_0 ?_
  refine x_istore_n C dJ7_fill_d0a16_1 (Nat.le_of_ble_eq_true rfl) rfl ?_
  refine x_aload_n C dJ7_fill_d0a16_2 rfl ?_
  refine x_alenL C ly_26 rfl (by decide) dJ7_fill_d0a16_3 ?_
  refine x_istore C dJ7_fill_d0a16_4 (Nat.le_of_ble_eq_true rfl) rfl ?_
  refine lp_J7_fill_d0a16_c26_L6 C x1 1024 (by decide) Q _ _ h (by decide)
set_option maxRecDepth 100000 in
set_option maxHeartbeats 4000000 in
theorem lp_X0_insert_c23_L2 {p : Program} {l : Launch} {e : Env} {s : State} {m : MethodId} {args : Array Value} {below : List Frame} {meth : Method} {c : Code} {D : va_G} {cy : Nat → ClassId} {ad : Nat → Int → Nat} (C : Cx p s m args meth c D cy ad (Ar ad) cX0_insert 4 RX0 none) (x2 : Int) (r2 : iR x2) (Q : Mm → Prop) : ∀ (x3 : Int) (M : Mm), wp_X0_insert_c23_L2 x2 Q x3 M → iR x3 → Xj p l e rm_X0_insert_c23 s m args below meth c D cy ad (Ar ad) (MQ below (QX D cy ad (rV Q)) args s 0 0 (Ar ad)) 4 0 0 2 [some (aR 23), none, some (aI x2), some (aI x3)] [] M :=
  LP1.ind (P := fun x3 M => iR x3 → Xj p l e rm_X0_insert_c23 s m args below meth c D cy ad (Ar ad) (MQ below (QX D cy ad (rV Q)) args s 0 0 (Ar ad)) 4 0 0 2 [some (aR 23), none, some (aI x2), some (aI x3)] [] M) (fun R ih => by
    intro x3 M h r3
    unfold bc_X0_insert_c23_L2 at h
    refine x_iload_n C dX0_insert_2 rfl ?_
    refine x_if_le (tgt := 29) C r3 dX0_insert_3 (by decide) (fun q1 => ?_) (fun q1 => ?_)
    · have h := h.1 q1
      refine x_aload_n C dX0_insert_29 rfl ?_
      refine x_iload_n C dX0_insert_30 rfl ?_
      refine x_iload_n C dX0_insert_31 rfl ?_
      obtain ⟨o1, h⟩ := h
      refine x_iast C ly_23 rfl (by decide) (by decide) o1 r2 dX0_insert_32 ?_
      exact x_vret C h dX0_insert_33
    · have h := h.2 q1
      refine x_aload_n C dX0_insert_6 rfl ?_
      refine x_iload_n C dX0_insert_7 rfl ?_
      refine x_iconst C dX0_insert_8 ?_
      refine x_isub C dX0_insert_9 ?_
      obtain ⟨o2, h⟩ := h
      refine x_rng (fun hR1 => ?_)
      refine x_iald C ly_23 rfl (by decide) (by decide) o2 dX0_insert_10 ?_
      refine x_iload_n C dX0_insert_11 rfl ?_
      refine x_icmp_le (tgt := 29) C (ka_gI hR1 ly_23 _) r2 dX0_insert_12 (by decide) (fun q2 => ?_) (fun q2 => ?_)
      · have h := h.1 q2
        refine x_aload_n C dX0_insert_29 rfl ?_
        refine x_iload_n C dX0_insert_30 rfl ?_
        refine x_iload_n C dX0_insert_31 rfl ?_
        obtain ⟨o3, h⟩ := h
        refine x_iast C ly_23 rfl (by decide) (by decide) o3 r2 dX0_insert_32 ?_
        exact x_vret C h dX0_insert_33
      · have h := h.2 q2
        refine x_aload_n C dX0_insert_15 rfl ?_
        refine x_iload_n C dX0_insert_16 rfl ?_
        refine x_aload_n C dX0_insert_17 rfl ?_
        refine x_iload_n C dX0_insert_18 rfl ?_
        refine x_iconst C dX0_insert_19 ?_
        refine x_isub C dX0_insert_20 ?_
        obtain ⟨o4, h⟩ := h
        refine x_iald C ly_23 rfl (by decide) (by decide) o4 dX0_insert_21 ?_
        obtain ⟨o5, h⟩ := h
        refine x_iast C ly_23 rfl (by decide) (by decide) o5 (ka_gI hR1 ly_23 _) dX0_insert_22 ?_
        refine x_iinc C dX0_insert_23 rfl (Nat.le_of_ble_eq_true rfl) rfl ?_
        refine x_goto (tgt := 2) C dX0_insert_26 (by decide) ?_
        obtain ⟨o6, h⟩ := h
        exact ih _ _ h o6)
set_option maxRecDepth 100000 in
set_option maxHeartbeats 4000000 in
theorem sd_X0_insert_c23 (l : Launch) (D : va_G) (cy : Nat → ClassId) (ad : Nat → Int → Nat) (x1 : Int) (x2 : Int) (r1 : iR x1) (r2 : iR x2) (M : Mm) (Q : Mm → Prop) (h : wp_X0_insert_c23 x1 x2 M Q) : Ct l D cy ad yX0_insert cX0_insert 4 none rm_X0_insert_c23 [aR 23, aI x1, aI x2] M (rV Q) := by
  refine ct_of (z := 1) (ls := [some (aR 23), some (aI x1), some (aI x2), none]) (by decide) rfl (Nat.le_of_ble_eq_true rfl) ?_
  intro p e s m args below meth c C
  have C : Cx p s m args meth c D cy ad (Ar ad) cX0_insert 4 RX0 none := C
  unfold wp_X0_insert_c23 at h
  refine x_iload_n C dX0_insert_0 rfl ?_
  refine x_istore_n C dX0_insert_1 (Nat.le_of_ble_eq_true rfl) rfl ?_
  refine x_mask [true, false, true, true] rfl ?_
  refine lp_X0_insert_c23_L2 C x2 r2 Q _ _ h r1
set_option maxRecDepth 100000 in
set_option maxHeartbeats 4000000 in
theorem lp_X0_gatherOftens_L4 {p : Program} {l : Launch} {e : Env} {s : State} {m : MethodId} {args : Array Value} {below : List Frame} {meth : Method} {c : Code} {D : va_G} {cy : Nat → ClassId} {ad : Nat → Int → Nat} (C : Cx p s m args meth c D cy ad (Ar ad) cX0_gatherOftens 4 RX0 (some .int)) (x1 : Int) (r1 : iR x1) (Q : Int → Mm → Prop) : ∀ (x2 : Int) (x3 : Int) (M : Mm), wp_X0_gatherOftens_L4 x1 Q x2 x3 M → iR x2 → iR x3 → Xj p l e rm_X0_gatherOftens s m args below meth c D cy ad (Ar ad) (MQ below (QX D cy ad (rI Q)) args s 0 0 (Ar ad)) 4 0 0 4 [some (aR 6), some (aI x1), some (aI x2), some (aI x3)] [] M :=
  LP2.ind (P := fun x2 x3 M => iR x2 → iR x3 → Xj p l e rm_X0_gatherOftens s m args below meth c D cy ad (Ar ad) (MQ below (QX D cy ad (rI Q)) args s 0 0 (Ar ad)) 4 0 0 4 [some (aR 6), some (aI x1), some (aI x2), some (aI x3)] [] M) (fun R ih => by
    intro x2 x3 M h r2 r3
    unfold bc_X0_gatherOftens_L4 at h
    refine x_iload_n C dX0_gatherOftens_4 rfl ?_
    refine x_aload_n C dX0_gatherOftens_5 rfl ?_
    refine x_getR C gf_RX0_25 ly_6 rfl (by decide) dX0_gatherOftens_6 ?_
    refine x_rng (fun hR1 => ?_)
    refine x_getI C gf_RX0_44 ly_1 rfl rfl (by decide) dX0_gatherOftens_9 ?_
    refine x_icmp_ge (tgt := 45) C r3 (ka_fI hR1 ly_1 rfl) dX0_gatherOftens_12 (by decide) (fun q1 => ?_) (fun q1 => ?_)
    · have h := h.1 q1
      refine x_iload_n C dX0_gatherOftens_45 rfl ?_
      exact x_iret C r2 h dX0_gatherOftens_46
    · have h := h.2 q1
      refine x_iload_n C dX0_gatherOftens_15 rfl ?_
      refine x_iload_n C dX0_gatherOftens_16 rfl ?_
      refine x_icmp_eq (tgt := 39) C r3 r1 dX0_gatherOftens_17 (by decide) (fun q2 => ?_) (fun q2 => ?_)
      · have h := h.1 q2
        refine x_iinc C dX0_gatherOftens_39 rfl (Nat.le_of_ble_eq_true rfl) rfl ?_
        refine x_goto (tgt := 4) C dX0_gatherOftens_42 (by decide) ?_
        obtain ⟨o1, h⟩ := h
        exact ih _ _ _ h r2 o1
      · have h := h.2 q2
        refine x_aload_n C dX0_gatherOftens_20 rfl ?_
        refine x_getR C gf_RX0_9 ly_6 rfl (by decide) dX0_gatherOftens_21 ?_
        refine x_iload_n C dX0_gatherOftens_24 rfl ?_
        refine x_aload_n C dX0_gatherOftens_25 rfl ?_
        refine x_getR C gf_RX0_33 ly_6 rfl (by decide) dX0_gatherOftens_26 ?_
        refine x_iload_n C dX0_gatherOftens_29 rfl ?_
        obtain ⟨o2, h⟩ := h
        refine x_aald C ly_13 rfl (by decide) (by decide) o2 dX0_gatherOftens_30 ?_
        refine x_iload_n C dX0_gatherOftens_31 rfl ?_
        obtain ⟨o3, h⟩ := h
        refine x_iald2 C ly_13 rfl (by decide) (by decide) rfl o2 o3 dX0_gatherOftens_32 ?_
        refine x_callS (vs := [aR 23, aI x2, aI (M 13 (10 * x1 + x3))]) C cv_RX0_50 ⟨rfl, rfl, Nat.le_of_ble_eq_true rfl, Nat.le_of_ble_eq_true rfl⟩ ⟨Nat.zero_le _, Nat.zero_le _⟩ rfl rfl (Nat.le_of_ble_eq_true rfl) dX0_gatherOftens_33 (sd_X0_insert_c23 l D cy ad x2 (M 13 (10 * x1 + x3)) r2 (ka_gI hR1 ly_13 _) M _ h) (fun _ M1 qz => ?_)
        obtain ⟨rfl, h⟩ := qz
        refine x_iinc C dX0_gatherOftens_36 rfl (Nat.le_of_ble_eq_true rfl) rfl ?_
        refine x_iinc C dX0_gatherOftens_39 rfl (Nat.le_of_ble_eq_true rfl) rfl ?_
        refine x_goto (tgt := 4) C dX0_gatherOftens_42 (by decide) ?_
        obtain ⟨o4, h⟩ := h
        obtain ⟨o5, h⟩ := h
        exact ih _ _ _ h o4 o5)
set_option maxRecDepth 100000 in
set_option maxHeartbeats 4000000 in
theorem sd_X0_gatherOftens (l : Launch) (D : va_G) (cy : Nat → ClassId) (ad : Nat → Int → Nat) (x1 : Int) (r1 : iR x1) (M : Mm) (Q : Int → Mm → Prop) (h : wp_X0_gatherOftens x1 M Q) : Ct l D cy ad yX0_gatherOftens cX0_gatherOftens 4 (some .int) rm_X0_gatherOftens [aR 6, aI x1] M (rI Q) := by
  refine ct_of (z := 2) (ls := [some (aR 6), some (aI x1), none, none]) (by decide) rfl (Nat.le_of_ble_eq_true rfl) ?_
  intro p e s m args below meth c C
  have C : Cx p s m args meth c D cy ad (Ar ad) cX0_gatherOftens 4 RX0 (some .int) := C
  unfold wp_X0_gatherOftens at h
  refine x_iconst C dX0_gatherOftens_0 ?_
  refine x_istore_n C dX0_gatherOftens_1 (Nat.le_of_ble_eq_true rfl) rfl ?_
  refine x_iconst C dX0_gatherOftens_2 ?_
  refine x_istore_n C dX0_gatherOftens_3 (Nat.le_of_ble_eq_true rfl) rfl ?_
  refine lp_X0_gatherOftens_L4 C x1 r1 Q _ _ _ h (by decide) (by decide)
set_option maxRecDepth 100000 in
set_option maxHeartbeats 4000000 in
theorem lp_X0_insert_c24_L2 {p : Program} {l : Launch} {e : Env} {s : State} {m : MethodId} {args : Array Value} {below : List Frame} {meth : Method} {c : Code} {D : va_G} {cy : Nat → ClassId} {ad : Nat → Int → Nat} (C : Cx p s m args meth c D cy ad (Ar ad) cX0_insert 4 RX0 none) (x2 : Int) (r2 : iR x2) (Q : Mm → Prop) : ∀ (x3 : Int) (M : Mm), wp_X0_insert_c24_L2 x2 Q x3 M → iR x3 → Xj p l e rm_X0_insert_c24 s m args below meth c D cy ad (Ar ad) (MQ below (QX D cy ad (rV Q)) args s 0 0 (Ar ad)) 4 0 0 2 [some (aR 24), none, some (aI x2), some (aI x3)] [] M :=
  LP1.ind (P := fun x3 M => iR x3 → Xj p l e rm_X0_insert_c24 s m args below meth c D cy ad (Ar ad) (MQ below (QX D cy ad (rV Q)) args s 0 0 (Ar ad)) 4 0 0 2 [some (aR 24), none, some (aI x2), some (aI x3)] [] M) (fun R ih => by
    intro x3 M h r3
    unfold bc_X0_insert_c24_L2 at h
    refine x_iload_n C dX0_insert_2 rfl ?_
    refine x_if_le (tgt := 29) C r3 dX0_insert_3 (by decide) (fun q1 => ?_) (fun q1 => ?_)
    · have h := h.1 q1
      refine x_aload_n C dX0_insert_29 rfl ?_
      refine x_iload_n C dX0_insert_30 rfl ?_
      refine x_iload_n C dX0_insert_31 rfl ?_
      obtain ⟨o1, h⟩ := h
      refine x_iast C ly_24 rfl (by decide) (by decide) o1 r2 dX0_insert_32 ?_
      exact x_vret C h dX0_insert_33
    · have h := h.2 q1
      refine x_aload_n C dX0_insert_6 rfl ?_
      refine x_iload_n C dX0_insert_7 rfl ?_
      refine x_iconst C dX0_insert_8 ?_
      refine x_isub C dX0_insert_9 ?_
      obtain ⟨o2, h⟩ := h
      refine x_rng (fun hR1 => ?_)
      refine x_iald C ly_24 rfl (by decide) (by decide) o2 dX0_insert_10 ?_
      refine x_iload_n C dX0_insert_11 rfl ?_
      refine x_icmp_le (tgt := 29) C (ka_gI hR1 ly_24 _) r2 dX0_insert_12 (by decide) (fun q2 => ?_) (fun q2 => ?_)
      · have h := h.1 q2
        refine x_aload_n C dX0_insert_29 rfl ?_
        refine x_iload_n C dX0_insert_30 rfl ?_
        refine x_iload_n C dX0_insert_31 rfl ?_
        obtain ⟨o3, h⟩ := h
        refine x_iast C ly_24 rfl (by decide) (by decide) o3 r2 dX0_insert_32 ?_
        exact x_vret C h dX0_insert_33
      · have h := h.2 q2
        refine x_aload_n C dX0_insert_15 rfl ?_
        refine x_iload_n C dX0_insert_16 rfl ?_
        refine x_aload_n C dX0_insert_17 rfl ?_
        refine x_iload_n C dX0_insert_18 rfl ?_
        refine x_iconst C dX0_insert_19 ?_
        refine x_isub C dX0_insert_20 ?_
        obtain ⟨o4, h⟩ := h
        refine x_iald C ly_24 rfl (by decide) (by decide) o4 dX0_insert_21 ?_
        obtain ⟨o5, h⟩ := h
        refine x_iast C ly_24 rfl (by decide) (by decide) o5 (ka_gI hR1 ly_24 _) dX0_insert_22 ?_
        refine x_iinc C dX0_insert_23 rfl (Nat.le_of_ble_eq_true rfl) rfl ?_
        refine x_goto (tgt := 2) C dX0_insert_26 (by decide) ?_
        obtain ⟨o6, h⟩ := h
        exact ih _ _ h o6)
set_option maxRecDepth 100000 in
set_option maxHeartbeats 4000000 in
theorem sd_X0_insert_c24 (l : Launch) (D : va_G) (cy : Nat → ClassId) (ad : Nat → Int → Nat) (x1 : Int) (x2 : Int) (r1 : iR x1) (r2 : iR x2) (M : Mm) (Q : Mm → Prop) (h : wp_X0_insert_c24 x1 x2 M Q) : Ct l D cy ad yX0_insert cX0_insert 4 none rm_X0_insert_c24 [aR 24, aI x1, aI x2] M (rV Q) := by
  refine ct_of (z := 1) (ls := [some (aR 24), some (aI x1), some (aI x2), none]) (by decide) rfl (Nat.le_of_ble_eq_true rfl) ?_
  intro p e s m args below meth c C
  have C : Cx p s m args meth c D cy ad (Ar ad) cX0_insert 4 RX0 none := C
  unfold wp_X0_insert_c24 at h
  refine x_iload_n C dX0_insert_0 rfl ?_
  refine x_istore_n C dX0_insert_1 (Nat.le_of_ble_eq_true rfl) rfl ?_
  refine x_mask [true, false, true, true] rfl ?_
  refine lp_X0_insert_c24_L2 C x2 r2 Q _ _ h r1
set_option maxRecDepth 100000 in
set_option maxHeartbeats 4000000 in
theorem lp_X0_gatherWays_L4 {p : Program} {l : Launch} {e : Env} {s : State} {m : MethodId} {args : Array Value} {below : List Frame} {meth : Method} {c : Code} {D : va_G} {cy : Nat → ClassId} {ad : Nat → Int → Nat} (C : Cx p s m args meth c D cy ad (Ar ad) cX0_gatherWays 4 RX0 (some .int)) (x1 : Int) (r1 : iR x1) (Q : Int → Mm → Prop) : ∀ (x2 : Int) (x3 : Int) (M : Mm), wp_X0_gatherWays_L4 x1 Q x2 x3 M → iR x2 → iR x3 → Xj p l e rm_X0_gatherWays s m args below meth c D cy ad (Ar ad) (MQ below (QX D cy ad (rI Q)) args s 0 0 (Ar ad)) 4 0 0 4 [some (aR 6), some (aI x1), some (aI x2), some (aI x3)] [] M :=
  LP2.ind (P := fun x2 x3 M => iR x2 → iR x3 → Xj p l e rm_X0_gatherWays s m args below meth c D cy ad (Ar ad) (MQ below (QX D cy ad (rI Q)) args s 0 0 (Ar ad)) 4 0 0 4 [some (aR 6), some (aI x1), some (aI x2), some (aI x3)] [] M) (fun R ih => by
    intro x2 x3 M h r2 r3
    unfold bc_X0_gatherWays_L4 at h
    refine x_iload_n C dX0_gatherWays_4 rfl ?_
    refine x_aload_n C dX0_gatherWays_5 rfl ?_
    refine x_getR C gf_RX0_29 ly_6 rfl (by decide) dX0_gatherWays_6 ?_
    refine x_rng (fun hR1 => ?_)
    refine x_getI C gf_RX0_54 ly_3 rfl rfl (by decide) dX0_gatherWays_9 ?_
    refine x_icmp_ge (tgt := 48) C r3 (ka_fI hR1 ly_3 rfl) dX0_gatherWays_12 (by decide) (fun q1 => ?_) (fun q1 => ?_)
    · have h := h.1 q1
      refine x_iload_n C dX0_gatherWays_48 rfl ?_
      exact x_iret C r2 h dX0_gatherWays_49
    · have h := h.2 q1
      refine x_iload_n C dX0_gatherWays_15 rfl ?_
      refine x_iload_n C dX0_gatherWays_16 rfl ?_
      refine x_icmp_eq (tgt := 42) C r3 r1 dX0_gatherWays_17 (by decide) (fun q2 => ?_) (fun q2 => ?_)
      · have h := h.1 q2
        refine x_iinc C dX0_gatherWays_42 rfl (Nat.le_of_ble_eq_true rfl) rfl ?_
        refine x_goto (tgt := 4) C dX0_gatherWays_45 (by decide) ?_
        obtain ⟨o1, h⟩ := h
        exact ih _ _ _ h r2 o1
      · have h := h.2 q2
        refine x_aload_n C dX0_gatherWays_20 rfl ?_
        refine x_getR C gf_RX0_15 ly_6 rfl (by decide) dX0_gatherWays_21 ?_
        refine x_iload_n C dX0_gatherWays_24 rfl ?_
        refine x_aload_n C dX0_gatherWays_25 rfl ?_
        refine x_getR C gf_RX0_29 ly_6 rfl (by decide) dX0_gatherWays_26 ?_
        refine x_getR C gf_RX0_57 ly_3 rfl (by decide) dX0_gatherWays_29 ?_
        refine x_iload_n C dX0_gatherWays_32 rfl ?_
        obtain ⟨o2, h⟩ := h
        refine x_aald C ly_17 rfl (by decide) (by decide) o2 dX0_gatherWays_33 ?_
        refine x_iload_n C dX0_gatherWays_34 rfl ?_
        obtain ⟨o3, h⟩ := h
        refine x_iald2 C ly_17 rfl (by decide) (by decide) rfl o2 o3 dX0_gatherWays_35 ?_
        refine x_callS (vs := [aR 24, aI x2, aI (M 17 (12 * x1 + x3))]) C cv_RX0_50 ⟨rfl, rfl, Nat.le_of_ble_eq_true rfl, Nat.le_of_ble_eq_true rfl⟩ ⟨Nat.zero_le _, Nat.zero_le _⟩ rfl rfl (Nat.le_of_ble_eq_true rfl) dX0_gatherWays_36 (sd_X0_insert_c24 l D cy ad x2 (M 17 (12 * x1 + x3)) r2 (ka_gI hR1 ly_17 _) M _ h) (fun _ M1 qz => ?_)
        obtain ⟨rfl, h⟩ := qz
        refine x_iinc C dX0_gatherWays_39 rfl (Nat.le_of_ble_eq_true rfl) rfl ?_
        refine x_iinc C dX0_gatherWays_42 rfl (Nat.le_of_ble_eq_true rfl) rfl ?_
        refine x_goto (tgt := 4) C dX0_gatherWays_45 (by decide) ?_
        obtain ⟨o4, h⟩ := h
        obtain ⟨o5, h⟩ := h
        exact ih _ _ _ h o4 o5)
set_option maxRecDepth 100000 in
set_option maxHeartbeats 4000000 in
theorem sd_X0_gatherWays (l : Launch) (D : va_G) (cy : Nat → ClassId) (ad : Nat → Int → Nat) (x1 : Int) (r1 : iR x1) (M : Mm) (Q : Int → Mm → Prop) (h : wp_X0_gatherWays x1 M Q) : Ct l D cy ad yX0_gatherWays cX0_gatherWays 4 (some .int) rm_X0_gatherWays [aR 6, aI x1] M (rI Q) := by
  refine ct_of (z := 2) (ls := [some (aR 6), some (aI x1), none, none]) (by decide) rfl (Nat.le_of_ble_eq_true rfl) ?_
  intro p e s m args below meth c C
  have C : Cx p s m args meth c D cy ad (Ar ad) cX0_gatherWays 4 RX0 (some .int) := C
  unfold wp_X0_gatherWays at h
  refine x_iconst C dX0_gatherWays_0 ?_
  refine x_istore_n C dX0_gatherWays_1 (Nat.le_of_ble_eq_true rfl) rfl ?_
  refine x_iconst C dX0_gatherWays_2 ?_
  refine x_istore_n C dX0_gatherWays_3 (Nat.le_of_ble_eq_true rfl) rfl ?_
  refine lp_X0_gatherWays_L4 C x1 r1 Q _ _ _ h (by decide) (by decide)
set_option maxRecDepth 100000 in
set_option maxHeartbeats 4000000 in
theorem lp_X0_priceOn_L19 {p : Program} {l : Launch} {e : Env} {s : State} {m : MethodId} {args : Array Value} {below : List Frame} {meth : Method} {c : Code} {D : va_G} {cy : Nat → ClassId} {ad : Nat → Int → Nat} (C : Cx p s m args meth c D cy ad (Ar ad) cX0_priceOn 8 RX0 (some .long)) (x3 : Int) (x4 : Int) (r3 : iR x3) (r4 : iR x4) (Q : Int → Mm → Prop) : ∀ (x5 : Int) (x7 : Int) (M : Mm), wp_X0_priceOn_L19 x3 x4 Q x5 x7 M → iR x7 → Xj p l e rm_X0_priceOn s m args below meth c D cy ad (Ar ad) (MQ below (QX D cy ad (rL Q)) args s 0 0 (Ar ad)) 8 0 0 19 [some (aR 6), none, none, some (aI x3), some (aI x4), some (aL x5), none, some (aI x7)] [] M :=
  LP2.ind (P := fun x5 x7 M => iR x7 → Xj p l e rm_X0_priceOn s m args below meth c D cy ad (Ar ad) (MQ below (QX D cy ad (rL Q)) args s 0 0 (Ar ad)) 8 0 0 19 [some (aR 6), none, none, some (aI x3), some (aI x4), some (aL x5), none, some (aI x7)] [] M) (fun R ih => by
    intro x5 x7 M h r7
    unfold bc_X0_priceOn_L19 at h
    refine x_iload C dX0_priceOn_19 rfl ?_
    refine x_iload_n C dX0_priceOn_21 rfl ?_
    refine x_icmp_ge (tgt := 64) C r7 r3 dX0_priceOn_22 (by decide) (fun q1 => ?_) (fun q1 => ?_)
    · have h := h.1 q1
      refine x_lload C dX0_priceOn_64 rfl ?_
      exact x_lret C h dX0_priceOn_66
    · have h := h.2 q1
      refine x_iload C dX0_priceOn_25 rfl ?_
      refine x_iload C dX0_priceOn_27 rfl ?_
      refine x_icmp_ge (tgt := 64) C r7 r4 dX0_priceOn_29 (by decide) (fun q2 => ?_) (fun q2 => ?_)
      · have h := h.1 q2
        refine x_lload C dX0_priceOn_64 rfl ?_
        exact x_lret C h dX0_priceOn_66
      · have h := h.2 q2
        refine x_lload C dX0_priceOn_32 rfl ?_
        refine x_aload_n C dX0_priceOn_34 rfl ?_
        refine x_getR C gf_RX0_9 ly_6 rfl (by decide) dX0_priceOn_35 ?_
        refine x_iload_n C dX0_priceOn_38 rfl ?_
        refine x_iconst C dX0_priceOn_39 ?_
        refine x_isub C dX0_priceOn_40 ?_
        refine x_iload C dX0_priceOn_41 rfl ?_
        refine x_isub C dX0_priceOn_43 ?_
        obtain ⟨o1, h⟩ := h
        refine x_rng (fun hR1 => ?_)
        refine x_iald C ly_23 rfl (by decide) (by decide) o1 dX0_priceOn_44 ?_
        refine x_i2l C (ka_gI hR1 ly_23 _) dX0_priceOn_45 ?_
        refine x_aload_n C dX0_priceOn_46 rfl ?_
        refine x_getR C gf_RX0_15 ly_6 rfl (by decide) dX0_priceOn_47 ?_
        refine x_iload C dX0_priceOn_50 rfl ?_
        obtain ⟨o2, h⟩ := h
        refine x_iald C ly_24 rfl (by decide) (by decide) o2 dX0_priceOn_52 ?_
        refine x_i2l C (ka_gI hR1 ly_24 _) dX0_priceOn_53 ?_
        refine x_lmul C dX0_priceOn_54 ?_
        refine x_ladd C dX0_priceOn_55 ?_
        refine x_lstore C dX0_priceOn_56 (Nat.le_of_ble_eq_true rfl) rfl ?_
        refine x_iinc C dX0_priceOn_58 rfl (Nat.le_of_ble_eq_true rfl) rfl ?_
        refine x_goto (tgt := 19) C dX0_priceOn_61 (by decide) ?_
        obtain ⟨o3, h⟩ := h
        exact ih _ _ _ h o3)
set_option maxRecDepth 100000 in
set_option maxHeartbeats 4000000 in
theorem sd_X0_priceOn (l : Launch) (D : va_G) (cy : Nat → ClassId) (ad : Nat → Int → Nat) (x1 : Int) (x2 : Int) (r1 : iR x1) (r2 : iR x2) (M : Mm) (Q : Int → Mm → Prop) (h : wp_X0_priceOn x1 x2 M Q) : Ct l D cy ad yX0_priceOn cX0_priceOn 8 (some .long) rm_X0_priceOn [aR 6, aI x1, aI x2] M (rL Q) := by
  refine ct_of (z := 5) (ls := [some (aR 6), some (aI x1), some (aI x2), none, none, none, none, none]) (by decide) rfl (Nat.le_of_ble_eq_true rfl) ?_
  intro p e s m args below meth c C
  have C : Cx p s m args meth c D cy ad (Ar ad) cX0_priceOn 8 RX0 (some .long) := C
  unfold wp_X0_priceOn at h
  refine x_aload_n C dX0_priceOn_0 rfl ?_
  refine x_iload_n C dX0_priceOn_1 rfl ?_
  refine x_callV (vs := [aI x1]) C cv_RX0_37 ly_6 rfl (by decide) ⟨rfl, rfl, Nat.le_of_ble_eq_true rfl, Nat.le_of_ble_eq_true rfl⟩ ⟨Nat.zero_le _, Nat.zero_le _⟩ rfl rfl (Nat.le_of_ble_eq_true rfl) dX0_priceOn_2 (sd_X0_gatherOftens l D cy ad x1 r1 M _ h) (fun _ M1 qz => ?_)
  obtain ⟨z1, rfl, rz1, h⟩ := qz
  refine x_istore_n C dX0_priceOn_5 (Nat.le_of_ble_eq_true rfl) rfl ?_
  refine x_aload_n C dX0_priceOn_6 rfl ?_
  refine x_iload_n C dX0_priceOn_7 rfl ?_
  refine x_callV (vs := [aI x2]) C cv_RX0_41 ly_6 rfl (by decide) ⟨rfl, rfl, Nat.le_of_ble_eq_true rfl, Nat.le_of_ble_eq_true rfl⟩ ⟨Nat.zero_le _, Nat.zero_le _⟩ rfl rfl (Nat.le_of_ble_eq_true rfl) dX0_priceOn_8 (sd_X0_gatherWays l D cy ad x2 r2 M1 _ h) (fun _ M2 qz => ?_)
  obtain ⟨z2, rfl, rz2, h⟩ := qz
  refine x_istore C dX0_priceOn_11 (Nat.le_of_ble_eq_true rfl) rfl ?_
  refine x_lconst (v := 0) C dX0_priceOn_13 rfl ?_
  refine x_lstore C dX0_priceOn_14 (Nat.le_of_ble_eq_true rfl) rfl ?_
  refine x_iconst C dX0_priceOn_16 ?_
  refine x_istore C dX0_priceOn_17 (Nat.le_of_ble_eq_true rfl) rfl ?_
  refine x_mask [true, false, false, true, true, true, false, true] rfl ?_
  refine lp_X0_priceOn_L19 C z1 z2 rz1 rz2 Q _ _ _ h (by decide)
set_option maxRecDepth 100000 in
set_option maxHeartbeats 4000000 in
theorem lp_X0_leastWithLatestKey_L7 {p : Program} {l : Launch} {e : Env} {s : State} {m : MethodId} {args : Array Value} {below : List Frame} {meth : Method} {c : Code} {D : va_G} {cy : Nat → ClassId} {ad : Nat → Int → Nat} (C : Cx p s m args meth c D cy ad (Ar ad) cX0_leastWithLatestKey 6 RX0 (some .long)) (x1 : Int) (r1 : iR x1) (Q : Int → Mm → Prop) : ∀ (x2 : Int) (x4 : Int) (M : Mm), wp_X0_leastWithLatestKey_L7 x1 Q x2 x4 M → iR x4 → Xj p l e rm_X0_leastWithLatestKey s m args below meth c D cy ad (Ar ad) (MQ below (QX D cy ad (rL Q)) args s 0 0 (Ar ad)) 6 0 0 7 [some (aR 6), some (aI x1), some (aL x2), none, some (aI x4), none] [] M :=
  LP2.ind (P := fun x2 x4 M => iR x4 → Xj p l e rm_X0_leastWithLatestKey s m args below meth c D cy ad (Ar ad) (MQ below (QX D cy ad (rL Q)) args s 0 0 (Ar ad)) 6 0 0 7 [some (aR 6), some (aI x1), some (aL x2), none, some (aI x4), none] [] M) (fun R ih => by
    intro x2 x4 M h r4
    unfold bc_X0_leastWithLatestKey_L7 at h
    refine x_iload C dX0_leastWithLatestKey_7 rfl ?_
    refine x_aload_n C dX0_leastWithLatestKey_9 rfl ?_
    refine x_getR C gf_RX0_25 ly_6 rfl (by decide) dX0_leastWithLatestKey_10 ?_
    refine x_rng (fun hR1 => ?_)
    refine x_getI C gf_RX0_44 ly_1 rfl rfl (by decide) dX0_leastWithLatestKey_13 ?_
    refine x_icmp_ge (tgt := 60) C r4 (ka_fI hR1 ly_1 rfl) dX0_leastWithLatestKey_16 (by decide) (fun q1 => ?_) (fun q1 => ?_)
    · have h := h.1 q1
      refine x_lload_n C dX0_leastWithLatestKey_60 rfl ?_
      exact x_lret C h dX0_leastWithLatestKey_61
    · have h := h.2 q1
      refine x_iconst C dX0_leastWithLatestKey_19 ?_
      refine x_iload C dX0_leastWithLatestKey_20 rfl ?_
      refine x_ishl C dX0_leastWithLatestKey_22 ?_
      refine x_istore C dX0_leastWithLatestKey_23 (Nat.le_of_ble_eq_true rfl) rfl ?_
      refine x_iload_n C dX0_leastWithLatestKey_25 rfl ?_
      refine x_iload C dX0_leastWithLatestKey_26 rfl ?_
      refine x_iand C dX0_leastWithLatestKey_28 ?_
      refine x_if_eq (tgt := 54) C (ka_r32 _) dX0_leastWithLatestKey_29 (by decide) (fun q2 => ?_) (fun q2 => ?_)
      · have h := h.1 q2
        refine x_iinc C dX0_leastWithLatestKey_54 rfl (Nat.le_of_ble_eq_true rfl) rfl ?_
        refine x_goto (tgt := 7) C dX0_leastWithLatestKey_57 (by decide) ?_
        obtain ⟨o1, h⟩ := h
        refine x_mask [true, true, true, false, true, false] rfl ?_
        exact ih _ _ _ h o1
      · have h := h.2 q2
        refine x_lload_n C dX0_leastWithLatestKey_32 rfl ?_
        refine x_aload_n C dX0_leastWithLatestKey_33 rfl ?_
        refine x_getR C gf_RX0_22 ly_6 rfl (by decide) dX0_leastWithLatestKey_34 ?_
        refine x_iload_n C dX0_leastWithLatestKey_37 rfl ?_
        refine x_iload C dX0_leastWithLatestKey_38 rfl ?_
        refine x_isub C dX0_leastWithLatestKey_40 ?_
        obtain ⟨o2, h⟩ := h
        refine x_lald C ly_26 rfl (by decide) (by decide) o2 dX0_leastWithLatestKey_41 ?_
        refine x_aload_n C dX0_leastWithLatestKey_42 rfl ?_
        refine x_getR C gf_RX0_18 ly_6 rfl (by decide) dX0_leastWithLatestKey_43 ?_
        refine x_iload C dX0_leastWithLatestKey_46 rfl ?_
        obtain ⟨o3, h⟩ := h
        refine x_lald C ly_25 rfl (by decide) (by decide) o3 dX0_leastWithLatestKey_48 ?_
        refine x_ladd C dX0_leastWithLatestKey_49 ?_
        obtain ⟨o4, h⟩ := h
        refine x_min C cv_RX0_80 o4 dX0_leastWithLatestKey_50 ⟨Nat.le_of_ble_eq_true rfl, Nat.le_of_ble_eq_true rfl⟩ ⟨Nat.zero_le _, Nat.zero_le _⟩ (Nat.le_of_ble_eq_true rfl) ?_
        refine x_lstore_n C dX0_leastWithLatestKey_53 (Nat.le_of_ble_eq_true rfl) rfl ?_
        refine x_iinc C dX0_leastWithLatestKey_54 rfl (Nat.le_of_ble_eq_true rfl) rfl ?_
        refine x_goto (tgt := 7) C dX0_leastWithLatestKey_57 (by decide) ?_
        obtain ⟨o5, h⟩ := h
        refine x_mask [true, true, true, false, true, false] rfl ?_
        exact ih _ _ _ h o5)
set_option maxRecDepth 100000 in
set_option maxHeartbeats 4000000 in
theorem sd_X0_leastWithLatestKey (l : Launch) (D : va_G) (cy : Nat → ClassId) (ad : Nat → Int → Nat) (x1 : Int) (r1 : iR x1) (M : Mm) (Q : Int → Mm → Prop) (h : wp_X0_leastWithLatestKey x1 M Q) : Ct l D cy ad yX0_leastWithLatestKey cX0_leastWithLatestKey 6 (some .long) rm_X0_leastWithLatestKey [aR 6, aI x1] M (rL Q) := by
  refine ct_of (z := 4) (ls := [some (aR 6), some (aI x1), none, none, none, none]) (by decide) rfl (Nat.le_of_ble_eq_true rfl) ?_
  intro p e s m args below meth c C
  have C : Cx p s m args meth c D cy ad (Ar ad) cX0_leastWithLatestKey 6 RX0 (some .long) := C
  unfold wp_X0_leastWithLatestKey at h
  refine x_ldc2 (v := 1152921504606846976) C kc_RX0_60 rfl dX0_leastWithLatestKey_0 ?_
  refine x_lstore_n C dX0_leastWithLatestKey_3 (Nat.le_of_ble_eq_true rfl) rfl ?_
  refine x_iconst C dX0_leastWithLatestKey_4 ?_
  refine x_istore C dX0_leastWithLatestKey_5 (Nat.le_of_ble_eq_true rfl) rfl ?_
  refine lp_X0_leastWithLatestKey_L7 C x1 r1 Q _ _ _ h (by decide)
set_option maxRecDepth 100000 in
set_option maxHeartbeats 4000000 in
theorem lp_X0_leastSum_L44 {p : Program} {l : Launch} {e : Env} {s : State} {m : MethodId} {args : Array Value} {below : List Frame} {meth : Method} {c : Code} {D : va_G} {cy : Nat → ClassId} {ad : Nat → Int → Nat} (C : Cx p s m args meth c D cy ad (Ar ad) cX0_leastSum 4 RX0 (some .long)) (x1 : Int) (x2 : Int) (r1 : iR x1) (r2 : iR x2) (Q : Int → Mm → Prop) (K91 : Mm → Prop) (k91 : ∀ (M : Mm), K91 M → Xj p l e rm_X0_leastSum s m args below meth c D cy ad (Ar ad) (MQ below (QX D cy ad (rL Q)) args s 0 0 (Ar ad)) 4 0 0 91 [some (aR 6), some (aI x1), some (aI x2), none] [] M) : ∀ (x3 : Int) (M : Mm), wp_X0_leastSum_L44 x1 x2 Q K91 x3 M → iR x3 → Xj p l e rm_X0_leastSum s m args below meth c D cy ad (Ar ad) (MQ below (QX D cy ad (rL Q)) args s 0 0 (Ar ad)) 4 0 0 44 [some (aR 6), some (aI x1), some (aI x2), some (aI x3)] [] M :=
  LP1.ind (P := fun x3 M => iR x3 → Xj p l e rm_X0_leastSum s m args below meth c D cy ad (Ar ad) (MQ below (QX D cy ad (rL Q)) args s 0 0 (Ar ad)) 4 0 0 44 [some (aR 6), some (aI x1), some (aI x2), some (aI x3)] [] M) (fun R ih => by
    intro x3 M h r3
    unfold bc_X0_leastSum_L44 at h
    refine x_iload_n C dX0_leastSum_44 rfl ?_
    refine x_aload_n C dX0_leastSum_45 rfl ?_
    refine x_getR C gf_RX0_25 ly_6 rfl (by decide) dX0_leastSum_46 ?_
    refine x_rng (fun hR1 => ?_)
    refine x_getI C gf_RX0_44 ly_1 rfl rfl (by decide) dX0_leastSum_49 ?_
    refine x_icmp_ge (tgt := 91) C r3 (ka_fI hR1 ly_1 rfl) dX0_leastSum_52 (by decide) (fun q1 => ?_) (fun q1 => ?_)
    · have h := h.1 q1
      refine x_mask [true, true, true, false] rfl ?_
      exact k91 _ h
    · have h := h.2 q1
      refine x_aload_n C dX0_leastSum_55 rfl ?_
      refine x_getR C gf_RX0_18 ly_6 rfl (by decide) dX0_leastSum_56 ?_
      refine x_iload_n C dX0_leastSum_59 rfl ?_
      refine x_aload_n C dX0_leastSum_60 rfl ?_
      refine x_getR C gf_RX0_25 ly_6 rfl (by decide) dX0_leastSum_61 ?_
      refine x_iload_n C dX0_leastSum_64 rfl ?_
      refine x_iload_n C dX0_leastSum_65 rfl ?_
      refine x_callV (vs := [aI x3, aI x2]) C cv_RX0_68 ly_1 rfl (by decide) ⟨rfl, rfl, Nat.le_of_ble_eq_true rfl, Nat.le_of_ble_eq_true rfl⟩ ⟨Nat.zero_le _, Nat.zero_le _⟩ rfl rfl (Nat.le_of_ble_eq_true rfl) dX0_leastSum_66 (sd_X3_allow l D cy ad x3 x2 r3 r2 M _ h) (fun _ M1 qz => ?_)
      obtain ⟨z1, rfl, rz1, h⟩ := qz
      refine x_if_eq (tgt := 81) C (ka_bi rz1) dX0_leastSum_69 (by decide) (fun q2 => ?_) (fun q2 => ?_)
      · have h := h.1 q2
        refine x_ldc2 (v := 1152921504606846976) C kc_RX0_60 rfl dX0_leastSum_81 ?_
        obtain ⟨o1, h⟩ := h
        refine x_last C ly_25 rfl (by decide) (by decide) o1 (by decide) dX0_leastSum_84 ?_
        refine x_iinc C dX0_leastSum_85 rfl (Nat.le_of_ble_eq_true rfl) rfl ?_
        refine x_goto (tgt := 44) C dX0_leastSum_88 (by decide) ?_
        obtain ⟨o2, h⟩ := h
        exact ih _ _ h o2
      · have h := h.2 q2
        refine x_aload_n C dX0_leastSum_72 rfl ?_
        refine x_iload_n C dX0_leastSum_73 rfl ?_
        refine x_iload_n C dX0_leastSum_74 rfl ?_
        refine x_callV (vs := [aI x3, aI x2]) C cv_RX0_72 ly_6 rfl (by decide) ⟨rfl, rfl, Nat.le_of_ble_eq_true rfl, Nat.le_of_ble_eq_true rfl⟩ ⟨Nat.zero_le _, Nat.zero_le _⟩ rfl rfl (Nat.le_of_ble_eq_true rfl) dX0_leastSum_75 (sd_X0_priceOn l D cy ad x3 x2 r3 r2 M1 _ h) (fun _ M2 qz => ?_)
        obtain ⟨z2, rfl, h⟩ := qz
        refine x_goto (tgt := 84) C dX0_leastSum_78 (by decide) ?_
        obtain ⟨o3, h⟩ := h
        obtain ⟨o4, h⟩ := h
        refine x_last C ly_25 rfl (by decide) (by decide) o4 o3 dX0_leastSum_84 ?_
        refine x_iinc C dX0_leastSum_85 rfl (Nat.le_of_ble_eq_true rfl) rfl ?_
        refine x_goto (tgt := 44) C dX0_leastSum_88 (by decide) ?_
        obtain ⟨o5, h⟩ := h
        exact ih _ _ h o5)
set_option maxRecDepth 100000 in
set_option maxHeartbeats 4000000 in
theorem lp_X0_leastSum_L93 {p : Program} {l : Launch} {e : Env} {s : State} {m : MethodId} {args : Array Value} {below : List Frame} {meth : Method} {c : Code} {D : va_G} {cy : Nat → ClassId} {ad : Nat → Int → Nat} (C : Cx p s m args meth c D cy ad (Ar ad) cX0_leastSum 4 RX0 (some .long)) (x1 : Int) (x2 : Int) (r1 : iR x1) (r2 : iR x2) (Q : Int → Mm → Prop) (K123 : Mm → Prop) (k123 : ∀ (M : Mm), K123 M → Xj p l e rm_X0_leastSum s m args below meth c D cy ad (Ar ad) (MQ below (QX D cy ad (rL Q)) args s 0 0 (Ar ad)) 4 0 0 123 [some (aR 6), some (aI x1), some (aI x2), none] [] M) : ∀ (x3 : Int) (M : Mm), wp_X0_leastSum_L93 x1 x2 Q K123 x3 M → iR x3 → Xj p l e rm_X0_leastSum s m args below meth c D cy ad (Ar ad) (MQ below (QX D cy ad (rL Q)) args s 0 0 (Ar ad)) 4 0 0 93 [some (aR 6), some (aI x1), some (aI x2), some (aI x3)] [] M :=
  LP1.ind (P := fun x3 M => iR x3 → Xj p l e rm_X0_leastSum s m args below meth c D cy ad (Ar ad) (MQ below (QX D cy ad (rL Q)) args s 0 0 (Ar ad)) 4 0 0 93 [some (aR 6), some (aI x1), some (aI x2), some (aI x3)] [] M) (fun R ih => by
    intro x3 M h r3
    unfold bc_X0_leastSum_L93 at h
    refine x_iload_n C dX0_leastSum_93 rfl ?_
    refine x_if_le (tgt := 123) C r3 dX0_leastSum_94 (by decide) (fun q1 => ?_) (fun q1 => ?_)
    · have h := h.1 q1
      refine x_mask [true, true, true, false] rfl ?_
      exact k123 _ h
    · have h := h.2 q1
      refine x_aload_n C dX0_leastSum_97 rfl ?_
      refine x_getR C gf_RX0_22 ly_6 rfl (by decide) dX0_leastSum_98 ?_
      refine x_iload_n C dX0_leastSum_101 rfl ?_
      refine x_aload_n C dX0_leastSum_102 rfl ?_
      refine x_getR C gf_RX0_22 ly_6 rfl (by decide) dX0_leastSum_103 ?_
      refine x_iload_n C dX0_leastSum_106 rfl ?_
      obtain ⟨o1, h⟩ := h
      refine x_rng (fun hR1 => ?_)
      refine x_lald C ly_26 rfl (by decide) (by decide) o1 dX0_leastSum_107 ?_
      refine x_aload_n C dX0_leastSum_108 rfl ?_
      refine x_iload_n C dX0_leastSum_109 rfl ?_
      refine x_callV (vs := [aI x3]) C cv_RX0_76 ly_6 rfl (by decide) ⟨rfl, rfl, Nat.le_of_ble_eq_true rfl, Nat.le_of_ble_eq_true rfl⟩ ⟨Nat.zero_le _, Nat.zero_le _⟩ rfl rfl (Nat.le_of_ble_eq_true rfl) dX0_leastSum_110 (sd_X0_leastWithLatestKey l D cy ad x3 r3 M _ h) (fun _ M1 qz => ?_)
      obtain ⟨z1, rfl, h⟩ := qz
      obtain ⟨o2, h⟩ := h
      refine x_min C cv_RX0_80 o2 dX0_leastSum_113 ⟨Nat.le_of_ble_eq_true rfl, Nat.le_of_ble_eq_true rfl⟩ ⟨Nat.zero_le _, Nat.zero_le _⟩ (Nat.le_of_ble_eq_true rfl) ?_
      obtain ⟨o3, h⟩ := h
      obtain ⟨o4, h⟩ := h
      refine x_last C ly_26 rfl (by decide) (by decide) o4 o3 dX0_leastSum_116 ?_
      refine x_iinc C dX0_leastSum_117 rfl (Nat.le_of_ble_eq_true rfl) rfl ?_
      refine x_goto (tgt := 93) C dX0_leastSum_120 (by decide) ?_
      obtain ⟨o5, h⟩ := h
      exact ih _ _ h o5)
set_option maxRecDepth 100000 in
set_option maxHeartbeats 4000000 in
theorem lp_X0_leastSum_L31 {p : Program} {l : Launch} {e : Env} {s : State} {m : MethodId} {args : Array Value} {below : List Frame} {meth : Method} {c : Code} {D : va_G} {cy : Nat → ClassId} {ad : Nat → Int → Nat} (C : Cx p s m args meth c D cy ad (Ar ad) cX0_leastSum 4 RX0 (some .long)) (x1 : Int) (r1 : iR x1) (Q : Int → Mm → Prop) : ∀ (x2 : Int) (M : Mm), wp_X0_leastSum_L31 x1 Q x2 M → iR x2 → Xj p l e rm_X0_leastSum s m args below meth c D cy ad (Ar ad) (MQ below (QX D cy ad (rL Q)) args s 0 0 (Ar ad)) 4 0 0 31 [some (aR 6), some (aI x1), some (aI x2), none] [] M :=
  LP1.ind (P := fun x2 M => iR x2 → Xj p l e rm_X0_leastSum s m args below meth c D cy ad (Ar ad) (MQ below (QX D cy ad (rL Q)) args s 0 0 (Ar ad)) 4 0 0 31 [some (aR 6), some (aI x1), some (aI x2), none] [] M) (fun R ih => by
    intro x2 M h r2
    unfold bc_X0_leastSum_L31 at h
    refine x_iload_n C dX0_leastSum_31 rfl ?_
    refine x_aload_n C dX0_leastSum_32 rfl ?_
    refine x_getR C gf_RX0_29 ly_6 rfl (by decide) dX0_leastSum_33 ?_
    refine x_rng (fun hR1 => ?_)
    refine x_getI C gf_RX0_54 ly_3 rfl rfl (by decide) dX0_leastSum_36 ?_
    refine x_icmp_ge (tgt := 129) C r2 (ka_fI hR1 ly_3 rfl) dX0_leastSum_39 (by decide) (fun q1 => ?_) (fun q1 => ?_)
    · have h := h.1 q1
      refine x_aload_n C dX0_leastSum_129 rfl ?_
      refine x_getR C gf_RX0_22 ly_6 rfl (by decide) dX0_leastSum_130 ?_
      refine x_iload_n C dX0_leastSum_133 rfl ?_
      obtain ⟨o1, h⟩ := h
      refine x_lald C ly_26 rfl (by decide) (by decide) o1 dX0_leastSum_134 ?_
      exact x_lret C h dX0_leastSum_135
    · have h := h.2 q1
      refine x_iconst C dX0_leastSum_42 ?_
      refine x_istore_n C dX0_leastSum_43 (Nat.le_of_ble_eq_true rfl) rfl ?_
      refine lp_X0_leastSum_L44 C x1 x2 r1 r2 Q _ (fun M1 h => ?_) _ _ h (by decide)
      · refine x_iload_n C dX0_leastSum_91 rfl ?_
        refine x_istore_n C dX0_leastSum_92 (Nat.le_of_ble_eq_true rfl) rfl ?_
        refine lp_X0_leastSum_L93 C x1 x2 r1 r2 Q _ (fun M2 h => ?_) _ _ h r1
        · refine x_iinc C dX0_leastSum_123 rfl (Nat.le_of_ble_eq_true rfl) rfl ?_
          refine x_goto (tgt := 31) C dX0_leastSum_126 (by decide) ?_
          obtain ⟨o2, h⟩ := h
          exact ih _ _ h o2)
set_option maxRecDepth 100000 in
set_option maxHeartbeats 4000000 in
theorem sd_X0_leastSum (l : Launch) (D : va_G) (cy : Nat → ClassId) (ad : Nat → Int → Nat) (M : Mm) (Q : Int → Mm → Prop) (h : wp_X0_leastSum M Q) : Ct l D cy ad yX0_leastSum cX0_leastSum 4 (some .long) rm_X0_leastSum [aR 6] M (rL Q) := by
  refine ct_of (z := 3) (ls := [some (aR 6), none, none, none]) (by decide) rfl (Nat.le_of_ble_eq_true rfl) ?_
  intro p e s m args below meth c C
  have C : Cx p s m args meth c D cy ad (Ar ad) cX0_leastSum 4 RX0 (some .long) := C
  unfold wp_X0_leastSum at h
  refine x_aload_n C dX0_leastSum_0 rfl ?_
  refine x_getR C gf_RX0_22 ly_6 rfl (by decide) dX0_leastSum_1 ?_
  refine x_ldc2 (v := 1152921504606846976) C kc_RX0_60 rfl dX0_leastSum_4 ?_
  refine x_callS (vs := [aR 26, aL 1152921504606846976]) C cv_RX0_62 ⟨rfl, rfl, Nat.le_of_ble_eq_true rfl, Nat.le_of_ble_eq_true rfl⟩ ⟨Nat.zero_le _, Nat.zero_le _⟩ rfl rfl (Nat.le_of_ble_eq_true rfl) dX0_leastSum_7 (sd_J7_fill_d0a16_c26 l D cy ad 1152921504606846976 M _ h) (fun _ M1 qz => ?_)
  obtain ⟨rfl, h⟩ := qz
  refine x_aload_n C dX0_leastSum_10 rfl ?_
  refine x_getR C gf_RX0_22 ly_6 rfl (by decide) dX0_leastSum_11 ?_
  refine x_iconst C dX0_leastSum_14 ?_
  refine x_lconst (v := 0) C dX0_leastSum_15 rfl ?_
  refine x_last C ly_26 rfl (by decide) (by decide) (by decide) (by decide) dX0_leastSum_16 ?_
  refine x_iconst C dX0_leastSum_17 ?_
  refine x_aload_n C dX0_leastSum_18 rfl ?_
  refine x_getR C gf_RX0_25 ly_6 rfl (by decide) dX0_leastSum_19 ?_
  refine x_rng (fun hR1 => ?_)
  refine x_getI C gf_RX0_44 ly_1 rfl rfl (by decide) dX0_leastSum_22 ?_
  refine x_ishl C dX0_leastSum_25 ?_
  refine x_iconst C dX0_leastSum_26 ?_
  refine x_isub C dX0_leastSum_27 ?_
  refine x_istore_n C dX0_leastSum_28 (Nat.le_of_ble_eq_true rfl) rfl ?_
  refine x_iconst C dX0_leastSum_29 ?_
  refine x_istore_n C dX0_leastSum_30 (Nat.le_of_ble_eq_true rfl) rfl ?_
  obtain ⟨o1, h⟩ := h
  refine lp_X0_leastSum_L31 C ((a_shl32 1 ((mset M1 26 0 0) 1 0)) - 1) o1 Q _ _ h (by decide)
set_option maxRecDepth 100000 in
set_option maxHeartbeats 4000000 in
theorem sd_X7_bound (l : Launch) (D : va_G) (cy : Nat → ClassId) (ad : Nat → Int → Nat) (M : Mm) (Q : Int → Mm → Prop) (h : wp_X7_bound M Q) : Ct l D cy ad yX7_bound cX7_bound 1 (some .long) rm_X7_bound [aR 0] M (rL Q) := by
  refine ct_of (z := 0) (ls := [some (aR 0)]) (by decide) rfl (Nat.le_of_ble_eq_true rfl) ?_
  intro p e s m args below meth c C
  have C : Cx p s m args meth c D cy ad (Ar ad) cX7_bound 1 RX7 (some .long) := C
  unfold wp_X7_bound at h
  refine x_aload_n C dX7_bound_0 rfl ?_
  refine x_callV (vs := []) C cv_RX7_128 ly_0 rfl (by decide) ⟨rfl, rfl, Nat.le_of_ble_eq_true rfl, Nat.le_of_ble_eq_true rfl⟩ ⟨Nat.zero_le _, Nat.zero_le _⟩ rfl rfl (Nat.le_of_ble_eq_true rfl) dX7_bound_1 (sd_X7_tooFewKeys l D cy ad M _ h) (fun _ M1 qz => ?_)
  obtain ⟨z1, rfl, rz1, h⟩ := qz
  refine x_if_eq (tgt := 13) C (ka_bi rz1) dX7_bound_4 (by decide) (fun q1 => ?_) (fun q1 => ?_)
  · have h := h.1 q1
    refine x_aload_n C dX7_bound_13 rfl ?_
    refine x_getR C gf_RX7_53 ly_0 rfl (by decide) dX7_bound_14 ?_
    refine x_callV (vs := []) C cv_RX7_193 ly_6 rfl (by decide) ⟨rfl, rfl, Nat.le_of_ble_eq_true rfl, Nat.le_of_ble_eq_true rfl⟩ ⟨Nat.zero_le _, Nat.zero_le _⟩ rfl rfl (Nat.le_of_ble_eq_true rfl) dX7_bound_17 (sd_X0_leastSum l D cy ad M1 _ h) (fun _ M2 qz => ?_)
    obtain ⟨z2, rfl, h⟩ := qz
    exact x_lret C h dX7_bound_20
  · have h := h.2 q1
    refine x_ldc2 (v := (-3)) C kc_RX7_152 rfl dX7_bound_7 ?_
    refine x_goto (tgt := 20) C dX7_bound_10 (by decide) ?_
    exact x_lret C h dX7_bound_20
set_option maxRecDepth 100000 in
set_option maxHeartbeats 4000000 in
theorem lp_X8_priceOf_L23 {p : Program} {l : Launch} {e : Env} {s : State} {m : MethodId} {args : Array Value} {below : List Frame} {meth : Method} {c : Code} {D : va_G} {cy : Nat → ClassId} {ad : Nat → Int → Nat} (C : Cx p s m args meth c D cy ad (Ar ad) cX8_priceOf 8 RX8 (some .long)) (x1 : Int) (x2 : Int) (x3 : Int) (x4 : Int) (r1 : iR x1) (r2 : iR x2) (r3 : iR x3) (r4 : iR x4) (Q : Int → Mm → Prop) (K74 : Int → Mm → Prop) (k74 : ∀ (x5 : Int) (M : Mm), iR x5 → K74 x5 M → Xj p l e rm_X8_priceOf s m args below meth c D cy ad (Ar ad) (MQ below (QX D cy ad (rL Q)) args s 0 0 (Ar ad)) 8 0 0 74 [some (aR 8), some (aI x1), some (aI x2), some (aI x3), some (aI x4), some (aI x5), none, none] [] M) : ∀ (x5 : Int) (M : Mm), wp_X8_priceOf_L23 x1 x2 x3 x4 Q K74 x5 M → iR x5 → Xj p l e rm_X8_priceOf s m args below meth c D cy ad (Ar ad) (MQ below (QX D cy ad (rL Q)) args s 0 0 (Ar ad)) 8 0 0 23 [some (aR 8), some (aI x1), some (aI x2), some (aI x3), some (aI x4), some (aI x5), none, none] [] M :=
  LP1.ind (P := fun x5 M => iR x5 → Xj p l e rm_X8_priceOf s m args below meth c D cy ad (Ar ad) (MQ below (QX D cy ad (rL Q)) args s 0 0 (Ar ad)) 8 0 0 23 [some (aR 8), some (aI x1), some (aI x2), some (aI x3), some (aI x4), some (aI x5), none, none] [] M) (fun R ih => by
    intro x5 M h r5
    unfold bc_X8_priceOf_L23 at h
    refine x_iload C dX8_priceOf_23 rfl ?_
    refine x_if_le (tgt := 74) C r5 dX8_priceOf_25 (by decide) (fun q1 => ?_) (fun q1 => ?_)
    · have h := h.1 q1
      exact k74 _ _ r5 h
    · have h := h.2 q1
      refine x_aload_n C dX8_priceOf_28 rfl ?_
      refine x_getR C gf_RX8_55 ly_8 rfl (by decide) dX8_priceOf_29 ?_
      refine x_iload C dX8_priceOf_32 rfl ?_
      refine x_iconst C dX8_priceOf_34 ?_
      refine x_isub C dX8_priceOf_35 ?_
      obtain ⟨o1, h⟩ := h
      refine x_rng (fun hR1 => ?_)
      refine x_iald C ly_43 rfl (by decide) (by decide) o1 dX8_priceOf_36 ?_
      refine x_aload_n C dX8_priceOf_37 rfl ?_
      refine x_getR C gf_RX8_24 ly_8 rfl (by decide) dX8_priceOf_38 ?_
      refine x_bipush C dX8_priceOf_41 rfl ?_
      refine x_iload_n C dX8_priceOf_43 rfl ?_
      refine x_imul C dX8_priceOf_44 ?_
      refine x_iload C dX8_priceOf_45 rfl ?_
      refine x_iadd C dX8_priceOf_47 ?_
      obtain ⟨o2, h⟩ := h
      refine x_iald C ly_33 rfl (by decide) (by decide) o2 dX8_priceOf_48 ?_
      refine x_icmp_ge (tgt := 74) C (ka_gI hR1 ly_43 _) (ka_gI hR1 ly_33 _) dX8_priceOf_49 (by decide) (fun q2 => ?_) (fun q2 => ?_)
      · have h := h.1 q2
        exact k74 _ _ r5 h
      · have h := h.2 q2
        refine x_aload_n C dX8_priceOf_52 rfl ?_
        refine x_getR C gf_RX8_55 ly_8 rfl (by decide) dX8_priceOf_53 ?_
        refine x_iload C dX8_priceOf_56 rfl ?_
        refine x_aload_n C dX8_priceOf_58 rfl ?_
        refine x_getR C gf_RX8_55 ly_8 rfl (by decide) dX8_priceOf_59 ?_
        refine x_iload C dX8_priceOf_62 rfl ?_
        refine x_iconst C dX8_priceOf_64 ?_
        refine x_isub C dX8_priceOf_65 ?_
        obtain ⟨o3, h⟩ := h
        refine x_iald C ly_43 rfl (by decide) (by decide) o3 dX8_priceOf_66 ?_
        obtain ⟨o4, h⟩ := h
        refine x_iast C ly_43 rfl (by decide) (by decide) o4 (ka_gI hR1 ly_43 _) dX8_priceOf_67 ?_
        refine x_iinc C dX8_priceOf_68 rfl (Nat.le_of_ble_eq_true rfl) rfl ?_
        refine x_goto (tgt := 23) C dX8_priceOf_71 (by decide) ?_
        obtain ⟨o5, h⟩ := h
        exact ih _ _ h o5)
set_option maxRecDepth 100000 in
set_option maxHeartbeats 4000000 in
theorem lp_X8_priceOf_L5 {p : Program} {l : Launch} {e : Env} {s : State} {m : MethodId} {args : Array Value} {below : List Frame} {meth : Method} {c : Code} {D : va_G} {cy : Nat → ClassId} {ad : Nat → Int → Nat} (C : Cx p s m args meth c D cy ad (Ar ad) cX8_priceOf 8 RX8 (some .long)) (x1 : Int) (x2 : Int) (r1 : iR x1) (r2 : iR x2) (Q : Int → Mm → Prop) (K102 : Int → Mm → Prop) (k102 : ∀ (x3 : Int) (M : Mm), iR x3 → K102 x3 M → Xj p l e rm_X8_priceOf s m args below meth c D cy ad (Ar ad) (MQ below (QX D cy ad (rL Q)) args s 0 0 (Ar ad)) 8 0 0 102 [some (aR 8), none, some (aI x2), some (aI x3), none, none, none, none] [] M) : ∀ (x3 : Int) (x4 : Int) (M : Mm), wp_X8_priceOf_L5 x1 x2 Q K102 x3 x4 M → iR x3 → iR x4 → Xj p l e rm_X8_priceOf s m args below meth c D cy ad (Ar ad) (MQ below (QX D cy ad (rL Q)) args s 0 0 (Ar ad)) 8 0 0 5 [some (aR 8), some (aI x1), some (aI x2), some (aI x3), some (aI x4), none, none, none] [] M :=
  LP2.ind (P := fun x3 x4 M => iR x3 → iR x4 → Xj p l e rm_X8_priceOf s m args below meth c D cy ad (Ar ad) (MQ below (QX D cy ad (rL Q)) args s 0 0 (Ar ad)) 8 0 0 5 [some (aR 8), some (aI x1), some (aI x2), some (aI x3), some (aI x4), none, none, none] [] M) (fun R ih => by
    intro x3 x4 M h r3 r4
    unfold bc_X8_priceOf_L5 at h
    refine x_iload C dX8_priceOf_5 rfl ?_
    refine x_aload_n C dX8_priceOf_7 rfl ?_
    refine x_rng (fun hR1 => ?_)
    refine x_getI C gf_RX8_7 ly_8 rfl rfl (by decide) dX8_priceOf_8 ?_
    refine x_icmp_ge (tgt := 102) C r4 (ka_fI hR1 ly_8 rfl) dX8_priceOf_11 (by decide) (fun q1 => ?_) (fun q1 => ?_)
    · have h := h.1 q1
      refine x_mask [true, false, true, true, false, false, false, false] rfl ?_
      exact k102 _ _ r3 h
    · have h := h.2 q1
      refine x_iload C dX8_priceOf_14 rfl ?_
      refine x_iload_n C dX8_priceOf_16 rfl ?_
      refine x_icmp_eq (tgt := 96) C r4 r1 dX8_priceOf_17 (by decide) (fun q2 => ?_) (fun q2 => ?_)
      · have h := h.1 q2
        refine x_iinc C dX8_priceOf_96 rfl (Nat.le_of_ble_eq_true rfl) rfl ?_
        refine x_goto (tgt := 5) C dX8_priceOf_99 (by decide) ?_
        obtain ⟨o1, h⟩ := h
        exact ih _ _ _ h r3 o1
      · have h := h.2 q2
        refine x_iload_n C dX8_priceOf_20 rfl ?_
        refine x_istore C dX8_priceOf_21 (Nat.le_of_ble_eq_true rfl) rfl ?_
        refine lp_X8_priceOf_L23 C x1 x2 x3 x4 r1 r2 r3 r4 Q _ (fun y5_1 M1 ryy5_1 h => ?_) _ _ h r3
        · refine x_aload_n C dX8_priceOf_74 rfl ?_
          refine x_getR C gf_RX8_55 ly_8 rfl (by decide) dX8_priceOf_75 ?_
          refine x_iload C dX8_priceOf_78 rfl ?_
          refine x_aload_n C dX8_priceOf_80 rfl ?_
          refine x_getR C gf_RX8_24 ly_8 rfl (by decide) dX8_priceOf_81 ?_
          refine x_bipush C dX8_priceOf_84 rfl ?_
          refine x_iload_n C dX8_priceOf_86 rfl ?_
          refine x_imul C dX8_priceOf_87 ?_
          refine x_iload C dX8_priceOf_88 rfl ?_
          refine x_iadd C dX8_priceOf_90 ?_
          obtain ⟨o2, h⟩ := h
          refine x_rng (fun hR2 => ?_)
          refine x_iald C ly_33 rfl (by decide) (by decide) o2 dX8_priceOf_91 ?_
          obtain ⟨o3, h⟩ := h
          refine x_iast C ly_43 rfl (by decide) (by decide) o3 (ka_gI hR2 ly_33 _) dX8_priceOf_92 ?_
          refine x_iinc C dX8_priceOf_93 rfl (Nat.le_of_ble_eq_true rfl) rfl ?_
          refine x_iinc C dX8_priceOf_96 rfl (Nat.le_of_ble_eq_true rfl) rfl ?_
          refine x_goto (tgt := 5) C dX8_priceOf_99 (by decide) ?_
          obtain ⟨o4, h⟩ := h
          obtain ⟨o5, h⟩ := h
          refine x_mask [true, true, true, true, true, false, false, false] rfl ?_
          exact ih _ _ _ h o4 o5)
set_option maxRecDepth 100000 in
set_option maxHeartbeats 4000000 in
theorem lp_X8_priceOf_L127 {p : Program} {l : Launch} {e : Env} {s : State} {m : MethodId} {args : Array Value} {below : List Frame} {meth : Method} {c : Code} {D : va_G} {cy : Nat → ClassId} {ad : Nat → Int → Nat} (C : Cx p s m args meth c D cy ad (Ar ad) cX8_priceOf 8 RX8 (some .long)) (x2 : Int) (x3 : Int) (x4 : Int) (x5 : Int) (r2 : iR x2) (r3 : iR x3) (r4 : iR x4) (r5 : iR x5) (Q : Int → Mm → Prop) (K173 : Int → Mm → Prop) (k173 : ∀ (x6 : Int) (M : Mm), iR x6 → K173 x6 M → Xj p l e rm_X8_priceOf s m args below meth c D cy ad (Ar ad) (MQ below (QX D cy ad (rL Q)) args s 0 0 (Ar ad)) 8 0 0 173 [some (aR 8), none, some (aI x2), some (aI x3), some (aI x4), some (aI x5), some (aI x6), none] [] M) : ∀ (x6 : Int) (M : Mm), wp_X8_priceOf_L127 x2 x3 x4 x5 Q K173 x6 M → iR x6 → Xj p l e rm_X8_priceOf s m args below meth c D cy ad (Ar ad) (MQ below (QX D cy ad (rL Q)) args s 0 0 (Ar ad)) 8 0 0 127 [some (aR 8), none, some (aI x2), some (aI x3), some (aI x4), some (aI x5), some (aI x6), none] [] M :=
  LP1.ind (P := fun x6 M => iR x6 → Xj p l e rm_X8_priceOf s m args below meth c D cy ad (Ar ad) (MQ below (QX D cy ad (rL Q)) args s 0 0 (Ar ad)) 8 0 0 127 [some (aR 8), none, some (aI x2), some (aI x3), some (aI x4), some (aI x5), some (aI x6), none] [] M) (fun R ih => by
    intro x6 M h r6
    unfold bc_X8_priceOf_L127 at h
    refine x_iload C dX8_priceOf_127 rfl ?_
    refine x_if_le (tgt := 173) C r6 dX8_priceOf_129 (by decide) (fun q1 => ?_) (fun q1 => ?_)
    · have h := h.1 q1
      exact k173 _ _ r6 h
    · have h := h.2 q1
      refine x_aload_n C dX8_priceOf_132 rfl ?_
      refine x_getR C gf_RX8_58 ly_8 rfl (by decide) dX8_priceOf_133 ?_
      refine x_iload C dX8_priceOf_136 rfl ?_
      refine x_iconst C dX8_priceOf_138 ?_
      refine x_isub C dX8_priceOf_139 ?_
      obtain ⟨o1, h⟩ := h
      refine x_rng (fun hR1 => ?_)
      refine x_iald C ly_44 rfl (by decide) (by decide) o1 dX8_priceOf_140 ?_
      refine x_aload_n C dX8_priceOf_141 rfl ?_
      refine x_iload_n C dX8_priceOf_142 rfl ?_
      refine x_iload C dX8_priceOf_143 rfl ?_
      refine x_callV (vs := [aI x2, aI x5]) C cv_RX8_107 ly_8 rfl (by decide) ⟨rfl, rfl, Nat.le_of_ble_eq_true rfl, Nat.le_of_ble_eq_true rfl⟩ ⟨Nat.zero_le _, Nat.zero_le _⟩ rfl rfl (Nat.le_of_ble_eq_true rfl) dX8_priceOf_145 (sd_X8_costOf l D cy ad x2 x5 r2 r5 M _ h) (fun _ M1 qz => ?_)
      obtain ⟨z1, rfl, rz1, h⟩ := qz
      refine x_icmp_le (tgt := 173) C (ka_gI hR1 ly_44 _) rz1 dX8_priceOf_148 (by decide) (fun q2 => ?_) (fun q2 => ?_)
      · have h := h.1 q2
        exact k173 _ _ r6 h
      · have h := h.2 q2
        refine x_aload_n C dX8_priceOf_151 rfl ?_
        refine x_getR C gf_RX8_58 ly_8 rfl (by decide) dX8_priceOf_152 ?_
        refine x_iload C dX8_priceOf_155 rfl ?_
        refine x_aload_n C dX8_priceOf_157 rfl ?_
        refine x_getR C gf_RX8_58 ly_8 rfl (by decide) dX8_priceOf_158 ?_
        refine x_iload C dX8_priceOf_161 rfl ?_
        refine x_iconst C dX8_priceOf_163 ?_
        refine x_isub C dX8_priceOf_164 ?_
        obtain ⟨o2, h⟩ := h
        refine x_rng (fun hR2 => ?_)
        refine x_iald C ly_44 rfl (by decide) (by decide) o2 dX8_priceOf_165 ?_
        obtain ⟨o3, h⟩ := h
        refine x_iast C ly_44 rfl (by decide) (by decide) o3 (ka_gI hR2 ly_44 _) dX8_priceOf_166 ?_
        refine x_iinc C dX8_priceOf_167 rfl (Nat.le_of_ble_eq_true rfl) rfl ?_
        refine x_goto (tgt := 127) C dX8_priceOf_170 (by decide) ?_
        obtain ⟨o4, h⟩ := h
        exact ih _ _ h o4)
set_option maxRecDepth 100000 in
set_option maxHeartbeats 4000000 in
theorem lp_X8_priceOf_L108 {p : Program} {l : Launch} {e : Env} {s : State} {m : MethodId} {args : Array Value} {below : List Frame} {meth : Method} {c : Code} {D : va_G} {cy : Nat → ClassId} {ad : Nat → Int → Nat} (C : Cx p s m args meth c D cy ad (Ar ad) cX8_priceOf 8 RX8 (some .long)) (x2 : Int) (x3 : Int) (r2 : iR x2) (r3 : iR x3) (Q : Int → Mm → Prop) (K196 : Mm → Prop) (k196 : ∀ (M : Mm), K196 M → Xj p l e rm_X8_priceOf s m args below meth c D cy ad (Ar ad) (MQ below (QX D cy ad (rL Q)) args s 0 0 (Ar ad)) 8 0 0 196 [some (aR 8), none, none, some (aI x3), none, none, none, none] [] M) : ∀ (x4 : Int) (x5 : Int) (M : Mm), wp_X8_priceOf_L108 x2 x3 Q K196 x4 x5 M → iR x4 → iR x5 → Xj p l e rm_X8_priceOf s m args below meth c D cy ad (Ar ad) (MQ below (QX D cy ad (rL Q)) args s 0 0 (Ar ad)) 8 0 0 108 [some (aR 8), none, some (aI x2), some (aI x3), some (aI x4), some (aI x5), none, none] [] M :=
  LP2.ind (P := fun x4 x5 M => iR x4 → iR x5 → Xj p l e rm_X8_priceOf s m args below meth c D cy ad (Ar ad) (MQ below (QX D cy ad (rL Q)) args s 0 0 (Ar ad)) 8 0 0 108 [some (aR 8), none, some (aI x2), some (aI x3), some (aI x4), some (aI x5), none, none] [] M) (fun R ih => by
    intro x4 x5 M h r4 r5
    unfold bc_X8_priceOf_L108 at h
    refine x_iload C dX8_priceOf_108 rfl ?_
    refine x_aload_n C dX8_priceOf_110 rfl ?_
    refine x_rng (fun hR1 => ?_)
    refine x_getI C gf_RX8_80 ly_8 rfl rfl (by decide) dX8_priceOf_111 ?_
    refine x_icmp_ge (tgt := 196) C r5 (ka_fI hR1 ly_8 rfl) dX8_priceOf_114 (by decide) (fun q1 => ?_) (fun q1 => ?_)
    · have h := h.1 q1
      refine x_mask [true, false, false, true, false, false, false, false] rfl ?_
      exact k196 _ h
    · have h := h.2 q1
      refine x_iload C dX8_priceOf_117 rfl ?_
      refine x_iload_n C dX8_priceOf_119 rfl ?_
      refine x_icmp_eq (tgt := 190) C r5 r2 dX8_priceOf_120 (by decide) (fun q2 => ?_) (fun q2 => ?_)
      · have h := h.1 q2
        refine x_iinc C dX8_priceOf_190 rfl (Nat.le_of_ble_eq_true rfl) rfl ?_
        refine x_goto (tgt := 108) C dX8_priceOf_193 (by decide) ?_
        obtain ⟨o1, h⟩ := h
        exact ih _ _ _ h r4 o1
      · have h := h.2 q2
        refine x_iload C dX8_priceOf_123 rfl ?_
        refine x_istore C dX8_priceOf_125 (Nat.le_of_ble_eq_true rfl) rfl ?_
        refine lp_X8_priceOf_L127 C x2 x3 x4 x5 r2 r3 r4 r5 Q _ (fun y6_1 M1 ryy6_1 h => ?_) _ _ h r4
        · refine x_aload_n C dX8_priceOf_173 rfl ?_
          refine x_getR C gf_RX8_58 ly_8 rfl (by decide) dX8_priceOf_174 ?_
          refine x_iload C dX8_priceOf_177 rfl ?_
          refine x_aload_n C dX8_priceOf_179 rfl ?_
          refine x_iload_n C dX8_priceOf_180 rfl ?_
          refine x_iload C dX8_priceOf_181 rfl ?_
          refine x_callV (vs := [aI x2, aI x5]) C cv_RX8_107 ly_8 rfl (by decide) ⟨rfl, rfl, Nat.le_of_ble_eq_true rfl, Nat.le_of_ble_eq_true rfl⟩ ⟨Nat.zero_le _, Nat.zero_le _⟩ rfl rfl (Nat.le_of_ble_eq_true rfl) dX8_priceOf_183 (sd_X8_costOf l D cy ad x2 x5 r2 r5 M1 _ h) (fun _ M2 qz => ?_)
          obtain ⟨z1, rfl, rz1, h⟩ := qz
          obtain ⟨o2, h⟩ := h
          refine x_iast C ly_44 rfl (by decide) (by decide) o2 rz1 dX8_priceOf_186 ?_
          refine x_iinc C dX8_priceOf_187 rfl (Nat.le_of_ble_eq_true rfl) rfl ?_
          refine x_iinc C dX8_priceOf_190 rfl (Nat.le_of_ble_eq_true rfl) rfl ?_
          refine x_goto (tgt := 108) C dX8_priceOf_193 (by decide) ?_
          obtain ⟨o3, h⟩ := h
          obtain ⟨o4, h⟩ := h
          refine x_mask [true, false, true, true, true, true, false, false] rfl ?_
          exact ih _ _ _ h o3 o4)
set_option maxRecDepth 100000 in
set_option maxHeartbeats 4000000 in
theorem lp_X8_priceOf_L202 {p : Program} {l : Launch} {e : Env} {s : State} {m : MethodId} {args : Array Value} {below : List Frame} {meth : Method} {c : Code} {D : va_G} {cy : Nat → ClassId} {ad : Nat → Int → Nat} (C : Cx p s m args meth c D cy ad (Ar ad) cX8_priceOf 8 RX8 (some .long)) (x3 : Int) (r3 : iR x3) (Q : Int → Mm → Prop) : ∀ (x5 : Int) (x7 : Int) (M : Mm), wp_X8_priceOf_L202 x3 Q x5 x7 M → iR x7 → Xj p l e rm_X8_priceOf s m args below meth c D cy ad (Ar ad) (MQ below (QX D cy ad (rL Q)) args s 0 0 (Ar ad)) 8 0 0 202 [some (aR 8), none, none, some (aI x3), none, some (aL x5), none, some (aI x7)] [] M :=
  LP2.ind (P := fun x5 x7 M => iR x7 → Xj p l e rm_X8_priceOf s m args below meth c D cy ad (Ar ad) (MQ below (QX D cy ad (rL Q)) args s 0 0 (Ar ad)) 8 0 0 202 [some (aR 8), none, none, some (aI x3), none, some (aL x5), none, some (aI x7)] [] M) (fun R ih => by
    intro x5 x7 M h r7
    unfold bc_X8_priceOf_L202 at h
    refine x_iload C dX8_priceOf_202 rfl ?_
    refine x_iload_n C dX8_priceOf_204 rfl ?_
    refine x_icmp_ge (tgt := 236) C r7 r3 dX8_priceOf_205 (by decide) (fun q1 => ?_) (fun q1 => ?_)
    · have h := h.1 q1
      refine x_lload C dX8_priceOf_236 rfl ?_
      exact x_lret C h dX8_priceOf_238
    · have h := h.2 q1
      refine x_lload C dX8_priceOf_208 rfl ?_
      refine x_aload_n C dX8_priceOf_210 rfl ?_
      refine x_getR C gf_RX8_55 ly_8 rfl (by decide) dX8_priceOf_211 ?_
      refine x_iload C dX8_priceOf_214 rfl ?_
      obtain ⟨o1, h⟩ := h
      refine x_rng (fun hR1 => ?_)
      refine x_iald C ly_43 rfl (by decide) (by decide) o1 dX8_priceOf_216 ?_
      refine x_i2l C (ka_gI hR1 ly_43 _) dX8_priceOf_217 ?_
      refine x_aload_n C dX8_priceOf_218 rfl ?_
      refine x_getR C gf_RX8_58 ly_8 rfl (by decide) dX8_priceOf_219 ?_
      refine x_iload C dX8_priceOf_222 rfl ?_
      obtain ⟨o2, h⟩ := h
      refine x_iald C ly_44 rfl (by decide) (by decide) o2 dX8_priceOf_224 ?_
      refine x_i2l C (ka_gI hR1 ly_44 _) dX8_priceOf_225 ?_
      refine x_lmul C dX8_priceOf_226 ?_
      refine x_ladd C dX8_priceOf_227 ?_
      refine x_lstore C dX8_priceOf_228 (Nat.le_of_ble_eq_true rfl) rfl ?_
      refine x_iinc C dX8_priceOf_230 rfl (Nat.le_of_ble_eq_true rfl) rfl ?_
      refine x_goto (tgt := 202) C dX8_priceOf_233 (by decide) ?_
      obtain ⟨o3, h⟩ := h
      exact ih _ _ _ h o3)
set_option maxRecDepth 100000 in
set_option maxHeartbeats 4000000 in
theorem sd_X8_priceOf (l : Launch) (D : va_G) (cy : Nat → ClassId) (ad : Nat → Int → Nat) (x1 : Int) (x2 : Int) (r1 : iR x1) (r2 : iR x2) (M : Mm) (Q : Int → Mm → Prop) (h : wp_X8_priceOf x1 x2 M Q) : Ct l D cy ad yX8_priceOf cX8_priceOf 8 (some .long) rm_X8_priceOf [aR 8, aI x1, aI x2] M (rL Q) := by
  refine ct_of (z := 5) (ls := [some (aR 8), some (aI x1), some (aI x2), none, none, none, none, none]) (by decide) rfl (Nat.le_of_ble_eq_true rfl) ?_
  intro p e s m args below meth c C
  have C : Cx p s m args meth c D cy ad (Ar ad) cX8_priceOf 8 RX8 (some .long) := C
  unfold wp_X8_priceOf at h
  refine x_iconst C dX8_priceOf_0 ?_
  refine x_istore_n C dX8_priceOf_1 (Nat.le_of_ble_eq_true rfl) rfl ?_
  refine x_iconst C dX8_priceOf_2 ?_
  refine x_istore C dX8_priceOf_3 (Nat.le_of_ble_eq_true rfl) rfl ?_
  refine lp_X8_priceOf_L5 C x1 x2 r1 r2 Q _ (fun y3_1 M1 ryy3_1 h => ?_) _ _ _ h (by decide) (by decide)
  · refine x_iconst C dX8_priceOf_102 ?_
    refine x_istore C dX8_priceOf_103 (Nat.le_of_ble_eq_true rfl) rfl ?_
    refine x_iconst C dX8_priceOf_105 ?_
    refine x_istore C dX8_priceOf_106 (Nat.le_of_ble_eq_true rfl) rfl ?_
    refine lp_X8_priceOf_L108 C x2 y3_1 r2 ryy3_1 Q _ (fun M2 h => ?_) _ _ _ h (by decide) (by decide)
    · refine x_lconst (v := 0) C dX8_priceOf_196 rfl ?_
      refine x_lstore C dX8_priceOf_197 (Nat.le_of_ble_eq_true rfl) rfl ?_
      refine x_iconst C dX8_priceOf_199 ?_
      refine x_istore C dX8_priceOf_200 (Nat.le_of_ble_eq_true rfl) rfl ?_
      refine lp_X8_priceOf_L202 C y3_1 ryy3_1 Q _ _ _ h (by decide)
set_option maxRecDepth 100000 in
set_option maxHeartbeats 4000000 in
theorem lp_X8_bound_L35 {p : Program} {l : Launch} {e : Env} {s : State} {m : MethodId} {args : Array Value} {below : List Frame} {meth : Method} {c : Code} {D : va_G} {cy : Nat → ClassId} {ad : Nat → Int → Nat} (C : Cx p s m args meth c D cy ad (Ar ad) cX8_bound 9 RX8 (some .long)) (x1 : Int) (Q : Int → Mm → Prop) (K78 : Mm → Prop) (k78 : ∀ (M : Mm), K78 M → Xj p l e rm_X8_bound s m args below meth c D cy ad (Ar ad) (MQ below (QX D cy ad (rL Q)) args s 0 0 (Ar ad)) 9 0 0 78 [some (aR 8), some (aL x1), none, none, none, none, none, none, none] [] M) : ∀ (x3 : Int) (M : Mm), wp_X8_bound_L35 x1 Q K78 x3 M → iR x3 → Xj p l e rm_X8_bound s m args below meth c D cy ad (Ar ad) (MQ below (QX D cy ad (rL Q)) args s 0 0 (Ar ad)) 9 0 0 35 [some (aR 8), some (aL x1), none, some (aI x3), none, none, none, none, none] [] M :=
  LP1.ind (P := fun x3 M => iR x3 → Xj p l e rm_X8_bound s m args below meth c D cy ad (Ar ad) (MQ below (QX D cy ad (rL Q)) args s 0 0 (Ar ad)) 9 0 0 35 [some (aR 8), some (aL x1), none, some (aI x3), none, none, none, none, none] [] M) (fun R ih => by
    intro x3 M h r3
    unfold bc_X8_bound_L35 at h
    refine x_iload_n C dX8_bound_35 rfl ?_
    refine x_iconst C dX8_bound_36 ?_
    refine x_aload_n C dX8_bound_37 rfl ?_
    refine x_rng (fun hR1 => ?_)
    refine x_getI C gf_RX8_80 ly_8 rfl rfl (by decide) dX8_bound_38 ?_
    refine x_ishl C dX8_bound_41 ?_
    refine x_icmp_ge (tgt := 78) C r3 (ka_r32 _) dX8_bound_42 (by decide) (fun q1 => ?_) (fun q1 => ?_)
    · have h := h.1 q1
      refine x_mask [true, true, false, false, false, false, false, false, false] rfl ?_
      exact k78 _ h
    · have h := h.2 q1
      refine x_aload_n C dX8_bound_45 rfl ?_
      refine x_getR C gf_RX8_61 ly_8 rfl (by decide) dX8_bound_46 ?_
      refine x_iload_n C dX8_bound_49 rfl ?_
      refine x_ldc2 (v := (-1)) C kc_RX8_149 rfl dX8_bound_50 ?_
      obtain ⟨o1, h⟩ := h
      refine x_last C ly_45 rfl (by decide) (by decide) o1 (by decide) dX8_bound_53 ?_
      refine x_aload_n C dX8_bound_54 rfl ?_
      refine x_getR C gf_RX8_64 ly_8 rfl (by decide) dX8_bound_55 ?_
      refine x_iload_n C dX8_bound_58 rfl ?_
      refine x_aload_n C dX8_bound_59 rfl ?_
      refine x_getR C gf_RX8_64 ly_8 rfl (by decide) dX8_bound_60 ?_
      refine x_iload_n C dX8_bound_63 rfl ?_
      refine x_iload_n C dX8_bound_64 rfl ?_
      refine x_iconst C dX8_bound_65 ?_
      refine x_isub C dX8_bound_66 ?_
      refine x_iand C dX8_bound_67 ?_
      obtain ⟨o2, h⟩ := h
      refine x_rng (fun hR2 => ?_)
      refine x_iald C ly_46 rfl (by decide) (by decide) o2 dX8_bound_68 ?_
      refine x_iconst C dX8_bound_69 ?_
      refine x_iadd C dX8_bound_70 ?_
      obtain ⟨o3, h⟩ := h
      obtain ⟨o4, h⟩ := h
      refine x_iast C ly_46 rfl (by decide) (by decide) o4 o3 dX8_bound_71 ?_
      refine x_iinc C dX8_bound_72 rfl (Nat.le_of_ble_eq_true rfl) rfl ?_
      refine x_goto (tgt := 35) C dX8_bound_75 (by decide) ?_
      obtain ⟨o5, h⟩ := h
      exact ih _ _ h o5)
set_option maxRecDepth 100000 in
set_option maxHeartbeats 4000000 in
theorem lp_X8_bound_L91 {p : Program} {l : Launch} {e : Env} {s : State} {m : MethodId} {args : Array Value} {below : List Frame} {meth : Method} {c : Code} {D : va_G} {cy : Nat → ClassId} {ad : Nat → Int → Nat} (C : Cx p s m args meth c D cy ad (Ar ad) cX8_bound 9 RX8 (some .long)) (x1 : Int) (x3 : Int) (r3 : iR x3) (Q : Int → Mm → Prop) (K125 : Mm → Prop) (k125 : ∀ (M : Mm), K125 M → Xj p l e rm_X8_bound s m args below meth c D cy ad (Ar ad) (MQ below (QX D cy ad (rL Q)) args s 0 0 (Ar ad)) 9 0 0 125 [some (aR 8), some (aL x1), none, some (aI x3), none, none, none, none, none] [] M) : ∀ (x4 : Int) (M : Mm), wp_X8_bound_L91 x1 x3 Q K125 x4 M → iR x4 → Xj p l e rm_X8_bound s m args below meth c D cy ad (Ar ad) (MQ below (QX D cy ad (rL Q)) args s 0 0 (Ar ad)) 9 0 0 91 [some (aR 8), some (aL x1), none, some (aI x3), some (aI x4), none, none, none, none] [] M :=
  LP1.ind (P := fun x4 M => iR x4 → Xj p l e rm_X8_bound s m args below meth c D cy ad (Ar ad) (MQ below (QX D cy ad (rL Q)) args s 0 0 (Ar ad)) 9 0 0 91 [some (aR 8), some (aL x1), none, some (aI x3), some (aI x4), none, none, none, none] [] M) (fun R ih => by
    intro x4 M h r4
    unfold bc_X8_bound_L91 at h
    refine x_iload C dX8_bound_91 rfl ?_
    refine x_aload_n C dX8_bound_93 rfl ?_
    refine x_rng (fun hR1 => ?_)
    refine x_getI C gf_RX8_80 ly_8 rfl rfl (by decide) dX8_bound_94 ?_
    refine x_icmp_ge (tgt := 125) C r4 (ka_fI hR1 ly_8 rfl) dX8_bound_97 (by decide) (fun q1 => ?_) (fun q1 => ?_)
    · have h := h.1 q1
      refine x_mask [true, true, false, true, false, false, false, false, false] rfl ?_
      exact k125 _ h
    · have h := h.2 q1
      refine x_aload_n C dX8_bound_100 rfl ?_
      refine x_getR C gf_RX8_67 ly_8 rfl (by decide) dX8_bound_101 ?_
      refine x_bipush C dX8_bound_104 rfl ?_
      refine x_iload_n C dX8_bound_106 rfl ?_
      refine x_imul C dX8_bound_107 ?_
      refine x_iload C dX8_bound_108 rfl ?_
      refine x_iadd C dX8_bound_110 ?_
      refine x_aload_n C dX8_bound_111 rfl ?_
      refine x_iload_n C dX8_bound_112 rfl ?_
      refine x_iload C dX8_bound_113 rfl ?_
      refine x_callV (vs := [aI x3, aI x4]) C cv_RX8_151 ly_8 rfl (by decide) ⟨rfl, rfl, Nat.le_of_ble_eq_true rfl, Nat.le_of_ble_eq_true rfl⟩ ⟨Nat.zero_le _, Nat.zero_le _⟩ rfl rfl (Nat.le_of_ble_eq_true rfl) dX8_bound_115 (sd_X8_priceOf l D cy ad x3 x4 r3 r4 M _ h) (fun _ M1 qz => ?_)
      obtain ⟨z1, rfl, h⟩ := qz
      obtain ⟨o1, h⟩ := h
      obtain ⟨o2, h⟩ := h
      refine x_last C ly_47 rfl (by decide) (by decide) o2 o1 dX8_bound_118 ?_
      refine x_iinc C dX8_bound_119 rfl (Nat.le_of_ble_eq_true rfl) rfl ?_
      refine x_goto (tgt := 91) C dX8_bound_122 (by decide) ?_
      obtain ⟨o3, h⟩ := h
      exact ih _ _ h o3)
set_option maxRecDepth 100000 in
set_option maxHeartbeats 4000000 in
theorem lp_X8_bound_L80 {p : Program} {l : Launch} {e : Env} {s : State} {m : MethodId} {args : Array Value} {below : List Frame} {meth : Method} {c : Code} {D : va_G} {cy : Nat → ClassId} {ad : Nat → Int → Nat} (C : Cx p s m args meth c D cy ad (Ar ad) cX8_bound 9 RX8 (some .long)) (x1 : Int) (Q : Int → Mm → Prop) (K131 : Mm → Prop) (k131 : ∀ (M : Mm), K131 M → Xj p l e rm_X8_bound s m args below meth c D cy ad (Ar ad) (MQ below (QX D cy ad (rL Q)) args s 0 0 (Ar ad)) 9 0 0 131 [some (aR 8), some (aL x1), none, none, none, none, none, none, none] [] M) : ∀ (x3 : Int) (M : Mm), wp_X8_bound_L80 x1 Q K131 x3 M → iR x3 → Xj p l e rm_X8_bound s m args below meth c D cy ad (Ar ad) (MQ below (QX D cy ad (rL Q)) args s 0 0 (Ar ad)) 9 0 0 80 [some (aR 8), some (aL x1), none, some (aI x3), none, none, none, none, none] [] M :=
  LP1.ind (P := fun x3 M => iR x3 → Xj p l e rm_X8_bound s m args below meth c D cy ad (Ar ad) (MQ below (QX D cy ad (rL Q)) args s 0 0 (Ar ad)) 9 0 0 80 [some (aR 8), some (aL x1), none, some (aI x3), none, none, none, none, none] [] M) (fun R ih => by
    intro x3 M h r3
    unfold bc_X8_bound_L80 at h
    refine x_iload_n C dX8_bound_80 rfl ?_
    refine x_aload_n C dX8_bound_81 rfl ?_
    refine x_rng (fun hR1 => ?_)
    refine x_getI C gf_RX8_7 ly_8 rfl rfl (by decide) dX8_bound_82 ?_
    refine x_icmp_ge (tgt := 131) C r3 (ka_fI hR1 ly_8 rfl) dX8_bound_85 (by decide) (fun q1 => ?_) (fun q1 => ?_)
    · have h := h.1 q1
      refine x_mask [true, true, false, false, false, false, false, false, false] rfl ?_
      exact k131 _ h
    · have h := h.2 q1
      refine x_iconst C dX8_bound_88 ?_
      refine x_istore C dX8_bound_89 (Nat.le_of_ble_eq_true rfl) rfl ?_
      refine lp_X8_bound_L91 C x1 x3 r3 Q _ (fun M1 h => ?_) _ _ h (by decide)
      · refine x_iinc C dX8_bound_125 rfl (Nat.le_of_ble_eq_true rfl) rfl ?_
        refine x_goto (tgt := 80) C dX8_bound_128 (by decide) ?_
        obtain ⟨o1, h⟩ := h
        exact ih _ _ h o1)
set_option maxRecDepth 100000 in
set_option maxHeartbeats 4000000 in
theorem lp_X8_bound_L202 {p : Program} {l : Launch} {e : Env} {s : State} {m : MethodId} {args : Array Value} {below : List Frame} {meth : Method} {c : Code} {D : va_G} {cy : Nat → ClassId} {ad : Nat → Int → Nat} (C : Cx p s m args meth c D cy ad (Ar ad) cX8_bound 9 RX8 (some .long)) (x1 : Int) (x3 : Int) (x4 : Int) (r3 : iR x3) (r4 : iR x4) (Q : Int → Mm → Prop) (K333 : Mm → Prop) (k333 : ∀ (M : Mm), K333 M → Xj p l e rm_X8_bound s m args below meth c D cy ad (Ar ad) (MQ below (QX D cy ad (rL Q)) args s 0 0 (Ar ad)) 9 0 0 333 [some (aR 8), some (aL x1), none, some (aI x3), none, none, none, none, none] [] M) : ∀ (x5 : Int) (M : Mm), wp_X8_bound_L202 x1 x3 x4 Q K333 x5 M → iR x5 → Xj p l e rm_X8_bound s m args below meth c D cy ad (Ar ad) (MQ below (QX D cy ad (rL Q)) args s 0 0 (Ar ad)) 9 0 0 202 [some (aR 8), some (aL x1), none, some (aI x3), some (aI x4), some (aI x5), none, none, none] [] M :=
  LP1.ind (P := fun x5 M => iR x5 → Xj p l e rm_X8_bound s m args below meth c D cy ad (Ar ad) (MQ below (QX D cy ad (rL Q)) args s 0 0 (Ar ad)) 9 0 0 202 [some (aR 8), some (aL x1), none, some (aI x3), some (aI x4), some (aI x5), none, none, none] [] M) (fun R ih => by
    intro x5 M h r5
    unfold bc_X8_bound_L202 at h
    refine x_iload C dX8_bound_202 rfl ?_
    refine x_aload_n C dX8_bound_204 rfl ?_
    refine x_rng (fun hR1 => ?_)
    refine x_getI C gf_RX8_80 ly_8 rfl rfl (by decide) dX8_bound_205 ?_
    refine x_icmp_ge (tgt := 333) C r5 (ka_fI hR1 ly_8 rfl) dX8_bound_208 (by decide) (fun q1 => ?_) (fun q1 => ?_)
    · have h := h.1 q1
      refine x_mask [true, true, false, true, false, false, false, false, false] rfl ?_
      exact k333 _ h
    · have h := h.2 q1
      refine x_iload C dX8_bound_211 rfl ?_
      refine x_aload_n C dX8_bound_213 rfl ?_
      refine x_getI C gf_RX8_7 ly_8 rfl rfl (by decide) dX8_bound_214 ?_
      refine x_icmp_ge (tgt := 333) C r4 (ka_fI hR1 ly_8 rfl) dX8_bound_217 (by decide) (fun q2 => ?_) (fun q2 => ?_)
      · have h := h.1 q2
        refine x_mask [true, true, false, true, false, false, false, false, false] rfl ?_
        exact k333 _ h
      · have h := h.2 q2
        refine x_aload_n C dX8_bound_220 rfl ?_
        refine x_getR C gf_RX8_61 ly_8 rfl (by decide) dX8_bound_221 ?_
        refine x_iload_n C dX8_bound_224 rfl ?_
        obtain ⟨o1, h⟩ := h
        refine x_lald C ly_45 rfl (by decide) (by decide) o1 dX8_bound_225 ?_
        refine x_lconst (v := 0) C dX8_bound_226 rfl ?_
        refine x_lcmp_lt (tgt := 333) C (Or.inl ⟨(ka_gL hR1 ly_45 _), (by decide)⟩) dX8_bound_227 dX8_bound_228 (by decide) (fun q3 => ?_) (fun q3 => ?_)
        · have h := h.1 q3
          refine x_mask [true, true, false, true, false, false, false, false, false] rfl ?_
          exact k333 _ h
        · have h := h.2 q3
          refine x_iload_n C dX8_bound_231 rfl ?_
          refine x_iconst C dX8_bound_232 ?_
          refine x_iload C dX8_bound_233 rfl ?_
          refine x_ishl C dX8_bound_235 ?_
          refine x_ior C dX8_bound_236 ?_
          refine x_istore C dX8_bound_237 (Nat.le_of_ble_eq_true rfl) rfl ?_
          refine x_iload C dX8_bound_239 rfl ?_
          refine x_iload_n C dX8_bound_241 rfl ?_
          refine x_icmp_eq (tgt := 327) C (ka_r32 _) r3 dX8_bound_242 (by decide) (fun q4 => ?_) (fun q4 => ?_)
          · have h := h.1 q4
            refine x_iinc C dX8_bound_327 rfl (Nat.le_of_ble_eq_true rfl) rfl ?_
            refine x_goto (tgt := 202) C dX8_bound_330 (by decide) ?_
            obtain ⟨o2, h⟩ := h
            refine x_mask [true, true, false, true, true, true, false, false, false] rfl ?_
            exact ih _ _ h o2
          · have h := h.2 q4
            refine x_aload_n C dX8_bound_245 rfl ?_
            refine x_iload C dX8_bound_246 rfl ?_
            refine x_iload C dX8_bound_248 rfl ?_
            refine x_aload_n C dX8_bound_250 rfl ?_
            refine x_getR C gf_RX8_48 ly_8 rfl (by decide) dX8_bound_251 ?_
            refine x_iconst C dX8_bound_254 ?_
            refine x_callV (vs := [aI x4, aI x5, aR 41, aI 0]) C cv_RX8_110 ly_8 rfl (by decide) ⟨rfl, rfl, Nat.le_of_ble_eq_true rfl, Nat.le_of_ble_eq_true rfl⟩ ⟨Nat.zero_le _, Nat.zero_le _⟩ rfl rfl (Nat.le_of_ble_eq_true rfl) dX8_bound_255 (sd_X8_mayBear_c41 l D cy ad x4 x5 0 r4 r5 (by decide) M _ h) (fun _ M1 qz => ?_)
            obtain ⟨z1, rfl, rz1, h⟩ := qz
            refine x_if_eq (tgt := 327) C (ka_bi rz1) dX8_bound_258 (by decide) (fun q5 => ?_) (fun q5 => ?_)
            · have h := h.1 q5
              refine x_iinc C dX8_bound_327 rfl (Nat.le_of_ble_eq_true rfl) rfl ?_
              refine x_goto (tgt := 202) C dX8_bound_330 (by decide) ?_
              obtain ⟨o3, h⟩ := h
              refine x_mask [true, true, false, true, true, true, false, false, false] rfl ?_
              exact ih _ _ h o3
            · have h := h.2 q5
              refine x_aload_n C dX8_bound_261 rfl ?_
              refine x_getR C gf_RX8_61 ly_8 rfl (by decide) dX8_bound_262 ?_
              refine x_iload_n C dX8_bound_265 rfl ?_
              obtain ⟨o4, h⟩ := h
              refine x_rng (fun hR2 => ?_)
              refine x_lald C ly_45 rfl (by decide) (by decide) o4 dX8_bound_266 ?_
              refine x_aload_n C dX8_bound_267 rfl ?_
              refine x_getR C gf_RX8_67 ly_8 rfl (by decide) dX8_bound_268 ?_
              refine x_bipush C dX8_bound_271 rfl ?_
              refine x_iload C dX8_bound_273 rfl ?_
              refine x_imul C dX8_bound_275 ?_
              refine x_iload C dX8_bound_276 rfl ?_
              refine x_iadd C dX8_bound_278 ?_
              obtain ⟨o5, h⟩ := h
              refine x_lald C ly_47 rfl (by decide) (by decide) o5 dX8_bound_279 ?_
              refine x_ladd C dX8_bound_280 ?_
              refine x_lstore C dX8_bound_281 (Nat.le_of_ble_eq_true rfl) rfl ?_
              refine x_aload_n C dX8_bound_283 rfl ?_
              refine x_getR C gf_RX8_61 ly_8 rfl (by decide) dX8_bound_284 ?_
              refine x_iload C dX8_bound_287 rfl ?_
              refine x_aload_n C dX8_bound_289 rfl ?_
              refine x_getR C gf_RX8_61 ly_8 rfl (by decide) dX8_bound_290 ?_
              refine x_iload C dX8_bound_293 rfl ?_
              obtain ⟨o6, h⟩ := h
              refine x_lald C ly_45 rfl (by decide) (by decide) o6 dX8_bound_295 ?_
              refine x_lconst (v := 0) C dX8_bound_296 rfl ?_
              refine x_lcmp_lt (tgt := 314) C (Or.inl ⟨(ka_gL hR2 ly_45 _), (by decide)⟩) dX8_bound_297 dX8_bound_298 (by decide) (fun q6 => ?_) (fun q6 => ?_)
              · have h := h.1 q6
                refine x_lload C dX8_bound_314 rfl ?_
                refine x_goto (tgt := 326) C dX8_bound_316 (by decide) ?_
                obtain ⟨o7, h⟩ := h
                obtain ⟨o8, h⟩ := h
                refine x_last C ly_45 rfl (by decide) (by decide) o8 o7 dX8_bound_326 ?_
                refine x_iinc C dX8_bound_327 rfl (Nat.le_of_ble_eq_true rfl) rfl ?_
                refine x_goto (tgt := 202) C dX8_bound_330 (by decide) ?_
                obtain ⟨o9, h⟩ := h
                refine x_mask [true, true, false, true, true, true, false, false, false] rfl ?_
                exact ih _ _ h o9
              · have h := h.2 q6
                refine x_lload C dX8_bound_301 rfl ?_
                refine x_aload_n C dX8_bound_303 rfl ?_
                refine x_getR C gf_RX8_61 ly_8 rfl (by decide) dX8_bound_304 ?_
                refine x_iload C dX8_bound_307 rfl ?_
                obtain ⟨o10, h⟩ := h
                refine x_lald C ly_45 rfl (by decide) (by decide) o10 dX8_bound_309 ?_
                obtain ⟨o11, h⟩ := h
                refine x_lcmp_ge (tgt := 319) C o11 dX8_bound_310 dX8_bound_311 (by decide) (fun q7 => ?_) (fun q7 => ?_)
                · have h := h.1 q7
                  refine x_aload_n C dX8_bound_319 rfl ?_
                  refine x_getR C gf_RX8_61 ly_8 rfl (by decide) dX8_bound_320 ?_
                  refine x_iload C dX8_bound_323 rfl ?_
                  obtain ⟨o12, h⟩ := h
                  refine x_lald C ly_45 rfl (by decide) (by decide) o12 dX8_bound_325 ?_
                  obtain ⟨o13, h⟩ := h
                  refine x_last C ly_45 rfl (by decide) (by decide) o13 (ka_gL hR2 ly_45 _) dX8_bound_326 ?_
                  refine x_iinc C dX8_bound_327 rfl (Nat.le_of_ble_eq_true rfl) rfl ?_
                  refine x_goto (tgt := 202) C dX8_bound_330 (by decide) ?_
                  obtain ⟨o14, h⟩ := h
                  refine x_mask [true, true, false, true, true, true, false, false, false] rfl ?_
                  exact ih _ _ h o14
                · have h := h.2 q7
                  refine x_lload C dX8_bound_314 rfl ?_
                  refine x_goto (tgt := 326) C dX8_bound_316 (by decide) ?_
                  obtain ⟨o15, h⟩ := h
                  obtain ⟨o16, h⟩ := h
                  refine x_last C ly_45 rfl (by decide) (by decide) o16 o15 dX8_bound_326 ?_
                  refine x_iinc C dX8_bound_327 rfl (Nat.le_of_ble_eq_true rfl) rfl ?_
                  refine x_goto (tgt := 202) C dX8_bound_330 (by decide) ?_
                  obtain ⟨o17, h⟩ := h
                  refine x_mask [true, true, false, true, true, true, false, false, false] rfl ?_
                  exact ih _ _ h o17)
set_option maxRecDepth 100000 in
set_option maxHeartbeats 4000000 in
theorem lp_X8_bound_L133 {p : Program} {l : Launch} {e : Env} {s : State} {m : MethodId} {args : Array Value} {below : List Frame} {meth : Method} {c : Code} {D : va_G} {cy : Nat → ClassId} {ad : Nat → Int → Nat} (C : Cx p s m args meth c D cy ad (Ar ad) cX8_bound 9 RX8 (some .long)) (Q : Int → Mm → Prop) : ∀ (x1 : Int) (x3 : Int) (M : Mm), wp_X8_bound_L133 Q x1 x3 M → iR x3 → Xj p l e rm_X8_bound s m args below meth c D cy ad (Ar ad) (MQ below (QX D cy ad (rL Q)) args s 0 0 (Ar ad)) 9 0 0 133 [some (aR 8), some (aL x1), none, some (aI x3), none, none, none, none, none] [] M :=
  LP2.ind (P := fun x1 x3 M => iR x3 → Xj p l e rm_X8_bound s m args below meth c D cy ad (Ar ad) (MQ below (QX D cy ad (rL Q)) args s 0 0 (Ar ad)) 9 0 0 133 [some (aR 8), some (aL x1), none, some (aI x3), none, none, none, none, none] [] M) (fun R ih => by
    intro x1 x3 M h r3
    unfold bc_X8_bound_L133 at h
    refine x_iload_n C dX8_bound_133 rfl ?_
    refine x_iconst C dX8_bound_134 ?_
    refine x_aload_n C dX8_bound_135 rfl ?_
    refine x_rng (fun hR1 => ?_)
    refine x_getI C gf_RX8_80 ly_8 rfl rfl (by decide) dX8_bound_136 ?_
    refine x_ishl C dX8_bound_139 ?_
    refine x_icmp_ge (tgt := 339) C r3 (ka_r32 _) dX8_bound_140 (by decide) (fun q1 => ?_) (fun q1 => ?_)
    · have h := h.1 q1
      refine x_lload_n C dX8_bound_339 rfl ?_
      exact x_lret C h dX8_bound_340
    · have h := h.2 q1
      refine x_aload_n C dX8_bound_143 rfl ?_
      refine x_getR C gf_RX8_64 ly_8 rfl (by decide) dX8_bound_144 ?_
      refine x_iload_n C dX8_bound_147 rfl ?_
      obtain ⟨o1, h⟩ := h
      refine x_iald C ly_46 rfl (by decide) (by decide) o1 dX8_bound_148 ?_
      refine x_istore C dX8_bound_149 (Nat.le_of_ble_eq_true rfl) rfl ?_
      refine x_aload_n C dX8_bound_151 rfl ?_
      refine x_getR C gf_RX8_61 ly_8 rfl (by decide) dX8_bound_152 ?_
      refine x_iload_n C dX8_bound_155 rfl ?_
      obtain ⟨o2, h⟩ := h
      refine x_lald C ly_45 rfl (by decide) (by decide) o2 dX8_bound_156 ?_
      refine x_lconst (v := 0) C dX8_bound_157 rfl ?_
      refine x_lcmp_lt (tgt := 199) C (Or.inl ⟨(ka_gL hR1 ly_45 _), (by decide)⟩) dX8_bound_158 dX8_bound_159 (by decide) (fun q2 => ?_) (fun q2 => ?_)
      · have h := h.1 q2
        refine x_iconst C dX8_bound_199 ?_
        refine x_istore C dX8_bound_200 (Nat.le_of_ble_eq_true rfl) rfl ?_
        refine lp_X8_bound_L202 C x1 x3 (M 46 x3) r3 (ka_gI hR1 ly_46 _) Q _ (fun M1 h => ?_) _ _ h (by decide)
        · refine x_iinc C dX8_bound_333 rfl (Nat.le_of_ble_eq_true rfl) rfl ?_
          refine x_goto (tgt := 133) C dX8_bound_336 (by decide) ?_
          obtain ⟨o3, h⟩ := h
          exact ih _ _ _ h o3
      · have h := h.2 q2
        refine x_iload C dX8_bound_162 rfl ?_
        refine x_aload_n C dX8_bound_164 rfl ?_
        refine x_getI C gf_RX8_7 ly_8 rfl rfl (by decide) dX8_bound_165 ?_
        refine x_icmp_ne (tgt := 199) C (ka_gI hR1 ly_46 _) (ka_fI hR1 ly_8 rfl) dX8_bound_168 (by decide) (fun q3 => ?_) (fun q3 => ?_)
        · have h := h.1 q3
          refine x_iconst C dX8_bound_199 ?_
          refine x_istore C dX8_bound_200 (Nat.le_of_ble_eq_true rfl) rfl ?_
          refine lp_X8_bound_L202 C x1 x3 (M 46 x3) r3 (ka_gI hR1 ly_46 _) Q _ (fun M2 h => ?_) _ _ h (by decide)
          · refine x_iinc C dX8_bound_333 rfl (Nat.le_of_ble_eq_true rfl) rfl ?_
            refine x_goto (tgt := 133) C dX8_bound_336 (by decide) ?_
            obtain ⟨o4, h⟩ := h
            exact ih _ _ _ h o4
        · have h := h.2 q3
          refine x_lload_n C dX8_bound_171 rfl ?_
          refine x_lconst (v := 0) C dX8_bound_172 rfl ?_
          obtain ⟨o5, h⟩ := h
          refine x_lcmp_lt (tgt := 188) C o5 dX8_bound_173 dX8_bound_174 (by decide) (fun q4 => ?_) (fun q4 => ?_)
          · have h := h.1 q4
            refine x_aload_n C dX8_bound_188 rfl ?_
            refine x_getR C gf_RX8_61 ly_8 rfl (by decide) dX8_bound_189 ?_
            refine x_iload_n C dX8_bound_192 rfl ?_
            obtain ⟨o6, h⟩ := h
            refine x_lald C ly_45 rfl (by decide) (by decide) o6 dX8_bound_193 ?_
            refine x_goto (tgt := 198) C dX8_bound_194 (by decide) ?_
            refine x_lstore_n C dX8_bound_198 (Nat.le_of_ble_eq_true rfl) rfl ?_
            refine x_iconst C dX8_bound_199 ?_
            refine x_istore C dX8_bound_200 (Nat.le_of_ble_eq_true rfl) rfl ?_
            refine lp_X8_bound_L202 C (M 45 x3) x3 (M 46 x3) r3 (ka_gI hR1 ly_46 _) Q _ (fun M3 h => ?_) _ _ h (by decide)
            · refine x_iinc C dX8_bound_333 rfl (Nat.le_of_ble_eq_true rfl) rfl ?_
              refine x_goto (tgt := 133) C dX8_bound_336 (by decide) ?_
              obtain ⟨o7, h⟩ := h
              exact ih _ _ _ h o7
          · have h := h.2 q4
            refine x_aload_n C dX8_bound_177 rfl ?_
            refine x_getR C gf_RX8_61 ly_8 rfl (by decide) dX8_bound_178 ?_
            refine x_iload_n C dX8_bound_181 rfl ?_
            obtain ⟨o8, h⟩ := h
            refine x_lald C ly_45 rfl (by decide) (by decide) o8 dX8_bound_182 ?_
            refine x_lload_n C dX8_bound_183 rfl ?_
            obtain ⟨o9, h⟩ := h
            refine x_lcmp_ge (tgt := 197) C o9 dX8_bound_184 dX8_bound_185 (by decide) (fun q5 => ?_) (fun q5 => ?_)
            · have h := h.1 q5
              refine x_lload_n C dX8_bound_197 rfl ?_
              refine x_lstore_n C dX8_bound_198 (Nat.le_of_ble_eq_true rfl) rfl ?_
              refine x_iconst C dX8_bound_199 ?_
              refine x_istore C dX8_bound_200 (Nat.le_of_ble_eq_true rfl) rfl ?_
              refine lp_X8_bound_L202 C x1 x3 (M 46 x3) r3 (ka_gI hR1 ly_46 _) Q _ (fun M4 h => ?_) _ _ h (by decide)
              · refine x_iinc C dX8_bound_333 rfl (Nat.le_of_ble_eq_true rfl) rfl ?_
                refine x_goto (tgt := 133) C dX8_bound_336 (by decide) ?_
                obtain ⟨o10, h⟩ := h
                exact ih _ _ _ h o10
            · have h := h.2 q5
              refine x_aload_n C dX8_bound_188 rfl ?_
              refine x_getR C gf_RX8_61 ly_8 rfl (by decide) dX8_bound_189 ?_
              refine x_iload_n C dX8_bound_192 rfl ?_
              obtain ⟨o11, h⟩ := h
              refine x_lald C ly_45 rfl (by decide) (by decide) o11 dX8_bound_193 ?_
              refine x_goto (tgt := 198) C dX8_bound_194 (by decide) ?_
              refine x_lstore_n C dX8_bound_198 (Nat.le_of_ble_eq_true rfl) rfl ?_
              refine x_iconst C dX8_bound_199 ?_
              refine x_istore C dX8_bound_200 (Nat.le_of_ble_eq_true rfl) rfl ?_
              refine lp_X8_bound_L202 C (M 45 x3) x3 (M 46 x3) r3 (ka_gI hR1 ly_46 _) Q _ (fun M5 h => ?_) _ _ h (by decide)
              · refine x_iinc C dX8_bound_333 rfl (Nat.le_of_ble_eq_true rfl) rfl ?_
                refine x_goto (tgt := 133) C dX8_bound_336 (by decide) ?_
                obtain ⟨o12, h⟩ := h
                exact ih _ _ _ h o12)
set_option maxRecDepth 100000 in
set_option maxHeartbeats 4000000 in
theorem sd_X8_bound (l : Launch) (D : va_G) (cy : Nat → ClassId) (ad : Nat → Int → Nat) (M : Mm) (Q : Int → Mm → Prop) (h : wp_X8_bound M Q) : Ct l D cy ad yX8_bound cX8_bound 9 (some .long) rm_X8_bound [aR 8] M (rL Q) := by
  refine ct_of (z := 8) (ls := [some (aR 8), none, none, none, none, none, none, none, none]) (by decide) rfl (Nat.le_of_ble_eq_true rfl) ?_
  intro p e s m args below meth c C
  have C : Cx p s m args meth c D cy ad (Ar ad) cX8_bound 9 RX8 (some .long) := C
  unfold wp_X8_bound at h
  refine x_aload_n C dX8_bound_0 rfl ?_
  refine x_rng (fun hR1 => ?_)
  refine x_getI C gf_RX8_80 ly_8 rfl rfl (by decide) dX8_bound_1 ?_
  refine x_aload_n C dX8_bound_4 rfl ?_
  refine x_getI C gf_RX8_7 ly_8 rfl rfl (by decide) dX8_bound_5 ?_
  refine x_icmp_ge (tgt := 15) C (ka_fI hR1 ly_8 rfl) (ka_fI hR1 ly_8 rfl) dX8_bound_8 (by decide) (fun q1 => ?_) (fun q1 => ?_)
  · have h := h.1 q1
    refine x_ldc2 (v := (-1)) C kc_RX8_149 rfl dX8_bound_15 ?_
    refine x_lstore_n C dX8_bound_18 (Nat.le_of_ble_eq_true rfl) rfl ?_
    refine x_aload_n C dX8_bound_19 rfl ?_
    refine x_getR C gf_RX8_61 ly_8 rfl (by decide) dX8_bound_20 ?_
    refine x_iconst C dX8_bound_23 ?_
    refine x_lconst (v := 0) C dX8_bound_24 rfl ?_
    refine x_last C ly_45 rfl (by decide) (by decide) (by decide) (by decide) dX8_bound_25 ?_
    refine x_aload_n C dX8_bound_26 rfl ?_
    refine x_getR C gf_RX8_64 ly_8 rfl (by decide) dX8_bound_27 ?_
    refine x_iconst C dX8_bound_30 ?_
    refine x_iconst C dX8_bound_31 ?_
    refine x_iast C ly_46 rfl (by decide) (by decide) (by decide) (by decide) dX8_bound_32 ?_
    refine x_iconst C dX8_bound_33 ?_
    refine x_istore_n C dX8_bound_34 (Nat.le_of_ble_eq_true rfl) rfl ?_
    refine lp_X8_bound_L35 C (-1) Q _ (fun M1 h => ?_) _ _ h (by decide)
    · refine x_iconst C dX8_bound_78 ?_
      refine x_istore_n C dX8_bound_79 (Nat.le_of_ble_eq_true rfl) rfl ?_
      refine lp_X8_bound_L80 C (-1) Q _ (fun M2 h => ?_) _ _ h (by decide)
      · refine x_iconst C dX8_bound_131 ?_
        refine x_istore_n C dX8_bound_132 (Nat.le_of_ble_eq_true rfl) rfl ?_
        refine lp_X8_bound_L133 C Q _ _ _ h (by decide)
  · have h := h.2 q1
    refine x_ldc2 (v := (-3)) C kc_RX8_126 rfl dX8_bound_11 ?_
    exact x_lret C h dX8_bound_14
