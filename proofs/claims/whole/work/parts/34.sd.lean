set_option maxRecDepth 100000 in
set_option maxHeartbeats 4000000 in
theorem sd_X7_all (l : Launch) (D : va_G) (cy : Nat → ClassId) (ad : Nat → Int → Nat) (M : Mm) (Q : Int → Mm → Prop) (h : wp_X7_all M Q) : Ct l D cy ad yX7_all cX7_all 1 (some .long) rm_X7_all [aR 0] M (rL Q) := by
  refine ct_of (z := 0) (ls := [some (aR 0)]) (by decide) rfl (Nat.le_of_ble_eq_true rfl) ?_
  intro p e s m args below meth c C
  have C : Cx p s m args meth c D cy ad (Ar ad) cX7_all 1 RX7 (some .long) := C
  unfold wp_X7_all at h
  refine x_aload_n C dX7_all_0 rfl ?_
  refine x_getR C gf_RX7_39 ly_0 rfl (by decide) dX7_all_1 ?_
  refine x_rng (fun hR1 => ?_)
  refine x_getZ C gf_RX7_74 ly_4 rfl rfl (by decide) dX7_all_4 ?_
  refine x_if_eq (tgt := 20) C (ka_bi (ka_fZ hR1 ly_4 rfl)) dX7_all_7 (by decide) (fun q1 => ?_) (fun q1 => ?_)
  · have h := h.1 q1
    refine x_ldc2 (v := (-3)) C kc_RX7_152 rfl dX7_all_20 ?_
    exact x_lret C h dX7_all_23
  · have h := h.2 q1
    refine x_aload_n C dX7_all_10 rfl ?_
    refine x_getR C gf_RX7_39 ly_0 rfl (by decide) dX7_all_11 ?_
    refine x_callV (vs := []) C cv_RX7_148 ly_4 rfl (by decide) ⟨rfl, rfl, Nat.le_of_ble_eq_true rfl, Nat.le_of_ble_eq_true rfl⟩ ⟨Nat.zero_le _, Nat.zero_le _⟩ rfl rfl (Nat.le_of_ble_eq_true rfl) dX7_all_14 (sd_X5_wholeCost l D cy ad M _ h) (fun _ M1 qz => ?_)
    obtain ⟨z1, rfl, h⟩ := qz
    refine x_goto (tgt := 23) C dX7_all_17 (by decide) ?_
    exact x_lret C h dX7_all_23
set_option maxRecDepth 100000 in
set_option maxHeartbeats 4000000 in
theorem sd_X8_between (l : Launch) (D : va_G) (cy : Nat → ClassId) (ad : Nat → Int → Nat) (x1 : Int) (x2 : Int) (x3 : Int) (x4 : Int) (r1 : iR x1) (r2 : iR x2) (r3 : iR x3) (r4 : iR x4) (M : Mm) (Q : Int → Mm → Prop) (h : wp_X8_between x1 x2 x3 x4 M Q) : Ct l D cy ad yX8_between cX8_between 5 (some .long) rm_X8_between [aR 8, aI x1, aI x2, aI x3, aI x4] M (rL Q) := by
  refine ct_of (z := 0) (ls := [some (aR 8), some (aI x1), some (aI x2), some (aI x3), some (aI x4)]) (by decide) rfl (Nat.le_of_ble_eq_true rfl) ?_
  intro p e s m args below meth c C
  have C : Cx p s m args meth c D cy ad (Ar ad) cX8_between 5 RX8 (some .long) := C
  unfold wp_X8_between at h
  refine x_aload_n C dX8_between_0 rfl ?_
  refine x_getR C gf_RX8_24 ly_8 rfl (by decide) dX8_between_1 ?_
  refine x_bipush C dX8_between_4 rfl ?_
  refine x_iload_n C dX8_between_6 rfl ?_
  refine x_imul C dX8_between_7 ?_
  refine x_iload_n C dX8_between_8 rfl ?_
  refine x_iadd C dX8_between_9 ?_
  obtain ⟨o1, h⟩ := h
  refine x_rng (fun hR1 => ?_)
  refine x_iald C ly_33 rfl (by decide) (by decide) o1 dX8_between_10 ?_
  refine x_i2l C (ka_gI hR1 ly_33 _) dX8_between_11 ?_
  refine x_aload_n C dX8_between_12 rfl ?_
  refine x_iload_n C dX8_between_13 rfl ?_
  refine x_iload C dX8_between_14 rfl ?_
  refine x_callV (vs := [aI x3, aI x4]) C cv_RX8_107 ly_8 rfl (by decide) ⟨rfl, rfl, Nat.le_of_ble_eq_true rfl, Nat.le_of_ble_eq_true rfl⟩ ⟨Nat.zero_le _, Nat.zero_le _⟩ rfl rfl (Nat.le_of_ble_eq_true rfl) dX8_between_16 (sd_X8_costOf l D cy ad x3 x4 r3 r4 M _ h) (fun _ M1 qz => ?_)
  obtain ⟨z1, rfl, rz1, h⟩ := qz
  refine x_i2l C rz1 dX8_between_19 ?_
  refine x_lmul C dX8_between_20 ?_
  exact x_lret C h dX8_between_21
set_option maxRecDepth 100000 in
set_option maxHeartbeats 4000000 in
theorem lp_X8_costAll_L15 {p : Program} {l : Launch} {e : Env} {s : State} {m : MethodId} {args : Array Value} {below : List Frame} {meth : Method} {c : Code} {D : va_G} {cy : Nat → ClassId} {ad : Nat → Int → Nat} (C : Cx p s m args meth c D cy ad (Ar ad) cX8_costAll 5 RX8 (some .long)) (x3 : Int) (r3 : iR x3) (Q : Int → Mm → Prop) (K63 : Int → Mm → Prop) (k63 : ∀ (x1 : Int) (M : Mm), K63 x1 M → Xj p l e rm_X8_costAll s m args below meth c D cy ad (Ar ad) (MQ below (QX D cy ad (rL Q)) args s 0 0 (Ar ad)) 5 0 0 63 [some (aR 8), some (aL x1), none, some (aI x3), none] [] M) : ∀ (x1 : Int) (x4 : Int) (M : Mm), wp_X8_costAll_L15 x3 Q K63 x1 x4 M → iR x4 → Xj p l e rm_X8_costAll s m args below meth c D cy ad (Ar ad) (MQ below (QX D cy ad (rL Q)) args s 0 0 (Ar ad)) 5 0 0 15 [some (aR 8), some (aL x1), none, some (aI x3), some (aI x4)] [] M :=
  LP2.ind (P := fun x1 x4 M => iR x4 → Xj p l e rm_X8_costAll s m args below meth c D cy ad (Ar ad) (MQ below (QX D cy ad (rL Q)) args s 0 0 (Ar ad)) 5 0 0 15 [some (aR 8), some (aL x1), none, some (aI x3), some (aI x4)] [] M) (fun R ih => by
    intro x1 x4 M h r4
    unfold bc_X8_costAll_L15 at h
    refine x_iload C dX8_costAll_15 rfl ?_
    refine x_aload_n C dX8_costAll_17 rfl ?_
    refine x_rng (fun hR1 => ?_)
    refine x_getI C gf_RX8_7 ly_8 rfl rfl (by decide) dX8_costAll_18 ?_
    refine x_icmp_ge (tgt := 63) C r4 (ka_fI hR1 ly_8 rfl) dX8_costAll_21 (by decide) (fun q1 => ?_) (fun q1 => ?_)
    · have h := h.1 q1
      refine x_mask [true, true, false, true, false] rfl ?_
      exact k63 _ _ h
    · have h := h.2 q1
      refine x_lload_n C dX8_costAll_24 rfl ?_
      refine x_iload_n C dX8_costAll_25 rfl ?_
      refine x_iload C dX8_costAll_26 rfl ?_
      refine x_icmp_ne (tgt := 35) C r3 r4 dX8_costAll_28 (by decide) (fun q2 => ?_) (fun q2 => ?_)
      · have h := h.1 q2
        refine x_aload_n C dX8_costAll_35 rfl ?_
        refine x_iload_n C dX8_costAll_36 rfl ?_
        refine x_iload C dX8_costAll_37 rfl ?_
        refine x_aload_n C dX8_costAll_39 rfl ?_
        refine x_getR C gf_RX8_39 ly_8 rfl (by decide) dX8_costAll_40 ?_
        refine x_iload_n C dX8_costAll_43 rfl ?_
        obtain ⟨o1, h⟩ := h
        refine x_iald C ly_38 rfl (by decide) (by decide) o1 dX8_costAll_44 ?_
        refine x_aload_n C dX8_costAll_45 rfl ?_
        refine x_getR C gf_RX8_39 ly_8 rfl (by decide) dX8_costAll_46 ?_
        refine x_iload C dX8_costAll_49 rfl ?_
        obtain ⟨o2, h⟩ := h
        refine x_iald C ly_38 rfl (by decide) (by decide) o2 dX8_costAll_51 ?_
        refine x_callV (vs := [aI x3, aI x4, aI (M 38 x3), aI (M 38 x4)]) C cv_RX8_118 ly_8 rfl (by decide) ⟨rfl, rfl, Nat.le_of_ble_eq_true rfl, Nat.le_of_ble_eq_true rfl⟩ ⟨Nat.zero_le _, Nat.zero_le _⟩ rfl rfl (Nat.le_of_ble_eq_true rfl) dX8_costAll_52 (sd_X8_between l D cy ad x3 x4 (M 38 x3) (M 38 x4) r3 r4 (ka_gI hR1 ly_38 _) (ka_gI hR1 ly_38 _) M _ h) (fun _ M1 qz => ?_)
        obtain ⟨z1, rfl, h⟩ := qz
        refine x_ladd C dX8_costAll_55 ?_
        refine x_lstore_n C dX8_costAll_56 (Nat.le_of_ble_eq_true rfl) rfl ?_
        refine x_iinc C dX8_costAll_57 rfl (Nat.le_of_ble_eq_true rfl) rfl ?_
        refine x_goto (tgt := 15) C dX8_costAll_60 (by decide) ?_
        obtain ⟨o3, h⟩ := h
        exact ih _ _ _ h o3
      · have h := h.2 q2
        refine x_lconst (v := 0) C dX8_costAll_31 rfl ?_
        refine x_goto (tgt := 55) C dX8_costAll_32 (by decide) ?_
        refine x_ladd C dX8_costAll_55 ?_
        refine x_lstore_n C dX8_costAll_56 (Nat.le_of_ble_eq_true rfl) rfl ?_
        refine x_iinc C dX8_costAll_57 rfl (Nat.le_of_ble_eq_true rfl) rfl ?_
        refine x_goto (tgt := 15) C dX8_costAll_60 (by decide) ?_
        obtain ⟨o4, h⟩ := h
        exact ih _ _ _ h o4)
set_option maxRecDepth 100000 in
set_option maxHeartbeats 4000000 in
theorem lp_X8_costAll_L4 {p : Program} {l : Launch} {e : Env} {s : State} {m : MethodId} {args : Array Value} {below : List Frame} {meth : Method} {c : Code} {D : va_G} {cy : Nat → ClassId} {ad : Nat → Int → Nat} (C : Cx p s m args meth c D cy ad (Ar ad) cX8_costAll 5 RX8 (some .long)) (Q : Int → Mm → Prop) : ∀ (x1 : Int) (x3 : Int) (M : Mm), wp_X8_costAll_L4 Q x1 x3 M → iR x3 → Xj p l e rm_X8_costAll s m args below meth c D cy ad (Ar ad) (MQ below (QX D cy ad (rL Q)) args s 0 0 (Ar ad)) 5 0 0 4 [some (aR 8), some (aL x1), none, some (aI x3), none] [] M :=
  LP2.ind (P := fun x1 x3 M => iR x3 → Xj p l e rm_X8_costAll s m args below meth c D cy ad (Ar ad) (MQ below (QX D cy ad (rL Q)) args s 0 0 (Ar ad)) 5 0 0 4 [some (aR 8), some (aL x1), none, some (aI x3), none] [] M) (fun R ih => by
    intro x1 x3 M h r3
    unfold bc_X8_costAll_L4 at h
    refine x_iload_n C dX8_costAll_4 rfl ?_
    refine x_aload_n C dX8_costAll_5 rfl ?_
    refine x_rng (fun hR1 => ?_)
    refine x_getI C gf_RX8_7 ly_8 rfl rfl (by decide) dX8_costAll_6 ?_
    refine x_icmp_ge (tgt := 69) C r3 (ka_fI hR1 ly_8 rfl) dX8_costAll_9 (by decide) (fun q1 => ?_) (fun q1 => ?_)
    · have h := h.1 q1
      refine x_lload_n C dX8_costAll_69 rfl ?_
      exact x_lret C h dX8_costAll_70
    · have h := h.2 q1
      refine x_iconst C dX8_costAll_12 ?_
      refine x_istore C dX8_costAll_13 (Nat.le_of_ble_eq_true rfl) rfl ?_
      refine lp_X8_costAll_L15 C x3 r3 Q _ (fun y1_1 M1 h => ?_) _ _ _ h (by decide)
      · refine x_iinc C dX8_costAll_63 rfl (Nat.le_of_ble_eq_true rfl) rfl ?_
        refine x_goto (tgt := 4) C dX8_costAll_66 (by decide) ?_
        obtain ⟨o1, h⟩ := h
        exact ih _ _ _ h o1)
set_option maxRecDepth 100000 in
set_option maxHeartbeats 4000000 in
theorem sd_X8_costAll (l : Launch) (D : va_G) (cy : Nat → ClassId) (ad : Nat → Int → Nat) (M : Mm) (Q : Int → Mm → Prop) (h : wp_X8_costAll M Q) : Ct l D cy ad yX8_costAll cX8_costAll 5 (some .long) rm_X8_costAll [aR 8] M (rL Q) := by
  refine ct_of (z := 4) (ls := [some (aR 8), none, none, none, none]) (by decide) rfl (Nat.le_of_ble_eq_true rfl) ?_
  intro p e s m args below meth c C
  have C : Cx p s m args meth c D cy ad (Ar ad) cX8_costAll 5 RX8 (some .long) := C
  unfold wp_X8_costAll at h
  refine x_lconst (v := 0) C dX8_costAll_0 rfl ?_
  refine x_lstore_n C dX8_costAll_1 (Nat.le_of_ble_eq_true rfl) rfl ?_
  refine x_iconst C dX8_costAll_2 ?_
  refine x_istore_n C dX8_costAll_3 (Nat.le_of_ble_eq_true rfl) rfl ?_
  refine lp_X8_costAll_L4 C Q _ _ _ h (by decide)
set_option maxRecDepth 100000 in
set_option maxHeartbeats 4000000 in
theorem sd_X8_all (l : Launch) (D : va_G) (cy : Nat → ClassId) (ad : Nat → Int → Nat) (M : Mm) (Q : Int → Mm → Prop) (h : wp_X8_all M Q) : Ct l D cy ad yX8_all cX8_all 1 (some .long) rm_X8_all [aR 8] M (rL Q) := by
  refine ct_of (z := 0) (ls := [some (aR 8)]) (by decide) rfl (Nat.le_of_ble_eq_true rfl) ?_
  intro p e s m args below meth c C
  have C : Cx p s m args meth c D cy ad (Ar ad) cX8_all 1 RX8 (some .long) := C
  unfold wp_X8_all at h
  refine x_aload_n C dX8_all_0 rfl ?_
  refine x_rng (fun hR1 => ?_)
  refine x_getZ C gf_RX8_83 ly_8 rfl rfl (by decide) dX8_all_1 ?_
  refine x_if_eq (tgt := 14) C (ka_bi (ka_fZ hR1 ly_8 rfl)) dX8_all_4 (by decide) (fun q1 => ?_) (fun q1 => ?_)
  · have h := h.1 q1
    refine x_ldc2 (v := (-3)) C kc_RX8_126 rfl dX8_all_14 ?_
    exact x_lret C h dX8_all_17
  · have h := h.2 q1
    refine x_aload_n C dX8_all_7 rfl ?_
    refine x_callV (vs := []) C cv_RX8_122 ly_8 rfl (by decide) ⟨rfl, rfl, Nat.le_of_ble_eq_true rfl, Nat.le_of_ble_eq_true rfl⟩ ⟨Nat.zero_le _, Nat.zero_le _⟩ rfl rfl (Nat.le_of_ble_eq_true rfl) dX8_all_8 (sd_X8_costAll l D cy ad M _ h) (fun _ M1 qz => ?_)
    obtain ⟨z1, rfl, h⟩ := qz
    refine x_goto (tgt := 17) C dX8_all_11 (by decide) ?_
    exact x_lret C h dX8_all_17
set_option maxRecDepth 100000 in
set_option maxHeartbeats 4000000 in
theorem lp_X5_shareOf_L18 {p : Program} {l : Launch} {e : Env} {s : State} {m : MethodId} {args : Array Value} {below : List Frame} {meth : Method} {c : Code} {D : va_G} {cy : Nat → ClassId} {ad : Nat → Int → Nat} (C : Cx p s m args meth c D cy ad (Ar ad) cX5_shareOf 6 RX5 (some .long)) (x1 : Int) (x2 : Int) (r1 : iR x1) (r2 : iR x2) (Q : Int → Mm → Prop) : ∀ (x3 : Int) (x5 : Int) (M : Mm), wp_X5_shareOf_L18 x1 x2 Q x3 x5 M → iR x5 → Xj p l e rm_X5_shareOf s m args below meth c D cy ad (Ar ad) (MQ below (QX D cy ad (rL Q)) args s 0 0 (Ar ad)) 6 0 0 18 [some (aR 4), some (aI x1), some (aI x2), some (aL x3), none, some (aI x5)] [] M :=
  LP2.ind (P := fun x3 x5 M => iR x5 → Xj p l e rm_X5_shareOf s m args below meth c D cy ad (Ar ad) (MQ below (QX D cy ad (rL Q)) args s 0 0 (Ar ad)) 6 0 0 18 [some (aR 4), some (aI x1), some (aI x2), some (aL x3), none, some (aI x5)] [] M) (fun R ih => by
    intro x3 x5 M h r5
    unfold bc_X5_shareOf_L18 at h
    refine x_iload C dX5_shareOf_18 rfl ?_
    refine x_aload_n C dX5_shareOf_20 rfl ?_
    refine x_getR C gf_RX5_15 ly_4 rfl (by decide) dX5_shareOf_21 ?_
    refine x_rng (fun hR1 => ?_)
    refine x_getI C gf_RX5_27 ly_1 rfl rfl (by decide) dX5_shareOf_24 ?_
    refine x_icmp_ge (tgt := 66) C r5 (ka_fI hR1 ly_1 rfl) dX5_shareOf_27 (by decide) (fun q1 => ?_) (fun q1 => ?_)
    · have h := h.1 q1
      refine x_lload_n C dX5_shareOf_66 rfl ?_
      exact x_lret C h dX5_shareOf_67
    · have h := h.2 q1
      refine x_iload C dX5_shareOf_30 rfl ?_
      refine x_iload_n C dX5_shareOf_32 rfl ?_
      refine x_icmp_eq (tgt := 60) C r5 r1 dX5_shareOf_33 (by decide) (fun q2 => ?_) (fun q2 => ?_)
      · have h := h.1 q2
        refine x_iinc C dX5_shareOf_60 rfl (Nat.le_of_ble_eq_true rfl) rfl ?_
        refine x_goto (tgt := 18) C dX5_shareOf_63 (by decide) ?_
        obtain ⟨o1, h⟩ := h
        exact ih _ _ _ h o1
      · have h := h.2 q2
        refine x_iload C dX5_shareOf_36 rfl ?_
        refine x_iload_n C dX5_shareOf_38 rfl ?_
        refine x_icmp_eq (tgt := 60) C r5 r2 dX5_shareOf_39 (by decide) (fun q3 => ?_) (fun q3 => ?_)
        · have h := h.1 q3
          refine x_iinc C dX5_shareOf_60 rfl (Nat.le_of_ble_eq_true rfl) rfl ?_
          refine x_goto (tgt := 18) C dX5_shareOf_63 (by decide) ?_
          obtain ⟨o2, h⟩ := h
          exact ih _ _ _ h o2
        · have h := h.2 q3
          refine x_lload_n C dX5_shareOf_42 rfl ?_
          refine x_aload_n C dX5_shareOf_43 rfl ?_
          refine x_iload_n C dX5_shareOf_44 rfl ?_
          refine x_iload C dX5_shareOf_45 rfl ?_
          refine x_callV (vs := [aI x1, aI x5]) C cv_RX5_60 ly_4 rfl (by decide) ⟨rfl, rfl, Nat.le_of_ble_eq_true rfl, Nat.le_of_ble_eq_true rfl⟩ ⟨Nat.zero_le _, Nat.zero_le _⟩ rfl rfl (Nat.le_of_ble_eq_true rfl) dX5_shareOf_47 (sd_X5_pairCost l D cy ad x1 x5 r1 r5 M _ h) (fun _ M1 qz => ?_)
          obtain ⟨z1, rfl, h⟩ := qz
          refine x_aload_n C dX5_shareOf_50 rfl ?_
          refine x_iload C dX5_shareOf_51 rfl ?_
          refine x_iload_n C dX5_shareOf_53 rfl ?_
          refine x_callV (vs := [aI x5, aI x1]) C cv_RX5_60 ly_4 rfl (by decide) ⟨rfl, rfl, Nat.le_of_ble_eq_true rfl, Nat.le_of_ble_eq_true rfl⟩ ⟨Nat.zero_le _, Nat.zero_le _⟩ rfl rfl (Nat.le_of_ble_eq_true rfl) dX5_shareOf_54 (sd_X5_pairCost l D cy ad x5 x1 r5 r1 M1 _ h) (fun _ M2 qz => ?_)
          obtain ⟨z2, rfl, h⟩ := qz
          refine x_ladd C dX5_shareOf_57 ?_
          refine x_ladd C dX5_shareOf_58 ?_
          refine x_lstore_n C dX5_shareOf_59 (Nat.le_of_ble_eq_true rfl) rfl ?_
          refine x_iinc C dX5_shareOf_60 rfl (Nat.le_of_ble_eq_true rfl) rfl ?_
          refine x_goto (tgt := 18) C dX5_shareOf_63 (by decide) ?_
          obtain ⟨o3, h⟩ := h
          exact ih _ _ _ h o3)
set_option maxRecDepth 100000 in
set_option maxHeartbeats 4000000 in
theorem sd_X5_shareOf (l : Launch) (D : va_G) (cy : Nat → ClassId) (ad : Nat → Int → Nat) (x1 : Int) (x2 : Int) (r1 : iR x1) (r2 : iR x2) (M : Mm) (Q : Int → Mm → Prop) (h : wp_X5_shareOf x1 x2 M Q) : Ct l D cy ad yX5_shareOf cX5_shareOf 6 (some .long) rm_X5_shareOf [aR 4, aI x1, aI x2] M (rL Q) := by
  refine ct_of (z := 3) (ls := [some (aR 4), some (aI x1), some (aI x2), none, none, none]) (by decide) rfl (Nat.le_of_ble_eq_true rfl) ?_
  intro p e s m args below meth c C
  have C : Cx p s m args meth c D cy ad (Ar ad) cX5_shareOf 6 RX5 (some .long) := C
  unfold wp_X5_shareOf at h
  refine x_aload_n C dX5_shareOf_0 rfl ?_
  refine x_getR C gf_RX5_15 ly_4 rfl (by decide) dX5_shareOf_1 ?_
  refine x_iload_n C dX5_shareOf_4 rfl ?_
  refine x_callV (vs := [aI x1]) C cv_RX5_64 ly_1 rfl (by decide) ⟨rfl, rfl, Nat.le_of_ble_eq_true rfl, Nat.le_of_ble_eq_true rfl⟩ ⟨Nat.zero_le _, Nat.zero_le _⟩ rfl rfl (Nat.le_of_ble_eq_true rfl) dX5_shareOf_5 (sd_X3_has l D cy ad x1 r1 M _ h) (fun _ M1 qz => ?_)
  obtain ⟨z1, rfl, rz1, h⟩ := qz
  refine x_if_ne (tgt := 13) C (ka_bi rz1) dX5_shareOf_8 (by decide) (fun q1 => ?_) (fun q1 => ?_)
  · have h := h.1 q1
    refine x_lconst (v := 0) C dX5_shareOf_13 rfl ?_
    refine x_lstore_n C dX5_shareOf_14 (Nat.le_of_ble_eq_true rfl) rfl ?_
    refine x_iconst C dX5_shareOf_15 ?_
    refine x_istore C dX5_shareOf_16 (Nat.le_of_ble_eq_true rfl) rfl ?_
    refine lp_X5_shareOf_L18 C x1 x2 r1 r2 Q _ _ _ h (by decide)
  · have h := h.2 q1
    refine x_lconst (v := 0) C dX5_shareOf_11 rfl ?_
    exact x_lret C h dX5_shareOf_12
set_option maxRecDepth 100000 in
set_option maxHeartbeats 4000000 in
theorem sd_X7_share (l : Launch) (D : va_G) (cy : Nat → ClassId) (ad : Nat → Int → Nat) (x1 : Int) (r1 : iR x1) (M : Mm) (Q : Int → Mm → Prop) (h : wp_X7_share x1 M Q) : Ct l D cy ad yX7_share cX7_share 2 (some .long) rm_X7_share [aR 0, aI x1] M (rL Q) := by
  refine ct_of (z := 0) (ls := [some (aR 0), some (aI x1)]) (by decide) rfl (Nat.le_of_ble_eq_true rfl) ?_
  intro p e s m args below meth c C
  have C : Cx p s m args meth c D cy ad (Ar ad) cX7_share 2 RX7 (some .long) := C
  unfold wp_X7_share at h
  refine x_aload_n C dX7_share_0 rfl ?_
  refine x_getR C gf_RX7_10 ly_0 rfl (by decide) dX7_share_1 ?_
  refine x_iload_n C dX7_share_4 rfl ?_
  refine x_callV (vs := [aI x1]) C cv_RX7_96 ly_1 rfl (by decide) ⟨rfl, rfl, Nat.le_of_ble_eq_true rfl, Nat.le_of_ble_eq_true rfl⟩ ⟨Nat.zero_le _, Nat.zero_le _⟩ rfl rfl (Nat.le_of_ble_eq_true rfl) dX7_share_5 (sd_X3_has l D cy ad x1 r1 M _ h) (fun _ M1 qz => ?_)
  obtain ⟨z1, rfl, rz1, h⟩ := qz
  refine x_if_ne (tgt := 15) C (ka_bi rz1) dX7_share_8 (by decide) (fun q1 => ?_) (fun q1 => ?_)
  · have h := h.1 q1
    refine x_aload_n C dX7_share_15 rfl ?_
    refine x_getR C gf_RX7_39 ly_0 rfl (by decide) dX7_share_16 ?_
    refine x_rng (fun hR1 => ?_)
    refine x_getZ C gf_RX7_74 ly_4 rfl rfl (by decide) dX7_share_19 ?_
    refine x_if_eq (tgt := 37) C (ka_bi (ka_fZ hR1 ly_4 rfl)) dX7_share_22 (by decide) (fun q2 => ?_) (fun q2 => ?_)
    · have h := h.1 q2
      refine x_ldc2 (v := (-3)) C kc_RX7_152 rfl dX7_share_37 ?_
      exact x_lret C h dX7_share_40
    · have h := h.2 q2
      refine x_aload_n C dX7_share_25 rfl ?_
      refine x_getR C gf_RX7_39 ly_0 rfl (by decide) dX7_share_26 ?_
      refine x_iload_n C dX7_share_29 rfl ?_
      refine x_iconst C dX7_share_30 ?_
      refine x_callV (vs := [aI x1, aI (-1)]) C cv_RX7_156 ly_4 rfl (by decide) ⟨rfl, rfl, Nat.le_of_ble_eq_true rfl, Nat.le_of_ble_eq_true rfl⟩ ⟨Nat.zero_le _, Nat.zero_le _⟩ rfl rfl (Nat.le_of_ble_eq_true rfl) dX7_share_31 (sd_X5_shareOf l D cy ad x1 (-1) r1 (by decide) M1 _ h) (fun _ M2 qz => ?_)
      obtain ⟨z2, rfl, h⟩ := qz
      refine x_goto (tgt := 40) C dX7_share_34 (by decide) ?_
      exact x_lret C h dX7_share_40
  · have h := h.2 q1
    refine x_ldc2 (v := (-2)) C kc_RX7_154 rfl dX7_share_11 ?_
    exact x_lret C h dX7_share_14
set_option maxRecDepth 100000 in
set_option maxHeartbeats 4000000 in
theorem lp_X8_share_L28 {p : Program} {l : Launch} {e : Env} {s : State} {m : MethodId} {args : Array Value} {below : List Frame} {meth : Method} {c : Code} {D : va_G} {cy : Nat → ClassId} {ad : Nat → Int → Nat} (C : Cx p s m args meth c D cy ad (Ar ad) cX8_share 5 RX8 (some .long)) (x1 : Int) (r1 : iR x1) (Q : Int → Mm → Prop) : ∀ (x2 : Int) (x4 : Int) (M : Mm), wp_X8_share_L28 x1 Q x2 x4 M → iR x4 → Xj p l e rm_X8_share s m args below meth c D cy ad (Ar ad) (MQ below (QX D cy ad (rL Q)) args s 0 0 (Ar ad)) 5 0 0 28 [some (aR 8), some (aI x1), some (aL x2), none, some (aI x4)] [] M :=
  LP2.ind (P := fun x2 x4 M => iR x4 → Xj p l e rm_X8_share s m args below meth c D cy ad (Ar ad) (MQ below (QX D cy ad (rL Q)) args s 0 0 (Ar ad)) 5 0 0 28 [some (aR 8), some (aI x1), some (aL x2), none, some (aI x4)] [] M) (fun R ih => by
    intro x2 x4 M h r4
    unfold bc_X8_share_L28 at h
    refine x_iload C dX8_share_28 rfl ?_
    refine x_aload_n C dX8_share_30 rfl ?_
    refine x_rng (fun hR1 => ?_)
    refine x_getI C gf_RX8_7 ly_8 rfl rfl (by decide) dX8_share_31 ?_
    refine x_icmp_ge (tgt := 93) C r4 (ka_fI hR1 ly_8 rfl) dX8_share_34 (by decide) (fun q1 => ?_) (fun q1 => ?_)
    · have h := h.1 q1
      refine x_lload_n C dX8_share_93 rfl ?_
      exact x_lret C h dX8_share_94
    · have h := h.2 q1
      refine x_iload C dX8_share_37 rfl ?_
      refine x_iload_n C dX8_share_39 rfl ?_
      refine x_icmp_eq (tgt := 87) C r4 r1 dX8_share_40 (by decide) (fun q2 => ?_) (fun q2 => ?_)
      · have h := h.1 q2
        refine x_iinc C dX8_share_87 rfl (Nat.le_of_ble_eq_true rfl) rfl ?_
        refine x_goto (tgt := 28) C dX8_share_90 (by decide) ?_
        obtain ⟨o1, h⟩ := h
        exact ih _ _ _ h o1
      · have h := h.2 q2
        refine x_lload_n C dX8_share_43 rfl ?_
        refine x_aload_n C dX8_share_44 rfl ?_
        refine x_iload_n C dX8_share_45 rfl ?_
        refine x_iload C dX8_share_46 rfl ?_
        refine x_aload_n C dX8_share_48 rfl ?_
        refine x_getR C gf_RX8_39 ly_8 rfl (by decide) dX8_share_49 ?_
        refine x_iload_n C dX8_share_52 rfl ?_
        obtain ⟨o2, h⟩ := h
        refine x_iald C ly_38 rfl (by decide) (by decide) o2 dX8_share_53 ?_
        refine x_aload_n C dX8_share_54 rfl ?_
        refine x_getR C gf_RX8_39 ly_8 rfl (by decide) dX8_share_55 ?_
        refine x_iload C dX8_share_58 rfl ?_
        obtain ⟨o3, h⟩ := h
        refine x_iald C ly_38 rfl (by decide) (by decide) o3 dX8_share_60 ?_
        refine x_callV (vs := [aI x1, aI x4, aI (M 38 x1), aI (M 38 x4)]) C cv_RX8_118 ly_8 rfl (by decide) ⟨rfl, rfl, Nat.le_of_ble_eq_true rfl, Nat.le_of_ble_eq_true rfl⟩ ⟨Nat.zero_le _, Nat.zero_le _⟩ rfl rfl (Nat.le_of_ble_eq_true rfl) dX8_share_61 (sd_X8_between l D cy ad x1 x4 (M 38 x1) (M 38 x4) r1 r4 (ka_gI hR1 ly_38 _) (ka_gI hR1 ly_38 _) M _ h) (fun _ M1 qz => ?_)
        obtain ⟨z1, rfl, h⟩ := qz
        refine x_aload_n C dX8_share_64 rfl ?_
        refine x_iload C dX8_share_65 rfl ?_
        refine x_iload_n C dX8_share_67 rfl ?_
        refine x_aload_n C dX8_share_68 rfl ?_
        refine x_getR C gf_RX8_39 ly_8 rfl (by decide) dX8_share_69 ?_
        refine x_iload C dX8_share_72 rfl ?_
        obtain ⟨o4, h⟩ := h
        refine x_rng (fun hR2 => ?_)
        refine x_iald C ly_38 rfl (by decide) (by decide) o4 dX8_share_74 ?_
        refine x_aload_n C dX8_share_75 rfl ?_
        refine x_getR C gf_RX8_39 ly_8 rfl (by decide) dX8_share_76 ?_
        refine x_iload_n C dX8_share_79 rfl ?_
        obtain ⟨o5, h⟩ := h
        refine x_iald C ly_38 rfl (by decide) (by decide) o5 dX8_share_80 ?_
        refine x_callV (vs := [aI x4, aI x1, aI (M1 38 x4), aI (M1 38 x1)]) C cv_RX8_118 ly_8 rfl (by decide) ⟨rfl, rfl, Nat.le_of_ble_eq_true rfl, Nat.le_of_ble_eq_true rfl⟩ ⟨Nat.zero_le _, Nat.zero_le _⟩ rfl rfl (Nat.le_of_ble_eq_true rfl) dX8_share_81 (sd_X8_between l D cy ad x4 x1 (M1 38 x4) (M1 38 x1) r4 r1 (ka_gI hR2 ly_38 _) (ka_gI hR2 ly_38 _) M1 _ h) (fun _ M2 qz => ?_)
        obtain ⟨z2, rfl, h⟩ := qz
        refine x_ladd C dX8_share_84 ?_
        refine x_ladd C dX8_share_85 ?_
        refine x_lstore_n C dX8_share_86 (Nat.le_of_ble_eq_true rfl) rfl ?_
        refine x_iinc C dX8_share_87 rfl (Nat.le_of_ble_eq_true rfl) rfl ?_
        refine x_goto (tgt := 28) C dX8_share_90 (by decide) ?_
        obtain ⟨o6, h⟩ := h
        exact ih _ _ _ h o6)
set_option maxRecDepth 100000 in
set_option maxHeartbeats 4000000 in
theorem sd_X8_share (l : Launch) (D : va_G) (cy : Nat → ClassId) (ad : Nat → Int → Nat) (x1 : Int) (r1 : iR x1) (M : Mm) (Q : Int → Mm → Prop) (h : wp_X8_share x1 M Q) : Ct l D cy ad yX8_share cX8_share 5 (some .long) rm_X8_share [aR 8, aI x1] M (rL Q) := by
  refine ct_of (z := 3) (ls := [some (aR 8), some (aI x1), none, none, none]) (by decide) rfl (Nat.le_of_ble_eq_true rfl) ?_
  intro p e s m args below meth c C
  have C : Cx p s m args meth c D cy ad (Ar ad) cX8_share 5 RX8 (some .long) := C
  unfold wp_X8_share at h
  refine x_aload_n C dX8_share_0 rfl ?_
  refine x_iload_n C dX8_share_1 rfl ?_
  refine x_callV (vs := [aI x1]) C cv_RX8_93 ly_8 rfl (by decide) ⟨rfl, rfl, Nat.le_of_ble_eq_true rfl, Nat.le_of_ble_eq_true rfl⟩ ⟨Nat.zero_le _, Nat.zero_le _⟩ rfl rfl (Nat.le_of_ble_eq_true rfl) dX8_share_2 (sd_X8_isLetter l D cy ad x1 r1 M _ h) (fun _ M1 qz => ?_)
  obtain ⟨z1, rfl, rz1, h⟩ := qz
  refine x_if_ne (tgt := 12) C (ka_bi rz1) dX8_share_5 (by decide) (fun q1 => ?_) (fun q1 => ?_)
  · have h := h.1 q1
    refine x_aload_n C dX8_share_12 rfl ?_
    refine x_rng (fun hR1 => ?_)
    refine x_getZ C gf_RX8_83 ly_8 rfl rfl (by decide) dX8_share_13 ?_
    refine x_if_ne (tgt := 23) C (ka_bi (ka_fZ hR1 ly_8 rfl)) dX8_share_16 (by decide) (fun q2 => ?_) (fun q2 => ?_)
    · have h := h.1 q2
      refine x_lconst (v := 0) C dX8_share_23 rfl ?_
      refine x_lstore_n C dX8_share_24 (Nat.le_of_ble_eq_true rfl) rfl ?_
      refine x_iconst C dX8_share_25 ?_
      refine x_istore C dX8_share_26 (Nat.le_of_ble_eq_true rfl) rfl ?_
      refine lp_X8_share_L28 C x1 r1 Q _ _ _ h (by decide)
    · have h := h.2 q2
      refine x_ldc2 (v := (-3)) C kc_RX8_126 rfl dX8_share_19 ?_
      exact x_lret C h dX8_share_22
  · have h := h.2 q1
    refine x_ldc2 (v := (-2)) C kc_RX8_128 rfl dX8_share_8 ?_
    exact x_lret C h dX8_share_11
set_option maxRecDepth 100000 in
set_option maxHeartbeats 4000000 in
theorem sd_X5_changeByMove (l : Launch) (D : va_G) (cy : Nat → ClassId) (ad : Nat → Int → Nat) (x1 : Int) (x2 : Int) (r1 : iR x1) (r2 : iR x2) (M : Mm) (Q : Int → Mm → Prop) (h : wp_X5_changeByMove x1 x2 M Q) : Ct l D cy ad yX5_changeByMove cX5_changeByMove 9 (some .long) rm_X5_changeByMove [aR 4, aI x1, aI x2] M (rL Q) := by
  refine ct_of (z := 6) (ls := [some (aR 4), some (aI x1), some (aI x2), none, none, none, none, none, none]) (by decide) rfl (Nat.le_of_ble_eq_true rfl) ?_
  intro p e s m args below meth c C
  have C : Cx p s m args meth c D cy ad (Ar ad) cX5_changeByMove 9 RX5 (some .long) := C
  unfold wp_X5_changeByMove at h
  refine x_aload_n C dX5_changeByMove_0 rfl ?_
  refine x_iload_n C dX5_changeByMove_1 rfl ?_
  refine x_callV (vs := [aI x2]) C cv_RX5_54 ly_4 rfl (by decide) ⟨rfl, rfl, Nat.le_of_ble_eq_true rfl, Nat.le_of_ble_eq_true rfl⟩ ⟨Nat.zero_le _, Nat.zero_le _⟩ rfl rfl (Nat.le_of_ble_eq_true rfl) dX5_changeByMove_2 (sd_X5_letterOn l D cy ad x2 r2 M _ h) (fun _ M1 qz => ?_)
  obtain ⟨z1, rfl, rz1, h⟩ := qz
  refine x_istore_n C dX5_changeByMove_5 (Nat.le_of_ble_eq_true rfl) rfl ?_
  refine x_aload_n C dX5_changeByMove_6 rfl ?_
  refine x_getR C gf_RX5_9 ly_4 rfl (by decide) dX5_changeByMove_7 ?_
  refine x_iload_n C dX5_changeByMove_10 rfl ?_
  obtain ⟨o1, h⟩ := h
  refine x_rng (fun hR1 => ?_)
  refine x_iald C ly_19 rfl (by decide) (by decide) o1 dX5_changeByMove_11 ?_
  refine x_istore C dX5_changeByMove_12 (Nat.le_of_ble_eq_true rfl) rfl ?_
  refine x_aload_n C dX5_changeByMove_14 rfl ?_
  refine x_iload_n C dX5_changeByMove_15 rfl ?_
  refine x_iconst C dX5_changeByMove_16 ?_
  refine x_callV (vs := [aI x1, aI (-1)]) C cv_RX5_67 ly_4 rfl (by decide) ⟨rfl, rfl, Nat.le_of_ble_eq_true rfl, Nat.le_of_ble_eq_true rfl⟩ ⟨Nat.zero_le _, Nat.zero_le _⟩ rfl rfl (Nat.le_of_ble_eq_true rfl) dX5_changeByMove_17 (sd_X5_shareOf l D cy ad x1 (-1) r1 (by decide) M1 _ h) (fun _ M2 qz => ?_)
  obtain ⟨z2, rfl, h⟩ := qz
  refine x_aload_n C dX5_changeByMove_20 rfl ?_
  refine x_iload_n C dX5_changeByMove_21 rfl ?_
  refine x_iload_n C dX5_changeByMove_22 rfl ?_
  refine x_callV (vs := [aI z1, aI x1]) C cv_RX5_67 ly_4 rfl (by decide) ⟨rfl, rfl, Nat.le_of_ble_eq_true rfl, Nat.le_of_ble_eq_true rfl⟩ ⟨Nat.zero_le _, Nat.zero_le _⟩ rfl rfl (Nat.le_of_ble_eq_true rfl) dX5_changeByMove_23 (sd_X5_shareOf l D cy ad z1 x1 rz1 r1 M2 _ h) (fun _ M3 qz => ?_)
  obtain ⟨z3, rfl, h⟩ := qz
  refine x_ladd C dX5_changeByMove_26 ?_
  refine x_lstore C dX5_changeByMove_27 (Nat.le_of_ble_eq_true rfl) rfl ?_
  refine x_aload_n C dX5_changeByMove_29 rfl ?_
  refine x_iload_n C dX5_changeByMove_30 rfl ?_
  refine x_iload_n C dX5_changeByMove_31 rfl ?_
  refine x_callV (vs := [aI x1, aI x2]) C cv_RX5_70 ly_4 rfl (by decide) ⟨rfl, rfl, Nat.le_of_ble_eq_true rfl, Nat.le_of_ble_eq_true rfl⟩ ⟨Nat.zero_le _, Nat.zero_le _⟩ rfl rfl (Nat.le_of_ble_eq_true rfl) dX5_changeByMove_32 (sd_X5_move l D cy ad x1 x2 r1 r2 M3 _ h) (fun _ M4 qz => ?_)
  obtain ⟨rfl, h⟩ := qz
  refine x_aload_n C dX5_changeByMove_35 rfl ?_
  refine x_iload_n C dX5_changeByMove_36 rfl ?_
  refine x_iconst C dX5_changeByMove_37 ?_
  refine x_callV (vs := [aI x1, aI (-1)]) C cv_RX5_67 ly_4 rfl (by decide) ⟨rfl, rfl, Nat.le_of_ble_eq_true rfl, Nat.le_of_ble_eq_true rfl⟩ ⟨Nat.zero_le _, Nat.zero_le _⟩ rfl rfl (Nat.le_of_ble_eq_true rfl) dX5_changeByMove_38 (sd_X5_shareOf l D cy ad x1 (-1) r1 (by decide) M4 _ h) (fun _ M5 qz => ?_)
  obtain ⟨z4, rfl, h⟩ := qz
  refine x_aload_n C dX5_changeByMove_41 rfl ?_
  refine x_iload_n C dX5_changeByMove_42 rfl ?_
  refine x_iload_n C dX5_changeByMove_43 rfl ?_
  refine x_callV (vs := [aI z1, aI x1]) C cv_RX5_67 ly_4 rfl (by decide) ⟨rfl, rfl, Nat.le_of_ble_eq_true rfl, Nat.le_of_ble_eq_true rfl⟩ ⟨Nat.zero_le _, Nat.zero_le _⟩ rfl rfl (Nat.le_of_ble_eq_true rfl) dX5_changeByMove_44 (sd_X5_shareOf l D cy ad z1 x1 rz1 r1 M5 _ h) (fun _ M6 qz => ?_)
  obtain ⟨z5, rfl, h⟩ := qz
  refine x_ladd C dX5_changeByMove_47 ?_
  refine x_lstore C dX5_changeByMove_48 (Nat.le_of_ble_eq_true rfl) rfl ?_
  refine x_aload_n C dX5_changeByMove_50 rfl ?_
  refine x_iload_n C dX5_changeByMove_51 rfl ?_
  refine x_iload C dX5_changeByMove_52 rfl ?_
  refine x_callV (vs := [aI x1, aI (M1 19 x1)]) C cv_RX5_70 ly_4 rfl (by decide) ⟨rfl, rfl, Nat.le_of_ble_eq_true rfl, Nat.le_of_ble_eq_true rfl⟩ ⟨Nat.zero_le _, Nat.zero_le _⟩ rfl rfl (Nat.le_of_ble_eq_true rfl) dX5_changeByMove_54 (sd_X5_move l D cy ad x1 (M1 19 x1) r1 (ka_gI hR1 ly_19 _) M6 _ h) (fun _ M7 qz => ?_)
  obtain ⟨rfl, h⟩ := qz
  refine x_lload C dX5_changeByMove_57 rfl ?_
  refine x_lload C dX5_changeByMove_59 rfl ?_
  refine x_lsub C dX5_changeByMove_61 ?_
  exact x_lret C h dX5_changeByMove_62
set_option maxRecDepth 100000 in
set_option maxHeartbeats 4000000 in
theorem sd_X5_weigh (l : Launch) (D : va_G) (cy : Nat → ClassId) (ad : Nat → Int → Nat) (x1 : Int) (x2 : Int) (r1 : iR x1) (r2 : iR x2) (M : Mm) (Q : Mm → Prop) (h : wp_X5_weigh x1 x2 M Q) : Ct l D cy ad yX5_weigh cX5_weigh 5 none rm_X5_weigh [aR 4, aI x1, aI x2] M (rV Q) := by
  refine ct_of (z := 2) (ls := [some (aR 4), some (aI x1), some (aI x2), none, none]) (by decide) rfl (Nat.le_of_ble_eq_true rfl) ?_
  intro p e s m args below meth c C
  have C : Cx p s m args meth c D cy ad (Ar ad) cX5_weigh 5 RX5 none := C
  unfold wp_X5_weigh at h
  refine x_aload_n C dX5_weigh_0 rfl ?_
  refine x_iload_n C dX5_weigh_1 rfl ?_
  refine x_iload_n C dX5_weigh_2 rfl ?_
  refine x_callV (vs := [aI x1, aI x2]) C cv_RX5_103 ly_4 rfl (by decide) ⟨rfl, rfl, Nat.le_of_ble_eq_true rfl, Nat.le_of_ble_eq_true rfl⟩ ⟨Nat.zero_le _, Nat.zero_le _⟩ rfl rfl (Nat.le_of_ble_eq_true rfl) dX5_weigh_3 (sd_X5_changeByMove l D cy ad x1 x2 r1 r2 M _ h) (fun _ M1 qz => ?_)
  obtain ⟨z1, rfl, h⟩ := qz
  refine x_lstore_n C dX5_weigh_6 (Nat.le_of_ble_eq_true rfl) rfl ?_
  refine x_lload_n C dX5_weigh_7 rfl ?_
  refine x_aload_n C dX5_weigh_8 rfl ?_
  refine x_rng (fun hR1 => ?_)
  refine x_getL C gf_RX5_85 ly_4 rfl rfl (by decide) dX5_weigh_9 ?_
  obtain ⟨o1, h⟩ := h
  refine x_lcmp_ge (tgt := 31) C o1 dX5_weigh_12 dX5_weigh_13 (by decide) (fun q1 => ?_) (fun q1 => ?_)
  · have h := h.1 q1
    exact x_vret C h dX5_weigh_31
  · have h := h.2 q1
    refine x_aload_n C dX5_weigh_16 rfl ?_
    refine x_lload_n C dX5_weigh_17 rfl ?_
    obtain ⟨o2, h⟩ := h
    refine x_putL C pf_RX5_85 ly_4 rfl rfl (by decide) o2 dX5_weigh_18 ?_
    refine x_aload_n C dX5_weigh_21 rfl ?_
    refine x_iload_n C dX5_weigh_22 rfl ?_
    refine x_putI C pf_RX5_79 ly_4 rfl rfl (by decide) r1 dX5_weigh_23 ?_
    refine x_aload_n C dX5_weigh_26 rfl ?_
    refine x_iload_n C dX5_weigh_27 rfl ?_
    refine x_putI C pf_RX5_82 ly_4 rfl rfl (by decide) r2 dX5_weigh_28 ?_
    exact x_vret C h dX5_weigh_31
set_option maxRecDepth 100000 in
set_option maxHeartbeats 4000000 in
theorem lp_X5_weighExchanges_L16 {p : Program} {l : Launch} {e : Env} {s : State} {m : MethodId} {args : Array Value} {below : List Frame} {meth : Method} {c : Code} {D : va_G} {cy : Nat → ClassId} {ad : Nat → Int → Nat} (C : Cx p s m args meth c D cy ad (Ar ad) cX5_weighExchanges 3 RX5 none) (x1 : Int) (r1 : iR x1) (Q : Mm → Prop) : ∀ (x2 : Int) (M : Mm), wp_X5_weighExchanges_L16 x1 Q x2 M → iR x2 → Xj p l e rm_X5_weighExchanges s m args below meth c D cy ad (Ar ad) (MQ below (QX D cy ad (rV Q)) args s 0 0 (Ar ad)) 3 0 0 16 [some (aR 4), some (aI x1), some (aI x2)] [] M :=
  LP1.ind (P := fun x2 M => iR x2 → Xj p l e rm_X5_weighExchanges s m args below meth c D cy ad (Ar ad) (MQ below (QX D cy ad (rV Q)) args s 0 0 (Ar ad)) 3 0 0 16 [some (aR 4), some (aI x1), some (aI x2)] [] M) (fun R ih => by
    intro x2 M h r2
    unfold bc_X5_weighExchanges_L16 at h
    refine x_iload_n C dX5_weighExchanges_16 rfl ?_
    refine x_aload_n C dX5_weighExchanges_17 rfl ?_
    refine x_getR C gf_RX5_15 ly_4 rfl (by decide) dX5_weighExchanges_18 ?_
    refine x_rng (fun hR1 => ?_)
    refine x_getI C gf_RX5_27 ly_1 rfl rfl (by decide) dX5_weighExchanges_21 ?_
    refine x_icmp_ge (tgt := 55) C r2 (ka_fI hR1 ly_1 rfl) dX5_weighExchanges_24 (by decide) (fun q1 => ?_) (fun q1 => ?_)
    · have h := h.1 q1
      exact x_vret C h dX5_weighExchanges_55
    · have h := h.2 q1
      refine x_aload_n C dX5_weighExchanges_27 rfl ?_
      refine x_getR C gf_RX5_15 ly_4 rfl (by decide) dX5_weighExchanges_28 ?_
      refine x_iload_n C dX5_weighExchanges_31 rfl ?_
      refine x_callV (vs := [aI x2]) C cv_RX5_37 ly_1 rfl (by decide) ⟨rfl, rfl, Nat.le_of_ble_eq_true rfl, Nat.le_of_ble_eq_true rfl⟩ ⟨Nat.zero_le _, Nat.zero_le _⟩ rfl rfl (Nat.le_of_ble_eq_true rfl) dX5_weighExchanges_32 (sd_X3_isFixed l D cy ad x2 r2 M _ h) (fun _ M1 qz => ?_)
      obtain ⟨z1, rfl, rz1, h⟩ := qz
      refine x_if_ne (tgt := 49) C (ka_bi rz1) dX5_weighExchanges_35 (by decide) (fun q2 => ?_) (fun q2 => ?_)
      · have h := h.1 q2
        refine x_iinc C dX5_weighExchanges_49 rfl (Nat.le_of_ble_eq_true rfl) rfl ?_
        refine x_goto (tgt := 16) C dX5_weighExchanges_52 (by decide) ?_
        obtain ⟨o1, h⟩ := h
        exact ih _ _ h o1
      · have h := h.2 q2
        refine x_aload_n C dX5_weighExchanges_38 rfl ?_
        refine x_iload_n C dX5_weighExchanges_39 rfl ?_
        refine x_aload_n C dX5_weighExchanges_40 rfl ?_
        refine x_getR C gf_RX5_9 ly_4 rfl (by decide) dX5_weighExchanges_41 ?_
        refine x_iload_n C dX5_weighExchanges_44 rfl ?_
        obtain ⟨o2, h⟩ := h
        refine x_rng (fun hR2 => ?_)
        refine x_iald C ly_19 rfl (by decide) (by decide) o2 dX5_weighExchanges_45 ?_
        refine x_callV (vs := [aI x1, aI (M1 19 x2)]) C cv_RX5_96 ly_4 rfl (by decide) ⟨rfl, rfl, Nat.le_of_ble_eq_true rfl, Nat.le_of_ble_eq_true rfl⟩ ⟨Nat.zero_le _, Nat.zero_le _⟩ rfl rfl (Nat.le_of_ble_eq_true rfl) dX5_weighExchanges_46 (sd_X5_weigh l D cy ad x1 (M1 19 x2) r1 (ka_gI hR2 ly_19 _) M1 _ h) (fun _ M2 qz => ?_)
        obtain ⟨rfl, h⟩ := qz
        refine x_iinc C dX5_weighExchanges_49 rfl (Nat.le_of_ble_eq_true rfl) rfl ?_
        refine x_goto (tgt := 16) C dX5_weighExchanges_52 (by decide) ?_
        obtain ⟨o3, h⟩ := h
        exact ih _ _ h o3)
set_option maxRecDepth 100000 in
set_option maxHeartbeats 4000000 in
theorem sd_X5_weighExchanges (l : Launch) (D : va_G) (cy : Nat → ClassId) (ad : Nat → Int → Nat) (x1 : Int) (r1 : iR x1) (M : Mm) (Q : Mm → Prop) (h : wp_X5_weighExchanges x1 M Q) : Ct l D cy ad yX5_weighExchanges cX5_weighExchanges 3 none rm_X5_weighExchanges [aR 4, aI x1] M (rV Q) := by
  refine ct_of (z := 1) (ls := [some (aR 4), some (aI x1), none]) (by decide) rfl (Nat.le_of_ble_eq_true rfl) ?_
  intro p e s m args below meth c C
  have C : Cx p s m args meth c D cy ad (Ar ad) cX5_weighExchanges 3 RX5 none := C
  unfold wp_X5_weighExchanges at h
  refine x_aload_n C dX5_weighExchanges_0 rfl ?_
  refine x_getR C gf_RX5_15 ly_4 rfl (by decide) dX5_weighExchanges_1 ?_
  refine x_iload_n C dX5_weighExchanges_4 rfl ?_
  refine x_callV (vs := [aI x1]) C cv_RX5_37 ly_1 rfl (by decide) ⟨rfl, rfl, Nat.le_of_ble_eq_true rfl, Nat.le_of_ble_eq_true rfl⟩ ⟨Nat.zero_le _, Nat.zero_le _⟩ rfl rfl (Nat.le_of_ble_eq_true rfl) dX5_weighExchanges_5 (sd_X3_isFixed l D cy ad x1 r1 M _ h) (fun _ M1 qz => ?_)
  obtain ⟨z1, rfl, rz1, h⟩ := qz
  refine x_if_eq (tgt := 12) C (ka_bi rz1) dX5_weighExchanges_8 (by decide) (fun q1 => ?_) (fun q1 => ?_)
  · have h := h.1 q1
    refine x_iload_n C dX5_weighExchanges_12 rfl ?_
    refine x_iconst C dX5_weighExchanges_13 ?_
    refine x_iadd C dX5_weighExchanges_14 ?_
    refine x_istore_n C dX5_weighExchanges_15 (Nat.le_of_ble_eq_true rfl) rfl ?_
    obtain ⟨o1, h⟩ := h
    refine lp_X5_weighExchanges_L16 C x1 r1 Q _ _ h o1
  · have h := h.2 q1
    exact x_vret C h dX5_weighExchanges_11
set_option maxRecDepth 100000 in
set_option maxHeartbeats 4000000 in
theorem sd_X3_allow (l : Launch) (D : va_G) (cy : Nat → ClassId) (ad : Nat → Int → Nat) (x1 : Int) (x2 : Int) (r1 : iR x1) (r2 : iR x2) (M : Mm) (Q : Int → Mm → Prop) (h : wp_X3_allow x1 x2 M Q) : Ct l D cy ad yX3_allow cX3_allow 3 (some .boolean) rm_X3_allow [aR 1, aI x1, aI x2] M (rZ Q) := by
  refine ct_of (z := 0) (ls := [some (aR 1), some (aI x1), some (aI x2)]) (by decide) rfl (Nat.le_of_ble_eq_true rfl) ?_
  intro p e s m args below meth c C
  have C : Cx p s m args meth c D cy ad (Ar ad) cX3_allow 3 RX3 (some .boolean) := C
  unfold wp_X3_allow at h
  refine x_aload_n C dX3_allow_0 rfl ?_
  refine x_iload_n C dX3_allow_1 rfl ?_
  refine x_callV (vs := [aI x1]) C cv_RX3_28 ly_1 rfl (by decide) ⟨rfl, rfl, Nat.le_of_ble_eq_true rfl, Nat.le_of_ble_eq_true rfl⟩ ⟨Nat.zero_le _, Nat.zero_le _⟩ rfl rfl (Nat.le_of_ble_eq_true rfl) dX3_allow_2 (sd_X3_isFixed l D cy ad x1 r1 M _ h) (fun _ M1 qz => ?_)
  obtain ⟨z1, rfl, rz1, h⟩ := qz
  refine x_if_eq (tgt := 26) C (ka_bi rz1) dX3_allow_5 (by decide) (fun q1 => ?_) (fun q1 => ?_)
  · have h := h.1 q1
    refine x_aload_n C dX3_allow_26 rfl ?_
    refine x_getR C gf_RX3_19 ly_1 rfl (by decide) dX3_allow_27 ?_
    refine x_iload_n C dX3_allow_30 rfl ?_
    obtain ⟨o1, h⟩ := h
    refine x_rng (fun hR1 => ?_)
    refine x_iald C ly_10 rfl (by decide) (by decide) o1 dX3_allow_31 ?_
    refine x_iconst C dX3_allow_32 ?_
    refine x_icmp_ne (tgt := 40) C (ka_gI hR1 ly_10 _) (by decide) dX3_allow_33 (by decide) (fun q2 => ?_) (fun q2 => ?_)
    · have h := h.1 q2
      refine x_iconst C dX3_allow_40 ?_
      exact x_zret C (by decide) h dX3_allow_41
    · have h := h.2 q2
      refine x_iconst C dX3_allow_36 ?_
      refine x_goto (tgt := 41) C dX3_allow_37 (by decide) ?_
      exact x_zret C (by decide) h dX3_allow_41
  · have h := h.2 q1
    refine x_aload_n C dX3_allow_8 rfl ?_
    refine x_getR C gf_RX3_15 ly_1 rfl (by decide) dX3_allow_9 ?_
    refine x_iload_n C dX3_allow_12 rfl ?_
    obtain ⟨o2, h⟩ := h
    refine x_rng (fun hR2 => ?_)
    refine x_iald C ly_9 rfl (by decide) (by decide) o2 dX3_allow_13 ?_
    refine x_iload_n C dX3_allow_14 rfl ?_
    refine x_icmp_ne (tgt := 22) C (ka_gI hR2 ly_9 _) r2 dX3_allow_15 (by decide) (fun q3 => ?_) (fun q3 => ?_)
    · have h := h.1 q3
      refine x_iconst C dX3_allow_22 ?_
      refine x_goto (tgt := 41) C dX3_allow_23 (by decide) ?_
      exact x_zret C (by decide) h dX3_allow_41
    · have h := h.2 q3
      refine x_iconst C dX3_allow_18 ?_
      refine x_goto (tgt := 41) C dX3_allow_19 (by decide) ?_
      exact x_zret C (by decide) h dX3_allow_41
set_option maxRecDepth 100000 in
set_option maxHeartbeats 4000000 in
theorem lp_X5_weighGoings_L14 {p : Program} {l : Launch} {e : Env} {s : State} {m : MethodId} {args : Array Value} {below : List Frame} {meth : Method} {c : Code} {D : va_G} {cy : Nat → ClassId} {ad : Nat → Int → Nat} (C : Cx p s m args meth c D cy ad (Ar ad) cX5_weighGoings 3 RX5 none) (x1 : Int) (r1 : iR x1) (Q : Mm → Prop) : ∀ (x2 : Int) (M : Mm), wp_X5_weighGoings_L14 x1 Q x2 M → iR x2 → Xj p l e rm_X5_weighGoings s m args below meth c D cy ad (Ar ad) (MQ below (QX D cy ad (rV Q)) args s 0 0 (Ar ad)) 3 0 0 14 [some (aR 4), some (aI x1), some (aI x2)] [] M :=
  LP1.ind (P := fun x2 M => iR x2 → Xj p l e rm_X5_weighGoings s m args below meth c D cy ad (Ar ad) (MQ below (QX D cy ad (rV Q)) args s 0 0 (Ar ad)) 3 0 0 14 [some (aR 4), some (aI x1), some (aI x2)] [] M) (fun R ih => by
    intro x2 M h r2
    unfold bc_X5_weighGoings_L14 at h
    refine x_iload_n C dX5_weighGoings_14 rfl ?_
    refine x_aload_n C dX5_weighGoings_15 rfl ?_
    refine x_getR C gf_RX5_19 ly_4 rfl (by decide) dX5_weighGoings_16 ?_
    refine x_rng (fun hR1 => ?_)
    refine x_getI C gf_RX5_48 ly_3 rfl rfl (by decide) dX5_weighGoings_19 ?_
    refine x_icmp_ge (tgt := 58) C r2 (ka_fI hR1 ly_3 rfl) dX5_weighGoings_22 (by decide) (fun q1 => ?_) (fun q1 => ?_)
    · have h := h.1 q1
      exact x_vret C h dX5_weighGoings_58
    · have h := h.2 q1
      refine x_aload_n C dX5_weighGoings_25 rfl ?_
      refine x_getR C gf_RX5_15 ly_4 rfl (by decide) dX5_weighGoings_26 ?_
      refine x_iload_n C dX5_weighGoings_29 rfl ?_
      refine x_iload_n C dX5_weighGoings_30 rfl ?_
      refine x_callV (vs := [aI x1, aI x2]) C cv_RX5_99 ly_1 rfl (by decide) ⟨rfl, rfl, Nat.le_of_ble_eq_true rfl, Nat.le_of_ble_eq_true rfl⟩ ⟨Nat.zero_le _, Nat.zero_le _⟩ rfl rfl (Nat.le_of_ble_eq_true rfl) dX5_weighGoings_31 (sd_X3_allow l D cy ad x1 x2 r1 r2 M _ h) (fun _ M1 qz => ?_)
      obtain ⟨z1, rfl, rz1, h⟩ := qz
      refine x_if_eq (tgt := 52) C (ka_bi rz1) dX5_weighGoings_34 (by decide) (fun q2 => ?_) (fun q2 => ?_)
      · have h := h.1 q2
        refine x_iinc C dX5_weighGoings_52 rfl (Nat.le_of_ble_eq_true rfl) rfl ?_
        refine x_goto (tgt := 14) C dX5_weighGoings_55 (by decide) ?_
        obtain ⟨o1, h⟩ := h
        exact ih _ _ h o1
      · have h := h.2 q2
        refine x_aload_n C dX5_weighGoings_37 rfl ?_
        refine x_iload_n C dX5_weighGoings_38 rfl ?_
        refine x_callV (vs := [aI x2]) C cv_RX5_54 ly_4 rfl (by decide) ⟨rfl, rfl, Nat.le_of_ble_eq_true rfl, Nat.le_of_ble_eq_true rfl⟩ ⟨Nat.zero_le _, Nat.zero_le _⟩ rfl rfl (Nat.le_of_ble_eq_true rfl) dX5_weighGoings_39 (sd_X5_letterOn l D cy ad x2 r2 M1 _ h) (fun _ M2 qz => ?_)
        obtain ⟨z2, rfl, rz2, h⟩ := qz
        refine x_iconst C dX5_weighGoings_42 ?_
        refine x_icmp_ne (tgt := 52) C rz2 (by decide) dX5_weighGoings_43 (by decide) (fun q3 => ?_) (fun q3 => ?_)
        · have h := h.1 q3
          refine x_iinc C dX5_weighGoings_52 rfl (Nat.le_of_ble_eq_true rfl) rfl ?_
          refine x_goto (tgt := 14) C dX5_weighGoings_55 (by decide) ?_
          obtain ⟨o2, h⟩ := h
          exact ih _ _ h o2
        · have h := h.2 q3
          refine x_aload_n C dX5_weighGoings_46 rfl ?_
          refine x_iload_n C dX5_weighGoings_47 rfl ?_
          refine x_iload_n C dX5_weighGoings_48 rfl ?_
          refine x_callV (vs := [aI x1, aI x2]) C cv_RX5_96 ly_4 rfl (by decide) ⟨rfl, rfl, Nat.le_of_ble_eq_true rfl, Nat.le_of_ble_eq_true rfl⟩ ⟨Nat.zero_le _, Nat.zero_le _⟩ rfl rfl (Nat.le_of_ble_eq_true rfl) dX5_weighGoings_49 (sd_X5_weigh l D cy ad x1 x2 r1 r2 M2 _ h) (fun _ M3 qz => ?_)
          obtain ⟨rfl, h⟩ := qz
          refine x_iinc C dX5_weighGoings_52 rfl (Nat.le_of_ble_eq_true rfl) rfl ?_
          refine x_goto (tgt := 14) C dX5_weighGoings_55 (by decide) ?_
          obtain ⟨o3, h⟩ := h
          exact ih _ _ h o3)
set_option maxRecDepth 100000 in
set_option maxHeartbeats 4000000 in
theorem sd_X5_weighGoings (l : Launch) (D : va_G) (cy : Nat → ClassId) (ad : Nat → Int → Nat) (x1 : Int) (r1 : iR x1) (M : Mm) (Q : Mm → Prop) (h : wp_X5_weighGoings x1 M Q) : Ct l D cy ad yX5_weighGoings cX5_weighGoings 3 none rm_X5_weighGoings [aR 4, aI x1] M (rV Q) := by
  refine ct_of (z := 1) (ls := [some (aR 4), some (aI x1), none]) (by decide) rfl (Nat.le_of_ble_eq_true rfl) ?_
  intro p e s m args below meth c C
  have C : Cx p s m args meth c D cy ad (Ar ad) cX5_weighGoings 3 RX5 none := C
  unfold wp_X5_weighGoings at h
  refine x_aload_n C dX5_weighGoings_0 rfl ?_
  refine x_getR C gf_RX5_15 ly_4 rfl (by decide) dX5_weighGoings_1 ?_
  refine x_iload_n C dX5_weighGoings_4 rfl ?_
  refine x_callV (vs := [aI x1]) C cv_RX5_37 ly_1 rfl (by decide) ⟨rfl, rfl, Nat.le_of_ble_eq_true rfl, Nat.le_of_ble_eq_true rfl⟩ ⟨Nat.zero_le _, Nat.zero_le _⟩ rfl rfl (Nat.le_of_ble_eq_true rfl) dX5_weighGoings_5 (sd_X3_isFixed l D cy ad x1 r1 M _ h) (fun _ M1 qz => ?_)
  obtain ⟨z1, rfl, rz1, h⟩ := qz
  refine x_if_eq (tgt := 12) C (ka_bi rz1) dX5_weighGoings_8 (by decide) (fun q1 => ?_) (fun q1 => ?_)
  · have h := h.1 q1
    refine x_iconst C dX5_weighGoings_12 ?_
    refine x_istore_n C dX5_weighGoings_13 (Nat.le_of_ble_eq_true rfl) rfl ?_
    refine lp_X5_weighGoings_L14 C x1 r1 Q _ _ h (by decide)
  · have h := h.2 q1
    exact x_vret C h dX5_weighGoings_11
set_option maxRecDepth 100000 in
set_option maxHeartbeats 4000000 in
theorem lp_X5_findBestChange_L7 {p : Program} {l : Launch} {e : Env} {s : State} {m : MethodId} {args : Array Value} {below : List Frame} {meth : Method} {c : Code} {D : va_G} {cy : Nat → ClassId} {ad : Nat → Int → Nat} (C : Cx p s m args meth c D cy ad (Ar ad) cX5_findBestChange 2 RX5 (some .boolean)) (Q : Int → Mm → Prop) (K29 : Mm → Prop) (k29 : ∀ (M : Mm), K29 M → Xj p l e rm_X5_findBestChange s m args below meth c D cy ad (Ar ad) (MQ below (QX D cy ad (rZ Q)) args s 0 0 (Ar ad)) 2 0 0 29 [some (aR 4), none] [] M) : ∀ (x1 : Int) (M : Mm), wp_X5_findBestChange_L7 Q K29 x1 M → iR x1 → Xj p l e rm_X5_findBestChange s m args below meth c D cy ad (Ar ad) (MQ below (QX D cy ad (rZ Q)) args s 0 0 (Ar ad)) 2 0 0 7 [some (aR 4), some (aI x1)] [] M :=
  LP1.ind (P := fun x1 M => iR x1 → Xj p l e rm_X5_findBestChange s m args below meth c D cy ad (Ar ad) (MQ below (QX D cy ad (rZ Q)) args s 0 0 (Ar ad)) 2 0 0 7 [some (aR 4), some (aI x1)] [] M) (fun R ih => by
    intro x1 M h r1
    unfold bc_X5_findBestChange_L7 at h
    refine x_iload_n C dX5_findBestChange_7 rfl ?_
    refine x_aload_n C dX5_findBestChange_8 rfl ?_
    refine x_getR C gf_RX5_15 ly_4 rfl (by decide) dX5_findBestChange_9 ?_
    refine x_rng (fun hR1 => ?_)
    refine x_getI C gf_RX5_27 ly_1 rfl rfl (by decide) dX5_findBestChange_12 ?_
    refine x_icmp_ge (tgt := 29) C r1 (ka_fI hR1 ly_1 rfl) dX5_findBestChange_15 (by decide) (fun q1 => ?_) (fun q1 => ?_)
    · have h := h.1 q1
      refine x_mask [true, false] rfl ?_
      exact k29 _ h
    · have h := h.2 q1
      refine x_aload_n C dX5_findBestChange_18 rfl ?_
      refine x_iload_n C dX5_findBestChange_19 rfl ?_
      refine x_callV (vs := [aI x1]) C cv_RX5_89 ly_4 rfl (by decide) ⟨rfl, rfl, Nat.le_of_ble_eq_true rfl, Nat.le_of_ble_eq_true rfl⟩ ⟨Nat.zero_le _, Nat.zero_le _⟩ rfl rfl (Nat.le_of_ble_eq_true rfl) dX5_findBestChange_20 (sd_X5_weighExchanges l D cy ad x1 r1 M _ h) (fun _ M1 qz => ?_)
      obtain ⟨rfl, h⟩ := qz
      refine x_iinc C dX5_findBestChange_23 rfl (Nat.le_of_ble_eq_true rfl) rfl ?_
      refine x_goto (tgt := 7) C dX5_findBestChange_26 (by decide) ?_
      obtain ⟨o1, h⟩ := h
      exact ih _ _ h o1)
set_option maxRecDepth 100000 in
set_option maxHeartbeats 4000000 in
theorem lp_X5_findBestChange_L31 {p : Program} {l : Launch} {e : Env} {s : State} {m : MethodId} {args : Array Value} {below : List Frame} {meth : Method} {c : Code} {D : va_G} {cy : Nat → ClassId} {ad : Nat → Int → Nat} (C : Cx p s m args meth c D cy ad (Ar ad) cX5_findBestChange 2 RX5 (some .boolean)) (Q : Int → Mm → Prop) : ∀ (x1 : Int) (M : Mm), wp_X5_findBestChange_L31 Q x1 M → iR x1 → Xj p l e rm_X5_findBestChange s m args below meth c D cy ad (Ar ad) (MQ below (QX D cy ad (rZ Q)) args s 0 0 (Ar ad)) 2 0 0 31 [some (aR 4), some (aI x1)] [] M :=
  LP1.ind (P := fun x1 M => iR x1 → Xj p l e rm_X5_findBestChange s m args below meth c D cy ad (Ar ad) (MQ below (QX D cy ad (rZ Q)) args s 0 0 (Ar ad)) 2 0 0 31 [some (aR 4), some (aI x1)] [] M) (fun R ih => by
    intro x1 M h r1
    unfold bc_X5_findBestChange_L31 at h
    refine x_iload_n C dX5_findBestChange_31 rfl ?_
    refine x_aload_n C dX5_findBestChange_32 rfl ?_
    refine x_getR C gf_RX5_15 ly_4 rfl (by decide) dX5_findBestChange_33 ?_
    refine x_rng (fun hR1 => ?_)
    refine x_getI C gf_RX5_27 ly_1 rfl rfl (by decide) dX5_findBestChange_36 ?_
    refine x_icmp_ge (tgt := 53) C r1 (ka_fI hR1 ly_1 rfl) dX5_findBestChange_39 (by decide) (fun q1 => ?_) (fun q1 => ?_)
    · have h := h.1 q1
      refine x_aload_n C dX5_findBestChange_53 rfl ?_
      refine x_getL C gf_RX5_85 ly_4 rfl rfl (by decide) dX5_findBestChange_54 ?_
      refine x_lconst (v := 0) C dX5_findBestChange_57 rfl ?_
      refine x_lcmp_ge (tgt := 66) C (Or.inl ⟨(ka_fL hR1 ly_4 rfl), (by decide)⟩) dX5_findBestChange_58 dX5_findBestChange_59 (by decide) (fun q2 => ?_) (fun q2 => ?_)
      · have h := h.1 q2
        refine x_iconst C dX5_findBestChange_66 ?_
        exact x_zret C (by decide) h dX5_findBestChange_67
      · have h := h.2 q2
        refine x_iconst C dX5_findBestChange_62 ?_
        refine x_goto (tgt := 67) C dX5_findBestChange_63 (by decide) ?_
        exact x_zret C (by decide) h dX5_findBestChange_67
    · have h := h.2 q1
      refine x_aload_n C dX5_findBestChange_42 rfl ?_
      refine x_iload_n C dX5_findBestChange_43 rfl ?_
      refine x_callV (vs := [aI x1]) C cv_RX5_93 ly_4 rfl (by decide) ⟨rfl, rfl, Nat.le_of_ble_eq_true rfl, Nat.le_of_ble_eq_true rfl⟩ ⟨Nat.zero_le _, Nat.zero_le _⟩ rfl rfl (Nat.le_of_ble_eq_true rfl) dX5_findBestChange_44 (sd_X5_weighGoings l D cy ad x1 r1 M _ h) (fun _ M1 qz => ?_)
      obtain ⟨rfl, h⟩ := qz
      refine x_iinc C dX5_findBestChange_47 rfl (Nat.le_of_ble_eq_true rfl) rfl ?_
      refine x_goto (tgt := 31) C dX5_findBestChange_50 (by decide) ?_
      obtain ⟨o1, h⟩ := h
      exact ih _ _ h o1)
set_option maxRecDepth 100000 in
set_option maxHeartbeats 4000000 in
theorem sd_X5_findBestChange (l : Launch) (D : va_G) (cy : Nat → ClassId) (ad : Nat → Int → Nat) (M : Mm) (Q : Int → Mm → Prop) (h : wp_X5_findBestChange M Q) : Ct l D cy ad yX5_findBestChange cX5_findBestChange 2 (some .boolean) rm_X5_findBestChange [aR 4] M (rZ Q) := by
  refine ct_of (z := 1) (ls := [some (aR 4), none]) (by decide) rfl (Nat.le_of_ble_eq_true rfl) ?_
  intro p e s m args below meth c C
  have C : Cx p s m args meth c D cy ad (Ar ad) cX5_findBestChange 2 RX5 (some .boolean) := C
  unfold wp_X5_findBestChange at h
  refine x_aload_n C dX5_findBestChange_0 rfl ?_
  refine x_lconst (v := 0) C dX5_findBestChange_1 rfl ?_
  refine x_putL C pf_RX5_85 ly_4 rfl rfl (by decide) (by decide) dX5_findBestChange_2 ?_
  refine x_iconst C dX5_findBestChange_5 ?_
  refine x_istore_n C dX5_findBestChange_6 (Nat.le_of_ble_eq_true rfl) rfl ?_
  refine lp_X5_findBestChange_L7 C Q _ (fun M1 h => ?_) _ _ h (by decide)
  · refine x_iconst C dX5_findBestChange_29 ?_
    refine x_istore_n C dX5_findBestChange_30 (Nat.le_of_ble_eq_true rfl) rfl ?_
    refine lp_X5_findBestChange_L31 C Q _ _ h (by decide)
set_option maxRecDepth 100000 in
set_option maxHeartbeats 4000000 in
theorem lp_X5_betterToTheEnd_L2 {p : Program} {l : Launch} {e : Env} {s : State} {m : MethodId} {args : Array Value} {below : List Frame} {meth : Method} {c : Code} {D : va_G} {cy : Nat → ClassId} {ad : Nat → Int → Nat} (C : Cx p s m args meth c D cy ad (Ar ad) cX5_betterToTheEnd 2 RX5 (some .int)) (Q : Int → Mm → Prop) : ∀ (x1 : Int) (M : Mm), wp_X5_betterToTheEnd_L2 Q x1 M → iR x1 → Xj p l e rm_X5_betterToTheEnd s m args below meth c D cy ad (Ar ad) (MQ below (QX D cy ad (rI Q)) args s 0 0 (Ar ad)) 2 0 0 2 [some (aR 4), some (aI x1)] [] M :=
  LP1.ind (P := fun x1 M => iR x1 → Xj p l e rm_X5_betterToTheEnd s m args below meth c D cy ad (Ar ad) (MQ below (QX D cy ad (rI Q)) args s 0 0 (Ar ad)) 2 0 0 2 [some (aR 4), some (aI x1)] [] M) (fun R ih => by
    intro x1 M h r1
    unfold bc_X5_betterToTheEnd_L2 at h
    refine x_iload_n C dX5_betterToTheEnd_2 rfl ?_
    refine x_ldc (v := 7176000) C kc_RX5_74 rfl dX5_betterToTheEnd_3 ?_
    refine x_icmp_ge (tgt := 33) C r1 (by decide) dX5_betterToTheEnd_5 (by decide) (fun q1 => ?_) (fun q1 => ?_)
    · have h := h.1 q1
      refine x_iload_n C dX5_betterToTheEnd_33 rfl ?_
      exact x_iret C r1 h dX5_betterToTheEnd_34
    · have h := h.2 q1
      refine x_aload_n C dX5_betterToTheEnd_8 rfl ?_
      refine x_callV (vs := []) C cv_RX5_75 ly_4 rfl (by decide) ⟨rfl, rfl, Nat.le_of_ble_eq_true rfl, Nat.le_of_ble_eq_true rfl⟩ ⟨Nat.zero_le _, Nat.zero_le _⟩ rfl rfl (Nat.le_of_ble_eq_true rfl) dX5_betterToTheEnd_9 (sd_X5_findBestChange l D cy ad M _ h) (fun _ M1 qz => ?_)
      obtain ⟨z1, rfl, rz1, h⟩ := qz
      refine x_if_eq (tgt := 33) C (ka_bi rz1) dX5_betterToTheEnd_12 (by decide) (fun q2 => ?_) (fun q2 => ?_)
      · have h := h.1 q2
        refine x_iload_n C dX5_betterToTheEnd_33 rfl ?_
        exact x_iret C r1 h dX5_betterToTheEnd_34
      · have h := h.2 q2
        refine x_aload_n C dX5_betterToTheEnd_15 rfl ?_
        refine x_aload_n C dX5_betterToTheEnd_16 rfl ?_
        refine x_rng (fun hR1 => ?_)
        refine x_getI C gf_RX5_79 ly_4 rfl rfl (by decide) dX5_betterToTheEnd_17 ?_
        refine x_aload_n C dX5_betterToTheEnd_20 rfl ?_
        refine x_getI C gf_RX5_82 ly_4 rfl rfl (by decide) dX5_betterToTheEnd_21 ?_
        refine x_callV (vs := [aI (M1 4 6), aI (M1 4 7)]) C cv_RX5_70 ly_4 rfl (by decide) ⟨rfl, rfl, Nat.le_of_ble_eq_true rfl, Nat.le_of_ble_eq_true rfl⟩ ⟨Nat.zero_le _, Nat.zero_le _⟩ rfl rfl (Nat.le_of_ble_eq_true rfl) dX5_betterToTheEnd_24 (sd_X5_move l D cy ad (M1 4 6) (M1 4 7) (ka_fI hR1 ly_4 rfl) (ka_fI hR1 ly_4 rfl) M1 _ h) (fun _ M2 qz => ?_)
        obtain ⟨rfl, h⟩ := qz
        refine x_iinc C dX5_betterToTheEnd_27 rfl (Nat.le_of_ble_eq_true rfl) rfl ?_
        refine x_goto (tgt := 2) C dX5_betterToTheEnd_30 (by decide) ?_
        obtain ⟨o1, h⟩ := h
        exact ih _ _ h o1)
set_option maxRecDepth 100000 in
set_option maxHeartbeats 4000000 in
theorem sd_X5_betterToTheEnd (l : Launch) (D : va_G) (cy : Nat → ClassId) (ad : Nat → Int → Nat) (M : Mm) (Q : Int → Mm → Prop) (h : wp_X5_betterToTheEnd M Q) : Ct l D cy ad yX5_betterToTheEnd cX5_betterToTheEnd 2 (some .int) rm_X5_betterToTheEnd [aR 4] M (rI Q) := by
  refine ct_of (z := 1) (ls := [some (aR 4), none]) (by decide) rfl (Nat.le_of_ble_eq_true rfl) ?_
  intro p e s m args below meth c C
  have C : Cx p s m args meth c D cy ad (Ar ad) cX5_betterToTheEnd 2 RX5 (some .int) := C
  unfold wp_X5_betterToTheEnd at h
  refine x_iconst C dX5_betterToTheEnd_0 ?_
  refine x_istore_n C dX5_betterToTheEnd_1 (Nat.le_of_ble_eq_true rfl) rfl ?_
  refine lp_X5_betterToTheEnd_L2 C Q _ _ h (by decide)
set_option maxRecDepth 100000 in
set_option maxHeartbeats 4000000 in
theorem sd_X7_better (l : Launch) (D : va_G) (cy : Nat → ClassId) (ad : Nat → Int → Nat) (M : Mm) (Q : Int → Mm → Prop) (h : wp_X7_better M Q) : Ct l D cy ad yX7_better cX7_better 1 (some .int) rm_X7_better [aR 0] M (rI Q) := by
  refine ct_of (z := 0) (ls := [some (aR 0)]) (by decide) rfl (Nat.le_of_ble_eq_true rfl) ?_
  intro p e s m args below meth c C
  have C : Cx p s m args meth c D cy ad (Ar ad) cX7_better 1 RX7 (some .int) := C
  unfold wp_X7_better at h
  refine x_aload_n C dX7_better_0 rfl ?_
  refine x_getR C gf_RX7_39 ly_0 rfl (by decide) dX7_better_1 ?_
  refine x_rng (fun hR1 => ?_)
  refine x_getZ C gf_RX7_74 ly_4 rfl rfl (by decide) dX7_better_4 ?_
  refine x_if_eq (tgt := 20) C (ka_bi (ka_fZ hR1 ly_4 rfl)) dX7_better_7 (by decide) (fun q1 => ?_) (fun q1 => ?_)
  · have h := h.1 q1
    refine x_bipush C dX7_better_20 rfl ?_
    exact x_iret C (by decide) h dX7_better_22
  · have h := h.2 q1
    refine x_aload_n C dX7_better_10 rfl ?_
    refine x_getR C gf_RX7_39 ly_0 rfl (by decide) dX7_better_11 ?_
    refine x_callV (vs := []) C cv_RX7_160 ly_4 rfl (by decide) ⟨rfl, rfl, Nat.le_of_ble_eq_true rfl, Nat.le_of_ble_eq_true rfl⟩ ⟨Nat.zero_le _, Nat.zero_le _⟩ rfl rfl (Nat.le_of_ble_eq_true rfl) dX7_better_14 (sd_X5_betterToTheEnd l D cy ad M _ h) (fun _ M1 qz => ?_)
    obtain ⟨z1, rfl, rz1, h⟩ := qz
    refine x_goto (tgt := 22) C dX7_better_17 (by decide) ?_
    exact x_iret C rz1 h dX7_better_22
set_option maxRecDepth 100000 in
set_option maxHeartbeats 4000000 in
theorem sd_X8_exchange (l : Launch) (D : va_G) (cy : Nat → ClassId) (ad : Nat → Int → Nat) (x1 : Int) (x2 : Int) (r1 : iR x1) (r2 : iR x2) (M : Mm) (Q : Mm → Prop) (h : wp_X8_exchange x1 x2 M Q) : Ct l D cy ad yX8_exchange cX8_exchange 4 none rm_X8_exchange [aR 8, aI x1, aI x2] M (rV Q) := by
  refine ct_of (z := 1) (ls := [some (aR 8), some (aI x1), some (aI x2), none]) (by decide) rfl (Nat.le_of_ble_eq_true rfl) ?_
  intro p e s m args below meth c C
  have C : Cx p s m args meth c D cy ad (Ar ad) cX8_exchange 4 RX8 none := C
  unfold wp_X8_exchange at h
  refine x_aload_n C dX8_exchange_0 rfl ?_
  refine x_getR C gf_RX8_39 ly_8 rfl (by decide) dX8_exchange_1 ?_
  refine x_iload_n C dX8_exchange_4 rfl ?_
  obtain ⟨o1, h⟩ := h
  refine x_rng (fun hR1 => ?_)
  refine x_iald C ly_38 rfl (by decide) (by decide) o1 dX8_exchange_5 ?_
  refine x_istore_n C dX8_exchange_6 (Nat.le_of_ble_eq_true rfl) rfl ?_
  refine x_aload_n C dX8_exchange_7 rfl ?_
  refine x_getR C gf_RX8_39 ly_8 rfl (by decide) dX8_exchange_8 ?_
  refine x_iload_n C dX8_exchange_11 rfl ?_
  refine x_aload_n C dX8_exchange_12 rfl ?_
  refine x_getR C gf_RX8_39 ly_8 rfl (by decide) dX8_exchange_13 ?_
  refine x_iload_n C dX8_exchange_16 rfl ?_
  obtain ⟨o2, h⟩ := h
  refine x_iald C ly_38 rfl (by decide) (by decide) o2 dX8_exchange_17 ?_
  obtain ⟨o3, h⟩ := h
  refine x_iast C ly_38 rfl (by decide) (by decide) o3 (ka_gI hR1 ly_38 _) dX8_exchange_18 ?_
  refine x_aload_n C dX8_exchange_19 rfl ?_
  refine x_getR C gf_RX8_39 ly_8 rfl (by decide) dX8_exchange_20 ?_
  refine x_iload_n C dX8_exchange_23 rfl ?_
  refine x_iload_n C dX8_exchange_24 rfl ?_
  obtain ⟨o4, h⟩ := h
  refine x_iast C ly_38 rfl (by decide) (by decide) o4 (ka_gI hR1 ly_38 _) dX8_exchange_25 ?_
  exact x_vret C h dX8_exchange_26
set_option maxRecDepth 100000 in
set_option maxHeartbeats 4000000 in
theorem lp_X8_better_L53 {p : Program} {l : Launch} {e : Env} {s : State} {m : MethodId} {args : Array Value} {below : List Frame} {meth : Method} {c : Code} {D : va_G} {cy : Nat → ClassId} {ad : Nat → Int → Nat} (C : Cx p s m args meth c D cy ad (Ar ad) cX8_better 15 RX8 (some .int)) (x1 : Int) (x3 : Int) (x9 : Int) (x10 : Int) (r1 : iR x1) (r9 : iR x9) (r10 : iR x10) (Q : Int → Mm → Prop) (K132 : Int → Int → Int → Mm → Prop) (k132 : ∀ (x5 : Int) (x7 : Int) (x8 : Int) (M : Mm), iR x7 → iR x8 → K132 x5 x7 x8 M → Xj p l e rm_X8_better s m args below meth c D cy ad (Ar ad) (MQ below (QX D cy ad (rI Q)) args s 0 0 (Ar ad)) 15 0 0 132 [some (aR 8), some (aI x1), none, some (aL x3), none, some (aL x5), none, some (aI x7), some (aI x8), some (aI x9), some (aI x10), none, none, none, none] [] M) : ∀ (x5 : Int) (x7 : Int) (x8 : Int) (x11 : Int) (M : Mm), wp_X8_better_L53 x1 x3 x9 x10 Q K132 x5 x7 x8 x11 M → iR x7 → iR x8 → iR x11 → Xj p l e rm_X8_better s m args below meth c D cy ad (Ar ad) (MQ below (QX D cy ad (rI Q)) args s 0 0 (Ar ad)) 15 0 0 53 [some (aR 8), some (aI x1), none, some (aL x3), none, some (aL x5), none, some (aI x7), some (aI x8), some (aI x9), some (aI x10), some (aI x11), none, none, none] [] M :=
  LP4.ind (P := fun x5 x7 x8 x11 M => iR x7 → iR x8 → iR x11 → Xj p l e rm_X8_better s m args below meth c D cy ad (Ar ad) (MQ below (QX D cy ad (rI Q)) args s 0 0 (Ar ad)) 15 0 0 53 [some (aR 8), some (aI x1), none, some (aL x3), none, some (aL x5), none, some (aI x7), some (aI x8), some (aI x9), some (aI x10), some (aI x11), none, none, none] [] M) (fun R ih => by
    intro x5 x7 x8 x11 M h r7 r8 r11
    unfold bc_X8_better_L53 at h
    refine x_iload C dX8_better_53 rfl ?_
    refine x_aload_n C dX8_better_55 rfl ?_
    refine x_rng (fun hR1 => ?_)
    refine x_getI C gf_RX8_7 ly_8 rfl rfl (by decide) dX8_better_56 ?_
    refine x_icmp_ge (tgt := 132) C r11 (ka_fI hR1 ly_8 rfl) dX8_better_59 (by decide) (fun q1 => ?_) (fun q1 => ?_)
    · have h := h.1 q1
      refine x_mask [true, true, false, true, false, true, false, true, true, true, true, false, false, false, false] rfl ?_
      exact k132 _ _ _ _ r7 r8 h
    · have h := h.2 q1
      refine x_aload_n C dX8_better_62 rfl ?_
      refine x_getR C gf_RX8_36 ly_8 rfl (by decide) dX8_better_63 ?_
      refine x_iload C dX8_better_66 rfl ?_
      obtain ⟨o1, h⟩ := h
      refine x_iald C ly_37 rfl (by decide) (by decide) o1 dX8_better_68 ?_
      refine x_iconst C dX8_better_69 ?_
      refine x_icmp_ne (tgt := 132) C (ka_gI hR1 ly_37 _) (by decide) dX8_better_70 (by decide) (fun q2 => ?_) (fun q2 => ?_)
      · have h := h.1 q2
        refine x_mask [true, true, false, true, false, true, false, true, true, true, true, false, false, false, false] rfl ?_
        exact k132 _ _ _ _ r7 r8 h
      · have h := h.2 q2
        refine x_aload_n C dX8_better_73 rfl ?_
        refine x_getR C gf_RX8_36 ly_8 rfl (by decide) dX8_better_74 ?_
        refine x_iload C dX8_better_77 rfl ?_
        obtain ⟨o2, h⟩ := h
        refine x_iald C ly_37 rfl (by decide) (by decide) o2 dX8_better_79 ?_
        refine x_iconst C dX8_better_80 ?_
        refine x_icmp_ne (tgt := 126) C (ka_gI hR1 ly_37 _) (by decide) dX8_better_81 (by decide) (fun q3 => ?_) (fun q3 => ?_)
        · have h := h.1 q3
          refine x_iinc C dX8_better_126 rfl (Nat.le_of_ble_eq_true rfl) rfl ?_
          refine x_goto (tgt := 53) C dX8_better_129 (by decide) ?_
          obtain ⟨o3, h⟩ := h
          exact ih _ _ _ _ _ h r7 r8 o3
        · have h := h.2 q3
          refine x_aload_n C dX8_better_84 rfl ?_
          refine x_iload C dX8_better_85 rfl ?_
          refine x_iload C dX8_better_87 rfl ?_
          refine x_callV (vs := [aI x10, aI x11]) C cv_RX8_130 ly_8 rfl (by decide) ⟨rfl, rfl, Nat.le_of_ble_eq_true rfl, Nat.le_of_ble_eq_true rfl⟩ ⟨Nat.zero_le _, Nat.zero_le _⟩ rfl rfl (Nat.le_of_ble_eq_true rfl) dX8_better_89 (sd_X8_exchange l D cy ad x10 x11 r10 r11 M _ h) (fun _ M1 qz => ?_)
          obtain ⟨rfl, h⟩ := qz
          refine x_aload_n C dX8_better_92 rfl ?_
          refine x_callV (vs := []) C cv_RX8_122 ly_8 rfl (by decide) ⟨rfl, rfl, Nat.le_of_ble_eq_true rfl, Nat.le_of_ble_eq_true rfl⟩ ⟨Nat.zero_le _, Nat.zero_le _⟩ rfl rfl (Nat.le_of_ble_eq_true rfl) dX8_better_93 (sd_X8_costAll l D cy ad M1 _ h) (fun _ M2 qz => ?_)
          obtain ⟨z1, rfl, h⟩ := qz
          refine x_lstore C dX8_better_96 (Nat.le_of_ble_eq_true rfl) rfl ?_
          refine x_aload_n C dX8_better_98 rfl ?_
          refine x_iload C dX8_better_99 rfl ?_
          refine x_iload C dX8_better_101 rfl ?_
          refine x_callV (vs := [aI x10, aI x11]) C cv_RX8_130 ly_8 rfl (by decide) ⟨rfl, rfl, Nat.le_of_ble_eq_true rfl, Nat.le_of_ble_eq_true rfl⟩ ⟨Nat.zero_le _, Nat.zero_le _⟩ rfl rfl (Nat.le_of_ble_eq_true rfl) dX8_better_103 (sd_X8_exchange l D cy ad x10 x11 r10 r11 M2 _ h) (fun _ M3 qz => ?_)
          obtain ⟨rfl, h⟩ := qz
          refine x_lload C dX8_better_106 rfl ?_
          refine x_lload C dX8_better_108 rfl ?_
          obtain ⟨o4, h⟩ := h
          refine x_lcmp_ge (tgt := 126) C o4 dX8_better_110 dX8_better_111 (by decide) (fun q4 => ?_) (fun q4 => ?_)
          · have h := h.1 q4
            refine x_iinc C dX8_better_126 rfl (Nat.le_of_ble_eq_true rfl) rfl ?_
            refine x_goto (tgt := 53) C dX8_better_129 (by decide) ?_
            obtain ⟨o5, h⟩ := h
            refine x_mask [true, true, false, true, false, true, false, true, true, true, true, true, false, false, false] rfl ?_
            exact ih _ _ _ _ _ h r7 r8 o5
          · have h := h.2 q4
            refine x_lload C dX8_better_114 rfl ?_
            refine x_lstore C dX8_better_116 (Nat.le_of_ble_eq_true rfl) rfl ?_
            refine x_iload C dX8_better_118 rfl ?_
            refine x_istore C dX8_better_120 (Nat.le_of_ble_eq_true rfl) rfl ?_
            refine x_iload C dX8_better_122 rfl ?_
            refine x_istore C dX8_better_124 (Nat.le_of_ble_eq_true rfl) rfl ?_
            refine x_iinc C dX8_better_126 rfl (Nat.le_of_ble_eq_true rfl) rfl ?_
            refine x_goto (tgt := 53) C dX8_better_129 (by decide) ?_
            obtain ⟨o6, h⟩ := h
            refine x_mask [true, true, false, true, false, true, false, true, true, true, true, true, false, false, false] rfl ?_
            exact ih _ _ _ _ _ h r10 r11 o6)
set_option maxRecDepth 100000 in
set_option maxHeartbeats 4000000 in
theorem lp_X8_better_L38 {p : Program} {l : Launch} {e : Env} {s : State} {m : MethodId} {args : Array Value} {below : List Frame} {meth : Method} {c : Code} {D : va_G} {cy : Nat → ClassId} {ad : Nat → Int → Nat} (C : Cx p s m args meth c D cy ad (Ar ad) cX8_better 15 RX8 (some .int)) (x1 : Int) (x3 : Int) (x9 : Int) (r1 : iR x1) (r9 : iR x9) (Q : Int → Mm → Prop) (K138 : Int → Int → Int → Mm → Prop) (k138 : ∀ (x5 : Int) (x7 : Int) (x8 : Int) (M : Mm), iR x7 → iR x8 → K138 x5 x7 x8 M → Xj p l e rm_X8_better s m args below meth c D cy ad (Ar ad) (MQ below (QX D cy ad (rI Q)) args s 0 0 (Ar ad)) 15 0 0 138 [some (aR 8), some (aI x1), none, some (aL x3), none, some (aL x5), none, some (aI x7), some (aI x8), some (aI x9), none, none, none, none, none] [] M) : ∀ (x5 : Int) (x7 : Int) (x8 : Int) (x10 : Int) (M : Mm), wp_X8_better_L38 x1 x3 x9 Q K138 x5 x7 x8 x10 M → iR x7 → iR x8 → iR x10 → Xj p l e rm_X8_better s m args below meth c D cy ad (Ar ad) (MQ below (QX D cy ad (rI Q)) args s 0 0 (Ar ad)) 15 0 0 38 [some (aR 8), some (aI x1), none, some (aL x3), none, some (aL x5), none, some (aI x7), some (aI x8), some (aI x9), some (aI x10), none, none, none, none] [] M :=
  LP4.ind (P := fun x5 x7 x8 x10 M => iR x7 → iR x8 → iR x10 → Xj p l e rm_X8_better s m args below meth c D cy ad (Ar ad) (MQ below (QX D cy ad (rI Q)) args s 0 0 (Ar ad)) 15 0 0 38 [some (aR 8), some (aI x1), none, some (aL x3), none, some (aL x5), none, some (aI x7), some (aI x8), some (aI x9), some (aI x10), none, none, none, none] [] M) (fun R ih => by
    intro x5 x7 x8 x10 M h r7 r8 r10
    unfold bc_X8_better_L38 at h
    refine x_iload C dX8_better_38 rfl ?_
    refine x_aload_n C dX8_better_40 rfl ?_
    refine x_rng (fun hR1 => ?_)
    refine x_getI C gf_RX8_7 ly_8 rfl rfl (by decide) dX8_better_41 ?_
    refine x_icmp_ge (tgt := 138) C r10 (ka_fI hR1 ly_8 rfl) dX8_better_44 (by decide) (fun q1 => ?_) (fun q1 => ?_)
    · have h := h.1 q1
      refine x_mask [true, true, false, true, false, true, false, true, true, true, false, false, false, false, false] rfl ?_
      exact k138 _ _ _ _ r7 r8 h
    · have h := h.2 q1
      refine x_iload C dX8_better_47 rfl ?_
      refine x_iconst C dX8_better_49 ?_
      refine x_iadd C dX8_better_50 ?_
      refine x_istore C dX8_better_51 (Nat.le_of_ble_eq_true rfl) rfl ?_
      obtain ⟨o1, h⟩ := h
      refine lp_X8_better_L53 C x1 x3 x9 x10 r1 r9 r10 Q _ (fun y5_1 y7_1 y8_1 M1 ryy7_1 ryy8_1 h => ?_) _ _ _ _ _ h r7 r8 o1
      · refine x_iinc C dX8_better_132 rfl (Nat.le_of_ble_eq_true rfl) rfl ?_
        refine x_goto (tgt := 38) C dX8_better_135 (by decide) ?_
        obtain ⟨o2, h⟩ := h
        exact ih _ _ _ _ _ h ryy7_1 ryy8_1 o2)
set_option maxRecDepth 100000 in
set_option maxHeartbeats 4000000 in
theorem lp_X8_better_L153 {p : Program} {l : Launch} {e : Env} {s : State} {m : MethodId} {args : Array Value} {below : List Frame} {meth : Method} {c : Code} {D : va_G} {cy : Nat → ClassId} {ad : Nat → Int → Nat} (C : Cx p s m args meth c D cy ad (Ar ad) cX8_better 15 RX8 (some .int)) (x1 : Int) (x3 : Int) (x10 : Int) (r1 : iR x1) (r10 : iR x10) (Q : Int → Mm → Prop) (K245 : Int → Int → Int → Int → Mm → Prop) (k245 : ∀ (x5 : Int) (x7 : Int) (x8 : Int) (x9 : Int) (M : Mm), iR x7 → iR x8 → iR x9 → K245 x5 x7 x8 x9 M → Xj p l e rm_X8_better s m args below meth c D cy ad (Ar ad) (MQ below (QX D cy ad (rI Q)) args s 0 0 (Ar ad)) 15 0 0 245 [some (aR 8), some (aI x1), none, some (aL x3), none, some (aL x5), none, some (aI x7), some (aI x8), some (aI x9), some (aI x10), none, none, none, none] [] M) : ∀ (x5 : Int) (x7 : Int) (x8 : Int) (x9 : Int) (x11 : Int) (M : Mm), wp_X8_better_L153 x1 x3 x10 Q K245 x5 x7 x8 x9 x11 M → iR x7 → iR x8 → iR x9 → iR x11 → Xj p l e rm_X8_better s m args below meth c D cy ad (Ar ad) (MQ below (QX D cy ad (rI Q)) args s 0 0 (Ar ad)) 15 0 0 153 [some (aR 8), some (aI x1), none, some (aL x3), none, some (aL x5), none, some (aI x7), some (aI x8), some (aI x9), some (aI x10), some (aI x11), none, none, none] [] M :=
  LP5.ind (P := fun x5 x7 x8 x9 x11 M => iR x7 → iR x8 → iR x9 → iR x11 → Xj p l e rm_X8_better s m args below meth c D cy ad (Ar ad) (MQ below (QX D cy ad (rI Q)) args s 0 0 (Ar ad)) 15 0 0 153 [some (aR 8), some (aI x1), none, some (aL x3), none, some (aL x5), none, some (aI x7), some (aI x8), some (aI x9), some (aI x10), some (aI x11), none, none, none] [] M) (fun R ih => by
    intro x5 x7 x8 x9 x11 M h r7 r8 r9 r11
    unfold bc_X8_better_L153 at h
    refine x_iload C dX8_better_153 rfl ?_
    refine x_aload_n C dX8_better_155 rfl ?_
    refine x_rng (fun hR1 => ?_)
    refine x_getI C gf_RX8_80 ly_8 rfl rfl (by decide) dX8_better_156 ?_
    refine x_icmp_ge (tgt := 245) C r11 (ka_fI hR1 ly_8 rfl) dX8_better_159 (by decide) (fun q1 => ?_) (fun q1 => ?_)
    · have h := h.1 q1
      refine x_mask [true, true, false, true, false, true, false, true, true, true, true, false, false, false, false] rfl ?_
      exact k245 _ _ _ _ _ r7 r8 r9 h
    · have h := h.2 q1
      refine x_aload_n C dX8_better_162 rfl ?_
      refine x_getR C gf_RX8_36 ly_8 rfl (by decide) dX8_better_163 ?_
      refine x_iload C dX8_better_166 rfl ?_
      obtain ⟨o1, h⟩ := h
      refine x_iald C ly_37 rfl (by decide) (by decide) o1 dX8_better_168 ?_
      refine x_iconst C dX8_better_169 ?_
      refine x_icmp_ne (tgt := 245) C (ka_gI hR1 ly_37 _) (by decide) dX8_better_170 (by decide) (fun q2 => ?_) (fun q2 => ?_)
      · have h := h.1 q2
        refine x_mask [true, true, false, true, false, true, false, true, true, true, true, false, false, false, false] rfl ?_
        exact k245 _ _ _ _ _ r7 r8 r9 h
      · have h := h.2 q2
        refine x_aload_n C dX8_better_173 rfl ?_
        refine x_iload C dX8_better_174 rfl ?_
        refine x_callV (vs := [aI x11]) C cv_RX8_114 ly_8 rfl (by decide) ⟨rfl, rfl, Nat.le_of_ble_eq_true rfl, Nat.le_of_ble_eq_true rfl⟩ ⟨Nat.zero_le _, Nat.zero_le _⟩ rfl rfl (Nat.le_of_ble_eq_true rfl) dX8_better_176 (sd_X8_borne l D cy ad x11 r11 M _ h) (fun _ M1 qz => ?_)
        obtain ⟨z1, rfl, rz1, h⟩ := qz
        refine x_iconst C dX8_better_179 ?_
        refine x_icmp_ne (tgt := 239) C rz1 (by decide) dX8_better_180 (by decide) (fun q3 => ?_) (fun q3 => ?_)
        · have h := h.1 q3
          refine x_iinc C dX8_better_239 rfl (Nat.le_of_ble_eq_true rfl) rfl ?_
          refine x_goto (tgt := 153) C dX8_better_242 (by decide) ?_
          obtain ⟨o2, h⟩ := h
          exact ih _ _ _ _ _ _ h r7 r8 r9 o2
        · have h := h.2 q3
          refine x_aload_n C dX8_better_183 rfl ?_
          refine x_getR C gf_RX8_39 ly_8 rfl (by decide) dX8_better_184 ?_
          refine x_iload C dX8_better_187 rfl ?_
          obtain ⟨o3, h⟩ := h
          refine x_rng (fun hR2 => ?_)
          refine x_iald C ly_38 rfl (by decide) (by decide) o3 dX8_better_189 ?_
          refine x_istore C dX8_better_190 (Nat.le_of_ble_eq_true rfl) rfl ?_
          refine x_aload_n C dX8_better_192 rfl ?_
          refine x_getR C gf_RX8_39 ly_8 rfl (by decide) dX8_better_193 ?_
          refine x_iload C dX8_better_196 rfl ?_
          refine x_iload C dX8_better_198 rfl ?_
          obtain ⟨o4, h⟩ := h
          refine x_iast C ly_38 rfl (by decide) (by decide) o4 r11 dX8_better_200 ?_
          refine x_aload_n C dX8_better_201 rfl ?_
          refine x_callV (vs := []) C cv_RX8_122 ly_8 rfl (by decide) ⟨rfl, rfl, Nat.le_of_ble_eq_true rfl, Nat.le_of_ble_eq_true rfl⟩ ⟨Nat.zero_le _, Nat.zero_le _⟩ rfl rfl (Nat.le_of_ble_eq_true rfl) dX8_better_202 (sd_X8_costAll l D cy ad (mset M1 38 x10 x11) _ h) (fun _ M2 qz => ?_)
          obtain ⟨z2, rfl, h⟩ := qz
          refine x_lstore C dX8_better_205 (Nat.le_of_ble_eq_true rfl) rfl ?_
          refine x_aload_n C dX8_better_207 rfl ?_
          refine x_getR C gf_RX8_39 ly_8 rfl (by decide) dX8_better_208 ?_
          refine x_iload C dX8_better_211 rfl ?_
          refine x_iload C dX8_better_213 rfl ?_
          obtain ⟨o5, h⟩ := h
          refine x_iast C ly_38 rfl (by decide) (by decide) o5 (ka_gI hR2 ly_38 _) dX8_better_215 ?_
          refine x_lload C dX8_better_216 rfl ?_
          refine x_lload C dX8_better_218 rfl ?_
          obtain ⟨o6, h⟩ := h
          refine x_lcmp_ge (tgt := 239) C o6 dX8_better_220 dX8_better_221 (by decide) (fun q4 => ?_) (fun q4 => ?_)
          · have h := h.1 q4
            refine x_iinc C dX8_better_239 rfl (Nat.le_of_ble_eq_true rfl) rfl ?_
            refine x_goto (tgt := 153) C dX8_better_242 (by decide) ?_
            obtain ⟨o7, h⟩ := h
            refine x_mask [true, true, false, true, false, true, false, true, true, true, true, true, false, false, false] rfl ?_
            exact ih _ _ _ _ _ _ h r7 r8 r9 o7
          · have h := h.2 q4
            refine x_lload C dX8_better_224 rfl ?_
            refine x_lstore C dX8_better_226 (Nat.le_of_ble_eq_true rfl) rfl ?_
            refine x_iload C dX8_better_228 rfl ?_
            refine x_istore C dX8_better_230 (Nat.le_of_ble_eq_true rfl) rfl ?_
            refine x_iload C dX8_better_232 rfl ?_
            refine x_istore C dX8_better_234 (Nat.le_of_ble_eq_true rfl) rfl ?_
            refine x_iconst C dX8_better_236 ?_
            refine x_istore C dX8_better_237 (Nat.le_of_ble_eq_true rfl) rfl ?_
            refine x_iinc C dX8_better_239 rfl (Nat.le_of_ble_eq_true rfl) rfl ?_
            refine x_goto (tgt := 153) C dX8_better_242 (by decide) ?_
            obtain ⟨o8, h⟩ := h
            refine x_mask [true, true, false, true, false, true, false, true, true, true, true, true, false, false, false] rfl ?_
            exact ih _ _ _ _ _ _ h r10 r11 (by decide) o8)
set_option maxRecDepth 100000 in
set_option maxHeartbeats 4000000 in
theorem lp_X8_better_L141 {p : Program} {l : Launch} {e : Env} {s : State} {m : MethodId} {args : Array Value} {below : List Frame} {meth : Method} {c : Code} {D : va_G} {cy : Nat → ClassId} {ad : Nat → Int → Nat} (C : Cx p s m args meth c D cy ad (Ar ad) cX8_better 15 RX8 (some .int)) (x1 : Int) (x3 : Int) (r1 : iR x1) (Q : Int → Mm → Prop) (K251 : Int → Int → Int → Int → Mm → Prop) (k251 : ∀ (x5 : Int) (x7 : Int) (x8 : Int) (x9 : Int) (M : Mm), iR x7 → iR x8 → iR x9 → K251 x5 x7 x8 x9 M → Xj p l e rm_X8_better s m args below meth c D cy ad (Ar ad) (MQ below (QX D cy ad (rI Q)) args s 0 0 (Ar ad)) 15 0 0 251 [some (aR 8), some (aI x1), none, some (aL x3), none, some (aL x5), none, some (aI x7), some (aI x8), some (aI x9), none, none, none, none, none] [] M) : ∀ (x5 : Int) (x7 : Int) (x8 : Int) (x9 : Int) (x10 : Int) (M : Mm), wp_X8_better_L141 x1 x3 Q K251 x5 x7 x8 x9 x10 M → iR x7 → iR x8 → iR x9 → iR x10 → Xj p l e rm_X8_better s m args below meth c D cy ad (Ar ad) (MQ below (QX D cy ad (rI Q)) args s 0 0 (Ar ad)) 15 0 0 141 [some (aR 8), some (aI x1), none, some (aL x3), none, some (aL x5), none, some (aI x7), some (aI x8), some (aI x9), some (aI x10), none, none, none, none] [] M :=
  LP5.ind (P := fun x5 x7 x8 x9 x10 M => iR x7 → iR x8 → iR x9 → iR x10 → Xj p l e rm_X8_better s m args below meth c D cy ad (Ar ad) (MQ below (QX D cy ad (rI Q)) args s 0 0 (Ar ad)) 15 0 0 141 [some (aR 8), some (aI x1), none, some (aL x3), none, some (aL x5), none, some (aI x7), some (aI x8), some (aI x9), some (aI x10), none, none, none, none] [] M) (fun R ih => by
    intro x5 x7 x8 x9 x10 M h r7 r8 r9 r10
    unfold bc_X8_better_L141 at h
    refine x_iload C dX8_better_141 rfl ?_
    refine x_aload_n C dX8_better_143 rfl ?_
    refine x_rng (fun hR1 => ?_)
    refine x_getI C gf_RX8_7 ly_8 rfl rfl (by decide) dX8_better_144 ?_
    refine x_icmp_ge (tgt := 251) C r10 (ka_fI hR1 ly_8 rfl) dX8_better_147 (by decide) (fun q1 => ?_) (fun q1 => ?_)
    · have h := h.1 q1
      refine x_mask [true, true, false, true, false, true, false, true, true, true, false, false, false, false, false] rfl ?_
      exact k251 _ _ _ _ _ r7 r8 r9 h
    · have h := h.2 q1
      refine x_iconst C dX8_better_150 ?_
      refine x_istore C dX8_better_151 (Nat.le_of_ble_eq_true rfl) rfl ?_
      refine lp_X8_better_L153 C x1 x3 x10 r1 r10 Q _ (fun y5_1 y7_1 y8_1 y9_1 M1 ryy7_1 ryy8_1 ryy9_1 h => ?_) _ _ _ _ _ _ h r7 r8 r9 (by decide)
      · refine x_iinc C dX8_better_245 rfl (Nat.le_of_ble_eq_true rfl) rfl ?_
        refine x_goto (tgt := 141) C dX8_better_248 (by decide) ?_
        obtain ⟨o1, h⟩ := h
        exact ih _ _ _ _ _ _ h ryy7_1 ryy8_1 ryy9_1 o1)
set_option maxRecDepth 100000 in
set_option maxHeartbeats 4000000 in
theorem lp_X8_better_L14 {p : Program} {l : Launch} {e : Env} {s : State} {m : MethodId} {args : Array Value} {below : List Frame} {meth : Method} {c : Code} {D : va_G} {cy : Nat → ClassId} {ad : Nat → Int → Nat} (C : Cx p s m args meth c D cy ad (Ar ad) cX8_better 15 RX8 (some .int)) (Q : Int → Mm → Prop) : ∀ (x1 : Int) (x2 : Int) (M : Mm), wp_X8_better_L14 Q x1 x2 M → iR x1 → iR x2 → Xj p l e rm_X8_better s m args below meth c D cy ad (Ar ad) (MQ below (QX D cy ad (rI Q)) args s 0 0 (Ar ad)) 15 0 0 14 [some (aR 8), some (aI x1), some (aI x2), none, none, none, none, none, none, none, none, none, none, none, none] [] M :=
  LP2.ind (P := fun x1 x2 M => iR x1 → iR x2 → Xj p l e rm_X8_better s m args below meth c D cy ad (Ar ad) (MQ below (QX D cy ad (rI Q)) args s 0 0 (Ar ad)) 15 0 0 14 [some (aR 8), some (aI x1), some (aI x2), none, none, none, none, none, none, none, none, none, none, none, none] [] M) (fun R ih => by
    intro x1 x2 M h r1 r2
    unfold bc_X8_better_L14 at h
    refine x_iload_n C dX8_better_14 rfl ?_
    refine x_if_eq (tgt := 299) C r2 dX8_better_15 (by decide) (fun q1 => ?_) (fun q1 => ?_)
    · have h := h.1 q1
      refine x_iload_n C dX8_better_299 rfl ?_
      exact x_iret C r1 h dX8_better_300
    · have h := h.2 q1
      refine x_aload_n C dX8_better_18 rfl ?_
      refine x_callV (vs := []) C cv_RX8_122 ly_8 rfl (by decide) ⟨rfl, rfl, Nat.le_of_ble_eq_true rfl, Nat.le_of_ble_eq_true rfl⟩ ⟨Nat.zero_le _, Nat.zero_le _⟩ rfl rfl (Nat.le_of_ble_eq_true rfl) dX8_better_19 (sd_X8_costAll l D cy ad M _ h) (fun _ M1 qz => ?_)
      obtain ⟨z1, rfl, h⟩ := qz
      refine x_lstore_n C dX8_better_22 (Nat.le_of_ble_eq_true rfl) rfl ?_
      refine x_lload_n C dX8_better_23 rfl ?_
      refine x_lstore C dX8_better_24 (Nat.le_of_ble_eq_true rfl) rfl ?_
      refine x_iconst C dX8_better_26 ?_
      refine x_istore C dX8_better_27 (Nat.le_of_ble_eq_true rfl) rfl ?_
      refine x_iconst C dX8_better_29 ?_
      refine x_istore C dX8_better_30 (Nat.le_of_ble_eq_true rfl) rfl ?_
      refine x_iconst C dX8_better_32 ?_
      refine x_istore C dX8_better_33 (Nat.le_of_ble_eq_true rfl) rfl ?_
      refine x_iconst C dX8_better_35 ?_
      refine x_istore C dX8_better_36 (Nat.le_of_ble_eq_true rfl) rfl ?_
      refine x_mask [true, true, false, true, false, true, false, true, true, true, true, false, false, false, false] rfl ?_
      refine lp_X8_better_L38 C x1 z1 0 r1 (by decide) Q _ (fun y5_1 y7_1 y8_1 M2 ryy7_1 ryy8_1 h => ?_) _ _ _ _ _ h (by decide) (by decide) (by decide)
      · refine x_iconst C dX8_better_138 ?_
        refine x_istore C dX8_better_139 (Nat.le_of_ble_eq_true rfl) rfl ?_
        refine lp_X8_better_L141 C x1 z1 r1 Q _ (fun y5_2 y7_2 y8_2 y9_1 M3 ryy7_2 ryy8_2 ryy9_1 h => ?_) _ _ _ _ _ _ h ryy7_1 ryy8_1 (by decide) (by decide)
        · refine x_lload C dX8_better_251 rfl ?_
          refine x_lload_n C dX8_better_253 rfl ?_
          obtain ⟨o1, h⟩ := h
          refine x_lcmp_ge (tgt := 262) C o1 dX8_better_254 dX8_better_255 (by decide) (fun q2 => ?_) (fun q2 => ?_)
          · have h := h.1 q2
            refine x_iconst C dX8_better_262 ?_
            refine x_istore_n C dX8_better_263 (Nat.le_of_ble_eq_true rfl) rfl ?_
            refine x_iload_n C dX8_better_264 rfl ?_
            refine x_if_eq (tgt := 296) C (by decide) dX8_better_265 (by decide) (fun q3 => ?_) (fun q3 => ?_)
            · have h := h.1 q3
              refine x_goto (tgt := 14) C dX8_better_296 (by decide) ?_
              refine x_mask [true, true, true, false, false, false, false, false, false, false, false, false, false, false, false] rfl ?_
              exact ih _ _ _ h r1 (by decide)
            · have h := h.2 q3
              refine x_iload C dX8_better_268 rfl ?_
              refine x_if_eq (tgt := 285) C ryy9_1 dX8_better_270 (by decide) (fun q4 => ?_) (fun q4 => ?_)
              · have h := h.1 q4
                refine x_aload_n C dX8_better_285 rfl ?_
                refine x_iload C dX8_better_286 rfl ?_
                refine x_iload C dX8_better_288 rfl ?_
                refine x_callV (vs := [aI y7_2, aI y8_2]) C cv_RX8_130 ly_8 rfl (by decide) ⟨rfl, rfl, Nat.le_of_ble_eq_true rfl, Nat.le_of_ble_eq_true rfl⟩ ⟨Nat.zero_le _, Nat.zero_le _⟩ rfl rfl (Nat.le_of_ble_eq_true rfl) dX8_better_290 (sd_X8_exchange l D cy ad y7_2 y8_2 ryy7_2 ryy8_2 M3 _ h) (fun _ M4 qz => ?_)
                obtain ⟨rfl, h⟩ := qz
                refine x_iinc C dX8_better_293 rfl (Nat.le_of_ble_eq_true rfl) rfl ?_
                refine x_goto (tgt := 14) C dX8_better_296 (by decide) ?_
                obtain ⟨o2, h⟩ := h
                refine x_mask [true, true, true, false, false, false, false, false, false, false, false, false, false, false, false] rfl ?_
                exact ih _ _ _ h o2 (by decide)
              · have h := h.2 q4
                refine x_aload_n C dX8_better_273 rfl ?_
                refine x_getR C gf_RX8_39 ly_8 rfl (by decide) dX8_better_274 ?_
                refine x_iload C dX8_better_277 rfl ?_
                refine x_iload C dX8_better_279 rfl ?_
                obtain ⟨o3, h⟩ := h
                refine x_iast C ly_38 rfl (by decide) (by decide) o3 ryy8_2 dX8_better_281 ?_
                refine x_goto (tgt := 293) C dX8_better_282 (by decide) ?_
                refine x_iinc C dX8_better_293 rfl (Nat.le_of_ble_eq_true rfl) rfl ?_
                refine x_goto (tgt := 14) C dX8_better_296 (by decide) ?_
                obtain ⟨o4, h⟩ := h
                refine x_mask [true, true, true, false, false, false, false, false, false, false, false, false, false, false, false] rfl ?_
                exact ih _ _ _ h o4 (by decide)
          · have h := h.2 q2
            refine x_iconst C dX8_better_258 ?_
            refine x_goto (tgt := 263) C dX8_better_259 (by decide) ?_
            refine x_istore_n C dX8_better_263 (Nat.le_of_ble_eq_true rfl) rfl ?_
            refine x_iload_n C dX8_better_264 rfl ?_
            refine x_if_eq (tgt := 296) C (by decide) dX8_better_265 (by decide) (fun q5 => ?_) (fun q5 => ?_)
            · have h := h.1 q5
              refine x_goto (tgt := 14) C dX8_better_296 (by decide) ?_
              refine x_mask [true, true, true, false, false, false, false, false, false, false, false, false, false, false, false] rfl ?_
              exact ih _ _ _ h r1 (by decide)
            · have h := h.2 q5
              refine x_iload C dX8_better_268 rfl ?_
              refine x_if_eq (tgt := 285) C ryy9_1 dX8_better_270 (by decide) (fun q6 => ?_) (fun q6 => ?_)
              · have h := h.1 q6
                refine x_aload_n C dX8_better_285 rfl ?_
                refine x_iload C dX8_better_286 rfl ?_
                refine x_iload C dX8_better_288 rfl ?_
                refine x_callV (vs := [aI y7_2, aI y8_2]) C cv_RX8_130 ly_8 rfl (by decide) ⟨rfl, rfl, Nat.le_of_ble_eq_true rfl, Nat.le_of_ble_eq_true rfl⟩ ⟨Nat.zero_le _, Nat.zero_le _⟩ rfl rfl (Nat.le_of_ble_eq_true rfl) dX8_better_290 (sd_X8_exchange l D cy ad y7_2 y8_2 ryy7_2 ryy8_2 M3 _ h) (fun _ M5 qz => ?_)
                obtain ⟨rfl, h⟩ := qz
                refine x_iinc C dX8_better_293 rfl (Nat.le_of_ble_eq_true rfl) rfl ?_
                refine x_goto (tgt := 14) C dX8_better_296 (by decide) ?_
                obtain ⟨o5, h⟩ := h
                refine x_mask [true, true, true, false, false, false, false, false, false, false, false, false, false, false, false] rfl ?_
                exact ih _ _ _ h o5 (by decide)
              · have h := h.2 q6
                refine x_aload_n C dX8_better_273 rfl ?_
                refine x_getR C gf_RX8_39 ly_8 rfl (by decide) dX8_better_274 ?_
                refine x_iload C dX8_better_277 rfl ?_
                refine x_iload C dX8_better_279 rfl ?_
                obtain ⟨o6, h⟩ := h
                refine x_iast C ly_38 rfl (by decide) (by decide) o6 ryy8_2 dX8_better_281 ?_
                refine x_goto (tgt := 293) C dX8_better_282 (by decide) ?_
                refine x_iinc C dX8_better_293 rfl (Nat.le_of_ble_eq_true rfl) rfl ?_
                refine x_goto (tgt := 14) C dX8_better_296 (by decide) ?_
                obtain ⟨o7, h⟩ := h
                refine x_mask [true, true, true, false, false, false, false, false, false, false, false, false, false, false, false] rfl ?_
                exact ih _ _ _ h o7 (by decide))
set_option maxRecDepth 100000 in
set_option maxHeartbeats 4000000 in
theorem sd_X8_better (l : Launch) (D : va_G) (cy : Nat → ClassId) (ad : Nat → Int → Nat) (M : Mm) (Q : Int → Mm → Prop) (h : wp_X8_better M Q) : Ct l D cy ad yX8_better cX8_better 15 (some .int) rm_X8_better [aR 8] M (rI Q) := by
  refine ct_of (z := 14) (ls := [some (aR 8), none, none, none, none, none, none, none, none, none, none, none, none, none, none]) (by decide) rfl (Nat.le_of_ble_eq_true rfl) ?_
  intro p e s m args below meth c C
  have C : Cx p s m args meth c D cy ad (Ar ad) cX8_better 15 RX8 (some .int) := C
  unfold wp_X8_better at h
  refine x_aload_n C dX8_better_0 rfl ?_
  refine x_rng (fun hR1 => ?_)
  refine x_getZ C gf_RX8_83 ly_8 rfl rfl (by decide) dX8_better_1 ?_
  refine x_if_ne (tgt := 10) C (ka_bi (ka_fZ hR1 ly_8 rfl)) dX8_better_4 (by decide) (fun q1 => ?_) (fun q1 => ?_)
  · have h := h.1 q1
    refine x_iconst C dX8_better_10 ?_
    refine x_istore_n C dX8_better_11 (Nat.le_of_ble_eq_true rfl) rfl ?_
    refine x_iconst C dX8_better_12 ?_
    refine x_istore_n C dX8_better_13 (Nat.le_of_ble_eq_true rfl) rfl ?_
    refine lp_X8_better_L14 C Q _ _ _ h (by decide) (by decide)
  · have h := h.2 q1
    refine x_bipush C dX8_better_7 rfl ?_
    exact x_iret C (by decide) h dX8_better_9
