set_option maxRecDepth 100000 in
set_option maxHeartbeats 4000000 in
theorem sd_X7_change (l : Launch) (D : va_G) (cy : Nat → ClassId) (ad : Nat → Int → Nat) (x1 : Int) (x2 : Int) (r1 : iR x1) (r2 : iR x2) (M : Mm) (Q : Int → Mm → Prop) (h : wp_X7_change x1 x2 M Q) : Ct l D cy ad yX7_change cX7_change 3 (some .long) rm_X7_change [aR 0, aI x1, aI x2] M (rL Q) := by
  refine ct_of (z := 0) (ls := [some (aR 0), some (aI x1), some (aI x2)]) (by decide) rfl (Nat.le_of_ble_eq_true rfl) ?_
  intro p e s m args below meth c C
  have C : Cx p s m args meth c D cy ad (Ar ad) cX7_change 3 RX7 (some .long) := C
  unfold wp_X7_change at h
  refine x_aload_n C dX7_change_0 rfl ?_
  refine x_getR C gf_RX7_10 ly_0 rfl (by decide) dX7_change_1 ?_
  refine x_iload_n C dX7_change_4 rfl ?_
  refine x_callV (vs := [aI x1]) C cv_RX7_96 ly_1 rfl (by decide) ⟨rfl, rfl, Nat.le_of_ble_eq_true rfl, Nat.le_of_ble_eq_true rfl⟩ ⟨Nat.zero_le _, Nat.zero_le _⟩ rfl rfl (Nat.le_of_ble_eq_true rfl) dX7_change_5 (sd_X3_has l D cy ad x1 r1 M _ h) (fun _ M1 qz => ?_)
  obtain ⟨z1, rfl, rz1, h⟩ := qz
  refine x_if_eq (tgt := 27) C (ka_bi rz1) dX7_change_8 (by decide) (fun q1 => ?_) (fun q1 => ?_)
  · have h := h.1 q1
    refine x_ldc2 (v := 1000000000) C kc_RX7_164 rfl dX7_change_27 ?_
    exact x_lret C h dX7_change_30
  · have h := h.2 q1
    refine x_aload_n C dX7_change_11 rfl ?_
    refine x_getR C gf_RX7_10 ly_0 rfl (by decide) dX7_change_12 ?_
    refine x_iload_n C dX7_change_15 rfl ?_
    refine x_callV (vs := [aI x2]) C cv_RX7_96 ly_1 rfl (by decide) ⟨rfl, rfl, Nat.le_of_ble_eq_true rfl, Nat.le_of_ble_eq_true rfl⟩ ⟨Nat.zero_le _, Nat.zero_le _⟩ rfl rfl (Nat.le_of_ble_eq_true rfl) dX7_change_16 (sd_X3_has l D cy ad x2 r2 M1 _ h) (fun _ M2 qz => ?_)
    obtain ⟨z2, rfl, rz2, h⟩ := qz
    refine x_if_eq (tgt := 27) C (ka_bi rz2) dX7_change_19 (by decide) (fun q2 => ?_) (fun q2 => ?_)
    · have h := h.1 q2
      refine x_ldc2 (v := 1000000000) C kc_RX7_164 rfl dX7_change_27 ?_
      exact x_lret C h dX7_change_30
    · have h := h.2 q2
      refine x_iload_n C dX7_change_22 rfl ?_
      refine x_iload_n C dX7_change_23 rfl ?_
      refine x_icmp_ne (tgt := 31) C r1 r2 dX7_change_24 (by decide) (fun q3 => ?_) (fun q3 => ?_)
      · have h := h.1 q3
        refine x_aload_n C dX7_change_31 rfl ?_
        refine x_getR C gf_RX7_39 ly_0 rfl (by decide) dX7_change_32 ?_
        refine x_rng (fun hR1 => ?_)
        refine x_getZ C gf_RX7_74 ly_4 rfl rfl (by decide) dX7_change_35 ?_
        refine x_if_eq (tgt := 63) C (ka_bi (ka_fZ hR1 ly_4 rfl)) dX7_change_38 (by decide) (fun q4 => ?_) (fun q4 => ?_)
        · have h := h.1 q4
          refine x_ldc2 (v := 1000000001) C kc_RX7_166 rfl dX7_change_63 ?_
          exact x_lret C h dX7_change_66
        · have h := h.2 q4
          refine x_aload_n C dX7_change_41 rfl ?_
          refine x_getR C gf_RX7_10 ly_0 rfl (by decide) dX7_change_42 ?_
          refine x_iload_n C dX7_change_45 rfl ?_
          refine x_callV (vs := [aI x1]) C cv_RX7_135 ly_1 rfl (by decide) ⟨rfl, rfl, Nat.le_of_ble_eq_true rfl, Nat.le_of_ble_eq_true rfl⟩ ⟨Nat.zero_le _, Nat.zero_le _⟩ rfl rfl (Nat.le_of_ble_eq_true rfl) dX7_change_46 (sd_X3_isFixed l D cy ad x1 r1 M2 _ h) (fun _ M3 qz => ?_)
          obtain ⟨z3, rfl, rz3, h⟩ := qz
          refine x_if_ne (tgt := 63) C (ka_bi rz3) dX7_change_49 (by decide) (fun q5 => ?_) (fun q5 => ?_)
          · have h := h.1 q5
            refine x_ldc2 (v := 1000000001) C kc_RX7_166 rfl dX7_change_63 ?_
            exact x_lret C h dX7_change_66
          · have h := h.2 q5
            refine x_aload_n C dX7_change_52 rfl ?_
            refine x_getR C gf_RX7_10 ly_0 rfl (by decide) dX7_change_53 ?_
            refine x_iload_n C dX7_change_56 rfl ?_
            refine x_callV (vs := [aI x2]) C cv_RX7_135 ly_1 rfl (by decide) ⟨rfl, rfl, Nat.le_of_ble_eq_true rfl, Nat.le_of_ble_eq_true rfl⟩ ⟨Nat.zero_le _, Nat.zero_le _⟩ rfl rfl (Nat.le_of_ble_eq_true rfl) dX7_change_57 (sd_X3_isFixed l D cy ad x2 r2 M3 _ h) (fun _ M4 qz => ?_)
            obtain ⟨z4, rfl, rz4, h⟩ := qz
            refine x_if_eq (tgt := 67) C (ka_bi rz4) dX7_change_60 (by decide) (fun q6 => ?_) (fun q6 => ?_)
            · have h := h.1 q6
              refine x_aload_n C dX7_change_67 rfl ?_
              refine x_getR C gf_RX7_39 ly_0 rfl (by decide) dX7_change_68 ?_
              refine x_iload_n C dX7_change_71 rfl ?_
              refine x_aload_n C dX7_change_72 rfl ?_
              refine x_getR C gf_RX7_39 ly_0 rfl (by decide) dX7_change_73 ?_
              refine x_getR C gf_RX7_145 ly_4 rfl (by decide) dX7_change_76 ?_
              refine x_iload_n C dX7_change_79 rfl ?_
              obtain ⟨o1, h⟩ := h
              refine x_rng (fun hR2 => ?_)
              refine x_iald C ly_19 rfl (by decide) (by decide) o1 dX7_change_80 ?_
              refine x_callV (vs := [aI x1, aI (M4 19 x2)]) C cv_RX7_168 ly_4 rfl (by decide) ⟨rfl, rfl, Nat.le_of_ble_eq_true rfl, Nat.le_of_ble_eq_true rfl⟩ ⟨Nat.zero_le _, Nat.zero_le _⟩ rfl rfl (Nat.le_of_ble_eq_true rfl) dX7_change_81 (sd_X5_changeByMove l D cy ad x1 (M4 19 x2) r1 (ka_gI hR2 ly_19 _) M4 _ h) (fun _ M5 qz => ?_)
              obtain ⟨z5, rfl, h⟩ := qz
              exact x_lret C h dX7_change_84
            · have h := h.2 q6
              refine x_ldc2 (v := 1000000001) C kc_RX7_166 rfl dX7_change_63 ?_
              exact x_lret C h dX7_change_66
      · have h := h.2 q3
        refine x_ldc2 (v := 1000000000) C kc_RX7_164 rfl dX7_change_27 ?_
        exact x_lret C h dX7_change_30
set_option maxRecDepth 100000 in
set_option maxHeartbeats 4000000 in
theorem sd_X8_change (l : Launch) (D : va_G) (cy : Nat → ClassId) (ad : Nat → Int → Nat) (x1 : Int) (x2 : Int) (r1 : iR x1) (r2 : iR x2) (M : Mm) (Q : Int → Mm → Prop) (h : wp_X8_change x1 x2 M Q) : Ct l D cy ad yX8_change cX8_change 7 (some .long) rm_X8_change [aR 8, aI x1, aI x2] M (rL Q) := by
  refine ct_of (z := 4) (ls := [some (aR 8), some (aI x1), some (aI x2), none, none, none, none]) (by decide) rfl (Nat.le_of_ble_eq_true rfl) ?_
  intro p e s m args below meth c C
  have C : Cx p s m args meth c D cy ad (Ar ad) cX8_change 7 RX8 (some .long) := C
  unfold wp_X8_change at h
  refine x_aload_n C dX8_change_0 rfl ?_
  refine x_iload_n C dX8_change_1 rfl ?_
  refine x_callV (vs := [aI x1]) C cv_RX8_93 ly_8 rfl (by decide) ⟨rfl, rfl, Nat.le_of_ble_eq_true rfl, Nat.le_of_ble_eq_true rfl⟩ ⟨Nat.zero_le _, Nat.zero_le _⟩ rfl rfl (Nat.le_of_ble_eq_true rfl) dX8_change_2 (sd_X8_isLetter l D cy ad x1 r1 M _ h) (fun _ M1 qz => ?_)
  obtain ⟨z1, rfl, rz1, h⟩ := qz
  refine x_if_eq (tgt := 21) C (ka_bi rz1) dX8_change_5 (by decide) (fun q1 => ?_) (fun q1 => ?_)
  · have h := h.1 q1
    refine x_ldc2 (v := 1000000000) C kc_RX8_134 rfl dX8_change_21 ?_
    exact x_lret C h dX8_change_24
  · have h := h.2 q1
    refine x_aload_n C dX8_change_8 rfl ?_
    refine x_iload_n C dX8_change_9 rfl ?_
    refine x_callV (vs := [aI x2]) C cv_RX8_93 ly_8 rfl (by decide) ⟨rfl, rfl, Nat.le_of_ble_eq_true rfl, Nat.le_of_ble_eq_true rfl⟩ ⟨Nat.zero_le _, Nat.zero_le _⟩ rfl rfl (Nat.le_of_ble_eq_true rfl) dX8_change_10 (sd_X8_isLetter l D cy ad x2 r2 M1 _ h) (fun _ M2 qz => ?_)
    obtain ⟨z2, rfl, rz2, h⟩ := qz
    refine x_if_eq (tgt := 21) C (ka_bi rz2) dX8_change_13 (by decide) (fun q2 => ?_) (fun q2 => ?_)
    · have h := h.1 q2
      refine x_ldc2 (v := 1000000000) C kc_RX8_134 rfl dX8_change_21 ?_
      exact x_lret C h dX8_change_24
    · have h := h.2 q2
      refine x_iload_n C dX8_change_16 rfl ?_
      refine x_iload_n C dX8_change_17 rfl ?_
      refine x_icmp_ne (tgt := 25) C r1 r2 dX8_change_18 (by decide) (fun q3 => ?_) (fun q3 => ?_)
      · have h := h.1 q3
        refine x_aload_n C dX8_change_25 rfl ?_
        refine x_rng (fun hR1 => ?_)
        refine x_getZ C gf_RX8_83 ly_8 rfl rfl (by decide) dX8_change_26 ?_
        refine x_if_eq (tgt := 52) C (ka_bi (ka_fZ hR1 ly_8 rfl)) dX8_change_29 (by decide) (fun q4 => ?_) (fun q4 => ?_)
        · have h := h.1 q4
          refine x_ldc2 (v := 1000000001) C kc_RX8_136 rfl dX8_change_52 ?_
          exact x_lret C h dX8_change_55
        · have h := h.2 q4
          refine x_aload_n C dX8_change_32 rfl ?_
          refine x_getR C gf_RX8_36 ly_8 rfl (by decide) dX8_change_33 ?_
          refine x_iload_n C dX8_change_36 rfl ?_
          obtain ⟨o1, h⟩ := h
          refine x_iald C ly_37 rfl (by decide) (by decide) o1 dX8_change_37 ?_
          refine x_iconst C dX8_change_38 ?_
          refine x_icmp_ne (tgt := 52) C (ka_gI hR1 ly_37 _) (by decide) dX8_change_39 (by decide) (fun q5 => ?_) (fun q5 => ?_)
          · have h := h.1 q5
            refine x_ldc2 (v := 1000000001) C kc_RX8_136 rfl dX8_change_52 ?_
            exact x_lret C h dX8_change_55
          · have h := h.2 q5
            refine x_aload_n C dX8_change_42 rfl ?_
            refine x_getR C gf_RX8_36 ly_8 rfl (by decide) dX8_change_43 ?_
            refine x_iload_n C dX8_change_46 rfl ?_
            obtain ⟨o2, h⟩ := h
            refine x_iald C ly_37 rfl (by decide) (by decide) o2 dX8_change_47 ?_
            refine x_iconst C dX8_change_48 ?_
            refine x_icmp_eq (tgt := 56) C (ka_gI hR1 ly_37 _) (by decide) dX8_change_49 (by decide) (fun q6 => ?_) (fun q6 => ?_)
            · have h := h.1 q6
              refine x_aload_n C dX8_change_56 rfl ?_
              refine x_callV (vs := []) C cv_RX8_122 ly_8 rfl (by decide) ⟨rfl, rfl, Nat.le_of_ble_eq_true rfl, Nat.le_of_ble_eq_true rfl⟩ ⟨Nat.zero_le _, Nat.zero_le _⟩ rfl rfl (Nat.le_of_ble_eq_true rfl) dX8_change_57 (sd_X8_costAll l D cy ad M2 _ h) (fun _ M3 qz => ?_)
              obtain ⟨z3, rfl, h⟩ := qz
              refine x_lstore_n C dX8_change_60 (Nat.le_of_ble_eq_true rfl) rfl ?_
              refine x_aload_n C dX8_change_61 rfl ?_
              refine x_iload_n C dX8_change_62 rfl ?_
              refine x_iload_n C dX8_change_63 rfl ?_
              refine x_callV (vs := [aI x1, aI x2]) C cv_RX8_130 ly_8 rfl (by decide) ⟨rfl, rfl, Nat.le_of_ble_eq_true rfl, Nat.le_of_ble_eq_true rfl⟩ ⟨Nat.zero_le _, Nat.zero_le _⟩ rfl rfl (Nat.le_of_ble_eq_true rfl) dX8_change_64 (sd_X8_exchange l D cy ad x1 x2 r1 r2 M3 _ h) (fun _ M4 qz => ?_)
              obtain ⟨rfl, h⟩ := qz
              refine x_aload_n C dX8_change_67 rfl ?_
              refine x_callV (vs := []) C cv_RX8_122 ly_8 rfl (by decide) ⟨rfl, rfl, Nat.le_of_ble_eq_true rfl, Nat.le_of_ble_eq_true rfl⟩ ⟨Nat.zero_le _, Nat.zero_le _⟩ rfl rfl (Nat.le_of_ble_eq_true rfl) dX8_change_68 (sd_X8_costAll l D cy ad M4 _ h) (fun _ M5 qz => ?_)
              obtain ⟨z4, rfl, h⟩ := qz
              refine x_lstore C dX8_change_71 (Nat.le_of_ble_eq_true rfl) rfl ?_
              refine x_aload_n C dX8_change_73 rfl ?_
              refine x_iload_n C dX8_change_74 rfl ?_
              refine x_iload_n C dX8_change_75 rfl ?_
              refine x_callV (vs := [aI x1, aI x2]) C cv_RX8_130 ly_8 rfl (by decide) ⟨rfl, rfl, Nat.le_of_ble_eq_true rfl, Nat.le_of_ble_eq_true rfl⟩ ⟨Nat.zero_le _, Nat.zero_le _⟩ rfl rfl (Nat.le_of_ble_eq_true rfl) dX8_change_76 (sd_X8_exchange l D cy ad x1 x2 r1 r2 M5 _ h) (fun _ M6 qz => ?_)
              obtain ⟨rfl, h⟩ := qz
              refine x_lload C dX8_change_79 rfl ?_
              refine x_lload_n C dX8_change_81 rfl ?_
              refine x_lsub C dX8_change_82 ?_
              exact x_lret C h dX8_change_83
            · have h := h.2 q6
              refine x_ldc2 (v := 1000000001) C kc_RX8_136 rfl dX8_change_52 ?_
              exact x_lret C h dX8_change_55
      · have h := h.2 q3
        refine x_ldc2 (v := 1000000000) C kc_RX8_134 rfl dX8_change_21 ?_
        exact x_lret C h dX8_change_24
set_option maxRecDepth 100000 in
set_option maxHeartbeats 4000000 in
theorem lp_X1_costAddedBy_L12 {p : Program} {l : Launch} {e : Env} {s : State} {m : MethodId} {args : Array Value} {below : List Frame} {meth : Method} {c : Code} {D : va_G} {cy : Nat → ClassId} {ad : Nat → Int → Nat} (C : Cx p s m args meth c D cy ad (Ar ad) cX1_costAddedBy 7 RX1 (some .long)) (x1 : Int) (x2 : Int) (r1 : iR x1) (r2 : iR x2) (Q : Int → Mm → Prop) : ∀ (x3 : Int) (x5 : Int) (M : Mm), wp_X1_costAddedBy_L12 x1 x2 Q x3 x5 M → iR x5 → Xj p l e rm_X1_costAddedBy s m args below meth c D cy ad (Ar ad) (MQ below (QX D cy ad (rL Q)) args s 0 0 (Ar ad)) 7 0 0 12 [some (aR 5), some (aI x1), some (aI x2), some (aL x3), none, some (aI x5), none] [] M :=
  LP2.ind (P := fun x3 x5 M => iR x5 → Xj p l e rm_X1_costAddedBy s m args below meth c D cy ad (Ar ad) (MQ below (QX D cy ad (rL Q)) args s 0 0 (Ar ad)) 7 0 0 12 [some (aR 5), some (aI x1), some (aI x2), some (aL x3), none, some (aI x5), none] [] M) (fun R ih => by
    intro x3 x5 M h r5
    unfold bc_X1_costAddedBy_L12 at h
    refine x_iload C dX1_costAddedBy_12 rfl ?_
    refine x_iload_n C dX1_costAddedBy_14 rfl ?_
    refine x_icmp_ge (tgt := 87) C r5 r1 dX1_costAddedBy_15 (by decide) (fun q1 => ?_) (fun q1 => ?_)
    · have h := h.1 q1
      refine x_lload_n C dX1_costAddedBy_87 rfl ?_
      exact x_lret C h dX1_costAddedBy_88
    · have h := h.2 q1
      refine x_aload_n C dX1_costAddedBy_18 rfl ?_
      refine x_getR C gf_RX1_9 ly_5 rfl (by decide) dX1_costAddedBy_19 ?_
      refine x_iload C dX1_costAddedBy_22 rfl ?_
      obtain ⟨o1, h⟩ := h
      refine x_rng (fun hR1 => ?_)
      refine x_iald C ly_20 rfl (by decide) (by decide) o1 dX1_costAddedBy_24 ?_
      refine x_istore C dX1_costAddedBy_25 (Nat.le_of_ble_eq_true rfl) rfl ?_
      refine x_lload_n C dX1_costAddedBy_27 rfl ?_
      refine x_aload_n C dX1_costAddedBy_28 rfl ?_
      refine x_getR C gf_RX1_30 ly_5 rfl (by decide) dX1_costAddedBy_29 ?_
      refine x_iload_n C dX1_costAddedBy_32 rfl ?_
      obtain ⟨o2, h⟩ := h
      refine x_aald C ly_13 rfl (by decide) (by decide) o2 dX1_costAddedBy_33 ?_
      refine x_iload C dX1_costAddedBy_34 rfl ?_
      obtain ⟨o3, h⟩ := h
      refine x_iald2 C ly_13 rfl (by decide) (by decide) rfl o2 o3 dX1_costAddedBy_36 ?_
      refine x_i2l C (ka_gI hR1 ly_13 _) dX1_costAddedBy_37 ?_
      refine x_aload_n C dX1_costAddedBy_38 rfl ?_
      refine x_getR C gf_RX1_26 ly_5 rfl (by decide) dX1_costAddedBy_39 ?_
      refine x_getR C gf_RX1_80 ly_3 rfl (by decide) dX1_costAddedBy_42 ?_
      refine x_iload_n C dX1_costAddedBy_45 rfl ?_
      obtain ⟨o4, h⟩ := h
      refine x_aald C ly_17 rfl (by decide) (by decide) o4 dX1_costAddedBy_46 ?_
      refine x_iload C dX1_costAddedBy_47 rfl ?_
      obtain ⟨o5, h⟩ := h
      refine x_iald2 C ly_17 rfl (by decide) (by decide) rfl o4 o5 dX1_costAddedBy_49 ?_
      refine x_i2l C (ka_gI hR1 ly_17 _) dX1_costAddedBy_50 ?_
      refine x_lmul C dX1_costAddedBy_51 ?_
      refine x_ladd C dX1_costAddedBy_52 ?_
      refine x_lstore_n C dX1_costAddedBy_53 (Nat.le_of_ble_eq_true rfl) rfl ?_
      refine x_lload_n C dX1_costAddedBy_54 rfl ?_
      refine x_aload_n C dX1_costAddedBy_55 rfl ?_
      refine x_getR C gf_RX1_30 ly_5 rfl (by decide) dX1_costAddedBy_56 ?_
      refine x_iload C dX1_costAddedBy_59 rfl ?_
      obtain ⟨o6, h⟩ := h
      refine x_aald C ly_13 rfl (by decide) (by decide) o6 dX1_costAddedBy_61 ?_
      refine x_iload_n C dX1_costAddedBy_62 rfl ?_
      obtain ⟨o7, h⟩ := h
      refine x_iald2 C ly_13 rfl (by decide) (by decide) rfl o6 o7 dX1_costAddedBy_63 ?_
      refine x_i2l C (ka_gI hR1 ly_13 _) dX1_costAddedBy_64 ?_
      refine x_aload_n C dX1_costAddedBy_65 rfl ?_
      refine x_getR C gf_RX1_26 ly_5 rfl (by decide) dX1_costAddedBy_66 ?_
      refine x_getR C gf_RX1_80 ly_3 rfl (by decide) dX1_costAddedBy_69 ?_
      refine x_iload C dX1_costAddedBy_72 rfl ?_
      obtain ⟨o8, h⟩ := h
      refine x_aald C ly_17 rfl (by decide) (by decide) o8 dX1_costAddedBy_74 ?_
      refine x_iload_n C dX1_costAddedBy_75 rfl ?_
      obtain ⟨o9, h⟩ := h
      refine x_iald2 C ly_17 rfl (by decide) (by decide) rfl o8 o9 dX1_costAddedBy_76 ?_
      refine x_i2l C (ka_gI hR1 ly_17 _) dX1_costAddedBy_77 ?_
      refine x_lmul C dX1_costAddedBy_78 ?_
      refine x_ladd C dX1_costAddedBy_79 ?_
      refine x_lstore_n C dX1_costAddedBy_80 (Nat.le_of_ble_eq_true rfl) rfl ?_
      refine x_iinc C dX1_costAddedBy_81 rfl (Nat.le_of_ble_eq_true rfl) rfl ?_
      refine x_goto (tgt := 12) C dX1_costAddedBy_84 (by decide) ?_
      obtain ⟨o10, h⟩ := h
      refine x_mask [true, true, true, true, false, true, false] rfl ?_
      exact ih _ _ _ h o10)
set_option maxRecDepth 100000 in
set_option maxHeartbeats 4000000 in
theorem sd_X1_costAddedBy (l : Launch) (D : va_G) (cy : Nat → ClassId) (ad : Nat → Int → Nat) (x1 : Int) (r1 : iR x1) (M : Mm) (Q : Int → Mm → Prop) (h : wp_X1_costAddedBy x1 M Q) : Ct l D cy ad yX1_costAddedBy cX1_costAddedBy 7 (some .long) rm_X1_costAddedBy [aR 5, aI x1] M (rL Q) := by
  refine ct_of (z := 5) (ls := [some (aR 5), some (aI x1), none, none, none, none, none]) (by decide) rfl (Nat.le_of_ble_eq_true rfl) ?_
  intro p e s m args below meth c C
  have C : Cx p s m args meth c D cy ad (Ar ad) cX1_costAddedBy 7 RX1 (some .long) := C
  unfold wp_X1_costAddedBy at h
  refine x_aload_n C dX1_costAddedBy_0 rfl ?_
  refine x_getR C gf_RX1_9 ly_5 rfl (by decide) dX1_costAddedBy_1 ?_
  refine x_iload_n C dX1_costAddedBy_4 rfl ?_
  obtain ⟨o1, h⟩ := h
  refine x_rng (fun hR1 => ?_)
  refine x_iald C ly_20 rfl (by decide) (by decide) o1 dX1_costAddedBy_5 ?_
  refine x_istore_n C dX1_costAddedBy_6 (Nat.le_of_ble_eq_true rfl) rfl ?_
  refine x_lconst (v := 0) C dX1_costAddedBy_7 rfl ?_
  refine x_lstore_n C dX1_costAddedBy_8 (Nat.le_of_ble_eq_true rfl) rfl ?_
  refine x_iconst C dX1_costAddedBy_9 ?_
  refine x_istore C dX1_costAddedBy_10 (Nat.le_of_ble_eq_true rfl) rfl ?_
  refine lp_X1_costAddedBy_L12 C x1 (M 20 x1) r1 (ka_gI hR1 ly_20 _) Q _ _ _ h (by decide)
set_option maxRecDepth 100000 in
set_option maxHeartbeats 4000000 in
theorem lp_X1_keep_L2 {p : Program} {l : Launch} {e : Env} {s : State} {m : MethodId} {args : Array Value} {below : List Frame} {meth : Method} {c : Code} {D : va_G} {cy : Nat → ClassId} {ad : Nat → Int → Nat} (C : Cx p s m args meth c D cy ad (Ar ad) cX1_keep 4 RX1 none) (x1 : Int) (Q : Mm → Prop) : ∀ (x3 : Int) (M : Mm), wp_X1_keep_L2 x1 Q x3 M → iR x3 → Xj p l e rm_X1_keep s m args below meth c D cy ad (Ar ad) (MQ below (QX D cy ad (rV Q)) args s 0 0 (Ar ad)) 4 0 0 2 [some (aR 5), some (aL x1), none, some (aI x3)] [] M :=
  LP1.ind (P := fun x3 M => iR x3 → Xj p l e rm_X1_keep s m args below meth c D cy ad (Ar ad) (MQ below (QX D cy ad (rV Q)) args s 0 0 (Ar ad)) 4 0 0 2 [some (aR 5), some (aL x1), none, some (aI x3)] [] M) (fun R ih => by
    intro x3 M h r3
    unfold bc_X1_keep_L2 at h
    refine x_iload_n C dX1_keep_2 rfl ?_
    refine x_aload_n C dX1_keep_3 rfl ?_
    refine x_getR C gf_RX1_22 ly_5 rfl (by decide) dX1_keep_4 ?_
    refine x_rng (fun hR1 => ?_)
    refine x_getI C gf_RX1_52 ly_1 rfl rfl (by decide) dX1_keep_7 ?_
    refine x_icmp_ge (tgt := 31) C r3 (ka_fI hR1 ly_1 rfl) dX1_keep_10 (by decide) (fun q1 => ?_) (fun q1 => ?_)
    · have h := h.1 q1
      refine x_aload_n C dX1_keep_31 rfl ?_
      refine x_lload_n C dX1_keep_32 rfl ?_
      obtain ⟨o1, h⟩ := h
      refine x_putL C pf_RX1_76 ly_5 rfl rfl (by decide) o1 dX1_keep_33 ?_
      refine x_aload_n C dX1_keep_36 rfl ?_
      refine x_iconst C dX1_keep_37 ?_
      refine x_putZ C pf_RX1_34 ly_5 rfl rfl (by decide) (by decide) dX1_keep_38 ?_
      exact x_vret C h dX1_keep_41
    · have h := h.2 q1
      refine x_aload_n C dX1_keep_13 rfl ?_
      refine x_getR C gf_RX1_19 ly_5 rfl (by decide) dX1_keep_14 ?_
      refine x_iload_n C dX1_keep_17 rfl ?_
      refine x_aload_n C dX1_keep_18 rfl ?_
      refine x_getR C gf_RX1_9 ly_5 rfl (by decide) dX1_keep_19 ?_
      refine x_iload_n C dX1_keep_22 rfl ?_
      obtain ⟨o2, h⟩ := h
      refine x_iald C ly_20 rfl (by decide) (by decide) o2 dX1_keep_23 ?_
      obtain ⟨o3, h⟩ := h
      refine x_iast C ly_22 rfl (by decide) (by decide) o3 (ka_gI hR1 ly_20 _) dX1_keep_24 ?_
      refine x_iinc C dX1_keep_25 rfl (Nat.le_of_ble_eq_true rfl) rfl ?_
      refine x_goto (tgt := 2) C dX1_keep_28 (by decide) ?_
      obtain ⟨o4, h⟩ := h
      exact ih _ _ h o4)
set_option maxRecDepth 100000 in
set_option maxHeartbeats 4000000 in
theorem sd_X1_keep (l : Launch) (D : va_G) (cy : Nat → ClassId) (ad : Nat → Int → Nat) (x1 : Int) (M : Mm) (Q : Mm → Prop) (h : wp_X1_keep x1 M Q) : Ct l D cy ad yX1_keep cX1_keep 4 none rm_X1_keep [aR 5, aL x1] M (rV Q) := by
  refine ct_of (z := 1) (ls := [some (aR 5), some (aL x1), none, none]) (by decide) rfl (Nat.le_of_ble_eq_true rfl) ?_
  intro p e s m args below meth c C
  have C : Cx p s m args meth c D cy ad (Ar ad) cX1_keep 4 RX1 none := C
  unfold wp_X1_keep at h
  refine x_iconst C dX1_keep_0 ?_
  refine x_istore_n C dX1_keep_1 (Nat.le_of_ble_eq_true rfl) rfl ?_
  refine lp_X1_keep_L2 C x1 Q _ _ h (by decide)
set_option maxRecDepth 100000 in
set_option maxHeartbeats 4000000 in
theorem sd_X1_tryOn (l : Launch) (D : va_G) (cy : Nat → ClassId) (ad : Nat → Int → Nat) (PF : Int → Int → Mm → (Mm → Prop) → Prop) (d : Nat) (ihPF : ∀ (x1 : Int) (x2 : Int) (_ : iR x1) (M : Mm) (Q : Mm → Prop), PF x1 x2 M Q → Ct l D cy ad yX1_placeFrom cX1_placeFrom 5 none (rm_X1_placeFrom d) [aR 5, aI x1, aL x2] M (rV Q)) (x1 : Int) (x2 : Int) (x3 : Int) (r1 : iR x1) (r2 : iR x2) (M : Mm) (Q : Mm → Prop) (h : wp_X1_tryOn PF x1 x2 x3 M Q) : Ct l D cy ad yX1_tryOn cX1_tryOn 7 none (rm_X1_tryOn d) [aR 5, aI x1, aI x2, aL x3] M (rV Q) := by
  refine ct_of (z := 2) (ls := [some (aR 5), some (aI x1), some (aI x2), some (aL x3), none, none, none]) (by decide) rfl (Nat.le_of_ble_eq_true rfl) ?_
  intro p e s m args below meth c C
  have C : Cx p s m args meth c D cy ad (Ar ad) cX1_tryOn 7 RX1 none := C
  unfold wp_X1_tryOn at h
  refine x_aload_n C dX1_tryOn_0 rfl ?_
  refine x_rng (fun hR1 => ?_)
  refine x_getI C gf_RX1_41 ly_5 rfl rfl (by decide) dX1_tryOn_1 ?_
  refine x_sipush C dX1_tryOn_4 rfl ?_
  refine x_icmp_lt (tgt := 16) C (ka_fI hR1 ly_5 rfl) (by decide) dX1_tryOn_7 (by decide) (fun q1 => ?_) (fun q1 => ?_)
  · have h := h.1 q1
    refine x_aload_n C dX1_tryOn_16 rfl ?_
    refine x_dup C dX1_tryOn_17 rfl ?_
    refine x_getI C gf_RX1_41 ly_5 rfl rfl (by decide) dX1_tryOn_18 ?_
    refine x_iconst C dX1_tryOn_21 ?_
    refine x_iadd C dX1_tryOn_22 ?_
    obtain ⟨o1, h⟩ := h
    refine x_putI C pf_RX1_41 ly_5 rfl rfl (by decide) o1 dX1_tryOn_23 ?_
    refine x_aload_n C dX1_tryOn_26 rfl ?_
    refine x_getR C gf_RX1_9 ly_5 rfl (by decide) dX1_tryOn_27 ?_
    refine x_iload_n C dX1_tryOn_30 rfl ?_
    refine x_iload_n C dX1_tryOn_31 rfl ?_
    obtain ⟨o2, h⟩ := h
    refine x_iast C ly_20 rfl (by decide) (by decide) o2 r2 dX1_tryOn_32 ?_
    refine x_lload_n C dX1_tryOn_33 rfl ?_
    refine x_aload_n C dX1_tryOn_34 rfl ?_
    refine x_iload_n C dX1_tryOn_35 rfl ?_
    refine x_callV (vs := [aI x1]) C cv_RX1_72 ly_5 rfl (by decide) ⟨rfl, rfl, (show 0 + 1 ≤ 2 * d + 5 by omega), (show 8 + (7 + 11) + (0) ≤ 80 * d + 240 by omega)⟩ ⟨Nat.zero_le _, Nat.zero_le _⟩ rfl rfl (Nat.le_of_ble_eq_true rfl) dX1_tryOn_36 (sd_X1_costAddedBy l D cy ad x1 r1 (mset (mset M 5 9 ((M 5 9) + 1)) 20 x1 x2) _ h) (fun _ M1 qz => ?_)
    obtain ⟨z1, rfl, h⟩ := qz
    refine x_ladd C dX1_tryOn_39 ?_
    refine x_lstore C dX1_tryOn_40 (Nat.le_of_ble_eq_true rfl) rfl ?_
    refine x_aload_n C dX1_tryOn_42 rfl ?_
    refine x_rng (fun hR2 => ?_)
    refine x_getZ C gf_RX1_34 ly_5 rfl rfl (by decide) dX1_tryOn_43 ?_
    refine x_if_eq (tgt := 60) C (ka_bi (ka_fZ hR2 ly_5 rfl)) dX1_tryOn_46 (by decide) (fun q2 => ?_) (fun q2 => ?_)
    · have h := h.1 q2
      refine x_aload_n C dX1_tryOn_60 rfl ?_
      refine x_getR C gf_RX1_15 ly_5 rfl (by decide) dX1_tryOn_61 ?_
      refine x_iload_n C dX1_tryOn_64 rfl ?_
      refine x_iconst C dX1_tryOn_65 ?_
      obtain ⟨o3, h⟩ := h
      refine x_zast C ly_21 rfl (by decide) (by decide) o3 (by decide) dX1_tryOn_66 ?_
      refine x_aload_n C dX1_tryOn_67 rfl ?_
      refine x_iload_n C dX1_tryOn_68 rfl ?_
      refine x_iconst C dX1_tryOn_69 ?_
      refine x_iadd C dX1_tryOn_70 ?_
      refine x_lload C dX1_tryOn_71 rfl ?_
      obtain ⟨o4, h⟩ := h
      refine x_callV (vs := [aI (x1 + 1), aL (x3 + z1)]) C cv_RX1_48 ly_5 rfl (by decide) ⟨rfl, rfl, (show 2 * d + 4 + 1 ≤ 2 * d + 5 by omega), (show 8 + (5 + 11) + (80 * d + 200) ≤ 80 * d + 240 by omega)⟩ ⟨Nat.zero_le _, Nat.zero_le _⟩ rfl rfl (Nat.le_of_ble_eq_true rfl) dX1_tryOn_73 (ihPF (x1 + 1) (x3 + z1) o4 (mset M1 21 x2 1) _ h) (fun _ M2 qz => ?_)
      obtain ⟨rfl, h⟩ := qz
      refine x_aload_n C dX1_tryOn_76 rfl ?_
      refine x_getR C gf_RX1_15 ly_5 rfl (by decide) dX1_tryOn_77 ?_
      refine x_iload_n C dX1_tryOn_80 rfl ?_
      refine x_iconst C dX1_tryOn_81 ?_
      obtain ⟨o5, h⟩ := h
      refine x_zast C ly_21 rfl (by decide) (by decide) o5 (by decide) dX1_tryOn_82 ?_
      exact x_vret C h dX1_tryOn_83
    · have h := h.2 q2
      refine x_lload C dX1_tryOn_49 rfl ?_
      refine x_aload_n C dX1_tryOn_51 rfl ?_
      refine x_getL C gf_RX1_76 ly_5 rfl rfl (by decide) dX1_tryOn_52 ?_
      obtain ⟨o6, h⟩ := h
      refine x_lcmp_lt (tgt := 60) C o6 dX1_tryOn_55 dX1_tryOn_56 (by decide) (fun q3 => ?_) (fun q3 => ?_)
      · have h := h.1 q3
        refine x_aload_n C dX1_tryOn_60 rfl ?_
        refine x_getR C gf_RX1_15 ly_5 rfl (by decide) dX1_tryOn_61 ?_
        refine x_iload_n C dX1_tryOn_64 rfl ?_
        refine x_iconst C dX1_tryOn_65 ?_
        obtain ⟨o7, h⟩ := h
        refine x_zast C ly_21 rfl (by decide) (by decide) o7 (by decide) dX1_tryOn_66 ?_
        refine x_aload_n C dX1_tryOn_67 rfl ?_
        refine x_iload_n C dX1_tryOn_68 rfl ?_
        refine x_iconst C dX1_tryOn_69 ?_
        refine x_iadd C dX1_tryOn_70 ?_
        refine x_lload C dX1_tryOn_71 rfl ?_
        obtain ⟨o8, h⟩ := h
        refine x_callV (vs := [aI (x1 + 1), aL (x3 + z1)]) C cv_RX1_48 ly_5 rfl (by decide) ⟨rfl, rfl, (show 2 * d + 4 + 1 ≤ 2 * d + 5 by omega), (show 8 + (5 + 11) + (80 * d + 200) ≤ 80 * d + 240 by omega)⟩ ⟨Nat.zero_le _, Nat.zero_le _⟩ rfl rfl (Nat.le_of_ble_eq_true rfl) dX1_tryOn_73 (ihPF (x1 + 1) (x3 + z1) o8 (mset M1 21 x2 1) _ h) (fun _ M3 qz => ?_)
        obtain ⟨rfl, h⟩ := qz
        refine x_aload_n C dX1_tryOn_76 rfl ?_
        refine x_getR C gf_RX1_15 ly_5 rfl (by decide) dX1_tryOn_77 ?_
        refine x_iload_n C dX1_tryOn_80 rfl ?_
        refine x_iconst C dX1_tryOn_81 ?_
        obtain ⟨o9, h⟩ := h
        refine x_zast C ly_21 rfl (by decide) (by decide) o9 (by decide) dX1_tryOn_82 ?_
        exact x_vret C h dX1_tryOn_83
      · have h := h.2 q3
        exact x_vret C h dX1_tryOn_59
  · have h := h.2 q1
    refine x_aload_n C dX1_tryOn_10 rfl ?_
    refine x_iconst C dX1_tryOn_11 ?_
    refine x_putZ C pf_RX1_45 ly_5 rfl rfl (by decide) (by decide) dX1_tryOn_12 ?_
    exact x_vret C h dX1_tryOn_15
set_option maxRecDepth 100000 in
set_option maxHeartbeats 4000000 in
theorem lp_X1_placeFrom_L20 {p : Program} {l : Launch} {e : Env} {s : State} {m : MethodId} {args : Array Value} {below : List Frame} {meth : Method} {c : Code} {D : va_G} {cy : Nat → ClassId} {ad : Nat → Int → Nat} (PF : Int → Int → Mm → (Mm → Prop) → Prop) (d : Nat) (ihPF : ∀ (x1 : Int) (x2 : Int) (_ : iR x1) (M : Mm) (Q : Mm → Prop), PF x1 x2 M Q → Ct l D cy ad yX1_placeFrom cX1_placeFrom 5 none (rm_X1_placeFrom d) [aR 5, aI x1, aL x2] M (rV Q)) (C : Cx p s m args meth c D cy ad (Ar ad) cX1_placeFrom 5 RX1 none) (x1 : Int) (x2 : Int) (r1 : iR x1) (Q : Mm → Prop) : ∀ (x4 : Int) (M : Mm), wp_X1_placeFrom_L20 PF x1 x2 Q x4 M → iR x4 → Xj p l e (rm_X1_placeFrom (d + 1)) s m args below meth c D cy ad (Ar ad) (MQ below (QX D cy ad (rV Q)) args s 0 0 (Ar ad)) 5 0 0 20 [some (aR 5), some (aI x1), some (aL x2), none, some (aI x4)] [] M :=
  LP1.ind (P := fun x4 M => iR x4 → Xj p l e (rm_X1_placeFrom (d + 1)) s m args below meth c D cy ad (Ar ad) (MQ below (QX D cy ad (rV Q)) args s 0 0 (Ar ad)) 5 0 0 20 [some (aR 5), some (aI x1), some (aL x2), none, some (aI x4)] [] M) (fun R ih => by
    intro x4 M h r4
    unfold bc_X1_placeFrom_L20 at h
    refine x_iload C dX1_placeFrom_20 rfl ?_
    refine x_aload_n C dX1_placeFrom_22 rfl ?_
    refine x_getR C gf_RX1_26 ly_5 rfl (by decide) dX1_placeFrom_23 ?_
    refine x_rng (fun hR1 => ?_)
    refine x_getI C gf_RX1_61 ly_3 rfl rfl (by decide) dX1_placeFrom_26 ?_
    refine x_icmp_ge (tgt := 76) C r4 (ka_fI hR1 ly_3 rfl) dX1_placeFrom_29 (by decide) (fun q1 => ?_) (fun q1 => ?_)
    · have h := h.1 q1
      exact x_vret C h dX1_placeFrom_76
    · have h := h.2 q1
      refine x_aload_n C dX1_placeFrom_32 rfl ?_
      refine x_getZ C gf_RX1_45 ly_5 rfl rfl (by decide) dX1_placeFrom_33 ?_
      refine x_if_ne (tgt := 76) C (ka_bi (ka_fZ hR1 ly_5 rfl)) dX1_placeFrom_36 (by decide) (fun q2 => ?_) (fun q2 => ?_)
      · have h := h.1 q2
        exact x_vret C h dX1_placeFrom_76
      · have h := h.2 q2
        refine x_aload_n C dX1_placeFrom_39 rfl ?_
        refine x_getR C gf_RX1_15 ly_5 rfl (by decide) dX1_placeFrom_40 ?_
        refine x_iload C dX1_placeFrom_43 rfl ?_
        obtain ⟨o1, h⟩ := h
        refine x_zald C ly_21 rfl (by decide) (by decide) o1 dX1_placeFrom_45 ?_
        refine x_if_ne (tgt := 70) C (ka_bi (ka_gZ hR1 ly_21 _)) dX1_placeFrom_46 (by decide) (fun q3 => ?_) (fun q3 => ?_)
        · have h := h.1 q3
          refine x_iinc C dX1_placeFrom_70 rfl (Nat.le_of_ble_eq_true rfl) rfl ?_
          refine x_goto (tgt := 20) C dX1_placeFrom_73 (by decide) ?_
          obtain ⟨o2, h⟩ := h
          exact ih _ _ h o2
        · have h := h.2 q3
          refine x_aload_n C dX1_placeFrom_49 rfl ?_
          refine x_getR C gf_RX1_22 ly_5 rfl (by decide) dX1_placeFrom_50 ?_
          refine x_iload_n C dX1_placeFrom_53 rfl ?_
          refine x_iload C dX1_placeFrom_54 rfl ?_
          refine x_callV (vs := [aI x1, aI x4]) C cv_RX1_64 ly_1 rfl (by decide) ⟨rfl, rfl, (show 1 + 1 ≤ 2 * (d + 1) + 4 by omega), (show 8 + (3 + 11) + (21) ≤ 80 * (d + 1) + 200 by omega)⟩ ⟨Nat.zero_le _, Nat.zero_le _⟩ rfl rfl (Nat.le_of_ble_eq_true rfl) dX1_placeFrom_56 (sd_X3_allow l D cy ad x1 x4 r1 r4 M _ h) (fun _ M1 qz => ?_)
          obtain ⟨z1, rfl, rz1, h⟩ := qz
          refine x_if_eq (tgt := 70) C (ka_bi rz1) dX1_placeFrom_59 (by decide) (fun q4 => ?_) (fun q4 => ?_)
          · have h := h.1 q4
            refine x_iinc C dX1_placeFrom_70 rfl (Nat.le_of_ble_eq_true rfl) rfl ?_
            refine x_goto (tgt := 20) C dX1_placeFrom_73 (by decide) ?_
            obtain ⟨o3, h⟩ := h
            exact ih _ _ h o3
          · have h := h.2 q4
            refine x_aload_n C dX1_placeFrom_62 rfl ?_
            refine x_iload_n C dX1_placeFrom_63 rfl ?_
            refine x_iload C dX1_placeFrom_64 rfl ?_
            refine x_lload_n C dX1_placeFrom_66 rfl ?_
            refine x_callV (vs := [aI x1, aI x4, aL x2]) C cv_RX1_68 ly_5 rfl (by decide) ⟨rfl, rfl, (show 2 * d + 5 + 1 ≤ 2 * (d + 1) + 4 by omega), (show 8 + (7 + 11) + (80 * d + 240) ≤ 80 * (d + 1) + 200 by omega)⟩ ⟨Nat.zero_le _, Nat.zero_le _⟩ rfl rfl (Nat.le_of_ble_eq_true rfl) dX1_placeFrom_67 (sd_X1_tryOn l D cy ad PF d ihPF x1 x4 x2 r1 r4 M1 _ h) (fun _ M2 qz => ?_)
            obtain ⟨rfl, h⟩ := qz
            refine x_iinc C dX1_placeFrom_70 rfl (Nat.le_of_ble_eq_true rfl) rfl ?_
            refine x_goto (tgt := 20) C dX1_placeFrom_73 (by decide) ?_
            obtain ⟨o4, h⟩ := h
            exact ih _ _ h o4)
set_option maxRecDepth 100000 in
set_option maxHeartbeats 4000000 in
theorem sb_X1_placeFrom (l : Launch) (D : va_G) (cy : Nat → ClassId) (ad : Nat → Int → Nat) (PF : Int → Int → Mm → (Mm → Prop) → Prop) (d : Nat) (ihPF : ∀ (x1 : Int) (x2 : Int) (_ : iR x1) (M : Mm) (Q : Mm → Prop), PF x1 x2 M Q → Ct l D cy ad yX1_placeFrom cX1_placeFrom 5 none (rm_X1_placeFrom d) [aR 5, aI x1, aL x2] M (rV Q)) (x1 : Int) (x2 : Int) (r1 : iR x1) (M : Mm) (Q : Mm → Prop) (h : wb_X1_placeFrom PF x1 x2 M Q) : Ct l D cy ad yX1_placeFrom cX1_placeFrom 5 none (rm_X1_placeFrom (d + 1)) [aR 5, aI x1, aL x2] M (rV Q) := by
  refine ct_of (z := 1) (ls := [some (aR 5), some (aI x1), some (aL x2), none, none]) (by decide) rfl (Nat.le_of_ble_eq_true rfl) ?_
  intro p e s m args below meth c C
  have C : Cx p s m args meth c D cy ad (Ar ad) cX1_placeFrom 5 RX1 none := C
  unfold wb_X1_placeFrom at h
  refine x_iload_n C dX1_placeFrom_0 rfl ?_
  refine x_aload_n C dX1_placeFrom_1 rfl ?_
  refine x_getR C gf_RX1_22 ly_5 rfl (by decide) dX1_placeFrom_2 ?_
  refine x_rng (fun hR1 => ?_)
  refine x_getI C gf_RX1_52 ly_1 rfl rfl (by decide) dX1_placeFrom_5 ?_
  refine x_icmp_lt (tgt := 17) C r1 (ka_fI hR1 ly_1 rfl) dX1_placeFrom_8 (by decide) (fun q1 => ?_) (fun q1 => ?_)
  · have h := h.1 q1
    refine x_iconst C dX1_placeFrom_17 ?_
    refine x_istore C dX1_placeFrom_18 (Nat.le_of_ble_eq_true rfl) rfl ?_
    refine lp_X1_placeFrom_L20 PF d ihPF C x1 x2 r1 Q _ _ h (by decide)
  · have h := h.2 q1
    refine x_aload_n C dX1_placeFrom_11 rfl ?_
    refine x_lload_n C dX1_placeFrom_12 rfl ?_
    refine x_callV (vs := [aL x2]) C cv_RX1_57 ly_5 rfl (by decide) ⟨rfl, rfl, (show 0 + 1 ≤ 2 * (d + 1) + 4 by omega), (show 8 + (4 + 11) + (0) ≤ 80 * (d + 1) + 200 by omega)⟩ ⟨Nat.zero_le _, Nat.zero_le _⟩ rfl rfl (Nat.le_of_ble_eq_true rfl) dX1_placeFrom_13 (sd_X1_keep l D cy ad x2 M _ h) (fun _ M1 qz => ?_)
    obtain ⟨rfl, h⟩ := qz
    exact x_vret C h dX1_placeFrom_16
theorem sd_X1_placeFrom (l : Launch) (D : va_G) (cy : Nat → ClassId) (ad : Nat → Int → Nat) : ∀ (d : Nat) (x1 : Int) (x2 : Int) (r1 : iR x1) (M : Mm) (Q : Mm → Prop) (_ : wp_X1_placeFrom d x1 x2 M Q), Ct l D cy ad yX1_placeFrom cX1_placeFrom 5 none (rm_X1_placeFrom d) [aR 5, aI x1, aL x2] M (rV Q) := by
  intro d
  induction d with
  | zero => intro x1 x2 r1 M Q h; exact h.elim
  | succ d ih => intro x1 x2 r1 M Q h; exact sb_X1_placeFrom l D cy ad (wp_X1_placeFrom d) d ih x1 x2 r1 M Q h
set_option maxRecDepth 100000 in
set_option maxHeartbeats 4000000 in
theorem sd_X1_findLeast (l : Launch) (D : va_G) (cy : Nat → ClassId) (ad : Nat → Int → Nat) (M : Mm) (Q : Int → Mm → Prop) (h : wp_X1_findLeast M Q) : Ct l D cy ad yX1_findLeast cX1_findLeast 1 (some .boolean) rm_X1_findLeast [aR 5] M (rZ Q) := by
  refine ct_of (z := 0) (ls := [some (aR 5)]) (by decide) rfl (Nat.le_of_ble_eq_true rfl) ?_
  intro p e s m args below meth c C
  have C : Cx p s m args meth c D cy ad (Ar ad) cX1_findLeast 1 RX1 (some .boolean) := C
  unfold wp_X1_findLeast at h
  refine x_aload_n C dX1_findLeast_0 rfl ?_
  refine x_callV (vs := []) C cv_RX1_38 ly_5 rfl (by decide) ⟨rfl, rfl, Nat.le_of_ble_eq_true rfl, Nat.le_of_ble_eq_true rfl⟩ ⟨Nat.zero_le _, Nat.zero_le _⟩ rfl rfl (Nat.le_of_ble_eq_true rfl) dX1_findLeast_1 (sd_X1_forget l D cy ad M _ h) (fun _ M1 qz => ?_)
  obtain ⟨rfl, h⟩ := qz
  refine x_aload_n C dX1_findLeast_4 rfl ?_
  refine x_iconst C dX1_findLeast_5 ?_
  refine x_putI C pf_RX1_41 ly_5 rfl rfl (by decide) (by decide) dX1_findLeast_6 ?_
  refine x_aload_n C dX1_findLeast_9 rfl ?_
  refine x_iconst C dX1_findLeast_10 ?_
  refine x_putZ C pf_RX1_45 ly_5 rfl rfl (by decide) (by decide) dX1_findLeast_11 ?_
  refine x_aload_n C dX1_findLeast_14 rfl ?_
  refine x_iconst C dX1_findLeast_15 ?_
  refine x_lconst (v := 0) C dX1_findLeast_16 rfl ?_
  refine x_callV (vs := [aI 0, aL 0]) C cv_RX1_48 ly_5 rfl (by decide) ⟨rfl, rfl, Nat.le_of_ble_eq_true rfl, Nat.le_of_ble_eq_true rfl⟩ ⟨Nat.zero_le _, Nat.zero_le _⟩ rfl rfl (Nat.le_of_ble_eq_true rfl) dX1_findLeast_17 (sd_X1_placeFrom l D cy ad 12 0 0 (by decide) (mset (mset M1 5 9 0) 5 5 0) _ h) (fun _ M2 qz => ?_)
  obtain ⟨rfl, h⟩ := qz
  refine x_aload_n C dX1_findLeast_20 rfl ?_
  refine x_rng (fun hR1 => ?_)
  refine x_getZ C gf_RX1_45 ly_5 rfl rfl (by decide) dX1_findLeast_21 ?_
  refine x_if_ne (tgt := 31) C (ka_bi (ka_fZ hR1 ly_5 rfl)) dX1_findLeast_24 (by decide) (fun q1 => ?_) (fun q1 => ?_)
  · have h := h.1 q1
    refine x_iconst C dX1_findLeast_31 ?_
    exact x_zret C (by decide) h dX1_findLeast_32
  · have h := h.2 q1
    refine x_iconst C dX1_findLeast_27 ?_
    refine x_goto (tgt := 32) C dX1_findLeast_28 (by decide) ?_
    exact x_zret C (by decide) h dX1_findLeast_32
set_option maxRecDepth 100000 in
set_option maxHeartbeats 4000000 in
theorem sd_X7_search (l : Launch) (D : va_G) (cy : Nat → ClassId) (ad : Nat → Int → Nat) (M : Mm) (Q : Int → Mm → Prop) (h : wp_X7_search M Q) : Ct l D cy ad yX7_search cX7_search 1 (some .int) rm_X7_search [aR 0] M (rI Q) := by
  refine ct_of (z := 0) (ls := [some (aR 0)]) (by decide) rfl (Nat.le_of_ble_eq_true rfl) ?_
  intro p e s m args below meth c C
  have C : Cx p s m args meth c D cy ad (Ar ad) cX7_search 1 RX7 (some .int) := C
  unfold wp_X7_search at h
  refine x_aload_n C dX7_search_0 rfl ?_
  refine x_callV (vs := []) C cv_RX7_128 ly_0 rfl (by decide) ⟨rfl, rfl, Nat.le_of_ble_eq_true rfl, Nat.le_of_ble_eq_true rfl⟩ ⟨Nat.zero_le _, Nat.zero_le _⟩ rfl rfl (Nat.le_of_ble_eq_true rfl) dX7_search_1 (sd_X7_tooFewKeys l D cy ad M _ h) (fun _ M1 qz => ?_)
  obtain ⟨z1, rfl, rz1, h⟩ := qz
  refine x_if_eq (tgt := 10) C (ka_bi rz1) dX7_search_4 (by decide) (fun q1 => ?_) (fun q1 => ?_)
  · have h := h.1 q1
    refine x_aload_n C dX7_search_10 rfl ?_
    refine x_getR C gf_RX7_46 ly_0 rfl (by decide) dX7_search_11 ?_
    refine x_callV (vs := []) C cv_RX7_171 ly_5 rfl (by decide) ⟨rfl, rfl, Nat.le_of_ble_eq_true rfl, Nat.le_of_ble_eq_true rfl⟩ ⟨Nat.zero_le _, Nat.zero_le _⟩ rfl rfl (Nat.le_of_ble_eq_true rfl) dX7_search_14 (sd_X1_findLeast l D cy ad M1 _ h) (fun _ M2 qz => ?_)
    obtain ⟨z2, rfl, rz2, h⟩ := qz
    refine x_if_eq (tgt := 24) C (ka_bi rz2) dX7_search_17 (by decide) (fun q2 => ?_) (fun q2 => ?_)
    · have h := h.1 q2
      refine x_bipush C dX7_search_24 rfl ?_
      exact x_iret C (by decide) h dX7_search_26
    · have h := h.2 q2
      refine x_iconst C dX7_search_20 ?_
      refine x_goto (tgt := 26) C dX7_search_21 (by decide) ?_
      exact x_iret C (by decide) h dX7_search_26
  · have h := h.2 q1
    refine x_bipush C dX7_search_7 rfl ?_
    exact x_iret C (by decide) h dX7_search_9
set_option maxRecDepth 100000 in
set_option maxHeartbeats 4000000 in
theorem lp_X8_mayBear_c41_L29 {p : Program} {l : Launch} {e : Env} {s : State} {m : MethodId} {args : Array Value} {below : List Frame} {meth : Method} {c : Code} {D : va_G} {cy : Nat → ClassId} {ad : Nat → Int → Nat} (C : Cx p s m args meth c D cy ad (Ar ad) cX8_mayBear 6 RX8 (some .boolean)) (x2 : Int) (x4 : Int) (r2 : iR x2) (r4 : iR x4) (Q : Int → Mm → Prop) : ∀ (x5 : Int) (M : Mm), wp_X8_mayBear_c41_L29 x2 x4 Q x5 M → iR x5 → Xj p l e rm_X8_mayBear_c41 s m args below meth c D cy ad (Ar ad) (MQ below (QX D cy ad (rZ Q)) args s 0 0 (Ar ad)) 6 0 0 29 [some (aR 8), none, some (aI x2), some (aR 41), some (aI x4), some (aI x5)] [] M :=
  LP1.ind (P := fun x5 M => iR x5 → Xj p l e rm_X8_mayBear_c41 s m args below meth c D cy ad (Ar ad) (MQ below (QX D cy ad (rZ Q)) args s 0 0 (Ar ad)) 6 0 0 29 [some (aR 8), none, some (aI x2), some (aR 41), some (aI x4), some (aI x5)] [] M) (fun R ih => by
    intro x5 M h r5
    unfold bc_X8_mayBear_c41_L29 at h
    refine x_iload C dX8_mayBear_29 rfl ?_
    refine x_aload_n C dX8_mayBear_31 rfl ?_
    refine x_rng (fun hR1 => ?_)
    refine x_getI C gf_RX8_7 ly_8 rfl rfl (by decide) dX8_mayBear_32 ?_
    refine x_icmp_ge (tgt := 72) C r5 (ka_fI hR1 ly_8 rfl) dX8_mayBear_35 (by decide) (fun q1 => ?_) (fun q1 => ?_)
    · have h := h.1 q1
      refine x_iconst C dX8_mayBear_72 ?_
      exact x_zret C (by decide) h dX8_mayBear_73
    · have h := h.2 q1
      refine x_aload_n C dX8_mayBear_38 rfl ?_
      refine x_getR C gf_RX8_36 ly_8 rfl (by decide) dX8_mayBear_39 ?_
      refine x_iload C dX8_mayBear_42 rfl ?_
      obtain ⟨o1, h⟩ := h
      refine x_iald C ly_37 rfl (by decide) (by decide) o1 dX8_mayBear_44 ?_
      refine x_iload_n C dX8_mayBear_45 rfl ?_
      refine x_icmp_eq (tgt := 64) C (ka_gI hR1 ly_37 _) r2 dX8_mayBear_46 (by decide) (fun q2 => ?_) (fun q2 => ?_)
      · have h := h.1 q2
        refine x_iconst C dX8_mayBear_64 ?_
        exact x_zret C (by decide) h dX8_mayBear_65
      · have h := h.2 q2
        refine x_iload C dX8_mayBear_49 rfl ?_
        refine x_iload C dX8_mayBear_51 rfl ?_
        refine x_icmp_ge (tgt := 66) C r5 r4 dX8_mayBear_53 (by decide) (fun q3 => ?_) (fun q3 => ?_)
        · have h := h.1 q3
          refine x_iinc C dX8_mayBear_66 rfl (Nat.le_of_ble_eq_true rfl) rfl ?_
          refine x_goto (tgt := 29) C dX8_mayBear_69 (by decide) ?_
          obtain ⟨o2, h⟩ := h
          exact ih _ _ h o2
        · have h := h.2 q3
          refine x_aload_n C dX8_mayBear_56 rfl ?_
          refine x_iload C dX8_mayBear_57 rfl ?_
          obtain ⟨o3, h⟩ := h
          refine x_iald C ly_41 rfl (by decide) (by decide) o3 dX8_mayBear_59 ?_
          refine x_iload_n C dX8_mayBear_60 rfl ?_
          refine x_icmp_ne (tgt := 66) C (ka_gI hR1 ly_41 _) r2 dX8_mayBear_61 (by decide) (fun q4 => ?_) (fun q4 => ?_)
          · have h := h.1 q4
            refine x_iinc C dX8_mayBear_66 rfl (Nat.le_of_ble_eq_true rfl) rfl ?_
            refine x_goto (tgt := 29) C dX8_mayBear_69 (by decide) ?_
            obtain ⟨o4, h⟩ := h
            exact ih _ _ h o4
          · have h := h.2 q4
            refine x_iconst C dX8_mayBear_64 ?_
            exact x_zret C (by decide) h dX8_mayBear_65)
set_option maxRecDepth 100000 in
set_option maxHeartbeats 4000000 in
theorem sd_X8_mayBear_c41 (l : Launch) (D : va_G) (cy : Nat → ClassId) (ad : Nat → Int → Nat) (x1 : Int) (x2 : Int) (x4 : Int) (r1 : iR x1) (r2 : iR x2) (r4 : iR x4) (M : Mm) (Q : Int → Mm → Prop) (h : wp_X8_mayBear_c41 x1 x2 x4 M Q) : Ct l D cy ad yX8_mayBear cX8_mayBear 6 (some .boolean) rm_X8_mayBear_c41 [aR 8, aI x1, aI x2, aR 41, aI x4] M (rZ Q) := by
  refine ct_of (z := 1) (ls := [some (aR 8), some (aI x1), some (aI x2), some (aR 41), some (aI x4), none]) (by decide) rfl (Nat.le_of_ble_eq_true rfl) ?_
  intro p e s m args below meth c C
  have C : Cx p s m args meth c D cy ad (Ar ad) cX8_mayBear 6 RX8 (some .boolean) := C
  unfold wp_X8_mayBear_c41 at h
  refine x_aload_n C dX8_mayBear_0 rfl ?_
  refine x_getR C gf_RX8_36 ly_8 rfl (by decide) dX8_mayBear_1 ?_
  refine x_iload_n C dX8_mayBear_4 rfl ?_
  obtain ⟨o1, h⟩ := h
  refine x_rng (fun hR1 => ?_)
  refine x_iald C ly_37 rfl (by decide) (by decide) o1 dX8_mayBear_5 ?_
  refine x_iconst C dX8_mayBear_6 ?_
  refine x_icmp_eq (tgt := 26) C (ka_gI hR1 ly_37 _) (by decide) dX8_mayBear_7 (by decide) (fun q1 => ?_) (fun q1 => ?_)
  · have h := h.1 q1
    refine x_iconst C dX8_mayBear_26 ?_
    refine x_istore C dX8_mayBear_27 (Nat.le_of_ble_eq_true rfl) rfl ?_
    refine x_mask [true, false, true, true, true, true] rfl ?_
    refine lp_X8_mayBear_c41_L29 C x2 x4 r2 r4 Q _ _ h (by decide)
  · have h := h.2 q1
    refine x_aload_n C dX8_mayBear_10 rfl ?_
    refine x_getR C gf_RX8_36 ly_8 rfl (by decide) dX8_mayBear_11 ?_
    refine x_iload_n C dX8_mayBear_14 rfl ?_
    obtain ⟨o2, h⟩ := h
    refine x_iald C ly_37 rfl (by decide) (by decide) o2 dX8_mayBear_15 ?_
    refine x_iload_n C dX8_mayBear_16 rfl ?_
    refine x_icmp_ne (tgt := 24) C (ka_gI hR1 ly_37 _) r2 dX8_mayBear_17 (by decide) (fun q2 => ?_) (fun q2 => ?_)
    · have h := h.1 q2
      refine x_iconst C dX8_mayBear_24 ?_
      exact x_zret C (by decide) h dX8_mayBear_25
    · have h := h.2 q2
      refine x_iconst C dX8_mayBear_20 ?_
      refine x_goto (tgt := 25) C dX8_mayBear_21 (by decide) ?_
      exact x_zret C (by decide) h dX8_mayBear_25
set_option maxRecDepth 100000 in
set_option maxHeartbeats 4000000 in
theorem lp_X8_added_L5 {p : Program} {l : Launch} {e : Env} {s : State} {m : MethodId} {args : Array Value} {below : List Frame} {meth : Method} {c : Code} {D : va_G} {cy : Nat → ClassId} {ad : Nat → Int → Nat} (C : Cx p s m args meth c D cy ad (Ar ad) cX8_added 5 RX8 (some .long)) (x1 : Int) (r1 : iR x1) (Q : Int → Mm → Prop) : ∀ (x2 : Int) (x4 : Int) (M : Mm), wp_X8_added_L5 x1 Q x2 x4 M → iR x4 → Xj p l e rm_X8_added s m args below meth c D cy ad (Ar ad) (MQ below (QX D cy ad (rL Q)) args s 0 0 (Ar ad)) 5 0 0 5 [some (aR 8), some (aI x1), some (aL x2), none, some (aI x4)] [] M :=
  LP2.ind (P := fun x2 x4 M => iR x4 → Xj p l e rm_X8_added s m args below meth c D cy ad (Ar ad) (MQ below (QX D cy ad (rL Q)) args s 0 0 (Ar ad)) 5 0 0 5 [some (aR 8), some (aI x1), some (aL x2), none, some (aI x4)] [] M) (fun R ih => by
    intro x2 x4 M h r4
    unfold bc_X8_added_L5 at h
    refine x_iload C dX8_added_5 rfl ?_
    refine x_iload_n C dX8_added_7 rfl ?_
    refine x_icmp_ge (tgt := 61) C r4 r1 dX8_added_8 (by decide) (fun q1 => ?_) (fun q1 => ?_)
    · have h := h.1 q1
      refine x_lload_n C dX8_added_61 rfl ?_
      exact x_lret C h dX8_added_62
    · have h := h.2 q1
      refine x_lload_n C dX8_added_11 rfl ?_
      refine x_aload_n C dX8_added_12 rfl ?_
      refine x_iload_n C dX8_added_13 rfl ?_
      refine x_iload C dX8_added_14 rfl ?_
      refine x_aload_n C dX8_added_16 rfl ?_
      refine x_getR C gf_RX8_48 ly_8 rfl (by decide) dX8_added_17 ?_
      refine x_iload_n C dX8_added_20 rfl ?_
      obtain ⟨o1, h⟩ := h
      refine x_rng (fun hR1 => ?_)
      refine x_iald C ly_41 rfl (by decide) (by decide) o1 dX8_added_21 ?_
      refine x_aload_n C dX8_added_22 rfl ?_
      refine x_getR C gf_RX8_48 ly_8 rfl (by decide) dX8_added_23 ?_
      refine x_iload C dX8_added_26 rfl ?_
      obtain ⟨o2, h⟩ := h
      refine x_iald C ly_41 rfl (by decide) (by decide) o2 dX8_added_28 ?_
      refine x_callV (vs := [aI x1, aI x4, aI (M 41 x1), aI (M 41 x4)]) C cv_RX8_118 ly_8 rfl (by decide) ⟨rfl, rfl, Nat.le_of_ble_eq_true rfl, Nat.le_of_ble_eq_true rfl⟩ ⟨Nat.zero_le _, Nat.zero_le _⟩ rfl rfl (Nat.le_of_ble_eq_true rfl) dX8_added_29 (sd_X8_between l D cy ad x1 x4 (M 41 x1) (M 41 x4) r1 r4 (ka_gI hR1 ly_41 _) (ka_gI hR1 ly_41 _) M _ h) (fun _ M1 qz => ?_)
      obtain ⟨z1, rfl, h⟩ := qz
      refine x_aload_n C dX8_added_32 rfl ?_
      refine x_iload C dX8_added_33 rfl ?_
      refine x_iload_n C dX8_added_35 rfl ?_
      refine x_aload_n C dX8_added_36 rfl ?_
      refine x_getR C gf_RX8_48 ly_8 rfl (by decide) dX8_added_37 ?_
      refine x_iload C dX8_added_40 rfl ?_
      obtain ⟨o3, h⟩ := h
      refine x_rng (fun hR2 => ?_)
      refine x_iald C ly_41 rfl (by decide) (by decide) o3 dX8_added_42 ?_
      refine x_aload_n C dX8_added_43 rfl ?_
      refine x_getR C gf_RX8_48 ly_8 rfl (by decide) dX8_added_44 ?_
      refine x_iload_n C dX8_added_47 rfl ?_
      obtain ⟨o4, h⟩ := h
      refine x_iald C ly_41 rfl (by decide) (by decide) o4 dX8_added_48 ?_
      refine x_callV (vs := [aI x4, aI x1, aI (M1 41 x4), aI (M1 41 x1)]) C cv_RX8_118 ly_8 rfl (by decide) ⟨rfl, rfl, Nat.le_of_ble_eq_true rfl, Nat.le_of_ble_eq_true rfl⟩ ⟨Nat.zero_le _, Nat.zero_le _⟩ rfl rfl (Nat.le_of_ble_eq_true rfl) dX8_added_49 (sd_X8_between l D cy ad x4 x1 (M1 41 x4) (M1 41 x1) r4 r1 (ka_gI hR2 ly_41 _) (ka_gI hR2 ly_41 _) M1 _ h) (fun _ M2 qz => ?_)
      obtain ⟨z2, rfl, h⟩ := qz
      refine x_ladd C dX8_added_52 ?_
      refine x_ladd C dX8_added_53 ?_
      refine x_lstore_n C dX8_added_54 (Nat.le_of_ble_eq_true rfl) rfl ?_
      refine x_iinc C dX8_added_55 rfl (Nat.le_of_ble_eq_true rfl) rfl ?_
      refine x_goto (tgt := 5) C dX8_added_58 (by decide) ?_
      obtain ⟨o5, h⟩ := h
      exact ih _ _ _ h o5)
set_option maxRecDepth 100000 in
set_option maxHeartbeats 4000000 in
theorem sd_X8_added (l : Launch) (D : va_G) (cy : Nat → ClassId) (ad : Nat → Int → Nat) (x1 : Int) (r1 : iR x1) (M : Mm) (Q : Int → Mm → Prop) (h : wp_X8_added x1 M Q) : Ct l D cy ad yX8_added cX8_added 5 (some .long) rm_X8_added [aR 8, aI x1] M (rL Q) := by
  refine ct_of (z := 3) (ls := [some (aR 8), some (aI x1), none, none, none]) (by decide) rfl (Nat.le_of_ble_eq_true rfl) ?_
  intro p e s m args below meth c C
  have C : Cx p s m args meth c D cy ad (Ar ad) cX8_added 5 RX8 (some .long) := C
  unfold wp_X8_added at h
  refine x_lconst (v := 0) C dX8_added_0 rfl ?_
  refine x_lstore_n C dX8_added_1 (Nat.le_of_ble_eq_true rfl) rfl ?_
  refine x_iconst C dX8_added_2 ?_
  refine x_istore C dX8_added_3 (Nat.le_of_ble_eq_true rfl) rfl ?_
  refine lp_X8_added_L5 C x1 r1 Q _ _ _ h (by decide)
set_option maxRecDepth 100000 in
set_option maxHeartbeats 4000000 in
theorem lp_X8_search_L187 {p : Program} {l : Launch} {e : Env} {s : State} {m : MethodId} {args : Array Value} {below : List Frame} {meth : Method} {c : Code} {D : va_G} {cy : Nat → ClassId} {ad : Nat → Int → Nat} (C : Cx p s m args meth c D cy ad (Ar ad) cX8_search 3 RX8 (some .int)) (x1 : Int) (r1 : iR x1) (Q : Int → Mm → Prop) (K213 : Mm → Prop) (k213 : ∀ (M : Mm), K213 M → Xj p l e rm_X8_search s m args below meth c D cy ad (Ar ad) (MQ below (QX D cy ad (rI Q)) args s 0 0 (Ar ad)) 3 0 0 213 [some (aR 8), some (aI x1), none] [] M) : ∀ (x2 : Int) (M : Mm), wp_X8_search_L187 x1 Q K213 x2 M → iR x2 → Xj p l e rm_X8_search s m args below meth c D cy ad (Ar ad) (MQ below (QX D cy ad (rI Q)) args s 0 0 (Ar ad)) 3 0 0 187 [some (aR 8), some (aI x1), some (aI x2)] [] M :=
  LP1.ind (P := fun x2 M => iR x2 → Xj p l e rm_X8_search s m args below meth c D cy ad (Ar ad) (MQ below (QX D cy ad (rI Q)) args s 0 0 (Ar ad)) 3 0 0 187 [some (aR 8), some (aI x1), some (aI x2)] [] M) (fun R ih => by
    intro x2 M h r2
    unfold bc_X8_search_L187 at h
    refine x_iload_n C dX8_search_187 rfl ?_
    refine x_aload_n C dX8_search_188 rfl ?_
    refine x_rng (fun hR1 => ?_)
    refine x_getI C gf_RX8_7 ly_8 rfl rfl (by decide) dX8_search_189 ?_
    refine x_icmp_ge (tgt := 213) C r2 (ka_fI hR1 ly_8 rfl) dX8_search_192 (by decide) (fun q1 => ?_) (fun q1 => ?_)
    · have h := h.1 q1
      refine x_mask [true, true, false] rfl ?_
      exact k213 _ h
    · have h := h.2 q1
      refine x_aload_n C dX8_search_195 rfl ?_
      refine x_getR C gf_RX8_42 ly_8 rfl (by decide) dX8_search_196 ?_
      refine x_iload_n C dX8_search_199 rfl ?_
      refine x_aload_n C dX8_search_200 rfl ?_
      refine x_getR C gf_RX8_48 ly_8 rfl (by decide) dX8_search_201 ?_
      refine x_iload_n C dX8_search_204 rfl ?_
      obtain ⟨o1, h⟩ := h
      refine x_iald C ly_41 rfl (by decide) (by decide) o1 dX8_search_205 ?_
      obtain ⟨o2, h⟩ := h
      refine x_iast C ly_39 rfl (by decide) (by decide) o2 (ka_gI hR1 ly_41 _) dX8_search_206 ?_
      refine x_iinc C dX8_search_207 rfl (Nat.le_of_ble_eq_true rfl) rfl ?_
      refine x_goto (tgt := 187) C dX8_search_210 (by decide) ?_
      obtain ⟨o3, h⟩ := h
      exact ih _ _ h o3)
set_option maxRecDepth 100000 in
set_option maxHeartbeats 4000000 in
theorem lp_X8_search_L40 {p : Program} {l : Launch} {e : Env} {s : State} {m : MethodId} {args : Array Value} {below : List Frame} {meth : Method} {c : Code} {D : va_G} {cy : Nat → ClassId} {ad : Nat → Int → Nat} (C : Cx p s m args meth c D cy ad (Ar ad) cX8_search 3 RX8 (some .int)) (Q : Int → Mm → Prop) : ∀ (x1 : Int) (M : Mm), wp_X8_search_L40 Q x1 M → iR x1 → Xj p l e rm_X8_search s m args below meth c D cy ad (Ar ad) (MQ below (QX D cy ad (rI Q)) args s 0 0 (Ar ad)) 3 0 0 40 [some (aR 8), some (aI x1), none] [] M :=
  LP1.ind (P := fun x1 M => iR x1 → Xj p l e rm_X8_search s m args below meth c D cy ad (Ar ad) (MQ below (QX D cy ad (rI Q)) args s 0 0 (Ar ad)) 3 0 0 40 [some (aR 8), some (aI x1), none] [] M) (fun R ih => by
    intro x1 M h r1
    unfold bc_X8_search_L40 at h
    refine x_iload_n C dX8_search_40 rfl ?_
    refine x_if_lt (tgt := 229) C r1 dX8_search_41 (by decide) (fun q1 => ?_) (fun q1 => ?_)
    · have h := h.1 q1
      refine x_iconst C dX8_search_229 ?_
      exact x_iret C (by decide) h dX8_search_230
    · have h := h.2 q1
      refine x_aload_n C dX8_search_44 rfl ?_
      refine x_getR C gf_RX8_48 ly_8 rfl (by decide) dX8_search_45 ?_
      refine x_iload_n C dX8_search_48 rfl ?_
      refine x_dup2 C dX8_search_49 rfl rfl ?_
      obtain ⟨o1, h⟩ := h
      refine x_rng (fun hR1 => ?_)
      refine x_iald C ly_41 rfl (by decide) (by decide) o1 dX8_search_50 ?_
      refine x_iconst C dX8_search_51 ?_
      refine x_iadd C dX8_search_52 ?_
      obtain ⟨o2, h⟩ := h
      obtain ⟨o3, h⟩ := h
      refine x_iast C ly_41 rfl (by decide) (by decide) o3 o2 dX8_search_53 ?_
      refine x_aload_n C dX8_search_54 rfl ?_
      refine x_getR C gf_RX8_48 ly_8 rfl (by decide) dX8_search_55 ?_
      refine x_iload_n C dX8_search_58 rfl ?_
      obtain ⟨o4, h⟩ := h
      refine x_rng (fun hR2 => ?_)
      refine x_iald C ly_41 rfl (by decide) (by decide) o4 dX8_search_59 ?_
      refine x_aload_n C dX8_search_60 rfl ?_
      refine x_getI C gf_RX8_80 ly_8 rfl rfl (by decide) dX8_search_61 ?_
      refine x_icmp_ne (tgt := 73) C (ka_gI hR2 ly_41 _) (ka_fI hR2 ly_8 rfl) dX8_search_64 (by decide) (fun q2 => ?_) (fun q2 => ?_)
      · have h := h.1 q2
        refine x_aload_n C dX8_search_73 rfl ?_
        refine x_iload_n C dX8_search_74 rfl ?_
        refine x_aload_n C dX8_search_75 rfl ?_
        refine x_getR C gf_RX8_48 ly_8 rfl (by decide) dX8_search_76 ?_
        refine x_iload_n C dX8_search_79 rfl ?_
        obtain ⟨o5, h⟩ := h
        refine x_iald C ly_41 rfl (by decide) (by decide) o5 dX8_search_80 ?_
        refine x_aload_n C dX8_search_81 rfl ?_
        refine x_getR C gf_RX8_48 ly_8 rfl (by decide) dX8_search_82 ?_
        refine x_iload_n C dX8_search_85 rfl ?_
        refine x_callV (vs := [aI x1, aI ((mset M 41 x1 ((M 41 x1) + 1)) 41 x1), aR 41, aI x1]) C cv_RX8_110 ly_8 rfl (by decide) ⟨rfl, rfl, Nat.le_of_ble_eq_true rfl, Nat.le_of_ble_eq_true rfl⟩ ⟨Nat.zero_le _, Nat.zero_le _⟩ rfl rfl (Nat.le_of_ble_eq_true rfl) dX8_search_86 (sd_X8_mayBear_c41 l D cy ad x1 ((mset M 41 x1 ((M 41 x1) + 1)) 41 x1) x1 r1 (ka_gI hR2 ly_41 _) r1 (mset M 41 x1 ((M 41 x1) + 1)) _ h) (fun _ M1 qz => ?_)
        obtain ⟨z1, rfl, rz1, h⟩ := qz
        refine x_if_eq (tgt := 40) C (ka_bi rz1) dX8_search_89 (by decide) (fun q3 => ?_) (fun q3 => ?_)
        · have h := h.1 q3
          exact ih _ _ h r1
        · have h := h.2 q3
          refine x_aload_n C dX8_search_92 rfl ?_
          refine x_rng (fun hR3 => ?_)
          refine x_getI C gf_RX8_138 ly_8 rfl rfl (by decide) dX8_search_93 ?_
          refine x_sipush C dX8_search_96 rfl ?_
          refine x_icmp_ne (tgt := 105) C (ka_fI hR3 ly_8 rfl) (by decide) dX8_search_99 (by decide) (fun q4 => ?_) (fun q4 => ?_)
          · have h := h.1 q4
            refine x_aload_n C dX8_search_105 rfl ?_
            refine x_dup C dX8_search_106 rfl ?_
            refine x_getI C gf_RX8_138 ly_8 rfl rfl (by decide) dX8_search_107 ?_
            refine x_iconst C dX8_search_110 ?_
            refine x_iadd C dX8_search_111 ?_
            obtain ⟨o6, h⟩ := h
            refine x_putI C pf_RX8_138 ly_8 rfl rfl (by decide) o6 dX8_search_112 ?_
            refine x_aload_n C dX8_search_115 rfl ?_
            refine x_getR C gf_RX8_51 ly_8 rfl (by decide) dX8_search_116 ?_
            refine x_iload_n C dX8_search_119 rfl ?_
            refine x_iconst C dX8_search_120 ?_
            refine x_iadd C dX8_search_121 ?_
            refine x_aload_n C dX8_search_122 rfl ?_
            refine x_getR C gf_RX8_51 ly_8 rfl (by decide) dX8_search_123 ?_
            refine x_iload_n C dX8_search_126 rfl ?_
            obtain ⟨o7, h⟩ := h
            refine x_rng (fun hR4 => ?_)
            refine x_lald C ly_42 rfl (by decide) (by decide) o7 dX8_search_127 ?_
            refine x_aload_n C dX8_search_128 rfl ?_
            refine x_iload_n C dX8_search_129 rfl ?_
            refine x_callV (vs := [aI x1]) C cv_RX8_141 ly_8 rfl (by decide) ⟨rfl, rfl, Nat.le_of_ble_eq_true rfl, Nat.le_of_ble_eq_true rfl⟩ ⟨Nat.zero_le _, Nat.zero_le _⟩ rfl rfl (Nat.le_of_ble_eq_true rfl) dX8_search_130 (sd_X8_added l D cy ad x1 r1 (mset M1 8 15 ((M1 8 15) + 1)) _ h) (fun _ M2 qz => ?_)
            obtain ⟨z2, rfl, h⟩ := qz
            refine x_ladd C dX8_search_133 ?_
            obtain ⟨o8, h⟩ := h
            obtain ⟨o9, h⟩ := h
            refine x_last C ly_42 rfl (by decide) (by decide) o9 o8 dX8_search_134 ?_
            refine x_aload_n C dX8_search_135 rfl ?_
            refine x_rng (fun hR5 => ?_)
            refine x_getZ C gf_RX8_87 ly_8 rfl rfl (by decide) dX8_search_136 ?_
            refine x_if_eq (tgt := 158) C (ka_bi (ka_fZ hR5 ly_8 rfl)) dX8_search_139 (by decide) (fun q5 => ?_) (fun q5 => ?_)
            · have h := h.1 q5
              refine x_iload_n C dX8_search_158 rfl ?_
              refine x_aload_n C dX8_search_159 rfl ?_
              refine x_getI C gf_RX8_7 ly_8 rfl rfl (by decide) dX8_search_160 ?_
              refine x_iconst C dX8_search_163 ?_
              refine x_isub C dX8_search_164 ?_
              obtain ⟨o10, h⟩ := h
              refine x_icmp_ne (tgt := 216) C r1 o10 dX8_search_165 (by decide) (fun q6 => ?_) (fun q6 => ?_)
              · have h := h.1 q6
                refine x_iinc C dX8_search_216 rfl (Nat.le_of_ble_eq_true rfl) rfl ?_
                refine x_aload_n C dX8_search_219 rfl ?_
                refine x_getR C gf_RX8_48 ly_8 rfl (by decide) dX8_search_220 ?_
                refine x_iload_n C dX8_search_223 rfl ?_
                refine x_iconst C dX8_search_224 ?_
                obtain ⟨o11, h⟩ := h
                refine x_iast C ly_41 rfl (by decide) (by decide) o11 (by decide) dX8_search_225 ?_
                refine x_goto (tgt := 40) C dX8_search_226 (by decide) ?_
                obtain ⟨o12, h⟩ := h
                exact ih _ _ h o12
              · have h := h.2 q6
                refine x_aload_n C dX8_search_168 rfl ?_
                refine x_iconst C dX8_search_169 ?_
                refine x_putZ C pf_RX8_87 ly_8 rfl rfl (by decide) (by decide) dX8_search_170 ?_
                refine x_aload_n C dX8_search_173 rfl ?_
                refine x_aload_n C dX8_search_174 rfl ?_
                refine x_getR C gf_RX8_51 ly_8 rfl (by decide) dX8_search_175 ?_
                refine x_iload_n C dX8_search_178 rfl ?_
                refine x_iconst C dX8_search_179 ?_
                refine x_iadd C dX8_search_180 ?_
                obtain ⟨o13, h⟩ := h
                refine x_rng (fun hR6 => ?_)
                refine x_lald C ly_42 rfl (by decide) (by decide) o13 dX8_search_181 ?_
                refine x_putL C pf_RX8_145 ly_8 rfl rfl (by decide) (ka_gL hR6 ly_42 _) dX8_search_182 ?_
                refine x_iconst C dX8_search_185 ?_
                refine x_istore_n C dX8_search_186 (Nat.le_of_ble_eq_true rfl) rfl ?_
                refine lp_X8_search_L187 C x1 r1 Q _ (fun M3 h => ?_) _ _ h (by decide)
                · refine x_goto (tgt := 40) C dX8_search_213 (by decide) ?_
                  exact ih _ _ h r1
            · have h := h.2 q5
              refine x_aload_n C dX8_search_142 rfl ?_
              refine x_getR C gf_RX8_51 ly_8 rfl (by decide) dX8_search_143 ?_
              refine x_iload_n C dX8_search_146 rfl ?_
              refine x_iconst C dX8_search_147 ?_
              refine x_iadd C dX8_search_148 ?_
              obtain ⟨o14, h⟩ := h
              refine x_lald C ly_42 rfl (by decide) (by decide) o14 dX8_search_149 ?_
              refine x_aload_n C dX8_search_150 rfl ?_
              refine x_getL C gf_RX8_145 ly_8 rfl rfl (by decide) dX8_search_151 ?_
              refine x_lcmp_ge (tgt := 40) C (Or.inl ⟨(ka_gL hR5 ly_42 _), (ka_fL hR5 ly_8 rfl)⟩) dX8_search_154 dX8_search_155 (by decide) (fun q7 => ?_) (fun q7 => ?_)
              · have h := h.1 q7
                exact ih _ _ h r1
              · have h := h.2 q7
                refine x_iload_n C dX8_search_158 rfl ?_
                refine x_aload_n C dX8_search_159 rfl ?_
                refine x_getI C gf_RX8_7 ly_8 rfl rfl (by decide) dX8_search_160 ?_
                refine x_iconst C dX8_search_163 ?_
                refine x_isub C dX8_search_164 ?_
                obtain ⟨o15, h⟩ := h
                refine x_icmp_ne (tgt := 216) C r1 o15 dX8_search_165 (by decide) (fun q8 => ?_) (fun q8 => ?_)
                · have h := h.1 q8
                  refine x_iinc C dX8_search_216 rfl (Nat.le_of_ble_eq_true rfl) rfl ?_
                  refine x_aload_n C dX8_search_219 rfl ?_
                  refine x_getR C gf_RX8_48 ly_8 rfl (by decide) dX8_search_220 ?_
                  refine x_iload_n C dX8_search_223 rfl ?_
                  refine x_iconst C dX8_search_224 ?_
                  obtain ⟨o16, h⟩ := h
                  refine x_iast C ly_41 rfl (by decide) (by decide) o16 (by decide) dX8_search_225 ?_
                  refine x_goto (tgt := 40) C dX8_search_226 (by decide) ?_
                  obtain ⟨o17, h⟩ := h
                  exact ih _ _ h o17
                · have h := h.2 q8
                  refine x_aload_n C dX8_search_168 rfl ?_
                  refine x_iconst C dX8_search_169 ?_
                  refine x_putZ C pf_RX8_87 ly_8 rfl rfl (by decide) (by decide) dX8_search_170 ?_
                  refine x_aload_n C dX8_search_173 rfl ?_
                  refine x_aload_n C dX8_search_174 rfl ?_
                  refine x_getR C gf_RX8_51 ly_8 rfl (by decide) dX8_search_175 ?_
                  refine x_iload_n C dX8_search_178 rfl ?_
                  refine x_iconst C dX8_search_179 ?_
                  refine x_iadd C dX8_search_180 ?_
                  obtain ⟨o18, h⟩ := h
                  refine x_rng (fun hR7 => ?_)
                  refine x_lald C ly_42 rfl (by decide) (by decide) o18 dX8_search_181 ?_
                  refine x_putL C pf_RX8_145 ly_8 rfl rfl (by decide) (ka_gL hR7 ly_42 _) dX8_search_182 ?_
                  refine x_iconst C dX8_search_185 ?_
                  refine x_istore_n C dX8_search_186 (Nat.le_of_ble_eq_true rfl) rfl ?_
                  refine lp_X8_search_L187 C x1 r1 Q _ (fun M4 h => ?_) _ _ h (by decide)
                  · refine x_goto (tgt := 40) C dX8_search_213 (by decide) ?_
                    exact ih _ _ h r1
          · have h := h.2 q4
            refine x_bipush C dX8_search_102 rfl ?_
            exact x_iret C (by decide) h dX8_search_104
      · have h := h.2 q2
        refine x_iinc C dX8_search_67 rfl (Nat.le_of_ble_eq_true rfl) rfl ?_
        refine x_goto (tgt := 40) C dX8_search_70 (by decide) ?_
        obtain ⟨o19, h⟩ := h
        exact ih _ _ h o19)
set_option maxRecDepth 100000 in
set_option maxHeartbeats 4000000 in
theorem sd_X8_search (l : Launch) (D : va_G) (cy : Nat → ClassId) (ad : Nat → Int → Nat) (M : Mm) (Q : Int → Mm → Prop) (h : wp_X8_search M Q) : Ct l D cy ad yX8_search cX8_search 3 (some .int) rm_X8_search [aR 8] M (rI Q) := by
  refine ct_of (z := 2) (ls := [some (aR 8), none, none]) (by decide) rfl (Nat.le_of_ble_eq_true rfl) ?_
  intro p e s m args below meth c C
  have C : Cx p s m args meth c D cy ad (Ar ad) cX8_search 3 RX8 (some .int) := C
  unfold wp_X8_search at h
  refine x_aload_n C dX8_search_0 rfl ?_
  refine x_rng (fun hR1 => ?_)
  refine x_getI C gf_RX8_80 ly_8 rfl rfl (by decide) dX8_search_1 ?_
  refine x_aload_n C dX8_search_4 rfl ?_
  refine x_getI C gf_RX8_7 ly_8 rfl rfl (by decide) dX8_search_5 ?_
  refine x_icmp_ge (tgt := 14) C (ka_fI hR1 ly_8 rfl) (ka_fI hR1 ly_8 rfl) dX8_search_8 (by decide) (fun q1 => ?_) (fun q1 => ?_)
  · have h := h.1 q1
    refine x_aload_n C dX8_search_14 rfl ?_
    refine x_iconst C dX8_search_15 ?_
    refine x_putZ C pf_RX8_87 ly_8 rfl rfl (by decide) (by decide) dX8_search_16 ?_
    refine x_aload_n C dX8_search_19 rfl ?_
    refine x_iconst C dX8_search_20 ?_
    refine x_putI C pf_RX8_138 ly_8 rfl rfl (by decide) (by decide) dX8_search_21 ?_
    refine x_iconst C dX8_search_24 ?_
    refine x_istore_n C dX8_search_25 (Nat.le_of_ble_eq_true rfl) rfl ?_
    refine x_aload_n C dX8_search_26 rfl ?_
    refine x_getR C gf_RX8_48 ly_8 rfl (by decide) dX8_search_27 ?_
    refine x_iconst C dX8_search_30 ?_
    refine x_iconst C dX8_search_31 ?_
    refine x_iast C ly_41 rfl (by decide) (by decide) (by decide) (by decide) dX8_search_32 ?_
    refine x_aload_n C dX8_search_33 rfl ?_
    refine x_getR C gf_RX8_51 ly_8 rfl (by decide) dX8_search_34 ?_
    refine x_iconst C dX8_search_37 ?_
    refine x_lconst (v := 0) C dX8_search_38 rfl ?_
    refine x_last C ly_42 rfl (by decide) (by decide) (by decide) (by decide) dX8_search_39 ?_
    refine lp_X8_search_L40 C Q _ _ h (by decide)
  · have h := h.2 q1
    refine x_bipush C dX8_search_11 rfl ?_
    exact x_iret C (by decide) h dX8_search_13
set_option maxRecDepth 100000 in
set_option maxHeartbeats 4000000 in
theorem sd_X7_least (l : Launch) (D : va_G) (cy : Nat → ClassId) (ad : Nat → Int → Nat) (M : Mm) (Q : Int → Mm → Prop) (h : wp_X7_least M Q) : Ct l D cy ad yX7_least cX7_least 1 (some .long) rm_X7_least [aR 0] M (rL Q) := by
  refine ct_of (z := 0) (ls := [some (aR 0)]) (by decide) rfl (Nat.le_of_ble_eq_true rfl) ?_
  intro p e s m args below meth c C
  have C : Cx p s m args meth c D cy ad (Ar ad) cX7_least 1 RX7 (some .long) := C
  unfold wp_X7_least at h
  refine x_aload_n C dX7_least_0 rfl ?_
  refine x_getR C gf_RX7_46 ly_0 rfl (by decide) dX7_least_1 ?_
  refine x_rng (fun hR1 => ?_)
  refine x_getZ C gf_RX7_174 ly_5 rfl rfl (by decide) dX7_least_4 ?_
  refine x_if_eq (tgt := 20) C (ka_bi (ka_fZ hR1 ly_5 rfl)) dX7_least_7 (by decide) (fun q1 => ?_) (fun q1 => ?_)
  · have h := h.1 q1
    refine x_ldc2 (v := (-1)) C kc_RX7_181 rfl dX7_least_20 ?_
    exact x_lret C h dX7_least_23
  · have h := h.2 q1
    refine x_aload_n C dX7_least_10 rfl ?_
    refine x_getR C gf_RX7_46 ly_0 rfl (by decide) dX7_least_11 ?_
    refine x_getL C gf_RX7_177 ly_5 rfl rfl (by decide) dX7_least_14 ?_
    refine x_goto (tgt := 23) C dX7_least_17 (by decide) ?_
    exact x_lret C h dX7_least_23
set_option maxRecDepth 100000 in
set_option maxHeartbeats 4000000 in
theorem sd_X8_least (l : Launch) (D : va_G) (cy : Nat → ClassId) (ad : Nat → Int → Nat) (M : Mm) (Q : Int → Mm → Prop) (h : wp_X8_least M Q) : Ct l D cy ad yX8_least cX8_least 1 (some .long) rm_X8_least [aR 8] M (rL Q) := by
  refine ct_of (z := 0) (ls := [some (aR 8)]) (by decide) rfl (Nat.le_of_ble_eq_true rfl) ?_
  intro p e s m args below meth c C
  have C : Cx p s m args meth c D cy ad (Ar ad) cX8_least 1 RX8 (some .long) := C
  unfold wp_X8_least at h
  refine x_aload_n C dX8_least_0 rfl ?_
  refine x_rng (fun hR1 => ?_)
  refine x_getZ C gf_RX8_87 ly_8 rfl rfl (by decide) dX8_least_1 ?_
  refine x_if_eq (tgt := 14) C (ka_bi (ka_fZ hR1 ly_8 rfl)) dX8_least_4 (by decide) (fun q1 => ?_) (fun q1 => ?_)
  · have h := h.1 q1
    refine x_ldc2 (v := (-1)) C kc_RX8_149 rfl dX8_least_14 ?_
    exact x_lret C h dX8_least_17
  · have h := h.2 q1
    refine x_aload_n C dX8_least_7 rfl ?_
    refine x_getL C gf_RX8_145 ly_8 rfl rfl (by decide) dX8_least_8 ?_
    refine x_goto (tgt := 17) C dX8_least_11 (by decide) ?_
    exact x_lret C h dX8_least_17
set_option maxRecDepth 100000 in
set_option maxHeartbeats 4000000 in
theorem lp_X5_become_c22_L2 {p : Program} {l : Launch} {e : Env} {s : State} {m : MethodId} {args : Array Value} {below : List Frame} {meth : Method} {c : Code} {D : va_G} {cy : Nat → ClassId} {ad : Nat → Int → Nat} (C : Cx p s m args meth c D cy ad (Ar ad) cX5_become 3 RX5 none) (Q : Mm → Prop) : ∀ (x2 : Int) (M : Mm), wp_X5_become_c22_L2 Q x2 M → iR x2 → Xj p l e rm_X5_become_c22 s m args below meth c D cy ad (Ar ad) (MQ below (QX D cy ad (rV Q)) args s 0 0 (Ar ad)) 3 0 0 2 [some (aR 4), some (aR 22), some (aI x2)] [] M :=
  LP1.ind (P := fun x2 M => iR x2 → Xj p l e rm_X5_become_c22 s m args below meth c D cy ad (Ar ad) (MQ below (QX D cy ad (rV Q)) args s 0 0 (Ar ad)) 3 0 0 2 [some (aR 4), some (aR 22), some (aI x2)] [] M) (fun R ih => by
    intro x2 M h r2
    unfold bc_X5_become_c22_L2 at h
    refine x_iload_n C dX5_become_2 rfl ?_
    refine x_aload_n C dX5_become_3 rfl ?_
    refine x_getR C gf_RX5_15 ly_4 rfl (by decide) dX5_become_4 ?_
    refine x_rng (fun hR1 => ?_)
    refine x_getI C gf_RX5_27 ly_1 rfl rfl (by decide) dX5_become_7 ?_
    refine x_icmp_ge (tgt := 28) C r2 (ka_fI hR1 ly_1 rfl) dX5_become_10 (by decide) (fun q1 => ?_) (fun q1 => ?_)
    · have h := h.1 q1
      refine x_aload_n C dX5_become_28 rfl ?_
      refine x_iconst C dX5_become_29 ?_
      refine x_putZ C pf_RX5_33 ly_4 rfl rfl (by decide) (by decide) dX5_become_30 ?_
      exact x_vret C h dX5_become_33
    · have h := h.2 q1
      refine x_aload_n C dX5_become_13 rfl ?_
      refine x_getR C gf_RX5_9 ly_4 rfl (by decide) dX5_become_14 ?_
      refine x_iload_n C dX5_become_17 rfl ?_
      refine x_aload_n C dX5_become_18 rfl ?_
      refine x_iload_n C dX5_become_19 rfl ?_
      obtain ⟨o1, h⟩ := h
      refine x_iald C ly_22 rfl (by decide) (by decide) o1 dX5_become_20 ?_
      obtain ⟨o2, h⟩ := h
      refine x_iast C ly_19 rfl (by decide) (by decide) o2 (ka_gI hR1 ly_22 _) dX5_become_21 ?_
      refine x_iinc C dX5_become_22 rfl (Nat.le_of_ble_eq_true rfl) rfl ?_
      refine x_goto (tgt := 2) C dX5_become_25 (by decide) ?_
      obtain ⟨o3, h⟩ := h
      exact ih _ _ h o3)
set_option maxRecDepth 100000 in
set_option maxHeartbeats 4000000 in
theorem sd_X5_become_c22 (l : Launch) (D : va_G) (cy : Nat → ClassId) (ad : Nat → Int → Nat) (M : Mm) (Q : Mm → Prop) (h : wp_X5_become_c22 M Q) : Ct l D cy ad yX5_become cX5_become 3 none rm_X5_become_c22 [aR 4, aR 22] M (rV Q) := by
  refine ct_of (z := 1) (ls := [some (aR 4), some (aR 22), none]) (by decide) rfl (Nat.le_of_ble_eq_true rfl) ?_
  intro p e s m args below meth c C
  have C : Cx p s m args meth c D cy ad (Ar ad) cX5_become 3 RX5 none := C
  unfold wp_X5_become_c22 at h
  refine x_iconst C dX5_become_0 ?_
  refine x_istore_n C dX5_become_1 (Nat.le_of_ble_eq_true rfl) rfl ?_
  refine lp_X5_become_c22_L2 C Q _ _ h (by decide)
set_option maxRecDepth 100000 in
set_option maxHeartbeats 4000000 in
theorem sd_X7_take (l : Launch) (D : va_G) (cy : Nat → ClassId) (ad : Nat → Int → Nat) (M : Mm) (Q : Int → Mm → Prop) (h : wp_X7_take M Q) : Ct l D cy ad yX7_take cX7_take 1 (some .int) rm_X7_take [aR 0] M (rI Q) := by
  refine ct_of (z := 0) (ls := [some (aR 0)]) (by decide) rfl (Nat.le_of_ble_eq_true rfl) ?_
  intro p e s m args below meth c C
  have C : Cx p s m args meth c D cy ad (Ar ad) cX7_take 1 RX7 (some .int) := C
  unfold wp_X7_take at h
  refine x_aload_n C dX7_take_0 rfl ?_
  refine x_getR C gf_RX7_46 ly_0 rfl (by decide) dX7_take_1 ?_
  refine x_rng (fun hR1 => ?_)
  refine x_getZ C gf_RX7_174 ly_5 rfl rfl (by decide) dX7_take_4 ?_
  refine x_if_ne (tgt := 13) C (ka_bi (ka_fZ hR1 ly_5 rfl)) dX7_take_7 (by decide) (fun q1 => ?_) (fun q1 => ?_)
  · have h := h.1 q1
    refine x_aload_n C dX7_take_13 rfl ?_
    refine x_getR C gf_RX7_39 ly_0 rfl (by decide) dX7_take_14 ?_
    refine x_aload_n C dX7_take_17 rfl ?_
    refine x_getR C gf_RX7_46 ly_0 rfl (by decide) dX7_take_18 ?_
    refine x_getR C gf_RX7_183 ly_5 rfl (by decide) dX7_take_21 ?_
    refine x_callV (vs := [aR 22]) C cv_RX7_186 ly_4 rfl (by decide) ⟨rfl, rfl, Nat.le_of_ble_eq_true rfl, Nat.le_of_ble_eq_true rfl⟩ ⟨Nat.zero_le _, Nat.zero_le _⟩ rfl rfl (Nat.le_of_ble_eq_true rfl) dX7_take_24 (sd_X5_become_c22 l D cy ad M _ h) (fun _ M1 qz => ?_)
    obtain ⟨rfl, h⟩ := qz
    refine x_iconst C dX7_take_27 ?_
    exact x_iret C (by decide) h dX7_take_28
  · have h := h.2 q1
    refine x_bipush C dX7_take_10 rfl ?_
    exact x_iret C (by decide) h dX7_take_12
