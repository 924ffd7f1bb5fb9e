set_option maxRecDepth 100000 in
set_option maxHeartbeats 4000000 in
theorem sd_X8_often (l : Launch) (D : va_G) (cy : Nat → ClassId) (ad : Nat → Int → Nat) (x1 : Int) (x2 : Int) (r1 : iR x1) (r2 : iR x2) (M : Mm) (Q : Int → Mm → Prop) (h : wp_X8_often x1 x2 M Q) : Ct l D cy ad yX8_often cX8_often 3 (some .int) rm_X8_often [aR 8, aI x1, aI x2] M (rI Q) := by
  refine ct_of (z := 0) (ls := [some (aR 8), some (aI x1), some (aI x2)]) (by decide) rfl (Nat.le_of_ble_eq_true rfl) ?_
  intro p e s m args below meth c C
  have C : Cx p s m args meth c D cy ad (Ar ad) cX8_often 3 RX8 (some .int) := C
  unfold wp_X8_often at h
  refine x_aload_n C dX8_often_0 rfl ?_
  refine x_iload_n C dX8_often_1 rfl ?_
  refine x_callV (vs := [aI x1]) C cv_RX8_93 ly_8 rfl (by decide) ⟨rfl, rfl, Nat.le_of_ble_eq_true rfl, Nat.le_of_ble_eq_true rfl⟩ ⟨Nat.zero_le _, Nat.zero_le _⟩ rfl rfl (Nat.le_of_ble_eq_true rfl) dX8_often_2 (sd_X8_isLetter l D cy ad x1 r1 M _ h) (fun _ M1 qz => ?_)
  obtain ⟨z1, rfl, rz1, h⟩ := qz
  refine x_if_eq (tgt := 30) C (ka_bi rz1) dX8_often_5 (by decide) (fun q1 => ?_) (fun q1 => ?_)
  · have h := h.1 q1
    refine x_bipush C dX8_often_30 rfl ?_
    exact x_iret C (by decide) h dX8_often_32
  · have h := h.2 q1
    refine x_aload_n C dX8_often_8 rfl ?_
    refine x_iload_n C dX8_often_9 rfl ?_
    refine x_callV (vs := [aI x2]) C cv_RX8_93 ly_8 rfl (by decide) ⟨rfl, rfl, Nat.le_of_ble_eq_true rfl, Nat.le_of_ble_eq_true rfl⟩ ⟨Nat.zero_le _, Nat.zero_le _⟩ rfl rfl (Nat.le_of_ble_eq_true rfl) dX8_often_10 (sd_X8_isLetter l D cy ad x2 r2 M1 _ h) (fun _ M2 qz => ?_)
    obtain ⟨z2, rfl, rz2, h⟩ := qz
    refine x_if_eq (tgt := 30) C (ka_bi rz2) dX8_often_13 (by decide) (fun q2 => ?_) (fun q2 => ?_)
    · have h := h.1 q2
      refine x_bipush C dX8_often_30 rfl ?_
      exact x_iret C (by decide) h dX8_often_32
    · have h := h.2 q2
      refine x_aload_n C dX8_often_16 rfl ?_
      refine x_getR C gf_RX8_24 ly_8 rfl (by decide) dX8_often_17 ?_
      refine x_bipush C dX8_often_20 rfl ?_
      refine x_iload_n C dX8_often_22 rfl ?_
      refine x_imul C dX8_often_23 ?_
      refine x_iload_n C dX8_often_24 rfl ?_
      refine x_iadd C dX8_often_25 ?_
      obtain ⟨o1, h⟩ := h
      refine x_rng (fun hR1 => ?_)
      refine x_iald C ly_33 rfl (by decide) (by decide) o1 dX8_often_26 ?_
      refine x_goto (tgt := 32) C dX8_often_27 (by decide) ?_
      exact x_iret C (ka_gI hR1 ly_33 _) h dX8_often_32
set_option maxRecDepth 100000 in
set_option maxHeartbeats 4000000 in
theorem sd_X2_reckonCost (l : Launch) (D : va_G) (cy : Nat → ClassId) (ad : Nat → Int → Nat) (x1 : Int) (x2 : Int) (r1 : iR x1) (r2 : iR x2) (M : Mm) (Q : Int → Mm → Prop) (h : wp_X2_reckonCost x1 x2 M Q) : Ct l D cy ad yX2_reckonCost cX2_reckonCost 4 (some .int) rm_X2_reckonCost [aR 3, aI x1, aI x2] M (rI Q) := by
  refine ct_of (z := 1) (ls := [some (aR 3), some (aI x1), some (aI x2), none]) (by decide) rfl (Nat.le_of_ble_eq_true rfl) ?_
  intro p e s m args below meth c C
  have C : Cx p s m args meth c D cy ad (Ar ad) cX2_reckonCost 4 RX2 (some .int) := C
  unfold wp_X2_reckonCost at h
  refine x_aload_n C dX2_reckonCost_0 rfl ?_
  refine x_getR C gf_RX2_20 ly_3 rfl (by decide) dX2_reckonCost_1 ?_
  refine x_iload_n C dX2_reckonCost_4 rfl ?_
  obtain ⟨o1, h⟩ := h
  refine x_aald C ly_16 rfl (by decide) (by decide) o1 dX2_reckonCost_5 ?_
  refine x_iload_n C dX2_reckonCost_6 rfl ?_
  obtain ⟨o2, h⟩ := h
  refine x_rng (fun hR1 => ?_)
  refine x_iald2 C ly_16 rfl (by decide) (by decide) rfl o1 o2 dX2_reckonCost_7 ?_
  refine x_istore_n C dX2_reckonCost_8 (Nat.le_of_ble_eq_true rfl) rfl ?_
  refine x_aload_n C dX2_reckonCost_9 rfl ?_
  refine x_getR C gf_RX2_9 ly_3 rfl (by decide) dX2_reckonCost_10 ?_
  refine x_iload_n C dX2_reckonCost_13 rfl ?_
  obtain ⟨o3, h⟩ := h
  refine x_iald C ly_14 rfl (by decide) (by decide) o3 dX2_reckonCost_14 ?_
  by_cases q1_0 : M 14 x2 = 1
  · have h := h.1 q1_0
    refine x_tin (tgt := 40) (off := 25) C (ka_gI hR1 ly_14 _) (by omega) (by omega) (by rw [q1_0]; rfl) dX2_reckonCost_15 (by decide) ?_
    refine x_iload_n C dX2_reckonCost_40 rfl ?_
    refine x_iconst C dX2_reckonCost_41 ?_
    refine x_idiv C (by decide) (by decide) dX2_reckonCost_42 ?_
    exact x_iret C (ka_r32 _) h dX2_reckonCost_43
  by_cases q1_1 : M 14 x2 = 2
  · have h := h.2.1 q1_1
    refine x_tin (tgt := 44) (off := 29) C (ka_gI hR1 ly_14 _) (by omega) (by omega) (by rw [q1_1]; rfl) dX2_reckonCost_15 (by decide) ?_
    refine x_iload_n C dX2_reckonCost_44 rfl ?_
    refine x_aload_n C dX2_reckonCost_45 rfl ?_
    refine x_getR C gf_RX2_15 ly_3 rfl (by decide) dX2_reckonCost_46 ?_
    refine x_iload_n C dX2_reckonCost_49 rfl ?_
    obtain ⟨o4, h⟩ := h
    refine x_iald C ly_15 rfl (by decide) (by decide) o4 dX2_reckonCost_50 ?_
    refine x_iadd C dX2_reckonCost_51 ?_
    obtain ⟨o5, h⟩ := h
    exact x_iret C o5 h dX2_reckonCost_52
  by_cases q1_2 : M 14 x2 = 3
  · have h := h.2.2.1 q1_2
    refine x_tin (tgt := 53) (off := 38) C (ka_gI hR1 ly_14 _) (by omega) (by omega) (by rw [q1_2]; rfl) dX2_reckonCost_15 (by decide) ?_
    refine x_iconst C dX2_reckonCost_53 ?_
    refine x_iload_n C dX2_reckonCost_54 rfl ?_
    refine x_aload_n C dX2_reckonCost_55 rfl ?_
    refine x_getR C gf_RX2_15 ly_3 rfl (by decide) dX2_reckonCost_56 ?_
    refine x_iload_n C dX2_reckonCost_59 rfl ?_
    obtain ⟨o6, h⟩ := h
    refine x_iald C ly_15 rfl (by decide) (by decide) o6 dX2_reckonCost_60 ?_
    refine x_iadd C dX2_reckonCost_61 ?_
    refine x_imul C dX2_reckonCost_62 ?_
    obtain ⟨o7, h⟩ := h
    exact x_iret C o7 h dX2_reckonCost_63
  have q1 : M 14 x2 < 1 ∨ 3 < M 14 x2 := by omega
  have h := h.2.2.2 q1
  refine x_tout (tgt := 64) C (ka_gI hR1 ly_14 _) q1 dX2_reckonCost_15 (by decide) ?_
  refine x_iload_n C dX2_reckonCost_64 rfl ?_
  exact x_iret C (ka_gI hR1 ly_16 _) h dX2_reckonCost_65
set_option maxRecDepth 100000 in
set_option maxHeartbeats 4000000 in
theorem lp_X2_append_L32 {p : Program} {l : Launch} {e : Env} {s : State} {m : MethodId} {args : Array Value} {below : List Frame} {meth : Method} {c : Code} {D : va_G} {cy : Nat → ClassId} {ad : Nat → Int → Nat} (C : Cx p s m args meth c D cy ad (Ar ad) cX2_append 5 RX2 (some .int)) (x3 : Int) (r3 : iR x3) (Q : Int → Mm → Prop) : ∀ (x4 : Int) (M : Mm), wp_X2_append_L32 x3 Q x4 M → iR x4 → Xj p l e rm_X2_append s m args below meth c D cy ad (Ar ad) (MQ below (QX D cy ad (rI Q)) args s 0 0 (Ar ad)) 5 0 0 32 [some (aR 3), none, none, some (aI x3), some (aI x4)] [] M :=
  LP1.ind (P := fun x4 M => iR x4 → Xj p l e rm_X2_append s m args below meth c D cy ad (Ar ad) (MQ below (QX D cy ad (rI Q)) args s 0 0 (Ar ad)) 5 0 0 32 [some (aR 3), none, none, some (aI x3), some (aI x4)] [] M) (fun R ih => by
    intro x4 M h r4
    unfold bc_X2_append_L32 at h
    refine x_iload C dX2_append_32 rfl ?_
    refine x_aload_n C dX2_append_34 rfl ?_
    refine x_rng (fun hR1 => ?_)
    refine x_getI C gf_RX2_29 ly_3 rfl rfl (by decide) dX2_append_35 ?_
    refine x_icmp_ge (tgt := 79) C r4 (ka_fI hR1 ly_3 rfl) dX2_append_38 (by decide) (fun q1 => ?_) (fun q1 => ?_)
    · have h := h.1 q1
      refine x_iload_n C dX2_append_79 rfl ?_
      exact x_iret C r3 h dX2_append_80
    · have h := h.2 q1
      refine x_aload_n C dX2_append_41 rfl ?_
      refine x_getR C gf_RX2_23 ly_3 rfl (by decide) dX2_append_42 ?_
      refine x_iload_n C dX2_append_45 rfl ?_
      obtain ⟨o1, h⟩ := h
      refine x_aald C ly_17 rfl (by decide) (by decide) o1 dX2_append_46 ?_
      refine x_iload C dX2_append_47 rfl ?_
      refine x_aload_n C dX2_append_49 rfl ?_
      refine x_iload_n C dX2_append_50 rfl ?_
      refine x_iload C dX2_append_51 rfl ?_
      refine x_callV (vs := [aI x3, aI x4]) C cv_RX2_33 ly_3 rfl (by decide) ⟨rfl, rfl, Nat.le_of_ble_eq_true rfl, Nat.le_of_ble_eq_true rfl⟩ ⟨Nat.zero_le _, Nat.zero_le _⟩ rfl rfl (Nat.le_of_ble_eq_true rfl) dX2_append_53 (sd_X2_reckonCost l D cy ad x3 x4 r3 r4 M _ h) (fun _ M1 qz => ?_)
      obtain ⟨z1, rfl, rz1, h⟩ := qz
      obtain ⟨o2, h⟩ := h
      refine x_iast2 C ly_17 rfl (by decide) (by decide) rfl o1 o2 rz1 dX2_append_56 ?_
      refine x_aload_n C dX2_append_57 rfl ?_
      refine x_getR C gf_RX2_23 ly_3 rfl (by decide) dX2_append_58 ?_
      refine x_iload C dX2_append_61 rfl ?_
      obtain ⟨o3, h⟩ := h
      refine x_aald C ly_17 rfl (by decide) (by decide) o3 dX2_append_63 ?_
      refine x_iload_n C dX2_append_64 rfl ?_
      refine x_aload_n C dX2_append_65 rfl ?_
      refine x_iload C dX2_append_66 rfl ?_
      refine x_iload_n C dX2_append_68 rfl ?_
      refine x_callV (vs := [aI x4, aI x3]) C cv_RX2_33 ly_3 rfl (by decide) ⟨rfl, rfl, Nat.le_of_ble_eq_true rfl, Nat.le_of_ble_eq_true rfl⟩ ⟨Nat.zero_le _, Nat.zero_le _⟩ rfl rfl (Nat.le_of_ble_eq_true rfl) dX2_append_69 (sd_X2_reckonCost l D cy ad x4 x3 r4 r3 (mset M1 17 (12 * x3 + x4) z1) _ h) (fun _ M2 qz => ?_)
      obtain ⟨z2, rfl, rz2, h⟩ := qz
      obtain ⟨o4, h⟩ := h
      refine x_iast2 C ly_17 rfl (by decide) (by decide) rfl o3 o4 rz2 dX2_append_72 ?_
      refine x_iinc C dX2_append_73 rfl (Nat.le_of_ble_eq_true rfl) rfl ?_
      refine x_goto (tgt := 32) C dX2_append_76 (by decide) ?_
      obtain ⟨o5, h⟩ := h
      exact ih _ _ h o5)
set_option maxRecDepth 100000 in
set_option maxHeartbeats 4000000 in
theorem sd_X2_append (l : Launch) (D : va_G) (cy : Nat → ClassId) (ad : Nat → Int → Nat) (x1 : Int) (x2 : Int) (r1 : iR x1) (r2 : iR x2) (M : Mm) (Q : Int → Mm → Prop) (h : wp_X2_append x1 x2 M Q) : Ct l D cy ad yX2_append cX2_append 5 (some .int) rm_X2_append [aR 3, aI x1, aI x2] M (rI Q) := by
  refine ct_of (z := 2) (ls := [some (aR 3), some (aI x1), some (aI x2), none, none]) (by decide) rfl (Nat.le_of_ble_eq_true rfl) ?_
  intro p e s m args below meth c C
  have C : Cx p s m args meth c D cy ad (Ar ad) cX2_append 5 RX2 (some .int) := C
  unfold wp_X2_append at h
  refine x_aload_n C dX2_append_0 rfl ?_
  refine x_rng (fun hR1 => ?_)
  refine x_getI C gf_RX2_29 ly_3 rfl rfl (by decide) dX2_append_1 ?_
  refine x_istore_n C dX2_append_4 (Nat.le_of_ble_eq_true rfl) rfl ?_
  refine x_aload_n C dX2_append_5 rfl ?_
  refine x_getR C gf_RX2_9 ly_3 rfl (by decide) dX2_append_6 ?_
  refine x_iload_n C dX2_append_9 rfl ?_
  refine x_iload_n C dX2_append_10 rfl ?_
  obtain ⟨o1, h⟩ := h
  refine x_iast C ly_14 rfl (by decide) (by decide) o1 r1 dX2_append_11 ?_
  refine x_aload_n C dX2_append_12 rfl ?_
  refine x_getR C gf_RX2_15 ly_3 rfl (by decide) dX2_append_13 ?_
  refine x_iload_n C dX2_append_16 rfl ?_
  refine x_iload_n C dX2_append_17 rfl ?_
  obtain ⟨o2, h⟩ := h
  refine x_iast C ly_15 rfl (by decide) (by decide) o2 r2 dX2_append_18 ?_
  refine x_aload_n C dX2_append_19 rfl ?_
  refine x_dup C dX2_append_20 rfl ?_
  refine x_rng (fun hR2 => ?_)
  refine x_getI C gf_RX2_29 ly_3 rfl rfl (by decide) dX2_append_21 ?_
  refine x_iconst C dX2_append_24 ?_
  refine x_iadd C dX2_append_25 ?_
  obtain ⟨o3, h⟩ := h
  refine x_putI C pf_RX2_29 ly_3 rfl rfl (by decide) o3 dX2_append_26 ?_
  refine x_iconst C dX2_append_29 ?_
  refine x_istore C dX2_append_30 (Nat.le_of_ble_eq_true rfl) rfl ?_
  refine x_mask [true, false, false, true, true] rfl ?_
  refine lp_X2_append_L32 C (M 3 0) (ka_fI hR1 ly_3 rfl) Q _ _ h (by decide)
set_option maxRecDepth 100000 in
set_option maxHeartbeats 4000000 in
theorem sd_X7_key (l : Launch) (D : va_G) (cy : Nat → ClassId) (ad : Nat → Int → Nat) (x1 : Int) (x2 : Int) (r1 : iR x1) (r2 : iR x2) (M : Mm) (Q : Int → Mm → Prop) (h : wp_X7_key x1 x2 M Q) : Ct l D cy ad yX7_key cX7_key 3 (some .int) rm_X7_key [aR 0, aI x1, aI x2] M (rI Q) := by
  refine ct_of (z := 0) (ls := [some (aR 0), some (aI x1), some (aI x2)]) (by decide) rfl (Nat.le_of_ble_eq_true rfl) ?_
  intro p e s m args below meth c C
  have C : Cx p s m args meth c D cy ad (Ar ad) cX7_key 3 RX7 (some .int) := C
  unfold wp_X7_key at h
  refine x_iload_n C dX7_key_0 rfl ?_
  refine x_if_lt (tgt := 20) C r1 dX7_key_1 (by decide) (fun q1 => ?_) (fun q1 => ?_)
  · have h := h.1 q1
    refine x_bipush C dX7_key_20 rfl ?_
    exact x_iret C (by decide) h dX7_key_22
  · have h := h.2 q1
    refine x_iload_n C dX7_key_4 rfl ?_
    refine x_iconst C dX7_key_5 ?_
    refine x_icmp_gt (tgt := 20) C r1 (by decide) dX7_key_6 (by decide) (fun q2 => ?_) (fun q2 => ?_)
    · have h := h.1 q2
      refine x_bipush C dX7_key_20 rfl ?_
      exact x_iret C (by decide) h dX7_key_22
    · have h := h.2 q2
      refine x_iload_n C dX7_key_9 rfl ?_
      refine x_if_lt (tgt := 20) C r2 dX7_key_10 (by decide) (fun q3 => ?_) (fun q3 => ?_)
      · have h := h.1 q3
        refine x_bipush C dX7_key_20 rfl ?_
        exact x_iret C (by decide) h dX7_key_22
      · have h := h.2 q3
        refine x_iload_n C dX7_key_13 rfl ?_
        refine x_sipush C dX7_key_14 rfl ?_
        refine x_icmp_le (tgt := 23) C r2 (by decide) dX7_key_17 (by decide) (fun q4 => ?_) (fun q4 => ?_)
        · have h := h.1 q4
          refine x_aload_n C dX7_key_23 rfl ?_
          refine x_getR C gf_RX7_26 ly_0 rfl (by decide) dX7_key_24 ?_
          refine x_rng (fun hR1 => ?_)
          refine x_getI C gf_RX7_99 ly_3 rfl rfl (by decide) dX7_key_27 ?_
          refine x_bipush C dX7_key_30 rfl ?_
          refine x_icmp_lt (tgt := 38) C (ka_fI hR1 ly_3 rfl) (by decide) dX7_key_32 (by decide) (fun q5 => ?_) (fun q5 => ?_)
          · have h := h.1 q5
            refine x_aload_n C dX7_key_38 rfl ?_
            refine x_getR C gf_RX7_46 ly_0 rfl (by decide) dX7_key_39 ?_
            refine x_callV (vs := []) C cv_RX7_78 ly_5 rfl (by decide) ⟨rfl, rfl, Nat.le_of_ble_eq_true rfl, Nat.le_of_ble_eq_true rfl⟩ ⟨Nat.zero_le _, Nat.zero_le _⟩ rfl rfl (Nat.le_of_ble_eq_true rfl) dX7_key_42 (sd_X1_forget l D cy ad M _ h) (fun _ M1 qz => ?_)
            obtain ⟨rfl, h⟩ := qz
            refine x_aload_n C dX7_key_45 rfl ?_
            refine x_getR C gf_RX7_26 ly_0 rfl (by decide) dX7_key_46 ?_
            refine x_iload_n C dX7_key_49 rfl ?_
            refine x_iload_n C dX7_key_50 rfl ?_
            refine x_callV (vs := [aI x1, aI x2]) C cv_RX7_100 ly_3 rfl (by decide) ⟨rfl, rfl, Nat.le_of_ble_eq_true rfl, Nat.le_of_ble_eq_true rfl⟩ ⟨Nat.zero_le _, Nat.zero_le _⟩ rfl rfl (Nat.le_of_ble_eq_true rfl) dX7_key_51 (sd_X2_append l D cy ad x1 x2 r1 r2 M1 _ h) (fun _ M2 qz => ?_)
            obtain ⟨z1, rfl, rz1, h⟩ := qz
            exact x_iret C rz1 h dX7_key_54
          · have h := h.2 q5
            refine x_bipush C dX7_key_35 rfl ?_
            exact x_iret C (by decide) h dX7_key_37
        · have h := h.2 q4
          refine x_bipush C dX7_key_20 rfl ?_
          exact x_iret C (by decide) h dX7_key_22
set_option maxRecDepth 100000 in
set_option maxHeartbeats 4000000 in
theorem sd_X8_key (l : Launch) (D : va_G) (cy : Nat → ClassId) (ad : Nat → Int → Nat) (x1 : Int) (x2 : Int) (r1 : iR x1) (r2 : iR x2) (M : Mm) (Q : Int → Mm → Prop) (h : wp_X8_key x1 x2 M Q) : Ct l D cy ad yX8_key cX8_key 3 (some .int) rm_X8_key [aR 8, aI x1, aI x2] M (rI Q) := by
  refine ct_of (z := 0) (ls := [some (aR 8), some (aI x1), some (aI x2)]) (by decide) rfl (Nat.le_of_ble_eq_true rfl) ?_
  intro p e s m args below meth c C
  have C : Cx p s m args meth c D cy ad (Ar ad) cX8_key 3 RX8 (some .int) := C
  unfold wp_X8_key at h
  refine x_iload_n C dX8_key_0 rfl ?_
  refine x_iconst C dX8_key_1 ?_
  refine x_iconst C dX8_key_2 ?_
  refine x_callS (vs := [aI x1, aI 0, aI 3]) C cv_RX8_76 ⟨rfl, rfl, Nat.le_of_ble_eq_true rfl, Nat.le_of_ble_eq_true rfl⟩ ⟨Nat.zero_le _, Nat.zero_le _⟩ rfl rfl (Nat.le_of_ble_eq_true rfl) dX8_key_3 (sd_X8_in l D cy ad x1 0 3 r1 (by decide) (by decide) M _ h) (fun _ M1 qz => ?_)
  obtain ⟨z1, rfl, rz1, h⟩ := qz
  refine x_if_eq (tgt := 20) C (ka_bi rz1) dX8_key_6 (by decide) (fun q1 => ?_) (fun q1 => ?_)
  · have h := h.1 q1
    refine x_bipush C dX8_key_20 rfl ?_
    exact x_iret C (by decide) h dX8_key_22
  · have h := h.2 q1
    refine x_iload_n C dX8_key_9 rfl ?_
    refine x_iconst C dX8_key_10 ?_
    refine x_sipush C dX8_key_11 rfl ?_
    refine x_callS (vs := [aI x2, aI 0, aI 1000]) C cv_RX8_76 ⟨rfl, rfl, Nat.le_of_ble_eq_true rfl, Nat.le_of_ble_eq_true rfl⟩ ⟨Nat.zero_le _, Nat.zero_le _⟩ rfl rfl (Nat.le_of_ble_eq_true rfl) dX8_key_14 (sd_X8_in l D cy ad x2 0 1000 r2 (by decide) (by decide) M1 _ h) (fun _ M2 qz => ?_)
    obtain ⟨z2, rfl, rz2, h⟩ := qz
    refine x_if_ne (tgt := 23) C (ka_bi rz2) dX8_key_17 (by decide) (fun q2 => ?_) (fun q2 => ?_)
    · have h := h.1 q2
      refine x_aload_n C dX8_key_23 rfl ?_
      refine x_rng (fun hR1 => ?_)
      refine x_getI C gf_RX8_80 ly_8 rfl rfl (by decide) dX8_key_24 ?_
      refine x_bipush C dX8_key_27 rfl ?_
      refine x_icmp_ne (tgt := 35) C (ka_fI hR1 ly_8 rfl) (by decide) dX8_key_29 (by decide) (fun q3 => ?_) (fun q3 => ?_)
      · have h := h.1 q3
        refine x_aload_n C dX8_key_35 rfl ?_
        refine x_getR C gf_RX8_27 ly_8 rfl (by decide) dX8_key_36 ?_
        refine x_aload_n C dX8_key_39 rfl ?_
        refine x_getI C gf_RX8_80 ly_8 rfl rfl (by decide) dX8_key_40 ?_
        refine x_iload_n C dX8_key_43 rfl ?_
        obtain ⟨o1, h⟩ := h
        refine x_iast C ly_34 rfl (by decide) (by decide) o1 r1 dX8_key_44 ?_
        refine x_aload_n C dX8_key_45 rfl ?_
        refine x_getR C gf_RX8_30 ly_8 rfl (by decide) dX8_key_46 ?_
        refine x_aload_n C dX8_key_49 rfl ?_
        refine x_rng (fun hR2 => ?_)
        refine x_getI C gf_RX8_80 ly_8 rfl rfl (by decide) dX8_key_50 ?_
        refine x_iload_n C dX8_key_53 rfl ?_
        obtain ⟨o2, h⟩ := h
        refine x_iast C ly_35 rfl (by decide) (by decide) o2 r2 dX8_key_54 ?_
        refine x_aload_n C dX8_key_55 rfl ?_
        refine x_dup C dX8_key_56 rfl ?_
        refine x_rng (fun hR3 => ?_)
        refine x_getI C gf_RX8_80 ly_8 rfl rfl (by decide) dX8_key_57 ?_
        refine x_iconst C dX8_key_60 ?_
        refine x_iadd C dX8_key_61 ?_
        obtain ⟨o3, h⟩ := h
        refine x_putI C pf_RX8_80 ly_8 rfl rfl (by decide) o3 dX8_key_62 ?_
        refine x_aload_n C dX8_key_65 rfl ?_
        refine x_iconst C dX8_key_66 ?_
        refine x_putZ C pf_RX8_87 ly_8 rfl rfl (by decide) (by decide) dX8_key_67 ?_
        refine x_aload_n C dX8_key_70 rfl ?_
        refine x_rng (fun hR4 => ?_)
        refine x_getI C gf_RX8_80 ly_8 rfl rfl (by decide) dX8_key_71 ?_
        refine x_iconst C dX8_key_74 ?_
        refine x_isub C dX8_key_75 ?_
        obtain ⟨o4, h⟩ := h
        exact x_iret C o4 h dX8_key_76
      · have h := h.2 q3
        refine x_bipush C dX8_key_32 rfl ?_
        exact x_iret C (by decide) h dX8_key_34
    · have h := h.2 q2
      refine x_bipush C dX8_key_20 rfl ?_
      exact x_iret C (by decide) h dX8_key_22
set_option maxRecDepth 100000 in
set_option maxHeartbeats 4000000 in
theorem sd_X2_has (l : Launch) (D : va_G) (cy : Nat → ClassId) (ad : Nat → Int → Nat) (x1 : Int) (r1 : iR x1) (M : Mm) (Q : Int → Mm → Prop) (h : wp_X2_has x1 M Q) : Ct l D cy ad yX2_has cX2_has 2 (some .boolean) rm_X2_has [aR 3, aI x1] M (rZ Q) := by
  refine ct_of (z := 0) (ls := [some (aR 3), some (aI x1)]) (by decide) rfl (Nat.le_of_ble_eq_true rfl) ?_
  intro p e s m args below meth c C
  have C : Cx p s m args meth c D cy ad (Ar ad) cX2_has 2 RX2 (some .boolean) := C
  unfold wp_X2_has at h
  refine x_iload_n C dX2_has_0 rfl ?_
  refine x_if_lt (tgt := 16) C r1 dX2_has_1 (by decide) (fun q1 => ?_) (fun q1 => ?_)
  · have h := h.1 q1
    refine x_iconst C dX2_has_16 ?_
    exact x_zret C (by decide) h dX2_has_17
  · have h := h.2 q1
    refine x_iload_n C dX2_has_4 rfl ?_
    refine x_aload_n C dX2_has_5 rfl ?_
    refine x_rng (fun hR1 => ?_)
    refine x_getI C gf_RX2_29 ly_3 rfl rfl (by decide) dX2_has_6 ?_
    refine x_icmp_ge (tgt := 16) C r1 (ka_fI hR1 ly_3 rfl) dX2_has_9 (by decide) (fun q2 => ?_) (fun q2 => ?_)
    · have h := h.1 q2
      refine x_iconst C dX2_has_16 ?_
      exact x_zret C (by decide) h dX2_has_17
    · have h := h.2 q2
      refine x_iconst C dX2_has_12 ?_
      refine x_goto (tgt := 17) C dX2_has_13 (by decide) ?_
      exact x_zret C (by decide) h dX2_has_17
set_option maxRecDepth 100000 in
set_option maxHeartbeats 4000000 in
theorem sd_X2_setGoing (l : Launch) (D : va_G) (cy : Nat → ClassId) (ad : Nat → Int → Nat) (x1 : Int) (x2 : Int) (x3 : Int) (r1 : iR x1) (r2 : iR x2) (r3 : iR x3) (M : Mm) (Q : Int → Mm → Prop) (h : wp_X2_setGoing x1 x2 x3 M Q) : Ct l D cy ad yX2_setGoing cX2_setGoing 5 (some .int) rm_X2_setGoing [aR 3, aI x1, aI x2, aI x3] M (rI Q) := by
  refine ct_of (z := 1) (ls := [some (aR 3), some (aI x1), some (aI x2), some (aI x3), none]) (by decide) rfl (Nat.le_of_ble_eq_true rfl) ?_
  intro p e s m args below meth c C
  have C : Cx p s m args meth c D cy ad (Ar ad) cX2_setGoing 5 RX2 (some .int) := C
  unfold wp_X2_setGoing at h
  refine x_aload_n C dX2_setGoing_0 rfl ?_
  refine x_getR C gf_RX2_20 ly_3 rfl (by decide) dX2_setGoing_1 ?_
  refine x_iload_n C dX2_setGoing_4 rfl ?_
  obtain ⟨o1, h⟩ := h
  refine x_aald C ly_16 rfl (by decide) (by decide) o1 dX2_setGoing_5 ?_
  refine x_iload_n C dX2_setGoing_6 rfl ?_
  obtain ⟨o2, h⟩ := h
  refine x_rng (fun hR1 => ?_)
  refine x_iald2 C ly_16 rfl (by decide) (by decide) rfl o1 o2 dX2_setGoing_7 ?_
  refine x_istore C dX2_setGoing_8 (Nat.le_of_ble_eq_true rfl) rfl ?_
  refine x_aload_n C dX2_setGoing_10 rfl ?_
  refine x_getR C gf_RX2_20 ly_3 rfl (by decide) dX2_setGoing_11 ?_
  refine x_iload_n C dX2_setGoing_14 rfl ?_
  obtain ⟨o3, h⟩ := h
  refine x_aald C ly_16 rfl (by decide) (by decide) o3 dX2_setGoing_15 ?_
  refine x_iload_n C dX2_setGoing_16 rfl ?_
  refine x_iload_n C dX2_setGoing_17 rfl ?_
  obtain ⟨o4, h⟩ := h
  refine x_iast2 C ly_16 rfl (by decide) (by decide) rfl o3 o4 r3 dX2_setGoing_18 ?_
  refine x_aload_n C dX2_setGoing_19 rfl ?_
  refine x_getR C gf_RX2_23 ly_3 rfl (by decide) dX2_setGoing_20 ?_
  refine x_iload_n C dX2_setGoing_23 rfl ?_
  obtain ⟨o5, h⟩ := h
  refine x_aald C ly_17 rfl (by decide) (by decide) o5 dX2_setGoing_24 ?_
  refine x_iload_n C dX2_setGoing_25 rfl ?_
  refine x_aload_n C dX2_setGoing_26 rfl ?_
  refine x_iload_n C dX2_setGoing_27 rfl ?_
  refine x_iload_n C dX2_setGoing_28 rfl ?_
  refine x_callV (vs := [aI x1, aI x2]) C cv_RX2_33 ly_3 rfl (by decide) ⟨rfl, rfl, Nat.le_of_ble_eq_true rfl, Nat.le_of_ble_eq_true rfl⟩ ⟨Nat.zero_le _, Nat.zero_le _⟩ rfl rfl (Nat.le_of_ble_eq_true rfl) dX2_setGoing_29 (sd_X2_reckonCost l D cy ad x1 x2 r1 r2 (mset M 16 (12 * x1 + x2) x3) _ h) (fun _ M1 qz => ?_)
  obtain ⟨z1, rfl, rz1, h⟩ := qz
  obtain ⟨o6, h⟩ := h
  refine x_iast2 C ly_17 rfl (by decide) (by decide) rfl o5 o6 rz1 dX2_setGoing_32 ?_
  refine x_iload C dX2_setGoing_33 rfl ?_
  exact x_iret C (ka_gI hR1 ly_16 _) h dX2_setGoing_35
set_option maxRecDepth 100000 in
set_option maxHeartbeats 4000000 in
theorem sd_X7_go (l : Launch) (D : va_G) (cy : Nat → ClassId) (ad : Nat → Int → Nat) (x1 : Int) (x2 : Int) (x3 : Int) (r1 : iR x1) (r2 : iR x2) (r3 : iR x3) (M : Mm) (Q : Int → Mm → Prop) (h : wp_X7_go x1 x2 x3 M Q) : Ct l D cy ad yX7_go cX7_go 4 (some .int) rm_X7_go [aR 0, aI x1, aI x2, aI x3] M (rI Q) := by
  refine ct_of (z := 0) (ls := [some (aR 0), some (aI x1), some (aI x2), some (aI x3)]) (by decide) rfl (Nat.le_of_ble_eq_true rfl) ?_
  intro p e s m args below meth c C
  have C : Cx p s m args meth c D cy ad (Ar ad) cX7_go 4 RX7 (some .int) := C
  unfold wp_X7_go at h
  refine x_aload_n C dX7_go_0 rfl ?_
  refine x_getR C gf_RX7_26 ly_0 rfl (by decide) dX7_go_1 ?_
  refine x_iload_n C dX7_go_4 rfl ?_
  refine x_callV (vs := [aI x1]) C cv_RX7_104 ly_3 rfl (by decide) ⟨rfl, rfl, Nat.le_of_ble_eq_true rfl, Nat.le_of_ble_eq_true rfl⟩ ⟨Nat.zero_le _, Nat.zero_le _⟩ rfl rfl (Nat.le_of_ble_eq_true rfl) dX7_go_5 (sd_X2_has l D cy ad x1 r1 M _ h) (fun _ M1 qz => ?_)
  obtain ⟨z1, rfl, rz1, h⟩ := qz
  refine x_if_eq (tgt := 33) C (ka_bi rz1) dX7_go_8 (by decide) (fun q1 => ?_) (fun q1 => ?_)
  · have h := h.1 q1
    refine x_bipush C dX7_go_33 rfl ?_
    exact x_iret C (by decide) h dX7_go_35
  · have h := h.2 q1
    refine x_aload_n C dX7_go_11 rfl ?_
    refine x_getR C gf_RX7_26 ly_0 rfl (by decide) dX7_go_12 ?_
    refine x_iload_n C dX7_go_15 rfl ?_
    refine x_callV (vs := [aI x2]) C cv_RX7_104 ly_3 rfl (by decide) ⟨rfl, rfl, Nat.le_of_ble_eq_true rfl, Nat.le_of_ble_eq_true rfl⟩ ⟨Nat.zero_le _, Nat.zero_le _⟩ rfl rfl (Nat.le_of_ble_eq_true rfl) dX7_go_16 (sd_X2_has l D cy ad x2 r2 M1 _ h) (fun _ M2 qz => ?_)
    obtain ⟨z2, rfl, rz2, h⟩ := qz
    refine x_if_eq (tgt := 33) C (ka_bi rz2) dX7_go_19 (by decide) (fun q2 => ?_) (fun q2 => ?_)
    · have h := h.1 q2
      refine x_bipush C dX7_go_33 rfl ?_
      exact x_iret C (by decide) h dX7_go_35
    · have h := h.2 q2
      refine x_iload_n C dX7_go_22 rfl ?_
      refine x_if_lt (tgt := 33) C r3 dX7_go_23 (by decide) (fun q3 => ?_) (fun q3 => ?_)
      · have h := h.1 q3
        refine x_bipush C dX7_go_33 rfl ?_
        exact x_iret C (by decide) h dX7_go_35
      · have h := h.2 q3
        refine x_iload_n C dX7_go_26 rfl ?_
        refine x_sipush C dX7_go_27 rfl ?_
        refine x_icmp_le (tgt := 36) C r3 (by decide) dX7_go_30 (by decide) (fun q4 => ?_) (fun q4 => ?_)
        · have h := h.1 q4
          refine x_aload_n C dX7_go_36 rfl ?_
          refine x_getR C gf_RX7_46 ly_0 rfl (by decide) dX7_go_37 ?_
          refine x_callV (vs := []) C cv_RX7_78 ly_5 rfl (by decide) ⟨rfl, rfl, Nat.le_of_ble_eq_true rfl, Nat.le_of_ble_eq_true rfl⟩ ⟨Nat.zero_le _, Nat.zero_le _⟩ rfl rfl (Nat.le_of_ble_eq_true rfl) dX7_go_40 (sd_X1_forget l D cy ad M2 _ h) (fun _ M3 qz => ?_)
          obtain ⟨rfl, h⟩ := qz
          refine x_aload_n C dX7_go_43 rfl ?_
          refine x_getR C gf_RX7_26 ly_0 rfl (by decide) dX7_go_44 ?_
          refine x_iload_n C dX7_go_47 rfl ?_
          refine x_iload_n C dX7_go_48 rfl ?_
          refine x_iload_n C dX7_go_49 rfl ?_
          refine x_callV (vs := [aI x1, aI x2, aI x3]) C cv_RX7_105 ly_3 rfl (by decide) ⟨rfl, rfl, Nat.le_of_ble_eq_true rfl, Nat.le_of_ble_eq_true rfl⟩ ⟨Nat.zero_le _, Nat.zero_le _⟩ rfl rfl (Nat.le_of_ble_eq_true rfl) dX7_go_50 (sd_X2_setGoing l D cy ad x1 x2 x3 r1 r2 r3 M3 _ h) (fun _ M4 qz => ?_)
          obtain ⟨z3, rfl, rz3, h⟩ := qz
          exact x_iret C rz3 h dX7_go_53
        · have h := h.2 q4
          refine x_bipush C dX7_go_33 rfl ?_
          exact x_iret C (by decide) h dX7_go_35
set_option maxRecDepth 100000 in
set_option maxHeartbeats 4000000 in
theorem sd_X8_isKey (l : Launch) (D : va_G) (cy : Nat → ClassId) (ad : Nat → Int → Nat) (x1 : Int) (r1 : iR x1) (M : Mm) (Q : Int → Mm → Prop) (h : wp_X8_isKey x1 M Q) : Ct l D cy ad yX8_isKey cX8_isKey 2 (some .boolean) rm_X8_isKey [aR 8, aI x1] M (rZ Q) := by
  refine ct_of (z := 0) (ls := [some (aR 8), some (aI x1)]) (by decide) rfl (Nat.le_of_ble_eq_true rfl) ?_
  intro p e s m args below meth c C
  have C : Cx p s m args meth c D cy ad (Ar ad) cX8_isKey 2 RX8 (some .boolean) := C
  unfold wp_X8_isKey at h
  refine x_iload_n C dX8_isKey_0 rfl ?_
  refine x_iconst C dX8_isKey_1 ?_
  refine x_aload_n C dX8_isKey_2 rfl ?_
  refine x_rng (fun hR1 => ?_)
  refine x_getI C gf_RX8_80 ly_8 rfl rfl (by decide) dX8_isKey_3 ?_
  refine x_iconst C dX8_isKey_6 ?_
  refine x_isub C dX8_isKey_7 ?_
  obtain ⟨o1, h⟩ := h
  refine x_callS (vs := [aI x1, aI 0, aI ((M 8 5) - 1)]) C cv_RX8_76 ⟨rfl, rfl, Nat.le_of_ble_eq_true rfl, Nat.le_of_ble_eq_true rfl⟩ ⟨Nat.zero_le _, Nat.zero_le _⟩ rfl rfl (Nat.le_of_ble_eq_true rfl) dX8_isKey_8 (sd_X8_in l D cy ad x1 0 ((M 8 5) - 1) r1 (by decide) o1 M _ h) (fun _ M1 qz => ?_)
  obtain ⟨z1, rfl, rz1, h⟩ := qz
  exact x_zret C rz1 h dX8_isKey_11
set_option maxRecDepth 100000 in
set_option maxHeartbeats 4000000 in
theorem sd_X8_go (l : Launch) (D : va_G) (cy : Nat → ClassId) (ad : Nat → Int → Nat) (x1 : Int) (x2 : Int) (x3 : Int) (r1 : iR x1) (r2 : iR x2) (r3 : iR x3) (M : Mm) (Q : Int → Mm → Prop) (h : wp_X8_go x1 x2 x3 M Q) : Ct l D cy ad yX8_go cX8_go 5 (some .int) rm_X8_go [aR 8, aI x1, aI x2, aI x3] M (rI Q) := by
  refine ct_of (z := 1) (ls := [some (aR 8), some (aI x1), some (aI x2), some (aI x3), none]) (by decide) rfl (Nat.le_of_ble_eq_true rfl) ?_
  intro p e s m args below meth c C
  have C : Cx p s m args meth c D cy ad (Ar ad) cX8_go 5 RX8 (some .int) := C
  unfold wp_X8_go at h
  refine x_aload_n C dX8_go_0 rfl ?_
  refine x_iload_n C dX8_go_1 rfl ?_
  refine x_callV (vs := [aI x1]) C cv_RX8_101 ly_8 rfl (by decide) ⟨rfl, rfl, Nat.le_of_ble_eq_true rfl, Nat.le_of_ble_eq_true rfl⟩ ⟨Nat.zero_le _, Nat.zero_le _⟩ rfl rfl (Nat.le_of_ble_eq_true rfl) dX8_go_2 (sd_X8_isKey l D cy ad x1 r1 M _ h) (fun _ M1 qz => ?_)
  obtain ⟨z1, rfl, rz1, h⟩ := qz
  refine x_if_eq (tgt := 27) C (ka_bi rz1) dX8_go_5 (by decide) (fun q1 => ?_) (fun q1 => ?_)
  · have h := h.1 q1
    refine x_bipush C dX8_go_27 rfl ?_
    exact x_iret C (by decide) h dX8_go_29
  · have h := h.2 q1
    refine x_aload_n C dX8_go_8 rfl ?_
    refine x_iload_n C dX8_go_9 rfl ?_
    refine x_callV (vs := [aI x2]) C cv_RX8_101 ly_8 rfl (by decide) ⟨rfl, rfl, Nat.le_of_ble_eq_true rfl, Nat.le_of_ble_eq_true rfl⟩ ⟨Nat.zero_le _, Nat.zero_le _⟩ rfl rfl (Nat.le_of_ble_eq_true rfl) dX8_go_10 (sd_X8_isKey l D cy ad x2 r2 M1 _ h) (fun _ M2 qz => ?_)
    obtain ⟨z2, rfl, rz2, h⟩ := qz
    refine x_if_eq (tgt := 27) C (ka_bi rz2) dX8_go_13 (by decide) (fun q2 => ?_) (fun q2 => ?_)
    · have h := h.1 q2
      refine x_bipush C dX8_go_27 rfl ?_
      exact x_iret C (by decide) h dX8_go_29
    · have h := h.2 q2
      refine x_iload_n C dX8_go_16 rfl ?_
      refine x_iconst C dX8_go_17 ?_
      refine x_sipush C dX8_go_18 rfl ?_
      refine x_callS (vs := [aI x3, aI 0, aI 1000]) C cv_RX8_76 ⟨rfl, rfl, Nat.le_of_ble_eq_true rfl, Nat.le_of_ble_eq_true rfl⟩ ⟨Nat.zero_le _, Nat.zero_le _⟩ rfl rfl (Nat.le_of_ble_eq_true rfl) dX8_go_21 (sd_X8_in l D cy ad x3 0 1000 r3 (by decide) (by decide) M2 _ h) (fun _ M3 qz => ?_)
      obtain ⟨z3, rfl, rz3, h⟩ := qz
      refine x_if_ne (tgt := 30) C (ka_bi rz3) dX8_go_24 (by decide) (fun q3 => ?_) (fun q3 => ?_)
      · have h := h.1 q3
        refine x_aload_n C dX8_go_30 rfl ?_
        refine x_getR C gf_RX8_33 ly_8 rfl (by decide) dX8_go_31 ?_
        refine x_bipush C dX8_go_34 rfl ?_
        refine x_iload_n C dX8_go_36 rfl ?_
        refine x_imul C dX8_go_37 ?_
        refine x_iload_n C dX8_go_38 rfl ?_
        refine x_iadd C dX8_go_39 ?_
        obtain ⟨o1, h⟩ := h
        refine x_rng (fun hR1 => ?_)
        refine x_iald C ly_36 rfl (by decide) (by decide) o1 dX8_go_40 ?_
        refine x_istore C dX8_go_41 (Nat.le_of_ble_eq_true rfl) rfl ?_
        refine x_aload_n C dX8_go_43 rfl ?_
        refine x_getR C gf_RX8_33 ly_8 rfl (by decide) dX8_go_44 ?_
        refine x_bipush C dX8_go_47 rfl ?_
        refine x_iload_n C dX8_go_49 rfl ?_
        refine x_imul C dX8_go_50 ?_
        refine x_iload_n C dX8_go_51 rfl ?_
        refine x_iadd C dX8_go_52 ?_
        refine x_iload_n C dX8_go_53 rfl ?_
        obtain ⟨o2, h⟩ := h
        refine x_iast C ly_36 rfl (by decide) (by decide) o2 r3 dX8_go_54 ?_
        refine x_aload_n C dX8_go_55 rfl ?_
        refine x_iconst C dX8_go_56 ?_
        refine x_putZ C pf_RX8_87 ly_8 rfl rfl (by decide) (by decide) dX8_go_57 ?_
        refine x_iload C dX8_go_60 rfl ?_
        exact x_iret C (ka_gI hR1 ly_36 _) h dX8_go_62
      · have h := h.2 q3
        refine x_bipush C dX8_go_27 rfl ?_
        exact x_iret C (by decide) h dX8_go_29
set_option maxRecDepth 100000 in
set_option maxHeartbeats 4000000 in
theorem sd_X2_writeBody (l : Launch) (D : va_G) (cy : Nat → ClassId) (ad : Nat → Int → Nat) (x1 : Int) (r1 : iR x1) (M : Mm) (Q : Mm → Prop) (h : wp_X2_writeBody x1 M Q) : Ct l D cy ad yX2_writeBody cX2_writeBody 2 none rm_X2_writeBody [aR 3, aI x1] M (rV Q) := by
  refine ct_of (z := 0) (ls := [some (aR 3), some (aI x1)]) (by decide) rfl (Nat.le_of_ble_eq_true rfl) ?_
  intro p e s m args below meth c C
  have C : Cx p s m args meth c D cy ad (Ar ad) cX2_writeBody 2 RX2 none := C
  unfold wp_X2_writeBody at h
  refine x_aload_n C dX2_writeBody_0 rfl ?_
  refine x_rng (fun hR1 => ?_)
  refine x_getI C gf_RX2_37 ly_3 rfl rfl (by decide) dX2_writeBody_1 ?_
  refine x_iconst C dX2_writeBody_4 ?_
  refine x_icmp_ge (tgt := 28) C (ka_fI hR1 ly_3 rfl) (by decide) dX2_writeBody_5 (by decide) (fun q1 => ?_) (fun q1 => ?_)
  · have h := h.1 q1
    exact x_vret C h dX2_writeBody_28
  · have h := h.2 q1
    refine x_aload_n C dX2_writeBody_8 rfl ?_
    refine x_getR C gf_RX2_26 ly_3 rfl (by decide) dX2_writeBody_9 ?_
    refine x_aload_n C dX2_writeBody_12 rfl ?_
    refine x_getI C gf_RX2_37 ly_3 rfl rfl (by decide) dX2_writeBody_13 ?_
    refine x_iload_n C dX2_writeBody_16 rfl ?_
    obtain ⟨o1, h⟩ := h
    refine x_iast C ly_18 rfl (by decide) (by decide) o1 r1 dX2_writeBody_17 ?_
    refine x_aload_n C dX2_writeBody_18 rfl ?_
    refine x_dup C dX2_writeBody_19 rfl ?_
    refine x_rng (fun hR2 => ?_)
    refine x_getI C gf_RX2_37 ly_3 rfl rfl (by decide) dX2_writeBody_20 ?_
    refine x_iconst C dX2_writeBody_23 ?_
    refine x_iadd C dX2_writeBody_24 ?_
    obtain ⟨o2, h⟩ := h
    refine x_putI C pf_RX2_37 ly_3 rfl rfl (by decide) o2 dX2_writeBody_25 ?_
    exact x_vret C h dX2_writeBody_28
set_option maxRecDepth 100000 in
set_option maxHeartbeats 4000000 in
theorem sd_X2_writeBodies (l : Launch) (D : va_G) (cy : Nat → ClassId) (ad : Nat → Int → Nat) (x1 : Int) (r1 : iR x1) (M : Mm) (Q : Mm → Prop) (h : wp_X2_writeBodies x1 M Q) : Ct l D cy ad yX2_writeBodies cX2_writeBodies 3 none rm_X2_writeBodies [aR 3, aI x1] M (rV Q) := by
  refine ct_of (z := 1) (ls := [some (aR 3), some (aI x1), none]) (by decide) rfl (Nat.le_of_ble_eq_true rfl) ?_
  intro p e s m args below meth c C
  have C : Cx p s m args meth c D cy ad (Ar ad) cX2_writeBodies 3 RX2 none := C
  unfold wp_X2_writeBodies at h
  refine x_aload_n C dX2_writeBodies_0 rfl ?_
  refine x_iconst C dX2_writeBodies_1 ?_
  refine x_putI C pf_RX2_37 ly_3 rfl rfl (by decide) (by decide) dX2_writeBodies_2 ?_
  refine x_aload_n C dX2_writeBodies_5 rfl ?_
  refine x_getR C gf_RX2_9 ly_3 rfl (by decide) dX2_writeBodies_6 ?_
  refine x_iload_n C dX2_writeBodies_9 rfl ?_
  obtain ⟨o1, h⟩ := h
  refine x_rng (fun hR1 => ?_)
  refine x_iald C ly_14 rfl (by decide) (by decide) o1 dX2_writeBodies_10 ?_
  refine x_istore_n C dX2_writeBodies_11 (Nat.le_of_ble_eq_true rfl) rfl ?_
  refine x_iload_n C dX2_writeBodies_12 rfl ?_
  refine x_iconst C dX2_writeBodies_13 ?_
  refine x_icmp_ne (tgt := 22) C (ka_gI hR1 ly_14 _) (by decide) dX2_writeBodies_14 (by decide) (fun q1 => ?_) (fun q1 => ?_)
  · have h := h.1 q1
    refine x_iload_n C dX2_writeBodies_22 rfl ?_
    refine x_iconst C dX2_writeBodies_23 ?_
    refine x_icmp_ne (tgt := 32) C (ka_gI hR1 ly_14 _) (by decide) dX2_writeBodies_24 (by decide) (fun q2 => ?_) (fun q2 => ?_)
    · have h := h.1 q2
      refine x_iload_n C dX2_writeBodies_32 rfl ?_
      refine x_iconst C dX2_writeBodies_33 ?_
      refine x_icmp_eq (tgt := 42) C (ka_gI hR1 ly_14 _) (by decide) dX2_writeBodies_34 (by decide) (fun q3 => ?_) (fun q3 => ?_)
      · have h := h.1 q3
        refine x_aload_n C dX2_writeBodies_42 rfl ?_
        refine x_iconst C dX2_writeBodies_43 ?_
        refine x_callV (vs := [aI 3]) C cv_RX2_40 ly_3 rfl (by decide) ⟨rfl, rfl, Nat.le_of_ble_eq_true rfl, Nat.le_of_ble_eq_true rfl⟩ ⟨Nat.zero_le _, Nat.zero_le _⟩ rfl rfl (Nat.le_of_ble_eq_true rfl) dX2_writeBodies_44 (sd_X2_writeBody l D cy ad 3 (by decide) (mset M 3 6 0) _ h) (fun _ M1 qz => ?_)
        obtain ⟨rfl, h⟩ := qz
        refine x_aload_n C dX2_writeBodies_47 rfl ?_
        refine x_iconst C dX2_writeBodies_48 ?_
        refine x_callV (vs := [aI 1]) C cv_RX2_40 ly_3 rfl (by decide) ⟨rfl, rfl, Nat.le_of_ble_eq_true rfl, Nat.le_of_ble_eq_true rfl⟩ ⟨Nat.zero_le _, Nat.zero_le _⟩ rfl rfl (Nat.le_of_ble_eq_true rfl) dX2_writeBodies_49 (sd_X2_writeBody l D cy ad 1 (by decide) M1 _ h) (fun _ M2 qz => ?_)
        obtain ⟨rfl, h⟩ := qz
        exact x_vret C h dX2_writeBodies_52
      · have h := h.2 q3
        refine x_iload_n C dX2_writeBodies_37 rfl ?_
        refine x_iconst C dX2_writeBodies_38 ?_
        refine x_icmp_ne (tgt := 47) C (ka_gI hR1 ly_14 _) (by decide) dX2_writeBodies_39 (by decide) (fun q4 => ?_) (fun q4 => ?_)
        · have h := h.1 q4
          refine x_aload_n C dX2_writeBodies_47 rfl ?_
          refine x_iconst C dX2_writeBodies_48 ?_
          refine x_callV (vs := [aI 1]) C cv_RX2_40 ly_3 rfl (by decide) ⟨rfl, rfl, Nat.le_of_ble_eq_true rfl, Nat.le_of_ble_eq_true rfl⟩ ⟨Nat.zero_le _, Nat.zero_le _⟩ rfl rfl (Nat.le_of_ble_eq_true rfl) dX2_writeBodies_49 (sd_X2_writeBody l D cy ad 1 (by decide) (mset M 3 6 0) _ h) (fun _ M3 qz => ?_)
          obtain ⟨rfl, h⟩ := qz
          exact x_vret C h dX2_writeBodies_52
        · have h := h.2 q4
          refine x_aload_n C dX2_writeBodies_42 rfl ?_
          refine x_iconst C dX2_writeBodies_43 ?_
          refine x_callV (vs := [aI 3]) C cv_RX2_40 ly_3 rfl (by decide) ⟨rfl, rfl, Nat.le_of_ble_eq_true rfl, Nat.le_of_ble_eq_true rfl⟩ ⟨Nat.zero_le _, Nat.zero_le _⟩ rfl rfl (Nat.le_of_ble_eq_true rfl) dX2_writeBodies_44 (sd_X2_writeBody l D cy ad 3 (by decide) (mset M 3 6 0) _ h) (fun _ M4 qz => ?_)
          obtain ⟨rfl, h⟩ := qz
          refine x_aload_n C dX2_writeBodies_47 rfl ?_
          refine x_iconst C dX2_writeBodies_48 ?_
          refine x_callV (vs := [aI 1]) C cv_RX2_40 ly_3 rfl (by decide) ⟨rfl, rfl, Nat.le_of_ble_eq_true rfl, Nat.le_of_ble_eq_true rfl⟩ ⟨Nat.zero_le _, Nat.zero_le _⟩ rfl rfl (Nat.le_of_ble_eq_true rfl) dX2_writeBodies_49 (sd_X2_writeBody l D cy ad 1 (by decide) M4 _ h) (fun _ M5 qz => ?_)
          obtain ⟨rfl, h⟩ := qz
          exact x_vret C h dX2_writeBodies_52
    · have h := h.2 q2
      refine x_aload_n C dX2_writeBodies_27 rfl ?_
      refine x_iconst C dX2_writeBodies_28 ?_
      refine x_callV (vs := [aI 4]) C cv_RX2_40 ly_3 rfl (by decide) ⟨rfl, rfl, Nat.le_of_ble_eq_true rfl, Nat.le_of_ble_eq_true rfl⟩ ⟨Nat.zero_le _, Nat.zero_le _⟩ rfl rfl (Nat.le_of_ble_eq_true rfl) dX2_writeBodies_29 (sd_X2_writeBody l D cy ad 4 (by decide) (mset M 3 6 0) _ h) (fun _ M6 qz => ?_)
      obtain ⟨rfl, h⟩ := qz
      refine x_iload_n C dX2_writeBodies_32 rfl ?_
      refine x_iconst C dX2_writeBodies_33 ?_
      refine x_icmp_eq (tgt := 42) C (ka_gI hR1 ly_14 _) (by decide) dX2_writeBodies_34 (by decide) (fun q5 => ?_) (fun q5 => ?_)
      · have h := h.1 q5
        refine x_aload_n C dX2_writeBodies_42 rfl ?_
        refine x_iconst C dX2_writeBodies_43 ?_
        refine x_callV (vs := [aI 3]) C cv_RX2_40 ly_3 rfl (by decide) ⟨rfl, rfl, Nat.le_of_ble_eq_true rfl, Nat.le_of_ble_eq_true rfl⟩ ⟨Nat.zero_le _, Nat.zero_le _⟩ rfl rfl (Nat.le_of_ble_eq_true rfl) dX2_writeBodies_44 (sd_X2_writeBody l D cy ad 3 (by decide) M6 _ h) (fun _ M7 qz => ?_)
        obtain ⟨rfl, h⟩ := qz
        refine x_aload_n C dX2_writeBodies_47 rfl ?_
        refine x_iconst C dX2_writeBodies_48 ?_
        refine x_callV (vs := [aI 1]) C cv_RX2_40 ly_3 rfl (by decide) ⟨rfl, rfl, Nat.le_of_ble_eq_true rfl, Nat.le_of_ble_eq_true rfl⟩ ⟨Nat.zero_le _, Nat.zero_le _⟩ rfl rfl (Nat.le_of_ble_eq_true rfl) dX2_writeBodies_49 (sd_X2_writeBody l D cy ad 1 (by decide) M7 _ h) (fun _ M8 qz => ?_)
        obtain ⟨rfl, h⟩ := qz
        exact x_vret C h dX2_writeBodies_52
      · have h := h.2 q5
        refine x_iload_n C dX2_writeBodies_37 rfl ?_
        refine x_iconst C dX2_writeBodies_38 ?_
        refine x_icmp_ne (tgt := 47) C (ka_gI hR1 ly_14 _) (by decide) dX2_writeBodies_39 (by decide) (fun q6 => ?_) (fun q6 => ?_)
        · have h := h.1 q6
          refine x_aload_n C dX2_writeBodies_47 rfl ?_
          refine x_iconst C dX2_writeBodies_48 ?_
          refine x_callV (vs := [aI 1]) C cv_RX2_40 ly_3 rfl (by decide) ⟨rfl, rfl, Nat.le_of_ble_eq_true rfl, Nat.le_of_ble_eq_true rfl⟩ ⟨Nat.zero_le _, Nat.zero_le _⟩ rfl rfl (Nat.le_of_ble_eq_true rfl) dX2_writeBodies_49 (sd_X2_writeBody l D cy ad 1 (by decide) M6 _ h) (fun _ M9 qz => ?_)
          obtain ⟨rfl, h⟩ := qz
          exact x_vret C h dX2_writeBodies_52
        · have h := h.2 q6
          refine x_aload_n C dX2_writeBodies_42 rfl ?_
          refine x_iconst C dX2_writeBodies_43 ?_
          refine x_callV (vs := [aI 3]) C cv_RX2_40 ly_3 rfl (by decide) ⟨rfl, rfl, Nat.le_of_ble_eq_true rfl, Nat.le_of_ble_eq_true rfl⟩ ⟨Nat.zero_le _, Nat.zero_le _⟩ rfl rfl (Nat.le_of_ble_eq_true rfl) dX2_writeBodies_44 (sd_X2_writeBody l D cy ad 3 (by decide) M6 _ h) (fun _ M10 qz => ?_)
          obtain ⟨rfl, h⟩ := qz
          refine x_aload_n C dX2_writeBodies_47 rfl ?_
          refine x_iconst C dX2_writeBodies_48 ?_
          refine x_callV (vs := [aI 1]) C cv_RX2_40 ly_3 rfl (by decide) ⟨rfl, rfl, Nat.le_of_ble_eq_true rfl, Nat.le_of_ble_eq_true rfl⟩ ⟨Nat.zero_le _, Nat.zero_le _⟩ rfl rfl (Nat.le_of_ble_eq_true rfl) dX2_writeBodies_49 (sd_X2_writeBody l D cy ad 1 (by decide) M10 _ h) (fun _ M11 qz => ?_)
          obtain ⟨rfl, h⟩ := qz
          exact x_vret C h dX2_writeBodies_52
  · have h := h.2 q1
    refine x_aload_n C dX2_writeBodies_17 rfl ?_
    refine x_iconst C dX2_writeBodies_18 ?_
    refine x_callV (vs := [aI 2]) C cv_RX2_40 ly_3 rfl (by decide) ⟨rfl, rfl, Nat.le_of_ble_eq_true rfl, Nat.le_of_ble_eq_true rfl⟩ ⟨Nat.zero_le _, Nat.zero_le _⟩ rfl rfl (Nat.le_of_ble_eq_true rfl) dX2_writeBodies_19 (sd_X2_writeBody l D cy ad 2 (by decide) (mset M 3 6 0) _ h) (fun _ M12 qz => ?_)
    obtain ⟨rfl, h⟩ := qz
    refine x_iload_n C dX2_writeBodies_22 rfl ?_
    refine x_iconst C dX2_writeBodies_23 ?_
    refine x_icmp_ne (tgt := 32) C (ka_gI hR1 ly_14 _) (by decide) dX2_writeBodies_24 (by decide) (fun q7 => ?_) (fun q7 => ?_)
    · have h := h.1 q7
      refine x_iload_n C dX2_writeBodies_32 rfl ?_
      refine x_iconst C dX2_writeBodies_33 ?_
      refine x_icmp_eq (tgt := 42) C (ka_gI hR1 ly_14 _) (by decide) dX2_writeBodies_34 (by decide) (fun q8 => ?_) (fun q8 => ?_)
      · have h := h.1 q8
        refine x_aload_n C dX2_writeBodies_42 rfl ?_
        refine x_iconst C dX2_writeBodies_43 ?_
        refine x_callV (vs := [aI 3]) C cv_RX2_40 ly_3 rfl (by decide) ⟨rfl, rfl, Nat.le_of_ble_eq_true rfl, Nat.le_of_ble_eq_true rfl⟩ ⟨Nat.zero_le _, Nat.zero_le _⟩ rfl rfl (Nat.le_of_ble_eq_true rfl) dX2_writeBodies_44 (sd_X2_writeBody l D cy ad 3 (by decide) M12 _ h) (fun _ M13 qz => ?_)
        obtain ⟨rfl, h⟩ := qz
        refine x_aload_n C dX2_writeBodies_47 rfl ?_
        refine x_iconst C dX2_writeBodies_48 ?_
        refine x_callV (vs := [aI 1]) C cv_RX2_40 ly_3 rfl (by decide) ⟨rfl, rfl, Nat.le_of_ble_eq_true rfl, Nat.le_of_ble_eq_true rfl⟩ ⟨Nat.zero_le _, Nat.zero_le _⟩ rfl rfl (Nat.le_of_ble_eq_true rfl) dX2_writeBodies_49 (sd_X2_writeBody l D cy ad 1 (by decide) M13 _ h) (fun _ M14 qz => ?_)
        obtain ⟨rfl, h⟩ := qz
        exact x_vret C h dX2_writeBodies_52
      · have h := h.2 q8
        refine x_iload_n C dX2_writeBodies_37 rfl ?_
        refine x_iconst C dX2_writeBodies_38 ?_
        refine x_icmp_ne (tgt := 47) C (ka_gI hR1 ly_14 _) (by decide) dX2_writeBodies_39 (by decide) (fun q9 => ?_) (fun q9 => ?_)
        · have h := h.1 q9
          refine x_aload_n C dX2_writeBodies_47 rfl ?_
          refine x_iconst C dX2_writeBodies_48 ?_
          refine x_callV (vs := [aI 1]) C cv_RX2_40 ly_3 rfl (by decide) ⟨rfl, rfl, Nat.le_of_ble_eq_true rfl, Nat.le_of_ble_eq_true rfl⟩ ⟨Nat.zero_le _, Nat.zero_le _⟩ rfl rfl (Nat.le_of_ble_eq_true rfl) dX2_writeBodies_49 (sd_X2_writeBody l D cy ad 1 (by decide) M12 _ h) (fun _ M15 qz => ?_)
          obtain ⟨rfl, h⟩ := qz
          exact x_vret C h dX2_writeBodies_52
        · have h := h.2 q9
          refine x_aload_n C dX2_writeBodies_42 rfl ?_
          refine x_iconst C dX2_writeBodies_43 ?_
          refine x_callV (vs := [aI 3]) C cv_RX2_40 ly_3 rfl (by decide) ⟨rfl, rfl, Nat.le_of_ble_eq_true rfl, Nat.le_of_ble_eq_true rfl⟩ ⟨Nat.zero_le _, Nat.zero_le _⟩ rfl rfl (Nat.le_of_ble_eq_true rfl) dX2_writeBodies_44 (sd_X2_writeBody l D cy ad 3 (by decide) M12 _ h) (fun _ M16 qz => ?_)
          obtain ⟨rfl, h⟩ := qz
          refine x_aload_n C dX2_writeBodies_47 rfl ?_
          refine x_iconst C dX2_writeBodies_48 ?_
          refine x_callV (vs := [aI 1]) C cv_RX2_40 ly_3 rfl (by decide) ⟨rfl, rfl, Nat.le_of_ble_eq_true rfl, Nat.le_of_ble_eq_true rfl⟩ ⟨Nat.zero_le _, Nat.zero_le _⟩ rfl rfl (Nat.le_of_ble_eq_true rfl) dX2_writeBodies_49 (sd_X2_writeBody l D cy ad 1 (by decide) M16 _ h) (fun _ M17 qz => ?_)
          obtain ⟨rfl, h⟩ := qz
          exact x_vret C h dX2_writeBodies_52
    · have h := h.2 q7
      refine x_aload_n C dX2_writeBodies_27 rfl ?_
      refine x_iconst C dX2_writeBodies_28 ?_
      refine x_callV (vs := [aI 4]) C cv_RX2_40 ly_3 rfl (by decide) ⟨rfl, rfl, Nat.le_of_ble_eq_true rfl, Nat.le_of_ble_eq_true rfl⟩ ⟨Nat.zero_le _, Nat.zero_le _⟩ rfl rfl (Nat.le_of_ble_eq_true rfl) dX2_writeBodies_29 (sd_X2_writeBody l D cy ad 4 (by decide) M12 _ h) (fun _ M18 qz => ?_)
      obtain ⟨rfl, h⟩ := qz
      refine x_iload_n C dX2_writeBodies_32 rfl ?_
      refine x_iconst C dX2_writeBodies_33 ?_
      refine x_icmp_eq (tgt := 42) C (ka_gI hR1 ly_14 _) (by decide) dX2_writeBodies_34 (by decide) (fun q10 => ?_) (fun q10 => ?_)
      · have h := h.1 q10
        refine x_aload_n C dX2_writeBodies_42 rfl ?_
        refine x_iconst C dX2_writeBodies_43 ?_
        refine x_callV (vs := [aI 3]) C cv_RX2_40 ly_3 rfl (by decide) ⟨rfl, rfl, Nat.le_of_ble_eq_true rfl, Nat.le_of_ble_eq_true rfl⟩ ⟨Nat.zero_le _, Nat.zero_le _⟩ rfl rfl (Nat.le_of_ble_eq_true rfl) dX2_writeBodies_44 (sd_X2_writeBody l D cy ad 3 (by decide) M18 _ h) (fun _ M19 qz => ?_)
        obtain ⟨rfl, h⟩ := qz
        refine x_aload_n C dX2_writeBodies_47 rfl ?_
        refine x_iconst C dX2_writeBodies_48 ?_
        refine x_callV (vs := [aI 1]) C cv_RX2_40 ly_3 rfl (by decide) ⟨rfl, rfl, Nat.le_of_ble_eq_true rfl, Nat.le_of_ble_eq_true rfl⟩ ⟨Nat.zero_le _, Nat.zero_le _⟩ rfl rfl (Nat.le_of_ble_eq_true rfl) dX2_writeBodies_49 (sd_X2_writeBody l D cy ad 1 (by decide) M19 _ h) (fun _ M20 qz => ?_)
        obtain ⟨rfl, h⟩ := qz
        exact x_vret C h dX2_writeBodies_52
      · have h := h.2 q10
        refine x_iload_n C dX2_writeBodies_37 rfl ?_
        refine x_iconst C dX2_writeBodies_38 ?_
        refine x_icmp_ne (tgt := 47) C (ka_gI hR1 ly_14 _) (by decide) dX2_writeBodies_39 (by decide) (fun q11 => ?_) (fun q11 => ?_)
        · have h := h.1 q11
          refine x_aload_n C dX2_writeBodies_47 rfl ?_
          refine x_iconst C dX2_writeBodies_48 ?_
          refine x_callV (vs := [aI 1]) C cv_RX2_40 ly_3 rfl (by decide) ⟨rfl, rfl, Nat.le_of_ble_eq_true rfl, Nat.le_of_ble_eq_true rfl⟩ ⟨Nat.zero_le _, Nat.zero_le _⟩ rfl rfl (Nat.le_of_ble_eq_true rfl) dX2_writeBodies_49 (sd_X2_writeBody l D cy ad 1 (by decide) M18 _ h) (fun _ M21 qz => ?_)
          obtain ⟨rfl, h⟩ := qz
          exact x_vret C h dX2_writeBodies_52
        · have h := h.2 q11
          refine x_aload_n C dX2_writeBodies_42 rfl ?_
          refine x_iconst C dX2_writeBodies_43 ?_
          refine x_callV (vs := [aI 3]) C cv_RX2_40 ly_3 rfl (by decide) ⟨rfl, rfl, Nat.le_of_ble_eq_true rfl, Nat.le_of_ble_eq_true rfl⟩ ⟨Nat.zero_le _, Nat.zero_le _⟩ rfl rfl (Nat.le_of_ble_eq_true rfl) dX2_writeBodies_44 (sd_X2_writeBody l D cy ad 3 (by decide) M18 _ h) (fun _ M22 qz => ?_)
          obtain ⟨rfl, h⟩ := qz
          refine x_aload_n C dX2_writeBodies_47 rfl ?_
          refine x_iconst C dX2_writeBodies_48 ?_
          refine x_callV (vs := [aI 1]) C cv_RX2_40 ly_3 rfl (by decide) ⟨rfl, rfl, Nat.le_of_ble_eq_true rfl, Nat.le_of_ble_eq_true rfl⟩ ⟨Nat.zero_le _, Nat.zero_le _⟩ rfl rfl (Nat.le_of_ble_eq_true rfl) dX2_writeBodies_49 (sd_X2_writeBody l D cy ad 1 (by decide) M22 _ h) (fun _ M23 qz => ?_)
          obtain ⟨rfl, h⟩ := qz
          exact x_vret C h dX2_writeBodies_52
set_option maxRecDepth 100000 in
set_option maxHeartbeats 4000000 in
theorem sd_X7_cost (l : Launch) (D : va_G) (cy : Nat → ClassId) (ad : Nat → Int → Nat) (x1 : Int) (x2 : Int) (r1 : iR x1) (r2 : iR x2) (M : Mm) (Q : Int → Mm → Prop) (h : wp_X7_cost x1 x2 M Q) : Ct l D cy ad yX7_cost cX7_cost 3 (some .int) rm_X7_cost [aR 0, aI x1, aI x2] M (rI Q) := by
  refine ct_of (z := 0) (ls := [some (aR 0), some (aI x1), some (aI x2)]) (by decide) rfl (Nat.le_of_ble_eq_true rfl) ?_
  intro p e s m args below meth c C
  have C : Cx p s m args meth c D cy ad (Ar ad) cX7_cost 3 RX7 (some .int) := C
  unfold wp_X7_cost at h
  refine x_aload_n C dX7_cost_0 rfl ?_
  refine x_getR C gf_RX7_26 ly_0 rfl (by decide) dX7_cost_1 ?_
  refine x_iload_n C dX7_cost_4 rfl ?_
  refine x_callV (vs := [aI x1]) C cv_RX7_104 ly_3 rfl (by decide) ⟨rfl, rfl, Nat.le_of_ble_eq_true rfl, Nat.le_of_ble_eq_true rfl⟩ ⟨Nat.zero_le _, Nat.zero_le _⟩ rfl rfl (Nat.le_of_ble_eq_true rfl) dX7_cost_5 (sd_X2_has l D cy ad x1 r1 M _ h) (fun _ M1 qz => ?_)
  obtain ⟨z1, rfl, rz1, h⟩ := qz
  refine x_if_eq (tgt := 22) C (ka_bi rz1) dX7_cost_8 (by decide) (fun q1 => ?_) (fun q1 => ?_)
  · have h := h.1 q1
    refine x_bipush C dX7_cost_22 rfl ?_
    exact x_iret C (by decide) h dX7_cost_24
  · have h := h.2 q1
    refine x_aload_n C dX7_cost_11 rfl ?_
    refine x_getR C gf_RX7_26 ly_0 rfl (by decide) dX7_cost_12 ?_
    refine x_iload_n C dX7_cost_15 rfl ?_
    refine x_callV (vs := [aI x2]) C cv_RX7_104 ly_3 rfl (by decide) ⟨rfl, rfl, Nat.le_of_ble_eq_true rfl, Nat.le_of_ble_eq_true rfl⟩ ⟨Nat.zero_le _, Nat.zero_le _⟩ rfl rfl (Nat.le_of_ble_eq_true rfl) dX7_cost_16 (sd_X2_has l D cy ad x2 r2 M1 _ h) (fun _ M2 qz => ?_)
    obtain ⟨z2, rfl, rz2, h⟩ := qz
    refine x_if_ne (tgt := 25) C (ka_bi rz2) dX7_cost_19 (by decide) (fun q2 => ?_) (fun q2 => ?_)
    · have h := h.1 q2
      refine x_aload_n C dX7_cost_25 rfl ?_
      refine x_getR C gf_RX7_26 ly_0 rfl (by decide) dX7_cost_26 ?_
      refine x_iload_n C dX7_cost_29 rfl ?_
      refine x_callV (vs := [aI x2]) C cv_RX7_109 ly_3 rfl (by decide) ⟨rfl, rfl, Nat.le_of_ble_eq_true rfl, Nat.le_of_ble_eq_true rfl⟩ ⟨Nat.zero_le _, Nat.zero_le _⟩ rfl rfl (Nat.le_of_ble_eq_true rfl) dX7_cost_30 (sd_X2_writeBodies l D cy ad x2 r2 M2 _ h) (fun _ M3 qz => ?_)
      obtain ⟨rfl, h⟩ := qz
      refine x_aload_n C dX7_cost_33 rfl ?_
      refine x_getR C gf_RX7_26 ly_0 rfl (by decide) dX7_cost_34 ?_
      refine x_getR C gf_RX7_112 ly_3 rfl (by decide) dX7_cost_37 ?_
      refine x_iload_n C dX7_cost_40 rfl ?_
      obtain ⟨o1, h⟩ := h
      refine x_aald C ly_17 rfl (by decide) (by decide) o1 dX7_cost_41 ?_
      refine x_iload_n C dX7_cost_42 rfl ?_
      obtain ⟨o2, h⟩ := h
      refine x_rng (fun hR1 => ?_)
      refine x_iald2 C ly_17 rfl (by decide) (by decide) rfl o1 o2 dX7_cost_43 ?_
      exact x_iret C (ka_gI hR1 ly_17 _) h dX7_cost_44
    · have h := h.2 q2
      refine x_bipush C dX7_cost_22 rfl ?_
      exact x_iret C (by decide) h dX7_cost_24
set_option maxRecDepth 100000 in
set_option maxHeartbeats 4000000 in
theorem sd_X8_costOf (l : Launch) (D : va_G) (cy : Nat → ClassId) (ad : Nat → Int → Nat) (x1 : Int) (x2 : Int) (r1 : iR x1) (r2 : iR x2) (M : Mm) (Q : Int → Mm → Prop) (h : wp_X8_costOf x1 x2 M Q) : Ct l D cy ad yX8_costOf cX8_costOf 4 (some .int) rm_X8_costOf [aR 8, aI x1, aI x2] M (rI Q) := by
  refine ct_of (z := 1) (ls := [some (aR 8), some (aI x1), some (aI x2), none]) (by decide) rfl (Nat.le_of_ble_eq_true rfl) ?_
  intro p e s m args below meth c C
  have C : Cx p s m args meth c D cy ad (Ar ad) cX8_costOf 4 RX8 (some .int) := C
  unfold wp_X8_costOf at h
  refine x_aload_n C dX8_costOf_0 rfl ?_
  refine x_getR C gf_RX8_33 ly_8 rfl (by decide) dX8_costOf_1 ?_
  refine x_bipush C dX8_costOf_4 rfl ?_
  refine x_iload_n C dX8_costOf_6 rfl ?_
  refine x_imul C dX8_costOf_7 ?_
  refine x_iload_n C dX8_costOf_8 rfl ?_
  refine x_iadd C dX8_costOf_9 ?_
  obtain ⟨o1, h⟩ := h
  refine x_rng (fun hR1 => ?_)
  refine x_iald C ly_36 rfl (by decide) (by decide) o1 dX8_costOf_10 ?_
  refine x_istore_n C dX8_costOf_11 (Nat.le_of_ble_eq_true rfl) rfl ?_
  refine x_aload_n C dX8_costOf_12 rfl ?_
  refine x_getR C gf_RX8_27 ly_8 rfl (by decide) dX8_costOf_13 ?_
  refine x_iload_n C dX8_costOf_16 rfl ?_
  obtain ⟨o2, h⟩ := h
  refine x_iald C ly_34 rfl (by decide) (by decide) o2 dX8_costOf_17 ?_
  by_cases q1_0 : M 34 x2 = 0
  · have h := h.1 q1_0
    refine x_tin (tgt := 44) (off := 26) C (ka_gI hR1 ly_34 _) (by omega) (by omega) (by rw [q1_0]; rfl) dX8_costOf_18 (by decide) ?_
    refine x_iload_n C dX8_costOf_44 rfl ?_
    exact x_iret C (ka_gI hR1 ly_36 _) h dX8_costOf_45
  by_cases q1_1 : M 34 x2 = 1
  · have h := h.2.1 q1_1
    refine x_tin (tgt := 46) (off := 28) C (ka_gI hR1 ly_34 _) (by omega) (by omega) (by rw [q1_1]; rfl) dX8_costOf_18 (by decide) ?_
    refine x_iload_n C dX8_costOf_46 rfl ?_
    refine x_iconst C dX8_costOf_47 ?_
    refine x_idiv C (by decide) (by decide) dX8_costOf_48 ?_
    exact x_iret C (ka_r32 _) h dX8_costOf_49
  by_cases q1_2 : M 34 x2 = 2
  · have h := h.2.2.1 q1_2
    refine x_tin (tgt := 50) (off := 32) C (ka_gI hR1 ly_34 _) (by omega) (by omega) (by rw [q1_2]; rfl) dX8_costOf_18 (by decide) ?_
    refine x_iload_n C dX8_costOf_50 rfl ?_
    refine x_aload_n C dX8_costOf_51 rfl ?_
    refine x_getR C gf_RX8_30 ly_8 rfl (by decide) dX8_costOf_52 ?_
    refine x_iload_n C dX8_costOf_55 rfl ?_
    obtain ⟨o3, h⟩ := h
    refine x_iald C ly_35 rfl (by decide) (by decide) o3 dX8_costOf_56 ?_
    refine x_iadd C dX8_costOf_57 ?_
    obtain ⟨o4, h⟩ := h
    exact x_iret C o4 h dX8_costOf_58
  have q1 : M 34 x2 < 0 ∨ 2 < M 34 x2 := by omega
  have h := h.2.2.2 q1
  refine x_tout (tgt := 59) C (ka_gI hR1 ly_34 _) q1 dX8_costOf_18 (by decide) ?_
  refine x_iconst C dX8_costOf_59 ?_
  refine x_iload_n C dX8_costOf_60 rfl ?_
  refine x_aload_n C dX8_costOf_61 rfl ?_
  refine x_getR C gf_RX8_30 ly_8 rfl (by decide) dX8_costOf_62 ?_
  refine x_iload_n C dX8_costOf_65 rfl ?_
  obtain ⟨o5, h⟩ := h
  refine x_iald C ly_35 rfl (by decide) (by decide) o5 dX8_costOf_66 ?_
  refine x_iadd C dX8_costOf_67 ?_
  refine x_imul C dX8_costOf_68 ?_
  obtain ⟨o6, h⟩ := h
  exact x_iret C o6 h dX8_costOf_69
set_option maxRecDepth 100000 in
set_option maxHeartbeats 4000000 in
theorem sd_X8_cost (l : Launch) (D : va_G) (cy : Nat → ClassId) (ad : Nat → Int → Nat) (x1 : Int) (x2 : Int) (r1 : iR x1) (r2 : iR x2) (M : Mm) (Q : Int → Mm → Prop) (h : wp_X8_cost x1 x2 M Q) : Ct l D cy ad yX8_cost cX8_cost 3 (some .int) rm_X8_cost [aR 8, aI x1, aI x2] M (rI Q) := by
  refine ct_of (z := 0) (ls := [some (aR 8), some (aI x1), some (aI x2)]) (by decide) rfl (Nat.le_of_ble_eq_true rfl) ?_
  intro p e s m args below meth c C
  have C : Cx p s m args meth c D cy ad (Ar ad) cX8_cost 3 RX8 (some .int) := C
  unfold wp_X8_cost at h
  refine x_aload_n C dX8_cost_0 rfl ?_
  refine x_iload_n C dX8_cost_1 rfl ?_
  refine x_callV (vs := [aI x1]) C cv_RX8_101 ly_8 rfl (by decide) ⟨rfl, rfl, Nat.le_of_ble_eq_true rfl, Nat.le_of_ble_eq_true rfl⟩ ⟨Nat.zero_le _, Nat.zero_le _⟩ rfl rfl (Nat.le_of_ble_eq_true rfl) dX8_cost_2 (sd_X8_isKey l D cy ad x1 r1 M _ h) (fun _ M1 qz => ?_)
  obtain ⟨z1, rfl, rz1, h⟩ := qz
  refine x_if_eq (tgt := 16) C (ka_bi rz1) dX8_cost_5 (by decide) (fun q1 => ?_) (fun q1 => ?_)
  · have h := h.1 q1
    refine x_bipush C dX8_cost_16 rfl ?_
    exact x_iret C (by decide) h dX8_cost_18
  · have h := h.2 q1
    refine x_aload_n C dX8_cost_8 rfl ?_
    refine x_iload_n C dX8_cost_9 rfl ?_
    refine x_callV (vs := [aI x2]) C cv_RX8_101 ly_8 rfl (by decide) ⟨rfl, rfl, Nat.le_of_ble_eq_true rfl, Nat.le_of_ble_eq_true rfl⟩ ⟨Nat.zero_le _, Nat.zero_le _⟩ rfl rfl (Nat.le_of_ble_eq_true rfl) dX8_cost_10 (sd_X8_isKey l D cy ad x2 r2 M1 _ h) (fun _ M2 qz => ?_)
    obtain ⟨z2, rfl, rz2, h⟩ := qz
    refine x_if_ne (tgt := 19) C (ka_bi rz2) dX8_cost_13 (by decide) (fun q2 => ?_) (fun q2 => ?_)
    · have h := h.1 q2
      refine x_aload_n C dX8_cost_19 rfl ?_
      refine x_iconst C dX8_cost_20 ?_
      refine x_putI C pf_RX8_104 ly_8 rfl rfl (by decide) (by decide) dX8_cost_21 ?_
      refine x_aload_n C dX8_cost_24 rfl ?_
      refine x_getR C gf_RX8_27 ly_8 rfl (by decide) dX8_cost_25 ?_
      refine x_iload_n C dX8_cost_28 rfl ?_
      obtain ⟨o1, h⟩ := h
      refine x_rng (fun hR1 => ?_)
      refine x_iald C ly_34 rfl (by decide) (by decide) o1 dX8_cost_29 ?_
      refine x_iconst C dX8_cost_30 ?_
      refine x_icmp_ne (tgt := 56) C (ka_gI hR1 ly_34 _) (by decide) dX8_cost_31 (by decide) (fun q3 => ?_) (fun q3 => ?_)
      · have h := h.1 q3
        refine x_aload_n C dX8_cost_56 rfl ?_
        refine x_getR C gf_RX8_27 ly_8 rfl (by decide) dX8_cost_57 ?_
        refine x_iload_n C dX8_cost_60 rfl ?_
        obtain ⟨o2, h⟩ := h
        refine x_iald C ly_34 rfl (by decide) (by decide) o2 dX8_cost_61 ?_
        refine x_if_le (tgt := 84) C (ka_gI hR1 ly_34 _) dX8_cost_62 (by decide) (fun q4 => ?_) (fun q4 => ?_)
        · have h := h.1 q4
          refine x_aload_n C dX8_cost_84 rfl ?_
          refine x_getR C gf_RX8_45 ly_8 rfl (by decide) dX8_cost_85 ?_
          refine x_aload_n C dX8_cost_88 rfl ?_
          refine x_getI C gf_RX8_104 ly_8 rfl rfl (by decide) dX8_cost_89 ?_
          refine x_iconst C dX8_cost_92 ?_
          obtain ⟨o3, h⟩ := h
          refine x_iast C ly_40 rfl (by decide) (by decide) o3 (by decide) dX8_cost_93 ?_
          refine x_aload_n C dX8_cost_94 rfl ?_
          refine x_dup C dX8_cost_95 rfl ?_
          refine x_rng (fun hR2 => ?_)
          refine x_getI C gf_RX8_104 ly_8 rfl rfl (by decide) dX8_cost_96 ?_
          refine x_iconst C dX8_cost_99 ?_
          refine x_iadd C dX8_cost_100 ?_
          obtain ⟨o4, h⟩ := h
          refine x_putI C pf_RX8_104 ly_8 rfl rfl (by decide) o4 dX8_cost_101 ?_
          refine x_aload_n C dX8_cost_104 rfl ?_
          refine x_iload_n C dX8_cost_105 rfl ?_
          refine x_iload_n C dX8_cost_106 rfl ?_
          refine x_callV (vs := [aI x1, aI x2]) C cv_RX8_107 ly_8 rfl (by decide) ⟨rfl, rfl, Nat.le_of_ble_eq_true rfl, Nat.le_of_ble_eq_true rfl⟩ ⟨Nat.zero_le _, Nat.zero_le _⟩ rfl rfl (Nat.le_of_ble_eq_true rfl) dX8_cost_107 (sd_X8_costOf l D cy ad x1 x2 r1 r2 (mset (mset (mset M2 8 16 0) 40 ((mset M2 8 16 0) 8 16) 1) 8 16 (((mset (mset M2 8 16 0) 40 ((mset M2 8 16 0) 8 16) 1) 8 16) + 1)) _ h) (fun _ M3 qz => ?_)
          obtain ⟨z3, rfl, rz3, h⟩ := qz
          exact x_iret C rz3 h dX8_cost_110
        · have h := h.2 q4
          refine x_aload_n C dX8_cost_65 rfl ?_
          refine x_getR C gf_RX8_45 ly_8 rfl (by decide) dX8_cost_66 ?_
          refine x_iconst C dX8_cost_69 ?_
          refine x_aload_n C dX8_cost_70 rfl ?_
          refine x_getR C gf_RX8_27 ly_8 rfl (by decide) dX8_cost_71 ?_
          refine x_iload_n C dX8_cost_74 rfl ?_
          obtain ⟨o5, h⟩ := h
          refine x_iald C ly_34 rfl (by decide) (by decide) o5 dX8_cost_75 ?_
          refine x_iconst C dX8_cost_76 ?_
          refine x_iadd C dX8_cost_77 ?_
          obtain ⟨o6, h⟩ := h
          refine x_iast C ly_40 rfl (by decide) (by decide) (by decide) o6 dX8_cost_78 ?_
          refine x_aload_n C dX8_cost_79 rfl ?_
          refine x_iconst C dX8_cost_80 ?_
          refine x_putI C pf_RX8_104 ly_8 rfl rfl (by decide) (by decide) dX8_cost_81 ?_
          refine x_aload_n C dX8_cost_84 rfl ?_
          refine x_getR C gf_RX8_45 ly_8 rfl (by decide) dX8_cost_85 ?_
          refine x_aload_n C dX8_cost_88 rfl ?_
          refine x_rng (fun hR3 => ?_)
          refine x_getI C gf_RX8_104 ly_8 rfl rfl (by decide) dX8_cost_89 ?_
          refine x_iconst C dX8_cost_92 ?_
          obtain ⟨o7, h⟩ := h
          refine x_iast C ly_40 rfl (by decide) (by decide) o7 (by decide) dX8_cost_93 ?_
          refine x_aload_n C dX8_cost_94 rfl ?_
          refine x_dup C dX8_cost_95 rfl ?_
          refine x_rng (fun hR4 => ?_)
          refine x_getI C gf_RX8_104 ly_8 rfl rfl (by decide) dX8_cost_96 ?_
          refine x_iconst C dX8_cost_99 ?_
          refine x_iadd C dX8_cost_100 ?_
          obtain ⟨o8, h⟩ := h
          refine x_putI C pf_RX8_104 ly_8 rfl rfl (by decide) o8 dX8_cost_101 ?_
          refine x_aload_n C dX8_cost_104 rfl ?_
          refine x_iload_n C dX8_cost_105 rfl ?_
          refine x_iload_n C dX8_cost_106 rfl ?_
          refine x_callV (vs := [aI x1, aI x2]) C cv_RX8_107 ly_8 rfl (by decide) ⟨rfl, rfl, Nat.le_of_ble_eq_true rfl, Nat.le_of_ble_eq_true rfl⟩ ⟨Nat.zero_le _, Nat.zero_le _⟩ rfl rfl (Nat.le_of_ble_eq_true rfl) dX8_cost_107 (sd_X8_costOf l D cy ad x1 x2 r1 r2 (mset (mset (mset (mset (mset M2 8 16 0) 40 0 (((mset M2 8 16 0) 34 x2) + 1)) 8 16 1) 40 ((mset (mset (mset M2 8 16 0) 40 0 (((mset M2 8 16 0) 34 x2) + 1)) 8 16 1) 8 16) 1) 8 16 (((mset (mset (mset (mset M2 8 16 0) 40 0 (((mset M2 8 16 0) 34 x2) + 1)) 8 16 1) 40 ((mset (mset (mset M2 8 16 0) 40 0 (((mset M2 8 16 0) 34 x2) + 1)) 8 16 1) 8 16) 1) 8 16) + 1)) _ h) (fun _ M4 qz => ?_)
          obtain ⟨z4, rfl, rz4, h⟩ := qz
          exact x_iret C rz4 h dX8_cost_110
      · have h := h.2 q3
        refine x_aload_n C dX8_cost_34 rfl ?_
        refine x_getR C gf_RX8_45 ly_8 rfl (by decide) dX8_cost_35 ?_
        refine x_iconst C dX8_cost_38 ?_
        refine x_iconst C dX8_cost_39 ?_
        refine x_iast C ly_40 rfl (by decide) (by decide) (by decide) (by decide) dX8_cost_40 ?_
        refine x_aload_n C dX8_cost_41 rfl ?_
        refine x_getR C gf_RX8_45 ly_8 rfl (by decide) dX8_cost_42 ?_
        refine x_iconst C dX8_cost_45 ?_
        refine x_iconst C dX8_cost_46 ?_
        refine x_iast C ly_40 rfl (by decide) (by decide) (by decide) (by decide) dX8_cost_47 ?_
        refine x_aload_n C dX8_cost_48 rfl ?_
        refine x_iconst C dX8_cost_49 ?_
        refine x_putI C pf_RX8_104 ly_8 rfl rfl (by decide) (by decide) dX8_cost_50 ?_
        refine x_goto (tgt := 84) C dX8_cost_53 (by decide) ?_
        refine x_aload_n C dX8_cost_84 rfl ?_
        refine x_getR C gf_RX8_45 ly_8 rfl (by decide) dX8_cost_85 ?_
        refine x_aload_n C dX8_cost_88 rfl ?_
        refine x_rng (fun hR5 => ?_)
        refine x_getI C gf_RX8_104 ly_8 rfl rfl (by decide) dX8_cost_89 ?_
        refine x_iconst C dX8_cost_92 ?_
        obtain ⟨o9, h⟩ := h
        refine x_iast C ly_40 rfl (by decide) (by decide) o9 (by decide) dX8_cost_93 ?_
        refine x_aload_n C dX8_cost_94 rfl ?_
        refine x_dup C dX8_cost_95 rfl ?_
        refine x_rng (fun hR6 => ?_)
        refine x_getI C gf_RX8_104 ly_8 rfl rfl (by decide) dX8_cost_96 ?_
        refine x_iconst C dX8_cost_99 ?_
        refine x_iadd C dX8_cost_100 ?_
        obtain ⟨o10, h⟩ := h
        refine x_putI C pf_RX8_104 ly_8 rfl rfl (by decide) o10 dX8_cost_101 ?_
        refine x_aload_n C dX8_cost_104 rfl ?_
        refine x_iload_n C dX8_cost_105 rfl ?_
        refine x_iload_n C dX8_cost_106 rfl ?_
        refine x_callV (vs := [aI x1, aI x2]) C cv_RX8_107 ly_8 rfl (by decide) ⟨rfl, rfl, Nat.le_of_ble_eq_true rfl, Nat.le_of_ble_eq_true rfl⟩ ⟨Nat.zero_le _, Nat.zero_le _⟩ rfl rfl (Nat.le_of_ble_eq_true rfl) dX8_cost_107 (sd_X8_costOf l D cy ad x1 x2 r1 r2 (mset (mset (mset (mset (mset (mset M2 8 16 0) 40 0 4) 40 1 3) 8 16 2) 40 ((mset (mset (mset (mset M2 8 16 0) 40 0 4) 40 1 3) 8 16 2) 8 16) 1) 8 16 (((mset (mset (mset (mset (mset M2 8 16 0) 40 0 4) 40 1 3) 8 16 2) 40 ((mset (mset (mset (mset M2 8 16 0) 40 0 4) 40 1 3) 8 16 2) 8 16) 1) 8 16) + 1)) _ h) (fun _ M5 qz => ?_)
        obtain ⟨z5, rfl, rz5, h⟩ := qz
        exact x_iret C rz5 h dX8_cost_110
    · have h := h.2 q2
      refine x_bipush C dX8_cost_16 rfl ?_
      exact x_iret C (by decide) h dX8_cost_18
set_option maxRecDepth 100000 in
set_option maxHeartbeats 4000000 in
theorem sd_X7_body (l : Launch) (D : va_G) (cy : Nat → ClassId) (ad : Nat → Int → Nat) (x1 : Int) (r1 : iR x1) (M : Mm) (Q : Int → Mm → Prop) (h : wp_X7_body x1 M Q) : Ct l D cy ad yX7_body cX7_body 2 (some .int) rm_X7_body [aR 0, aI x1] M (rI Q) := by
  refine ct_of (z := 0) (ls := [some (aR 0), some (aI x1)]) (by decide) rfl (Nat.le_of_ble_eq_true rfl) ?_
  intro p e s m args below meth c C
  have C : Cx p s m args meth c D cy ad (Ar ad) cX7_body 2 RX7 (some .int) := C
  unfold wp_X7_body at h
  refine x_iload_n C dX7_body_0 rfl ?_
  refine x_if_lt (tgt := 15) C r1 dX7_body_1 (by decide) (fun q1 => ?_) (fun q1 => ?_)
  · have h := h.1 q1
    refine x_iconst C dX7_body_15 ?_
    exact x_iret C (by decide) h dX7_body_16
  · have h := h.2 q1
    refine x_iload_n C dX7_body_4 rfl ?_
    refine x_aload_n C dX7_body_5 rfl ?_
    refine x_getR C gf_RX7_26 ly_0 rfl (by decide) dX7_body_6 ?_
    refine x_rng (fun hR1 => ?_)
    refine x_getI C gf_RX7_115 ly_3 rfl rfl (by decide) dX7_body_9 ?_
    refine x_icmp_lt (tgt := 17) C r1 (ka_fI hR1 ly_3 rfl) dX7_body_12 (by decide) (fun q2 => ?_) (fun q2 => ?_)
    · have h := h.1 q2
      refine x_aload_n C dX7_body_17 rfl ?_
      refine x_getR C gf_RX7_26 ly_0 rfl (by decide) dX7_body_18 ?_
      refine x_getR C gf_RX7_118 ly_3 rfl (by decide) dX7_body_21 ?_
      refine x_iload_n C dX7_body_24 rfl ?_
      obtain ⟨o1, h⟩ := h
      refine x_iald C ly_18 rfl (by decide) (by decide) o1 dX7_body_25 ?_
      exact x_iret C (ka_gI hR1 ly_18 _) h dX7_body_26
    · have h := h.2 q2
      refine x_iconst C dX7_body_15 ?_
      exact x_iret C (by decide) h dX7_body_16
set_option maxRecDepth 100000 in
set_option maxHeartbeats 4000000 in
theorem sd_X8_body (l : Launch) (D : va_G) (cy : Nat → ClassId) (ad : Nat → Int → Nat) (x1 : Int) (r1 : iR x1) (M : Mm) (Q : Int → Mm → Prop) (h : wp_X8_body x1 M Q) : Ct l D cy ad yX8_body cX8_body 2 (some .int) rm_X8_body [aR 8, aI x1] M (rI Q) := by
  refine ct_of (z := 0) (ls := [some (aR 8), some (aI x1)]) (by decide) rfl (Nat.le_of_ble_eq_true rfl) ?_
  intro p e s m args below meth c C
  have C : Cx p s m args meth c D cy ad (Ar ad) cX8_body 2 RX8 (some .int) := C
  unfold wp_X8_body at h
  refine x_iload_n C dX8_body_0 rfl ?_
  refine x_iconst C dX8_body_1 ?_
  refine x_aload_n C dX8_body_2 rfl ?_
  refine x_rng (fun hR1 => ?_)
  refine x_getI C gf_RX8_104 ly_8 rfl rfl (by decide) dX8_body_3 ?_
  refine x_iconst C dX8_body_6 ?_
  refine x_isub C dX8_body_7 ?_
  obtain ⟨o1, h⟩ := h
  refine x_callS (vs := [aI x1, aI 0, aI ((M 8 16) - 1)]) C cv_RX8_76 ⟨rfl, rfl, Nat.le_of_ble_eq_true rfl, Nat.le_of_ble_eq_true rfl⟩ ⟨Nat.zero_le _, Nat.zero_le _⟩ rfl rfl (Nat.le_of_ble_eq_true rfl) dX8_body_8 (sd_X8_in l D cy ad x1 0 ((M 8 16) - 1) r1 (by decide) o1 M _ h) (fun _ M1 qz => ?_)
  obtain ⟨z1, rfl, rz1, h⟩ := qz
  refine x_if_eq (tgt := 23) C (ka_bi rz1) dX8_body_11 (by decide) (fun q1 => ?_) (fun q1 => ?_)
  · have h := h.1 q1
    refine x_iconst C dX8_body_23 ?_
    exact x_iret C (by decide) h dX8_body_24
  · have h := h.2 q1
    refine x_aload_n C dX8_body_14 rfl ?_
    refine x_getR C gf_RX8_45 ly_8 rfl (by decide) dX8_body_15 ?_
    refine x_iload_n C dX8_body_18 rfl ?_
    obtain ⟨o2, h⟩ := h
    refine x_rng (fun hR2 => ?_)
    refine x_iald C ly_40 rfl (by decide) (by decide) o2 dX8_body_19 ?_
    refine x_goto (tgt := 24) C dX8_body_20 (by decide) ?_
    exact x_iret C (ka_gI hR2 ly_40 _) h dX8_body_24
set_option maxRecDepth 100000 in
set_option maxHeartbeats 4000000 in
theorem sd_X3_fixOn (l : Launch) (D : va_G) (cy : Nat → ClassId) (ad : Nat → Int → Nat) (x1 : Int) (x2 : Int) (r1 : iR x1) (r2 : iR x2) (M : Mm) (Q : Int → Mm → Prop) (h : wp_X3_fixOn x1 x2 M Q) : Ct l D cy ad yX3_fixOn cX3_fixOn 4 (some .int) rm_X3_fixOn [aR 1, aI x1, aI x2] M (rI Q) := by
  refine ct_of (z := 1) (ls := [some (aR 1), some (aI x1), some (aI x2), none]) (by decide) rfl (Nat.le_of_ble_eq_true rfl) ?_
  intro p e s m args below meth c C
  have C : Cx p s m args meth c D cy ad (Ar ad) cX3_fixOn 4 RX3 (some .int) := C
  unfold wp_X3_fixOn at h
  refine x_aload_n C dX3_fixOn_0 rfl ?_
  refine x_getR C gf_RX3_15 ly_1 rfl (by decide) dX3_fixOn_1 ?_
  refine x_iload_n C dX3_fixOn_4 rfl ?_
  obtain ⟨o1, h⟩ := h
  refine x_rng (fun hR1 => ?_)
  refine x_iald C ly_9 rfl (by decide) (by decide) o1 dX3_fixOn_5 ?_
  refine x_istore_n C dX3_fixOn_6 (Nat.le_of_ble_eq_true rfl) rfl ?_
  refine x_iload_n C dX3_fixOn_7 rfl ?_
  refine x_iconst C dX3_fixOn_8 ?_
  refine x_icmp_eq (tgt := 19) C (ka_gI hR1 ly_9 _) (by decide) dX3_fixOn_9 (by decide) (fun q1 => ?_) (fun q1 => ?_)
  · have h := h.1 q1
    refine x_aload_n C dX3_fixOn_19 rfl ?_
    refine x_getR C gf_RX3_15 ly_1 rfl (by decide) dX3_fixOn_20 ?_
    refine x_iload_n C dX3_fixOn_23 rfl ?_
    refine x_iload_n C dX3_fixOn_24 rfl ?_
    obtain ⟨o2, h⟩ := h
    refine x_iast C ly_9 rfl (by decide) (by decide) o2 r2 dX3_fixOn_25 ?_
    refine x_iload_n C dX3_fixOn_26 rfl ?_
    refine x_iconst C dX3_fixOn_27 ?_
    refine x_icmp_eq (tgt := 38) C r2 (by decide) dX3_fixOn_28 (by decide) (fun q2 => ?_) (fun q2 => ?_)
    · have h := h.1 q2
      refine x_iload_n C dX3_fixOn_38 rfl ?_
      exact x_iret C (ka_gI hR1 ly_9 _) h dX3_fixOn_39
    · have h := h.2 q2
      refine x_aload_n C dX3_fixOn_31 rfl ?_
      refine x_getR C gf_RX3_19 ly_1 rfl (by decide) dX3_fixOn_32 ?_
      refine x_iload_n C dX3_fixOn_35 rfl ?_
      refine x_iload_n C dX3_fixOn_36 rfl ?_
      obtain ⟨o3, h⟩ := h
      refine x_iast C ly_10 rfl (by decide) (by decide) o3 r1 dX3_fixOn_37 ?_
      refine x_iload_n C dX3_fixOn_38 rfl ?_
      exact x_iret C (ka_gI hR1 ly_9 _) h dX3_fixOn_39
  · have h := h.2 q1
    refine x_aload_n C dX3_fixOn_12 rfl ?_
    refine x_getR C gf_RX3_19 ly_1 rfl (by decide) dX3_fixOn_13 ?_
    refine x_iload_n C dX3_fixOn_16 rfl ?_
    refine x_iconst C dX3_fixOn_17 ?_
    obtain ⟨o4, h⟩ := h
    refine x_iast C ly_10 rfl (by decide) (by decide) o4 (by decide) dX3_fixOn_18 ?_
    refine x_aload_n C dX3_fixOn_19 rfl ?_
    refine x_getR C gf_RX3_15 ly_1 rfl (by decide) dX3_fixOn_20 ?_
    refine x_iload_n C dX3_fixOn_23 rfl ?_
    refine x_iload_n C dX3_fixOn_24 rfl ?_
    obtain ⟨o5, h⟩ := h
    refine x_iast C ly_9 rfl (by decide) (by decide) o5 r2 dX3_fixOn_25 ?_
    refine x_iload_n C dX3_fixOn_26 rfl ?_
    refine x_iconst C dX3_fixOn_27 ?_
    refine x_icmp_eq (tgt := 38) C r2 (by decide) dX3_fixOn_28 (by decide) (fun q3 => ?_) (fun q3 => ?_)
    · have h := h.1 q3
      refine x_iload_n C dX3_fixOn_38 rfl ?_
      exact x_iret C (ka_gI hR1 ly_9 _) h dX3_fixOn_39
    · have h := h.2 q3
      refine x_aload_n C dX3_fixOn_31 rfl ?_
      refine x_getR C gf_RX3_19 ly_1 rfl (by decide) dX3_fixOn_32 ?_
      refine x_iload_n C dX3_fixOn_35 rfl ?_
      refine x_iload_n C dX3_fixOn_36 rfl ?_
      obtain ⟨o6, h⟩ := h
      refine x_iast C ly_10 rfl (by decide) (by decide) o6 r1 dX3_fixOn_37 ?_
      refine x_iload_n C dX3_fixOn_38 rfl ?_
      exact x_iret C (ka_gI hR1 ly_9 _) h dX3_fixOn_39
