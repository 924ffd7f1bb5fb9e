set_option maxRecDepth 100000 in
set_option maxHeartbeats 4000000 in
theorem sd_X3_isFixedByOther (l : Launch) (D : va_G) (cy : Nat → ClassId) (ad : Nat → Int → Nat) (x1 : Int) (x2 : Int) (r1 : iR x1) (r2 : iR x2) (M : Mm) (Q : Int → Mm → Prop) (h : wp_X3_isFixedByOther x1 x2 M Q) : Ct l D cy ad yX3_isFixedByOther cX3_isFixedByOther 3 (some .boolean) rm_X3_isFixedByOther [aR 1, aI x1, aI x2] M (rZ Q) := by
  refine ct_of (z := 0) (ls := [some (aR 1), some (aI x1), some (aI x2)]) (by decide) rfl (Nat.le_of_ble_eq_true rfl) ?_
  intro p e s m args below meth c C
  have C : Cx p s m args meth c D cy ad (Ar ad) cX3_isFixedByOther 3 RX3 (some .boolean) := C
  unfold wp_X3_isFixedByOther at h
  refine x_aload_n C dX3_isFixedByOther_0 rfl ?_
  refine x_getR C gf_RX3_19 ly_1 rfl (by decide) dX3_isFixedByOther_1 ?_
  refine x_iload_n C dX3_isFixedByOther_4 rfl ?_
  obtain ⟨o1, h⟩ := h
  refine x_rng (fun hR1 => ?_)
  refine x_iald C ly_10 rfl (by decide) (by decide) o1 dX3_isFixedByOther_5 ?_
  refine x_iconst C dX3_isFixedByOther_6 ?_
  refine x_icmp_eq (tgt := 24) C (ka_gI hR1 ly_10 _) (by decide) dX3_isFixedByOther_7 (by decide) (fun q1 => ?_) (fun q1 => ?_)
  · have h := h.1 q1
    refine x_iconst C dX3_isFixedByOther_24 ?_
    exact x_zret C (by decide) h dX3_isFixedByOther_25
  · have h := h.2 q1
    refine x_aload_n C dX3_isFixedByOther_10 rfl ?_
    refine x_getR C gf_RX3_19 ly_1 rfl (by decide) dX3_isFixedByOther_11 ?_
    refine x_iload_n C dX3_isFixedByOther_14 rfl ?_
    obtain ⟨o2, h⟩ := h
    refine x_iald C ly_10 rfl (by decide) (by decide) o2 dX3_isFixedByOther_15 ?_
    refine x_iload_n C dX3_isFixedByOther_16 rfl ?_
    refine x_icmp_eq (tgt := 24) C (ka_gI hR1 ly_10 _) r1 dX3_isFixedByOther_17 (by decide) (fun q2 => ?_) (fun q2 => ?_)
    · have h := h.1 q2
      refine x_iconst C dX3_isFixedByOther_24 ?_
      exact x_zret C (by decide) h dX3_isFixedByOther_25
    · have h := h.2 q2
      refine x_iconst C dX3_isFixedByOther_20 ?_
      refine x_goto (tgt := 25) C dX3_isFixedByOther_21 (by decide) ?_
      exact x_zret C (by decide) h dX3_isFixedByOther_25
set_option maxRecDepth 100000 in
set_option maxHeartbeats 4000000 in
theorem sd_X7_fix (l : Launch) (D : va_G) (cy : Nat → ClassId) (ad : Nat → Int → Nat) (x1 : Int) (x2 : Int) (r1 : iR x1) (r2 : iR x2) (M : Mm) (Q : Int → Mm → Prop) (h : wp_X7_fix x1 x2 M Q) : Ct l D cy ad yX7_fix cX7_fix 3 (some .int) rm_X7_fix [aR 0, aI x1, aI x2] M (rI Q) := by
  refine ct_of (z := 0) (ls := [some (aR 0), some (aI x1), some (aI x2)]) (by decide) rfl (Nat.le_of_ble_eq_true rfl) ?_
  intro p e s m args below meth c C
  have C : Cx p s m args meth c D cy ad (Ar ad) cX7_fix 3 RX7 (some .int) := C
  unfold wp_X7_fix at h
  refine x_aload_n C dX7_fix_0 rfl ?_
  refine x_getR C gf_RX7_10 ly_0 rfl (by decide) dX7_fix_1 ?_
  refine x_iload_n C dX7_fix_4 rfl ?_
  refine x_callV (vs := [aI x1]) C cv_RX7_96 ly_1 rfl (by decide) ⟨rfl, rfl, Nat.le_of_ble_eq_true rfl, Nat.le_of_ble_eq_true rfl⟩ ⟨Nat.zero_le _, Nat.zero_le _⟩ rfl rfl (Nat.le_of_ble_eq_true rfl) dX7_fix_5 (sd_X3_has l D cy ad x1 r1 M _ h) (fun _ M1 qz => ?_)
  obtain ⟨z1, rfl, rz1, h⟩ := qz
  refine x_if_eq (tgt := 27) C (ka_bi rz1) dX7_fix_8 (by decide) (fun q1 => ?_) (fun q1 => ?_)
  · have h := h.1 q1
    refine x_bipush C dX7_fix_27 rfl ?_
    exact x_iret C (by decide) h dX7_fix_29
  · have h := h.2 q1
    refine x_iload_n C dX7_fix_11 rfl ?_
    refine x_iconst C dX7_fix_12 ?_
    refine x_icmp_eq (tgt := 30) C r2 (by decide) dX7_fix_13 (by decide) (fun q2 => ?_) (fun q2 => ?_)
    · have h := h.1 q2
      refine x_iload_n C dX7_fix_30 rfl ?_
      refine x_iconst C dX7_fix_31 ?_
      refine x_icmp_eq (tgt := 50) C r2 (by decide) dX7_fix_32 (by decide) (fun q3 => ?_) (fun q3 => ?_)
      · have h := h.1 q3
        refine x_aload_n C dX7_fix_50 rfl ?_
        refine x_getR C gf_RX7_39 ly_0 rfl (by decide) dX7_fix_51 ?_
        refine x_iconst C dX7_fix_54 ?_
        refine x_putZ C pf_RX7_74 ly_4 rfl rfl (by decide) (by decide) dX7_fix_55 ?_
        refine x_aload_n C dX7_fix_58 rfl ?_
        refine x_getR C gf_RX7_46 ly_0 rfl (by decide) dX7_fix_59 ?_
        refine x_callV (vs := []) C cv_RX7_78 ly_5 rfl (by decide) ⟨rfl, rfl, Nat.le_of_ble_eq_true rfl, Nat.le_of_ble_eq_true rfl⟩ ⟨Nat.zero_le _, Nat.zero_le _⟩ rfl rfl (Nat.le_of_ble_eq_true rfl) dX7_fix_62 (sd_X1_forget l D cy ad (mset M1 4 4 0) _ h) (fun _ M2 qz => ?_)
        obtain ⟨rfl, h⟩ := qz
        refine x_aload_n C dX7_fix_65 rfl ?_
        refine x_getR C gf_RX7_10 ly_0 rfl (by decide) dX7_fix_66 ?_
        refine x_iload_n C dX7_fix_69 rfl ?_
        refine x_iload_n C dX7_fix_70 rfl ?_
        refine x_callV (vs := [aI x1, aI x2]) C cv_RX7_125 ly_1 rfl (by decide) ⟨rfl, rfl, Nat.le_of_ble_eq_true rfl, Nat.le_of_ble_eq_true rfl⟩ ⟨Nat.zero_le _, Nat.zero_le _⟩ rfl rfl (Nat.le_of_ble_eq_true rfl) dX7_fix_71 (sd_X3_fixOn l D cy ad x1 x2 r1 r2 M2 _ h) (fun _ M3 qz => ?_)
        obtain ⟨z2, rfl, rz2, h⟩ := qz
        exact x_iret C rz2 h dX7_fix_74
      · have h := h.2 q3
        refine x_aload_n C dX7_fix_35 rfl ?_
        refine x_getR C gf_RX7_10 ly_0 rfl (by decide) dX7_fix_36 ?_
        refine x_iload_n C dX7_fix_39 rfl ?_
        refine x_iload_n C dX7_fix_40 rfl ?_
        refine x_callV (vs := [aI x1, aI x2]) C cv_RX7_121 ly_1 rfl (by decide) ⟨rfl, rfl, Nat.le_of_ble_eq_true rfl, Nat.le_of_ble_eq_true rfl⟩ ⟨Nat.zero_le _, Nat.zero_le _⟩ rfl rfl (Nat.le_of_ble_eq_true rfl) dX7_fix_41 (sd_X3_isFixedByOther l D cy ad x1 x2 r1 r2 M1 _ h) (fun _ M4 qz => ?_)
        obtain ⟨z3, rfl, rz3, h⟩ := qz
        refine x_if_eq (tgt := 50) C (ka_bi rz3) dX7_fix_44 (by decide) (fun q4 => ?_) (fun q4 => ?_)
        · have h := h.1 q4
          refine x_aload_n C dX7_fix_50 rfl ?_
          refine x_getR C gf_RX7_39 ly_0 rfl (by decide) dX7_fix_51 ?_
          refine x_iconst C dX7_fix_54 ?_
          refine x_putZ C pf_RX7_74 ly_4 rfl rfl (by decide) (by decide) dX7_fix_55 ?_
          refine x_aload_n C dX7_fix_58 rfl ?_
          refine x_getR C gf_RX7_46 ly_0 rfl (by decide) dX7_fix_59 ?_
          refine x_callV (vs := []) C cv_RX7_78 ly_5 rfl (by decide) ⟨rfl, rfl, Nat.le_of_ble_eq_true rfl, Nat.le_of_ble_eq_true rfl⟩ ⟨Nat.zero_le _, Nat.zero_le _⟩ rfl rfl (Nat.le_of_ble_eq_true rfl) dX7_fix_62 (sd_X1_forget l D cy ad (mset M4 4 4 0) _ h) (fun _ M5 qz => ?_)
          obtain ⟨rfl, h⟩ := qz
          refine x_aload_n C dX7_fix_65 rfl ?_
          refine x_getR C gf_RX7_10 ly_0 rfl (by decide) dX7_fix_66 ?_
          refine x_iload_n C dX7_fix_69 rfl ?_
          refine x_iload_n C dX7_fix_70 rfl ?_
          refine x_callV (vs := [aI x1, aI x2]) C cv_RX7_125 ly_1 rfl (by decide) ⟨rfl, rfl, Nat.le_of_ble_eq_true rfl, Nat.le_of_ble_eq_true rfl⟩ ⟨Nat.zero_le _, Nat.zero_le _⟩ rfl rfl (Nat.le_of_ble_eq_true rfl) dX7_fix_71 (sd_X3_fixOn l D cy ad x1 x2 r1 r2 M5 _ h) (fun _ M6 qz => ?_)
          obtain ⟨z4, rfl, rz4, h⟩ := qz
          exact x_iret C rz4 h dX7_fix_74
        · have h := h.2 q4
          refine x_bipush C dX7_fix_47 rfl ?_
          exact x_iret C (by decide) h dX7_fix_49
    · have h := h.2 q2
      refine x_aload_n C dX7_fix_16 rfl ?_
      refine x_getR C gf_RX7_26 ly_0 rfl (by decide) dX7_fix_17 ?_
      refine x_iload_n C dX7_fix_20 rfl ?_
      refine x_callV (vs := [aI x2]) C cv_RX7_104 ly_3 rfl (by decide) ⟨rfl, rfl, Nat.le_of_ble_eq_true rfl, Nat.le_of_ble_eq_true rfl⟩ ⟨Nat.zero_le _, Nat.zero_le _⟩ rfl rfl (Nat.le_of_ble_eq_true rfl) dX7_fix_21 (sd_X2_has l D cy ad x2 r2 M1 _ h) (fun _ M7 qz => ?_)
      obtain ⟨z5, rfl, rz5, h⟩ := qz
      refine x_if_ne (tgt := 30) C (ka_bi rz5) dX7_fix_24 (by decide) (fun q5 => ?_) (fun q5 => ?_)
      · have h := h.1 q5
        refine x_iload_n C dX7_fix_30 rfl ?_
        refine x_iconst C dX7_fix_31 ?_
        refine x_icmp_eq (tgt := 50) C r2 (by decide) dX7_fix_32 (by decide) (fun q6 => ?_) (fun q6 => ?_)
        · have h := h.1 q6
          refine x_aload_n C dX7_fix_50 rfl ?_
          refine x_getR C gf_RX7_39 ly_0 rfl (by decide) dX7_fix_51 ?_
          refine x_iconst C dX7_fix_54 ?_
          refine x_putZ C pf_RX7_74 ly_4 rfl rfl (by decide) (by decide) dX7_fix_55 ?_
          refine x_aload_n C dX7_fix_58 rfl ?_
          refine x_getR C gf_RX7_46 ly_0 rfl (by decide) dX7_fix_59 ?_
          refine x_callV (vs := []) C cv_RX7_78 ly_5 rfl (by decide) ⟨rfl, rfl, Nat.le_of_ble_eq_true rfl, Nat.le_of_ble_eq_true rfl⟩ ⟨Nat.zero_le _, Nat.zero_le _⟩ rfl rfl (Nat.le_of_ble_eq_true rfl) dX7_fix_62 (sd_X1_forget l D cy ad (mset M7 4 4 0) _ h) (fun _ M8 qz => ?_)
          obtain ⟨rfl, h⟩ := qz
          refine x_aload_n C dX7_fix_65 rfl ?_
          refine x_getR C gf_RX7_10 ly_0 rfl (by decide) dX7_fix_66 ?_
          refine x_iload_n C dX7_fix_69 rfl ?_
          refine x_iload_n C dX7_fix_70 rfl ?_
          refine x_callV (vs := [aI x1, aI x2]) C cv_RX7_125 ly_1 rfl (by decide) ⟨rfl, rfl, Nat.le_of_ble_eq_true rfl, Nat.le_of_ble_eq_true rfl⟩ ⟨Nat.zero_le _, Nat.zero_le _⟩ rfl rfl (Nat.le_of_ble_eq_true rfl) dX7_fix_71 (sd_X3_fixOn l D cy ad x1 x2 r1 r2 M8 _ h) (fun _ M9 qz => ?_)
          obtain ⟨z6, rfl, rz6, h⟩ := qz
          exact x_iret C rz6 h dX7_fix_74
        · have h := h.2 q6
          refine x_aload_n C dX7_fix_35 rfl ?_
          refine x_getR C gf_RX7_10 ly_0 rfl (by decide) dX7_fix_36 ?_
          refine x_iload_n C dX7_fix_39 rfl ?_
          refine x_iload_n C dX7_fix_40 rfl ?_
          refine x_callV (vs := [aI x1, aI x2]) C cv_RX7_121 ly_1 rfl (by decide) ⟨rfl, rfl, Nat.le_of_ble_eq_true rfl, Nat.le_of_ble_eq_true rfl⟩ ⟨Nat.zero_le _, Nat.zero_le _⟩ rfl rfl (Nat.le_of_ble_eq_true rfl) dX7_fix_41 (sd_X3_isFixedByOther l D cy ad x1 x2 r1 r2 M7 _ h) (fun _ M10 qz => ?_)
          obtain ⟨z7, rfl, rz7, h⟩ := qz
          refine x_if_eq (tgt := 50) C (ka_bi rz7) dX7_fix_44 (by decide) (fun q7 => ?_) (fun q7 => ?_)
          · have h := h.1 q7
            refine x_aload_n C dX7_fix_50 rfl ?_
            refine x_getR C gf_RX7_39 ly_0 rfl (by decide) dX7_fix_51 ?_
            refine x_iconst C dX7_fix_54 ?_
            refine x_putZ C pf_RX7_74 ly_4 rfl rfl (by decide) (by decide) dX7_fix_55 ?_
            refine x_aload_n C dX7_fix_58 rfl ?_
            refine x_getR C gf_RX7_46 ly_0 rfl (by decide) dX7_fix_59 ?_
            refine x_callV (vs := []) C cv_RX7_78 ly_5 rfl (by decide) ⟨rfl, rfl, Nat.le_of_ble_eq_true rfl, Nat.le_of_ble_eq_true rfl⟩ ⟨Nat.zero_le _, Nat.zero_le _⟩ rfl rfl (Nat.le_of_ble_eq_true rfl) dX7_fix_62 (sd_X1_forget l D cy ad (mset M10 4 4 0) _ h) (fun _ M11 qz => ?_)
            obtain ⟨rfl, h⟩ := qz
            refine x_aload_n C dX7_fix_65 rfl ?_
            refine x_getR C gf_RX7_10 ly_0 rfl (by decide) dX7_fix_66 ?_
            refine x_iload_n C dX7_fix_69 rfl ?_
            refine x_iload_n C dX7_fix_70 rfl ?_
            refine x_callV (vs := [aI x1, aI x2]) C cv_RX7_125 ly_1 rfl (by decide) ⟨rfl, rfl, Nat.le_of_ble_eq_true rfl, Nat.le_of_ble_eq_true rfl⟩ ⟨Nat.zero_le _, Nat.zero_le _⟩ rfl rfl (Nat.le_of_ble_eq_true rfl) dX7_fix_71 (sd_X3_fixOn l D cy ad x1 x2 r1 r2 M11 _ h) (fun _ M12 qz => ?_)
            obtain ⟨z8, rfl, rz8, h⟩ := qz
            exact x_iret C rz8 h dX7_fix_74
          · have h := h.2 q7
            refine x_bipush C dX7_fix_47 rfl ?_
            exact x_iret C (by decide) h dX7_fix_49
      · have h := h.2 q5
        refine x_bipush C dX7_fix_27 rfl ?_
        exact x_iret C (by decide) h dX7_fix_29
set_option maxRecDepth 100000 in
set_option maxHeartbeats 4000000 in
theorem lp_X8_fix_L26 {p : Program} {l : Launch} {e : Env} {s : State} {m : MethodId} {args : Array Value} {below : List Frame} {meth : Method} {c : Code} {D : va_G} {cy : Nat → ClassId} {ad : Nat → Int → Nat} (C : Cx p s m args meth c D cy ad (Ar ad) cX8_fix 4 RX8 (some .int)) (x1 : Int) (x2 : Int) (r1 : iR x1) (r2 : iR x2) (Q : Int → Mm → Prop) (K63 : Mm → Prop) (k63 : ∀ (M : Mm), K63 M → Xj p l e rm_X8_fix s m args below meth c D cy ad (Ar ad) (MQ below (QX D cy ad (rI Q)) args s 0 0 (Ar ad)) 4 0 0 63 [some (aR 8), some (aI x1), some (aI x2), none] [] M) : ∀ (x3 : Int) (M : Mm), wp_X8_fix_L26 x1 x2 Q K63 x3 M → iR x3 → Xj p l e rm_X8_fix s m args below meth c D cy ad (Ar ad) (MQ below (QX D cy ad (rI Q)) args s 0 0 (Ar ad)) 4 0 0 26 [some (aR 8), some (aI x1), some (aI x2), some (aI x3)] [] M :=
  LP1.ind (P := fun x3 M => iR x3 → Xj p l e rm_X8_fix s m args below meth c D cy ad (Ar ad) (MQ below (QX D cy ad (rI Q)) args s 0 0 (Ar ad)) 4 0 0 26 [some (aR 8), some (aI x1), some (aI x2), some (aI x3)] [] M) (fun R ih => by
    intro x3 M h r3
    unfold bc_X8_fix_L26 at h
    refine x_iload_n C dX8_fix_26 rfl ?_
    refine x_aload_n C dX8_fix_27 rfl ?_
    refine x_rng (fun hR1 => ?_)
    refine x_getI C gf_RX8_7 ly_8 rfl rfl (by decide) dX8_fix_28 ?_
    refine x_icmp_ge (tgt := 63) C r3 (ka_fI hR1 ly_8 rfl) dX8_fix_31 (by decide) (fun q1 => ?_) (fun q1 => ?_)
    · have h := h.1 q1
      refine x_mask [true, true, true, false] rfl ?_
      exact k63 _ h
    · have h := h.2 q1
      refine x_iload_n C dX8_fix_34 rfl ?_
      refine x_iload_n C dX8_fix_35 rfl ?_
      refine x_icmp_eq (tgt := 57) C r3 r1 dX8_fix_36 (by decide) (fun q2 => ?_) (fun q2 => ?_)
      · have h := h.1 q2
        refine x_iinc C dX8_fix_57 rfl (Nat.le_of_ble_eq_true rfl) rfl ?_
        refine x_goto (tgt := 26) C dX8_fix_60 (by decide) ?_
        obtain ⟨o1, h⟩ := h
        exact ih _ _ h o1
      · have h := h.2 q2
        refine x_iload_n C dX8_fix_39 rfl ?_
        refine x_iconst C dX8_fix_40 ?_
        refine x_icmp_eq (tgt := 57) C r2 (by decide) dX8_fix_41 (by decide) (fun q3 => ?_) (fun q3 => ?_)
        · have h := h.1 q3
          refine x_iinc C dX8_fix_57 rfl (Nat.le_of_ble_eq_true rfl) rfl ?_
          refine x_goto (tgt := 26) C dX8_fix_60 (by decide) ?_
          obtain ⟨o2, h⟩ := h
          exact ih _ _ h o2
        · have h := h.2 q3
          refine x_aload_n C dX8_fix_44 rfl ?_
          refine x_getR C gf_RX8_36 ly_8 rfl (by decide) dX8_fix_45 ?_
          refine x_iload_n C dX8_fix_48 rfl ?_
          obtain ⟨o3, h⟩ := h
          refine x_iald C ly_37 rfl (by decide) (by decide) o3 dX8_fix_49 ?_
          refine x_iload_n C dX8_fix_50 rfl ?_
          refine x_icmp_ne (tgt := 57) C (ka_gI hR1 ly_37 _) r2 dX8_fix_51 (by decide) (fun q4 => ?_) (fun q4 => ?_)
          · have h := h.1 q4
            refine x_iinc C dX8_fix_57 rfl (Nat.le_of_ble_eq_true rfl) rfl ?_
            refine x_goto (tgt := 26) C dX8_fix_60 (by decide) ?_
            obtain ⟨o4, h⟩ := h
            exact ih _ _ h o4
          · have h := h.2 q4
            refine x_bipush C dX8_fix_54 rfl ?_
            exact x_iret C (by decide) h dX8_fix_56)
set_option maxRecDepth 100000 in
set_option maxHeartbeats 4000000 in
theorem sd_X8_fix (l : Launch) (D : va_G) (cy : Nat → ClassId) (ad : Nat → Int → Nat) (x1 : Int) (x2 : Int) (r1 : iR x1) (r2 : iR x2) (M : Mm) (Q : Int → Mm → Prop) (h : wp_X8_fix x1 x2 M Q) : Ct l D cy ad yX8_fix cX8_fix 4 (some .int) rm_X8_fix [aR 8, aI x1, aI x2] M (rI Q) := by
  refine ct_of (z := 1) (ls := [some (aR 8), some (aI x1), some (aI x2), none]) (by decide) rfl (Nat.le_of_ble_eq_true rfl) ?_
  intro p e s m args below meth c C
  have C : Cx p s m args meth c D cy ad (Ar ad) cX8_fix 4 RX8 (some .int) := C
  unfold wp_X8_fix at h
  refine x_aload_n C dX8_fix_0 rfl ?_
  refine x_iload_n C dX8_fix_1 rfl ?_
  refine x_callV (vs := [aI x1]) C cv_RX8_93 ly_8 rfl (by decide) ⟨rfl, rfl, Nat.le_of_ble_eq_true rfl, Nat.le_of_ble_eq_true rfl⟩ ⟨Nat.zero_le _, Nat.zero_le _⟩ rfl rfl (Nat.le_of_ble_eq_true rfl) dX8_fix_2 (sd_X8_isLetter l D cy ad x1 r1 M _ h) (fun _ M1 qz => ?_)
  obtain ⟨z1, rfl, rz1, h⟩ := qz
  refine x_if_eq (tgt := 21) C (ka_bi rz1) dX8_fix_5 (by decide) (fun q1 => ?_) (fun q1 => ?_)
  · have h := h.1 q1
    refine x_bipush C dX8_fix_21 rfl ?_
    exact x_iret C (by decide) h dX8_fix_23
  · have h := h.2 q1
    refine x_iload_n C dX8_fix_8 rfl ?_
    refine x_iconst C dX8_fix_9 ?_
    refine x_icmp_eq (tgt := 24) C r2 (by decide) dX8_fix_10 (by decide) (fun q2 => ?_) (fun q2 => ?_)
    · have h := h.1 q2
      refine x_iconst C dX8_fix_24 ?_
      refine x_istore_n C dX8_fix_25 (Nat.le_of_ble_eq_true rfl) rfl ?_
      refine lp_X8_fix_L26 C x1 x2 r1 r2 Q _ (fun M2 h => ?_) _ _ h (by decide)
      · refine x_aload_n C dX8_fix_63 rfl ?_
        refine x_getR C gf_RX8_36 ly_8 rfl (by decide) dX8_fix_64 ?_
        refine x_iload_n C dX8_fix_67 rfl ?_
        obtain ⟨o1, h⟩ := h
        refine x_rng (fun hR1 => ?_)
        refine x_iald C ly_37 rfl (by decide) (by decide) o1 dX8_fix_68 ?_
        refine x_istore_n C dX8_fix_69 (Nat.le_of_ble_eq_true rfl) rfl ?_
        refine x_aload_n C dX8_fix_70 rfl ?_
        refine x_getR C gf_RX8_36 ly_8 rfl (by decide) dX8_fix_71 ?_
        refine x_iload_n C dX8_fix_74 rfl ?_
        refine x_iload_n C dX8_fix_75 rfl ?_
        obtain ⟨o2, h⟩ := h
        refine x_iast C ly_37 rfl (by decide) (by decide) o2 r2 dX8_fix_76 ?_
        refine x_aload_n C dX8_fix_77 rfl ?_
        refine x_iconst C dX8_fix_78 ?_
        refine x_putZ C pf_RX8_83 ly_8 rfl rfl (by decide) (by decide) dX8_fix_79 ?_
        refine x_aload_n C dX8_fix_82 rfl ?_
        refine x_iconst C dX8_fix_83 ?_
        refine x_putZ C pf_RX8_87 ly_8 rfl rfl (by decide) (by decide) dX8_fix_84 ?_
        refine x_iload_n C dX8_fix_87 rfl ?_
        exact x_iret C (ka_gI hR1 ly_37 _) h dX8_fix_88
    · have h := h.2 q2
      refine x_aload_n C dX8_fix_13 rfl ?_
      refine x_iload_n C dX8_fix_14 rfl ?_
      refine x_callV (vs := [aI x2]) C cv_RX8_101 ly_8 rfl (by decide) ⟨rfl, rfl, Nat.le_of_ble_eq_true rfl, Nat.le_of_ble_eq_true rfl⟩ ⟨Nat.zero_le _, Nat.zero_le _⟩ rfl rfl (Nat.le_of_ble_eq_true rfl) dX8_fix_15 (sd_X8_isKey l D cy ad x2 r2 M1 _ h) (fun _ M3 qz => ?_)
      obtain ⟨z2, rfl, rz2, h⟩ := qz
      refine x_if_ne (tgt := 24) C (ka_bi rz2) dX8_fix_18 (by decide) (fun q3 => ?_) (fun q3 => ?_)
      · have h := h.1 q3
        refine x_iconst C dX8_fix_24 ?_
        refine x_istore_n C dX8_fix_25 (Nat.le_of_ble_eq_true rfl) rfl ?_
        refine lp_X8_fix_L26 C x1 x2 r1 r2 Q _ (fun M4 h => ?_) _ _ h (by decide)
        · refine x_aload_n C dX8_fix_63 rfl ?_
          refine x_getR C gf_RX8_36 ly_8 rfl (by decide) dX8_fix_64 ?_
          refine x_iload_n C dX8_fix_67 rfl ?_
          obtain ⟨o3, h⟩ := h
          refine x_rng (fun hR2 => ?_)
          refine x_iald C ly_37 rfl (by decide) (by decide) o3 dX8_fix_68 ?_
          refine x_istore_n C dX8_fix_69 (Nat.le_of_ble_eq_true rfl) rfl ?_
          refine x_aload_n C dX8_fix_70 rfl ?_
          refine x_getR C gf_RX8_36 ly_8 rfl (by decide) dX8_fix_71 ?_
          refine x_iload_n C dX8_fix_74 rfl ?_
          refine x_iload_n C dX8_fix_75 rfl ?_
          obtain ⟨o4, h⟩ := h
          refine x_iast C ly_37 rfl (by decide) (by decide) o4 r2 dX8_fix_76 ?_
          refine x_aload_n C dX8_fix_77 rfl ?_
          refine x_iconst C dX8_fix_78 ?_
          refine x_putZ C pf_RX8_83 ly_8 rfl rfl (by decide) (by decide) dX8_fix_79 ?_
          refine x_aload_n C dX8_fix_82 rfl ?_
          refine x_iconst C dX8_fix_83 ?_
          refine x_putZ C pf_RX8_87 ly_8 rfl rfl (by decide) (by decide) dX8_fix_84 ?_
          refine x_iload_n C dX8_fix_87 rfl ?_
          exact x_iret C (ka_gI hR2 ly_37 _) h dX8_fix_88
      · have h := h.2 q3
        refine x_bipush C dX8_fix_21 rfl ?_
        exact x_iret C (by decide) h dX8_fix_23
set_option maxRecDepth 100000 in
set_option maxHeartbeats 4000000 in
theorem sd_X7_tooFewKeys (l : Launch) (D : va_G) (cy : Nat → ClassId) (ad : Nat → Int → Nat) (M : Mm) (Q : Int → Mm → Prop) (h : wp_X7_tooFewKeys M Q) : Ct l D cy ad yX7_tooFewKeys cX7_tooFewKeys 1 (some .boolean) rm_X7_tooFewKeys [aR 0] M (rZ Q) := by
  refine ct_of (z := 0) (ls := [some (aR 0)]) (by decide) rfl (Nat.le_of_ble_eq_true rfl) ?_
  intro p e s m args below meth c C
  have C : Cx p s m args meth c D cy ad (Ar ad) cX7_tooFewKeys 1 RX7 (some .boolean) := C
  unfold wp_X7_tooFewKeys at h
  refine x_aload_n C dX7_tooFewKeys_0 rfl ?_
  refine x_getR C gf_RX7_26 ly_0 rfl (by decide) dX7_tooFewKeys_1 ?_
  refine x_rng (fun hR1 => ?_)
  refine x_getI C gf_RX7_99 ly_3 rfl rfl (by decide) dX7_tooFewKeys_4 ?_
  refine x_aload_n C dX7_tooFewKeys_7 rfl ?_
  refine x_getR C gf_RX7_10 ly_0 rfl (by decide) dX7_tooFewKeys_8 ?_
  refine x_getI C gf_RX7_66 ly_1 rfl rfl (by decide) dX7_tooFewKeys_11 ?_
  refine x_icmp_ge (tgt := 21) C (ka_fI hR1 ly_3 rfl) (ka_fI hR1 ly_1 rfl) dX7_tooFewKeys_14 (by decide) (fun q1 => ?_) (fun q1 => ?_)
  · have h := h.1 q1
    refine x_iconst C dX7_tooFewKeys_21 ?_
    exact x_zret C (by decide) h dX7_tooFewKeys_22
  · have h := h.2 q1
    refine x_iconst C dX7_tooFewKeys_17 ?_
    refine x_goto (tgt := 22) C dX7_tooFewKeys_18 (by decide) ?_
    exact x_zret C (by decide) h dX7_tooFewKeys_22
set_option maxRecDepth 100000 in
set_option maxHeartbeats 4000000 in
theorem sd_X3_isFixed (l : Launch) (D : va_G) (cy : Nat → ClassId) (ad : Nat → Int → Nat) (x1 : Int) (r1 : iR x1) (M : Mm) (Q : Int → Mm → Prop) (h : wp_X3_isFixed x1 M Q) : Ct l D cy ad yX3_isFixed cX3_isFixed 2 (some .boolean) rm_X3_isFixed [aR 1, aI x1] M (rZ Q) := by
  refine ct_of (z := 0) (ls := [some (aR 1), some (aI x1)]) (by decide) rfl (Nat.le_of_ble_eq_true rfl) ?_
  intro p e s m args below meth c C
  have C : Cx p s m args meth c D cy ad (Ar ad) cX3_isFixed 2 RX3 (some .boolean) := C
  unfold wp_X3_isFixed at h
  refine x_aload_n C dX3_isFixed_0 rfl ?_
  refine x_getR C gf_RX3_15 ly_1 rfl (by decide) dX3_isFixed_1 ?_
  refine x_iload_n C dX3_isFixed_4 rfl ?_
  obtain ⟨o1, h⟩ := h
  refine x_rng (fun hR1 => ?_)
  refine x_iald C ly_9 rfl (by decide) (by decide) o1 dX3_isFixed_5 ?_
  refine x_iconst C dX3_isFixed_6 ?_
  refine x_icmp_eq (tgt := 14) C (ka_gI hR1 ly_9 _) (by decide) dX3_isFixed_7 (by decide) (fun q1 => ?_) (fun q1 => ?_)
  · have h := h.1 q1
    refine x_iconst C dX3_isFixed_14 ?_
    exact x_zret C (by decide) h dX3_isFixed_15
  · have h := h.2 q1
    refine x_iconst C dX3_isFixed_10 ?_
    refine x_goto (tgt := 15) C dX3_isFixed_11 (by decide) ?_
    exact x_zret C (by decide) h dX3_isFixed_15
set_option maxRecDepth 100000 in
set_option maxHeartbeats 4000000 in
theorem lp_X5_unfixedFrom_L2 {p : Program} {l : Launch} {e : Env} {s : State} {m : MethodId} {args : Array Value} {below : List Frame} {meth : Method} {c : Code} {D : va_G} {cy : Nat → ClassId} {ad : Nat → Int → Nat} (C : Cx p s m args meth c D cy ad (Ar ad) cX5_unfixedFrom 3 RX5 (some .int)) (Q : Int → Mm → Prop) : ∀ (x2 : Int) (M : Mm), wp_X5_unfixedFrom_L2 Q x2 M → iR x2 → Xj p l e rm_X5_unfixedFrom s m args below meth c D cy ad (Ar ad) (MQ below (QX D cy ad (rI Q)) args s 0 0 (Ar ad)) 3 0 0 2 [some (aR 4), none, some (aI x2)] [] M :=
  LP1.ind (P := fun x2 M => iR x2 → Xj p l e rm_X5_unfixedFrom s m args below meth c D cy ad (Ar ad) (MQ below (QX D cy ad (rI Q)) args s 0 0 (Ar ad)) 3 0 0 2 [some (aR 4), none, some (aI x2)] [] M) (fun R ih => by
    intro x2 M h r2
    unfold bc_X5_unfixedFrom_L2 at h
    refine x_iload_n C dX5_unfixedFrom_2 rfl ?_
    refine x_aload_n C dX5_unfixedFrom_3 rfl ?_
    refine x_getR C gf_RX5_19 ly_4 rfl (by decide) dX5_unfixedFrom_4 ?_
    refine x_rng (fun hR1 => ?_)
    refine x_getI C gf_RX5_48 ly_3 rfl rfl (by decide) dX5_unfixedFrom_7 ?_
    refine x_iconst C dX5_unfixedFrom_10 ?_
    refine x_isub C dX5_unfixedFrom_11 ?_
    obtain ⟨o1, h⟩ := h
    refine x_icmp_ge (tgt := 34) C r2 o1 dX5_unfixedFrom_12 (by decide) (fun q1 => ?_) (fun q1 => ?_)
    · have h := h.1 q1
      refine x_iload_n C dX5_unfixedFrom_34 rfl ?_
      exact x_iret C r2 h dX5_unfixedFrom_35
    · have h := h.2 q1
      refine x_aload_n C dX5_unfixedFrom_15 rfl ?_
      refine x_getR C gf_RX5_15 ly_4 rfl (by decide) dX5_unfixedFrom_16 ?_
      refine x_getR C gf_RX5_51 ly_1 rfl (by decide) dX5_unfixedFrom_19 ?_
      refine x_iload_n C dX5_unfixedFrom_22 rfl ?_
      obtain ⟨o2, h⟩ := h
      refine x_iald C ly_10 rfl (by decide) (by decide) o2 dX5_unfixedFrom_23 ?_
      refine x_iconst C dX5_unfixedFrom_24 ?_
      refine x_icmp_eq (tgt := 34) C (ka_gI hR1 ly_10 _) (by decide) dX5_unfixedFrom_25 (by decide) (fun q2 => ?_) (fun q2 => ?_)
      · have h := h.1 q2
        refine x_iload_n C dX5_unfixedFrom_34 rfl ?_
        exact x_iret C r2 h dX5_unfixedFrom_35
      · have h := h.2 q2
        refine x_iinc C dX5_unfixedFrom_28 rfl (Nat.le_of_ble_eq_true rfl) rfl ?_
        refine x_goto (tgt := 2) C dX5_unfixedFrom_31 (by decide) ?_
        obtain ⟨o3, h⟩ := h
        exact ih _ _ h o3)
set_option maxRecDepth 100000 in
set_option maxHeartbeats 4000000 in
theorem sd_X5_unfixedFrom (l : Launch) (D : va_G) (cy : Nat → ClassId) (ad : Nat → Int → Nat) (x1 : Int) (r1 : iR x1) (M : Mm) (Q : Int → Mm → Prop) (h : wp_X5_unfixedFrom x1 M Q) : Ct l D cy ad yX5_unfixedFrom cX5_unfixedFrom 3 (some .int) rm_X5_unfixedFrom [aR 4, aI x1] M (rI Q) := by
  refine ct_of (z := 1) (ls := [some (aR 4), some (aI x1), none]) (by decide) rfl (Nat.le_of_ble_eq_true rfl) ?_
  intro p e s m args below meth c C
  have C : Cx p s m args meth c D cy ad (Ar ad) cX5_unfixedFrom 3 RX5 (some .int) := C
  unfold wp_X5_unfixedFrom at h
  refine x_iload_n C dX5_unfixedFrom_0 rfl ?_
  refine x_istore_n C dX5_unfixedFrom_1 (Nat.le_of_ble_eq_true rfl) rfl ?_
  refine x_mask [true, false, true] rfl ?_
  refine lp_X5_unfixedFrom_L2 C Q _ _ h r1
set_option maxRecDepth 100000 in
set_option maxHeartbeats 4000000 in
theorem lp_X5_becomeFirst_L4 {p : Program} {l : Launch} {e : Env} {s : State} {m : MethodId} {args : Array Value} {below : List Frame} {meth : Method} {c : Code} {D : va_G} {cy : Nat → ClassId} {ad : Nat → Int → Nat} (C : Cx p s m args meth c D cy ad (Ar ad) cX5_becomeFirst 3 RX5 none) (Q : Mm → Prop) : ∀ (x1 : Int) (x2 : Int) (M : Mm), wp_X5_becomeFirst_L4 Q x1 x2 M → iR x1 → iR x2 → Xj p l e rm_X5_becomeFirst s m args below meth c D cy ad (Ar ad) (MQ below (QX D cy ad (rV Q)) args s 0 0 (Ar ad)) 3 0 0 4 [some (aR 4), some (aI x1), some (aI x2)] [] M :=
  LP2.ind (P := fun x1 x2 M => iR x1 → iR x2 → Xj p l e rm_X5_becomeFirst s m args below meth c D cy ad (Ar ad) (MQ below (QX D cy ad (rV Q)) args s 0 0 (Ar ad)) 3 0 0 4 [some (aR 4), some (aI x1), some (aI x2)] [] M) (fun R ih => by
    intro x1 x2 M h r1 r2
    unfold bc_X5_becomeFirst_L4 at h
    refine x_iload_n C dX5_becomeFirst_4 rfl ?_
    refine x_aload_n C dX5_becomeFirst_5 rfl ?_
    refine x_getR C gf_RX5_15 ly_4 rfl (by decide) dX5_becomeFirst_6 ?_
    refine x_rng (fun hR1 => ?_)
    refine x_getI C gf_RX5_27 ly_1 rfl rfl (by decide) dX5_becomeFirst_9 ?_
    refine x_icmp_ge (tgt := 66) C r2 (ka_fI hR1 ly_1 rfl) dX5_becomeFirst_12 (by decide) (fun q1 => ?_) (fun q1 => ?_)
    · have h := h.1 q1
      refine x_aload_n C dX5_becomeFirst_66 rfl ?_
      refine x_iconst C dX5_becomeFirst_67 ?_
      refine x_putZ C pf_RX5_33 ly_4 rfl rfl (by decide) (by decide) dX5_becomeFirst_68 ?_
      exact x_vret C h dX5_becomeFirst_71
    · have h := h.2 q1
      refine x_aload_n C dX5_becomeFirst_15 rfl ?_
      refine x_getR C gf_RX5_15 ly_4 rfl (by decide) dX5_becomeFirst_16 ?_
      refine x_iload_n C dX5_becomeFirst_19 rfl ?_
      refine x_callV (vs := [aI x2]) C cv_RX5_37 ly_1 rfl (by decide) ⟨rfl, rfl, Nat.le_of_ble_eq_true rfl, Nat.le_of_ble_eq_true rfl⟩ ⟨Nat.zero_le _, Nat.zero_le _⟩ rfl rfl (Nat.le_of_ble_eq_true rfl) dX5_becomeFirst_20 (sd_X3_isFixed l D cy ad x2 r2 M _ h) (fun _ M1 qz => ?_)
      obtain ⟨z1, rfl, rz1, h⟩ := qz
      refine x_if_eq (tgt := 44) C (ka_bi rz1) dX5_becomeFirst_23 (by decide) (fun q2 => ?_) (fun q2 => ?_)
      · have h := h.1 q2
        refine x_aload_n C dX5_becomeFirst_44 rfl ?_
        refine x_iload_n C dX5_becomeFirst_45 rfl ?_
        refine x_callV (vs := [aI x1]) C cv_RX5_44 ly_4 rfl (by decide) ⟨rfl, rfl, Nat.le_of_ble_eq_true rfl, Nat.le_of_ble_eq_true rfl⟩ ⟨Nat.zero_le _, Nat.zero_le _⟩ rfl rfl (Nat.le_of_ble_eq_true rfl) dX5_becomeFirst_46 (sd_X5_unfixedFrom l D cy ad x1 r1 M1 _ h) (fun _ M2 qz => ?_)
        obtain ⟨z2, rfl, rz2, h⟩ := qz
        refine x_istore_n C dX5_becomeFirst_49 (Nat.le_of_ble_eq_true rfl) rfl ?_
        refine x_aload_n C dX5_becomeFirst_50 rfl ?_
        refine x_getR C gf_RX5_9 ly_4 rfl (by decide) dX5_becomeFirst_51 ?_
        refine x_iload_n C dX5_becomeFirst_54 rfl ?_
        refine x_iload_n C dX5_becomeFirst_55 rfl ?_
        obtain ⟨o1, h⟩ := h
        refine x_iast C ly_19 rfl (by decide) (by decide) o1 rz2 dX5_becomeFirst_56 ?_
        refine x_iinc C dX5_becomeFirst_57 rfl (Nat.le_of_ble_eq_true rfl) rfl ?_
        refine x_iinc C dX5_becomeFirst_60 rfl (Nat.le_of_ble_eq_true rfl) rfl ?_
        refine x_goto (tgt := 4) C dX5_becomeFirst_63 (by decide) ?_
        obtain ⟨o2, h⟩ := h
        obtain ⟨o3, h⟩ := h
        exact ih _ _ _ h o2 o3
      · have h := h.2 q2
        refine x_aload_n C dX5_becomeFirst_26 rfl ?_
        refine x_getR C gf_RX5_9 ly_4 rfl (by decide) dX5_becomeFirst_27 ?_
        refine x_iload_n C dX5_becomeFirst_30 rfl ?_
        refine x_aload_n C dX5_becomeFirst_31 rfl ?_
        refine x_getR C gf_RX5_15 ly_4 rfl (by decide) dX5_becomeFirst_32 ?_
        refine x_getR C gf_RX5_41 ly_1 rfl (by decide) dX5_becomeFirst_35 ?_
        refine x_iload_n C dX5_becomeFirst_38 rfl ?_
        obtain ⟨o4, h⟩ := h
        refine x_rng (fun hR2 => ?_)
        refine x_iald C ly_9 rfl (by decide) (by decide) o4 dX5_becomeFirst_39 ?_
        obtain ⟨o5, h⟩ := h
        refine x_iast C ly_19 rfl (by decide) (by decide) o5 (ka_gI hR2 ly_9 _) dX5_becomeFirst_40 ?_
        refine x_goto (tgt := 60) C dX5_becomeFirst_41 (by decide) ?_
        refine x_iinc C dX5_becomeFirst_60 rfl (Nat.le_of_ble_eq_true rfl) rfl ?_
        refine x_goto (tgt := 4) C dX5_becomeFirst_63 (by decide) ?_
        obtain ⟨o6, h⟩ := h
        exact ih _ _ _ h r1 o6)
set_option maxRecDepth 100000 in
set_option maxHeartbeats 4000000 in
theorem sd_X5_becomeFirst (l : Launch) (D : va_G) (cy : Nat → ClassId) (ad : Nat → Int → Nat) (M : Mm) (Q : Mm → Prop) (h : wp_X5_becomeFirst M Q) : Ct l D cy ad yX5_becomeFirst cX5_becomeFirst 3 none rm_X5_becomeFirst [aR 4] M (rV Q) := by
  refine ct_of (z := 2) (ls := [some (aR 4), none, none]) (by decide) rfl (Nat.le_of_ble_eq_true rfl) ?_
  intro p e s m args below meth c C
  have C : Cx p s m args meth c D cy ad (Ar ad) cX5_becomeFirst 3 RX5 none := C
  unfold wp_X5_becomeFirst at h
  refine x_iconst C dX5_becomeFirst_0 ?_
  refine x_istore_n C dX5_becomeFirst_1 (Nat.le_of_ble_eq_true rfl) rfl ?_
  refine x_iconst C dX5_becomeFirst_2 ?_
  refine x_istore_n C dX5_becomeFirst_3 (Nat.le_of_ble_eq_true rfl) rfl ?_
  refine lp_X5_becomeFirst_L4 C Q _ _ _ h (by decide) (by decide)
set_option maxRecDepth 100000 in
set_option maxHeartbeats 4000000 in
theorem sd_X7_first (l : Launch) (D : va_G) (cy : Nat → ClassId) (ad : Nat → Int → Nat) (M : Mm) (Q : Int → Mm → Prop) (h : wp_X7_first M Q) : Ct l D cy ad yX7_first cX7_first 1 (some .int) rm_X7_first [aR 0] M (rI Q) := by
  refine ct_of (z := 0) (ls := [some (aR 0)]) (by decide) rfl (Nat.le_of_ble_eq_true rfl) ?_
  intro p e s m args below meth c C
  have C : Cx p s m args meth c D cy ad (Ar ad) cX7_first 1 RX7 (some .int) := C
  unfold wp_X7_first at h
  refine x_aload_n C dX7_first_0 rfl ?_
  refine x_callV (vs := []) C cv_RX7_128 ly_0 rfl (by decide) ⟨rfl, rfl, Nat.le_of_ble_eq_true rfl, Nat.le_of_ble_eq_true rfl⟩ ⟨Nat.zero_le _, Nat.zero_le _⟩ rfl rfl (Nat.le_of_ble_eq_true rfl) dX7_first_1 (sd_X7_tooFewKeys l D cy ad M _ h) (fun _ M1 qz => ?_)
  obtain ⟨z1, rfl, rz1, h⟩ := qz
  refine x_if_eq (tgt := 10) C (ka_bi rz1) dX7_first_4 (by decide) (fun q1 => ?_) (fun q1 => ?_)
  · have h := h.1 q1
    refine x_aload_n C dX7_first_10 rfl ?_
    refine x_getR C gf_RX7_39 ly_0 rfl (by decide) dX7_first_11 ?_
    refine x_callV (vs := []) C cv_RX7_132 ly_4 rfl (by decide) ⟨rfl, rfl, Nat.le_of_ble_eq_true rfl, Nat.le_of_ble_eq_true rfl⟩ ⟨Nat.zero_le _, Nat.zero_le _⟩ rfl rfl (Nat.le_of_ble_eq_true rfl) dX7_first_14 (sd_X5_becomeFirst l D cy ad M1 _ h) (fun _ M2 qz => ?_)
    obtain ⟨rfl, h⟩ := qz
    refine x_iconst C dX7_first_17 ?_
    exact x_iret C (by decide) h dX7_first_18
  · have h := h.2 q1
    refine x_bipush C dX7_first_7 rfl ?_
    exact x_iret C (by decide) h dX7_first_9
set_option maxRecDepth 100000 in
set_option maxHeartbeats 4000000 in
theorem lp_X8_mayBear_c38_L29 {p : Program} {l : Launch} {e : Env} {s : State} {m : MethodId} {args : Array Value} {below : List Frame} {meth : Method} {c : Code} {D : va_G} {cy : Nat → ClassId} {ad : Nat → Int → Nat} (C : Cx p s m args meth c D cy ad (Ar ad) cX8_mayBear 6 RX8 (some .boolean)) (x2 : Int) (x4 : Int) (r2 : iR x2) (r4 : iR x4) (Q : Int → Mm → Prop) : ∀ (x5 : Int) (M : Mm), wp_X8_mayBear_c38_L29 x2 x4 Q x5 M → iR x5 → Xj p l e rm_X8_mayBear_c38 s m args below meth c D cy ad (Ar ad) (MQ below (QX D cy ad (rZ Q)) args s 0 0 (Ar ad)) 6 0 0 29 [some (aR 8), none, some (aI x2), some (aR 38), some (aI x4), some (aI x5)] [] M :=
  LP1.ind (P := fun x5 M => iR x5 → Xj p l e rm_X8_mayBear_c38 s m args below meth c D cy ad (Ar ad) (MQ below (QX D cy ad (rZ Q)) args s 0 0 (Ar ad)) 6 0 0 29 [some (aR 8), none, some (aI x2), some (aR 38), some (aI x4), some (aI x5)] [] M) (fun R ih => by
    intro x5 M h r5
    unfold bc_X8_mayBear_c38_L29 at h
    refine x_iload C dX8_mayBear_29 rfl ?_
    refine x_aload_n C dX8_mayBear_31 rfl ?_
    refine x_rng (fun hR1 => ?_)
    refine x_getI C gf_RX8_7 ly_8 rfl rfl (by decide) dX8_mayBear_32 ?_
    refine x_icmp_ge (tgt := 72) C r5 (ka_fI hR1 ly_8 rfl) dX8_mayBear_35 (by decide) (fun q1 => ?_) (fun q1 => ?_)
    · have h := h.1 q1
      refine x_iconst C dX8_mayBear_72 ?_
      exact x_zret C (by decide) h dX8_mayBear_73
    · have h := h.2 q1
      refine x_aload_n C dX8_mayBear_38 rfl ?_
      refine x_getR C gf_RX8_36 ly_8 rfl (by decide) dX8_mayBear_39 ?_
      refine x_iload C dX8_mayBear_42 rfl ?_
      obtain ⟨o1, h⟩ := h
      refine x_iald C ly_37 rfl (by decide) (by decide) o1 dX8_mayBear_44 ?_
      refine x_iload_n C dX8_mayBear_45 rfl ?_
      refine x_icmp_eq (tgt := 64) C (ka_gI hR1 ly_37 _) r2 dX8_mayBear_46 (by decide) (fun q2 => ?_) (fun q2 => ?_)
      · have h := h.1 q2
        refine x_iconst C dX8_mayBear_64 ?_
        exact x_zret C (by decide) h dX8_mayBear_65
      · have h := h.2 q2
        refine x_iload C dX8_mayBear_49 rfl ?_
        refine x_iload C dX8_mayBear_51 rfl ?_
        refine x_icmp_ge (tgt := 66) C r5 r4 dX8_mayBear_53 (by decide) (fun q3 => ?_) (fun q3 => ?_)
        · have h := h.1 q3
          refine x_iinc C dX8_mayBear_66 rfl (Nat.le_of_ble_eq_true rfl) rfl ?_
          refine x_goto (tgt := 29) C dX8_mayBear_69 (by decide) ?_
          obtain ⟨o2, h⟩ := h
          exact ih _ _ h o2
        · have h := h.2 q3
          refine x_aload_n C dX8_mayBear_56 rfl ?_
          refine x_iload C dX8_mayBear_57 rfl ?_
          obtain ⟨o3, h⟩ := h
          refine x_iald C ly_38 rfl (by decide) (by decide) o3 dX8_mayBear_59 ?_
          refine x_iload_n C dX8_mayBear_60 rfl ?_
          refine x_icmp_ne (tgt := 66) C (ka_gI hR1 ly_38 _) r2 dX8_mayBear_61 (by decide) (fun q4 => ?_) (fun q4 => ?_)
          · have h := h.1 q4
            refine x_iinc C dX8_mayBear_66 rfl (Nat.le_of_ble_eq_true rfl) rfl ?_
            refine x_goto (tgt := 29) C dX8_mayBear_69 (by decide) ?_
            obtain ⟨o4, h⟩ := h
            exact ih _ _ h o4
          · have h := h.2 q4
            refine x_iconst C dX8_mayBear_64 ?_
            exact x_zret C (by decide) h dX8_mayBear_65)
set_option maxRecDepth 100000 in
set_option maxHeartbeats 4000000 in
theorem sd_X8_mayBear_c38 (l : Launch) (D : va_G) (cy : Nat → ClassId) (ad : Nat → Int → Nat) (x1 : Int) (x2 : Int) (x4 : Int) (r1 : iR x1) (r2 : iR x2) (r4 : iR x4) (M : Mm) (Q : Int → Mm → Prop) (h : wp_X8_mayBear_c38 x1 x2 x4 M Q) : Ct l D cy ad yX8_mayBear cX8_mayBear 6 (some .boolean) rm_X8_mayBear_c38 [aR 8, aI x1, aI x2, aR 38, aI x4] M (rZ Q) := by
  refine ct_of (z := 1) (ls := [some (aR 8), some (aI x1), some (aI x2), some (aR 38), some (aI x4), none]) (by decide) rfl (Nat.le_of_ble_eq_true rfl) ?_
  intro p e s m args below meth c C
  have C : Cx p s m args meth c D cy ad (Ar ad) cX8_mayBear 6 RX8 (some .boolean) := C
  unfold wp_X8_mayBear_c38 at h
  refine x_aload_n C dX8_mayBear_0 rfl ?_
  refine x_getR C gf_RX8_36 ly_8 rfl (by decide) dX8_mayBear_1 ?_
  refine x_iload_n C dX8_mayBear_4 rfl ?_
  obtain ⟨o1, h⟩ := h
  refine x_rng (fun hR1 => ?_)
  refine x_iald C ly_37 rfl (by decide) (by decide) o1 dX8_mayBear_5 ?_
  refine x_iconst C dX8_mayBear_6 ?_
  refine x_icmp_eq (tgt := 26) C (ka_gI hR1 ly_37 _) (by decide) dX8_mayBear_7 (by decide) (fun q1 => ?_) (fun q1 => ?_)
  · have h := h.1 q1
    refine x_iconst C dX8_mayBear_26 ?_
    refine x_istore C dX8_mayBear_27 (Nat.le_of_ble_eq_true rfl) rfl ?_
    refine x_mask [true, false, true, true, true, true] rfl ?_
    refine lp_X8_mayBear_c38_L29 C x2 x4 r2 r4 Q _ _ h (by decide)
  · have h := h.2 q1
    refine x_aload_n C dX8_mayBear_10 rfl ?_
    refine x_getR C gf_RX8_36 ly_8 rfl (by decide) dX8_mayBear_11 ?_
    refine x_iload_n C dX8_mayBear_14 rfl ?_
    obtain ⟨o2, h⟩ := h
    refine x_iald C ly_37 rfl (by decide) (by decide) o2 dX8_mayBear_15 ?_
    refine x_iload_n C dX8_mayBear_16 rfl ?_
    refine x_icmp_ne (tgt := 24) C (ka_gI hR1 ly_37 _) r2 dX8_mayBear_17 (by decide) (fun q2 => ?_) (fun q2 => ?_)
    · have h := h.1 q2
      refine x_iconst C dX8_mayBear_24 ?_
      exact x_zret C (by decide) h dX8_mayBear_25
    · have h := h.2 q2
      refine x_iconst C dX8_mayBear_20 ?_
      refine x_goto (tgt := 25) C dX8_mayBear_21 (by decide) ?_
      exact x_zret C (by decide) h dX8_mayBear_25
set_option maxRecDepth 100000 in
set_option maxHeartbeats 4000000 in
theorem lp_X8_first_L26 {p : Program} {l : Launch} {e : Env} {s : State} {m : MethodId} {args : Array Value} {below : List Frame} {meth : Method} {c : Code} {D : va_G} {cy : Nat → ClassId} {ad : Nat → Int → Nat} (C : Cx p s m args meth c D cy ad (Ar ad) cX8_first 3 RX8 (some .int)) (x1 : Int) (r1 : iR x1) (Q : Int → Mm → Prop) (K46 : Int → Mm → Prop) (k46 : ∀ (x2 : Int) (M : Mm), iR x2 → K46 x2 M → Xj p l e rm_X8_first s m args below meth c D cy ad (Ar ad) (MQ below (QX D cy ad (rI Q)) args s 0 0 (Ar ad)) 3 0 0 46 [some (aR 8), some (aI x1), some (aI x2)] [] M) : ∀ (x2 : Int) (M : Mm), wp_X8_first_L26 x1 Q K46 x2 M → iR x2 → Xj p l e rm_X8_first s m args below meth c D cy ad (Ar ad) (MQ below (QX D cy ad (rI Q)) args s 0 0 (Ar ad)) 3 0 0 26 [some (aR 8), some (aI x1), some (aI x2)] [] M :=
  LP1.ind (P := fun x2 M => iR x2 → Xj p l e rm_X8_first s m args below meth c D cy ad (Ar ad) (MQ below (QX D cy ad (rI Q)) args s 0 0 (Ar ad)) 3 0 0 26 [some (aR 8), some (aI x1), some (aI x2)] [] M) (fun R ih => by
    intro x2 M h r2
    unfold bc_X8_first_L26 at h
    refine x_aload_n C dX8_first_26 rfl ?_
    refine x_iload_n C dX8_first_27 rfl ?_
    refine x_iload_n C dX8_first_28 rfl ?_
    refine x_aload_n C dX8_first_29 rfl ?_
    refine x_getR C gf_RX8_39 ly_8 rfl (by decide) dX8_first_30 ?_
    refine x_iload_n C dX8_first_33 rfl ?_
    refine x_callV (vs := [aI x1, aI x2, aR 38, aI x1]) C cv_RX8_110 ly_8 rfl (by decide) ⟨rfl, rfl, Nat.le_of_ble_eq_true rfl, Nat.le_of_ble_eq_true rfl⟩ ⟨Nat.zero_le _, Nat.zero_le _⟩ rfl rfl (Nat.le_of_ble_eq_true rfl) dX8_first_34 (sd_X8_mayBear_c38 l D cy ad x1 x2 x1 r1 r2 r1 M _ h) (fun _ M1 qz => ?_)
    obtain ⟨z1, rfl, rz1, h⟩ := qz
    refine x_if_ne (tgt := 46) C (ka_bi rz1) dX8_first_37 (by decide) (fun q1 => ?_) (fun q1 => ?_)
    · have h := h.1 q1
      exact k46 _ _ r2 h
    · have h := h.2 q1
      refine x_iinc C dX8_first_40 rfl (Nat.le_of_ble_eq_true rfl) rfl ?_
      refine x_goto (tgt := 26) C dX8_first_43 (by decide) ?_
      obtain ⟨o1, h⟩ := h
      exact ih _ _ h o1)
set_option maxRecDepth 100000 in
set_option maxHeartbeats 4000000 in
theorem lp_X8_first_L16 {p : Program} {l : Launch} {e : Env} {s : State} {m : MethodId} {args : Array Value} {below : List Frame} {meth : Method} {c : Code} {D : va_G} {cy : Nat → ClassId} {ad : Nat → Int → Nat} (C : Cx p s m args meth c D cy ad (Ar ad) cX8_first 3 RX8 (some .int)) (Q : Int → Mm → Prop) : ∀ (x1 : Int) (M : Mm), wp_X8_first_L16 Q x1 M → iR x1 → Xj p l e rm_X8_first s m args below meth c D cy ad (Ar ad) (MQ below (QX D cy ad (rI Q)) args s 0 0 (Ar ad)) 3 0 0 16 [some (aR 8), some (aI x1), none] [] M :=
  LP1.ind (P := fun x1 M => iR x1 → Xj p l e rm_X8_first s m args below meth c D cy ad (Ar ad) (MQ below (QX D cy ad (rI Q)) args s 0 0 (Ar ad)) 3 0 0 16 [some (aR 8), some (aI x1), none] [] M) (fun R ih => by
    intro x1 M h r1
    unfold bc_X8_first_L16 at h
    refine x_iload_n C dX8_first_16 rfl ?_
    refine x_aload_n C dX8_first_17 rfl ?_
    refine x_rng (fun hR1 => ?_)
    refine x_getI C gf_RX8_7 ly_8 rfl rfl (by decide) dX8_first_18 ?_
    refine x_icmp_ge (tgt := 59) C r1 (ka_fI hR1 ly_8 rfl) dX8_first_21 (by decide) (fun q1 => ?_) (fun q1 => ?_)
    · have h := h.1 q1
      refine x_aload_n C dX8_first_59 rfl ?_
      refine x_iconst C dX8_first_60 ?_
      refine x_putZ C pf_RX8_83 ly_8 rfl rfl (by decide) (by decide) dX8_first_61 ?_
      refine x_iconst C dX8_first_64 ?_
      exact x_iret C (by decide) h dX8_first_65
    · have h := h.2 q1
      refine x_iconst C dX8_first_24 ?_
      refine x_istore_n C dX8_first_25 (Nat.le_of_ble_eq_true rfl) rfl ?_
      refine lp_X8_first_L26 C x1 r1 Q _ (fun y2_1 M1 ryy2_1 h => ?_) _ _ h (by decide)
      · refine x_aload_n C dX8_first_46 rfl ?_
        refine x_getR C gf_RX8_39 ly_8 rfl (by decide) dX8_first_47 ?_
        refine x_iload_n C dX8_first_50 rfl ?_
        refine x_iload_n C dX8_first_51 rfl ?_
        obtain ⟨o1, h⟩ := h
        refine x_iast C ly_38 rfl (by decide) (by decide) o1 ryy2_1 dX8_first_52 ?_
        refine x_iinc C dX8_first_53 rfl (Nat.le_of_ble_eq_true rfl) rfl ?_
        refine x_goto (tgt := 16) C dX8_first_56 (by decide) ?_
        obtain ⟨o2, h⟩ := h
        refine x_mask [true, true, false] rfl ?_
        exact ih _ _ h o2)
set_option maxRecDepth 100000 in
set_option maxHeartbeats 4000000 in
theorem sd_X8_first (l : Launch) (D : va_G) (cy : Nat → ClassId) (ad : Nat → Int → Nat) (M : Mm) (Q : Int → Mm → Prop) (h : wp_X8_first M Q) : Ct l D cy ad yX8_first cX8_first 3 (some .int) rm_X8_first [aR 8] M (rI Q) := by
  refine ct_of (z := 2) (ls := [some (aR 8), none, none]) (by decide) rfl (Nat.le_of_ble_eq_true rfl) ?_
  intro p e s m args below meth c C
  have C : Cx p s m args meth c D cy ad (Ar ad) cX8_first 3 RX8 (some .int) := C
  unfold wp_X8_first at h
  refine x_aload_n C dX8_first_0 rfl ?_
  refine x_rng (fun hR1 => ?_)
  refine x_getI C gf_RX8_80 ly_8 rfl rfl (by decide) dX8_first_1 ?_
  refine x_aload_n C dX8_first_4 rfl ?_
  refine x_getI C gf_RX8_7 ly_8 rfl rfl (by decide) dX8_first_5 ?_
  refine x_icmp_ge (tgt := 14) C (ka_fI hR1 ly_8 rfl) (ka_fI hR1 ly_8 rfl) dX8_first_8 (by decide) (fun q1 => ?_) (fun q1 => ?_)
  · have h := h.1 q1
    refine x_iconst C dX8_first_14 ?_
    refine x_istore_n C dX8_first_15 (Nat.le_of_ble_eq_true rfl) rfl ?_
    refine lp_X8_first_L16 C Q _ _ h (by decide)
  · have h := h.2 q1
    refine x_bipush C dX8_first_11 rfl ?_
    exact x_iret C (by decide) h dX8_first_13
set_option maxRecDepth 100000 in
set_option maxHeartbeats 4000000 in
theorem lp_X5_letterOn_L2 {p : Program} {l : Launch} {e : Env} {s : State} {m : MethodId} {args : Array Value} {below : List Frame} {meth : Method} {c : Code} {D : va_G} {cy : Nat → ClassId} {ad : Nat → Int → Nat} (C : Cx p s m args meth c D cy ad (Ar ad) cX5_letterOn 3 RX5 (some .int)) (x1 : Int) (r1 : iR x1) (Q : Int → Mm → Prop) : ∀ (x2 : Int) (M : Mm), wp_X5_letterOn_L2 x1 Q x2 M → iR x2 → Xj p l e rm_X5_letterOn s m args below meth c D cy ad (Ar ad) (MQ below (QX D cy ad (rI Q)) args s 0 0 (Ar ad)) 3 0 0 2 [some (aR 4), some (aI x1), some (aI x2)] [] M :=
  LP1.ind (P := fun x2 M => iR x2 → Xj p l e rm_X5_letterOn s m args below meth c D cy ad (Ar ad) (MQ below (QX D cy ad (rI Q)) args s 0 0 (Ar ad)) 3 0 0 2 [some (aR 4), some (aI x1), some (aI x2)] [] M) (fun R ih => by
    intro x2 M h r2
    unfold bc_X5_letterOn_L2 at h
    refine x_iload_n C dX5_letterOn_2 rfl ?_
    refine x_aload_n C dX5_letterOn_3 rfl ?_
    refine x_getR C gf_RX5_15 ly_4 rfl (by decide) dX5_letterOn_4 ?_
    refine x_rng (fun hR1 => ?_)
    refine x_getI C gf_RX5_27 ly_1 rfl rfl (by decide) dX5_letterOn_7 ?_
    refine x_icmp_ge (tgt := 31) C r2 (ka_fI hR1 ly_1 rfl) dX5_letterOn_10 (by decide) (fun q1 => ?_) (fun q1 => ?_)
    · have h := h.1 q1
      refine x_iconst C dX5_letterOn_31 ?_
      exact x_iret C (by decide) h dX5_letterOn_32
    · have h := h.2 q1
      refine x_aload_n C dX5_letterOn_13 rfl ?_
      refine x_getR C gf_RX5_9 ly_4 rfl (by decide) dX5_letterOn_14 ?_
      refine x_iload_n C dX5_letterOn_17 rfl ?_
      obtain ⟨o1, h⟩ := h
      refine x_iald C ly_19 rfl (by decide) (by decide) o1 dX5_letterOn_18 ?_
      refine x_iload_n C dX5_letterOn_19 rfl ?_
      refine x_icmp_ne (tgt := 25) C (ka_gI hR1 ly_19 _) r1 dX5_letterOn_20 (by decide) (fun q2 => ?_) (fun q2 => ?_)
      · have h := h.1 q2
        refine x_iinc C dX5_letterOn_25 rfl (Nat.le_of_ble_eq_true rfl) rfl ?_
        refine x_goto (tgt := 2) C dX5_letterOn_28 (by decide) ?_
        obtain ⟨o2, h⟩ := h
        exact ih _ _ h o2
      · have h := h.2 q2
        refine x_iload_n C dX5_letterOn_23 rfl ?_
        exact x_iret C r2 h dX5_letterOn_24)
set_option maxRecDepth 100000 in
set_option maxHeartbeats 4000000 in
theorem sd_X5_letterOn (l : Launch) (D : va_G) (cy : Nat → ClassId) (ad : Nat → Int → Nat) (x1 : Int) (r1 : iR x1) (M : Mm) (Q : Int → Mm → Prop) (h : wp_X5_letterOn x1 M Q) : Ct l D cy ad yX5_letterOn cX5_letterOn 3 (some .int) rm_X5_letterOn [aR 4, aI x1] M (rI Q) := by
  refine ct_of (z := 1) (ls := [some (aR 4), some (aI x1), none]) (by decide) rfl (Nat.le_of_ble_eq_true rfl) ?_
  intro p e s m args below meth c C
  have C : Cx p s m args meth c D cy ad (Ar ad) cX5_letterOn 3 RX5 (some .int) := C
  unfold wp_X5_letterOn at h
  refine x_iconst C dX5_letterOn_0 ?_
  refine x_istore_n C dX5_letterOn_1 (Nat.le_of_ble_eq_true rfl) rfl ?_
  refine lp_X5_letterOn_L2 C x1 r1 Q _ _ h (by decide)
set_option maxRecDepth 100000 in
set_option maxHeartbeats 4000000 in
theorem sd_X5_move (l : Launch) (D : va_G) (cy : Nat → ClassId) (ad : Nat → Int → Nat) (x1 : Int) (x2 : Int) (r1 : iR x1) (r2 : iR x2) (M : Mm) (Q : Mm → Prop) (h : wp_X5_move x1 x2 M Q) : Ct l D cy ad yX5_move cX5_move 4 none rm_X5_move [aR 4, aI x1, aI x2] M (rV Q) := by
  refine ct_of (z := 1) (ls := [some (aR 4), some (aI x1), some (aI x2), none]) (by decide) rfl (Nat.le_of_ble_eq_true rfl) ?_
  intro p e s m args below meth c C
  have C : Cx p s m args meth c D cy ad (Ar ad) cX5_move 4 RX5 none := C
  unfold wp_X5_move at h
  refine x_aload_n C dX5_move_0 rfl ?_
  refine x_iload_n C dX5_move_1 rfl ?_
  refine x_callV (vs := [aI x2]) C cv_RX5_54 ly_4 rfl (by decide) ⟨rfl, rfl, Nat.le_of_ble_eq_true rfl, Nat.le_of_ble_eq_true rfl⟩ ⟨Nat.zero_le _, Nat.zero_le _⟩ rfl rfl (Nat.le_of_ble_eq_true rfl) dX5_move_2 (sd_X5_letterOn l D cy ad x2 r2 M _ h) (fun _ M1 qz => ?_)
  obtain ⟨z1, rfl, rz1, h⟩ := qz
  refine x_istore_n C dX5_move_5 (Nat.le_of_ble_eq_true rfl) rfl ?_
  refine x_iload_n C dX5_move_6 rfl ?_
  refine x_iconst C dX5_move_7 ?_
  refine x_icmp_eq (tgt := 23) C rz1 (by decide) dX5_move_8 (by decide) (fun q1 => ?_) (fun q1 => ?_)
  · have h := h.1 q1
    refine x_aload_n C dX5_move_23 rfl ?_
    refine x_getR C gf_RX5_9 ly_4 rfl (by decide) dX5_move_24 ?_
    refine x_iload_n C dX5_move_27 rfl ?_
    refine x_iload_n C dX5_move_28 rfl ?_
    obtain ⟨o1, h⟩ := h
    refine x_iast C ly_19 rfl (by decide) (by decide) o1 r2 dX5_move_29 ?_
    exact x_vret C h dX5_move_30
  · have h := h.2 q1
    refine x_aload_n C dX5_move_11 rfl ?_
    refine x_getR C gf_RX5_9 ly_4 rfl (by decide) dX5_move_12 ?_
    refine x_iload_n C dX5_move_15 rfl ?_
    refine x_aload_n C dX5_move_16 rfl ?_
    refine x_getR C gf_RX5_9 ly_4 rfl (by decide) dX5_move_17 ?_
    refine x_iload_n C dX5_move_20 rfl ?_
    obtain ⟨o2, h⟩ := h
    refine x_rng (fun hR1 => ?_)
    refine x_iald C ly_19 rfl (by decide) (by decide) o2 dX5_move_21 ?_
    obtain ⟨o3, h⟩ := h
    refine x_iast C ly_19 rfl (by decide) (by decide) o3 (ka_gI hR1 ly_19 _) dX5_move_22 ?_
    refine x_aload_n C dX5_move_23 rfl ?_
    refine x_getR C gf_RX5_9 ly_4 rfl (by decide) dX5_move_24 ?_
    refine x_iload_n C dX5_move_27 rfl ?_
    refine x_iload_n C dX5_move_28 rfl ?_
    obtain ⟨o4, h⟩ := h
    refine x_iast C ly_19 rfl (by decide) (by decide) o4 r2 dX5_move_29 ?_
    exact x_vret C h dX5_move_30
set_option maxRecDepth 100000 in
set_option maxHeartbeats 4000000 in
theorem sd_X7_put (l : Launch) (D : va_G) (cy : Nat → ClassId) (ad : Nat → Int → Nat) (x1 : Int) (x2 : Int) (r1 : iR x1) (r2 : iR x2) (M : Mm) (Q : Int → Mm → Prop) (h : wp_X7_put x1 x2 M Q) : Ct l D cy ad yX7_put cX7_put 3 (some .int) rm_X7_put [aR 0, aI x1, aI x2] M (rI Q) := by
  refine ct_of (z := 0) (ls := [some (aR 0), some (aI x1), some (aI x2)]) (by decide) rfl (Nat.le_of_ble_eq_true rfl) ?_
  intro p e s m args below meth c C
  have C : Cx p s m args meth c D cy ad (Ar ad) cX7_put 3 RX7 (some .int) := C
  unfold wp_X7_put at h
  refine x_aload_n C dX7_put_0 rfl ?_
  refine x_getR C gf_RX7_10 ly_0 rfl (by decide) dX7_put_1 ?_
  refine x_iload_n C dX7_put_4 rfl ?_
  refine x_callV (vs := [aI x1]) C cv_RX7_96 ly_1 rfl (by decide) ⟨rfl, rfl, Nat.le_of_ble_eq_true rfl, Nat.le_of_ble_eq_true rfl⟩ ⟨Nat.zero_le _, Nat.zero_le _⟩ rfl rfl (Nat.le_of_ble_eq_true rfl) dX7_put_5 (sd_X3_has l D cy ad x1 r1 M _ h) (fun _ M1 qz => ?_)
  obtain ⟨z1, rfl, rz1, h⟩ := qz
  refine x_if_eq (tgt := 22) C (ka_bi rz1) dX7_put_8 (by decide) (fun q1 => ?_) (fun q1 => ?_)
  · have h := h.1 q1
    refine x_bipush C dX7_put_22 rfl ?_
    exact x_iret C (by decide) h dX7_put_24
  · have h := h.2 q1
    refine x_aload_n C dX7_put_11 rfl ?_
    refine x_getR C gf_RX7_26 ly_0 rfl (by decide) dX7_put_12 ?_
    refine x_iload_n C dX7_put_15 rfl ?_
    refine x_callV (vs := [aI x2]) C cv_RX7_104 ly_3 rfl (by decide) ⟨rfl, rfl, Nat.le_of_ble_eq_true rfl, Nat.le_of_ble_eq_true rfl⟩ ⟨Nat.zero_le _, Nat.zero_le _⟩ rfl rfl (Nat.le_of_ble_eq_true rfl) dX7_put_16 (sd_X2_has l D cy ad x2 r2 M1 _ h) (fun _ M2 qz => ?_)
    obtain ⟨z2, rfl, rz2, h⟩ := qz
    refine x_if_ne (tgt := 25) C (ka_bi rz2) dX7_put_19 (by decide) (fun q2 => ?_) (fun q2 => ?_)
    · have h := h.1 q2
      refine x_aload_n C dX7_put_25 rfl ?_
      refine x_getR C gf_RX7_39 ly_0 rfl (by decide) dX7_put_26 ?_
      refine x_rng (fun hR1 => ?_)
      refine x_getZ C gf_RX7_74 ly_4 rfl rfl (by decide) dX7_put_29 ?_
      refine x_if_eq (tgt := 59) C (ka_bi (ka_fZ hR1 ly_4 rfl)) dX7_put_32 (by decide) (fun q3 => ?_) (fun q3 => ?_)
      · have h := h.1 q3
        refine x_bipush C dX7_put_59 rfl ?_
        exact x_iret C (by decide) h dX7_put_61
      · have h := h.2 q3
        refine x_aload_n C dX7_put_35 rfl ?_
        refine x_getR C gf_RX7_10 ly_0 rfl (by decide) dX7_put_36 ?_
        refine x_iload_n C dX7_put_39 rfl ?_
        refine x_callV (vs := [aI x1]) C cv_RX7_135 ly_1 rfl (by decide) ⟨rfl, rfl, Nat.le_of_ble_eq_true rfl, Nat.le_of_ble_eq_true rfl⟩ ⟨Nat.zero_le _, Nat.zero_le _⟩ rfl rfl (Nat.le_of_ble_eq_true rfl) dX7_put_40 (sd_X3_isFixed l D cy ad x1 r1 M2 _ h) (fun _ M3 qz => ?_)
        obtain ⟨z3, rfl, rz3, h⟩ := qz
        refine x_if_ne (tgt := 59) C (ka_bi rz3) dX7_put_43 (by decide) (fun q4 => ?_) (fun q4 => ?_)
        · have h := h.1 q4
          refine x_bipush C dX7_put_59 rfl ?_
          exact x_iret C (by decide) h dX7_put_61
        · have h := h.2 q4
          refine x_aload_n C dX7_put_46 rfl ?_
          refine x_getR C gf_RX7_10 ly_0 rfl (by decide) dX7_put_47 ?_
          refine x_getR C gf_RX7_138 ly_1 rfl (by decide) dX7_put_50 ?_
          refine x_iload_n C dX7_put_53 rfl ?_
          obtain ⟨o1, h⟩ := h
          refine x_rng (fun hR2 => ?_)
          refine x_iald C ly_10 rfl (by decide) (by decide) o1 dX7_put_54 ?_
          refine x_iconst C dX7_put_55 ?_
          refine x_icmp_eq (tgt := 62) C (ka_gI hR2 ly_10 _) (by decide) dX7_put_56 (by decide) (fun q5 => ?_) (fun q5 => ?_)
          · have h := h.1 q5
            refine x_aload_n C dX7_put_62 rfl ?_
            refine x_getR C gf_RX7_39 ly_0 rfl (by decide) dX7_put_63 ?_
            refine x_iload_n C dX7_put_66 rfl ?_
            refine x_iload_n C dX7_put_67 rfl ?_
            refine x_callV (vs := [aI x1, aI x2]) C cv_RX7_141 ly_4 rfl (by decide) ⟨rfl, rfl, Nat.le_of_ble_eq_true rfl, Nat.le_of_ble_eq_true rfl⟩ ⟨Nat.zero_le _, Nat.zero_le _⟩ rfl rfl (Nat.le_of_ble_eq_true rfl) dX7_put_68 (sd_X5_move l D cy ad x1 x2 r1 r2 M3 _ h) (fun _ M4 qz => ?_)
            obtain ⟨rfl, h⟩ := qz
            refine x_iconst C dX7_put_71 ?_
            exact x_iret C (by decide) h dX7_put_72
          · have h := h.2 q5
            refine x_bipush C dX7_put_59 rfl ?_
            exact x_iret C (by decide) h dX7_put_61
    · have h := h.2 q2
      refine x_bipush C dX7_put_22 rfl ?_
      exact x_iret C (by decide) h dX7_put_24
set_option maxRecDepth 100000 in
set_option maxHeartbeats 4000000 in
theorem lp_X8_borne_L2 {p : Program} {l : Launch} {e : Env} {s : State} {m : MethodId} {args : Array Value} {below : List Frame} {meth : Method} {c : Code} {D : va_G} {cy : Nat → ClassId} {ad : Nat → Int → Nat} (C : Cx p s m args meth c D cy ad (Ar ad) cX8_borne 3 RX8 (some .int)) (x1 : Int) (r1 : iR x1) (Q : Int → Mm → Prop) : ∀ (x2 : Int) (M : Mm), wp_X8_borne_L2 x1 Q x2 M → iR x2 → Xj p l e rm_X8_borne s m args below meth c D cy ad (Ar ad) (MQ below (QX D cy ad (rI Q)) args s 0 0 (Ar ad)) 3 0 0 2 [some (aR 8), some (aI x1), some (aI x2)] [] M :=
  LP1.ind (P := fun x2 M => iR x2 → Xj p l e rm_X8_borne s m args below meth c D cy ad (Ar ad) (MQ below (QX D cy ad (rI Q)) args s 0 0 (Ar ad)) 3 0 0 2 [some (aR 8), some (aI x1), some (aI x2)] [] M) (fun R ih => by
    intro x2 M h r2
    unfold bc_X8_borne_L2 at h
    refine x_iload_n C dX8_borne_2 rfl ?_
    refine x_aload_n C dX8_borne_3 rfl ?_
    refine x_rng (fun hR1 => ?_)
    refine x_getI C gf_RX8_7 ly_8 rfl rfl (by decide) dX8_borne_4 ?_
    refine x_icmp_ge (tgt := 28) C r2 (ka_fI hR1 ly_8 rfl) dX8_borne_7 (by decide) (fun q1 => ?_) (fun q1 => ?_)
    · have h := h.1 q1
      refine x_iconst C dX8_borne_28 ?_
      exact x_iret C (by decide) h dX8_borne_29
    · have h := h.2 q1
      refine x_aload_n C dX8_borne_10 rfl ?_
      refine x_getR C gf_RX8_39 ly_8 rfl (by decide) dX8_borne_11 ?_
      refine x_iload_n C dX8_borne_14 rfl ?_
      obtain ⟨o1, h⟩ := h
      refine x_iald C ly_38 rfl (by decide) (by decide) o1 dX8_borne_15 ?_
      refine x_iload_n C dX8_borne_16 rfl ?_
      refine x_icmp_ne (tgt := 22) C (ka_gI hR1 ly_38 _) r1 dX8_borne_17 (by decide) (fun q2 => ?_) (fun q2 => ?_)
      · have h := h.1 q2
        refine x_iinc C dX8_borne_22 rfl (Nat.le_of_ble_eq_true rfl) rfl ?_
        refine x_goto (tgt := 2) C dX8_borne_25 (by decide) ?_
        obtain ⟨o2, h⟩ := h
        exact ih _ _ h o2
      · have h := h.2 q2
        refine x_iload_n C dX8_borne_20 rfl ?_
        exact x_iret C r2 h dX8_borne_21)
set_option maxRecDepth 100000 in
set_option maxHeartbeats 4000000 in
theorem sd_X8_borne (l : Launch) (D : va_G) (cy : Nat → ClassId) (ad : Nat → Int → Nat) (x1 : Int) (r1 : iR x1) (M : Mm) (Q : Int → Mm → Prop) (h : wp_X8_borne x1 M Q) : Ct l D cy ad yX8_borne cX8_borne 3 (some .int) rm_X8_borne [aR 8, aI x1] M (rI Q) := by
  refine ct_of (z := 1) (ls := [some (aR 8), some (aI x1), none]) (by decide) rfl (Nat.le_of_ble_eq_true rfl) ?_
  intro p e s m args below meth c C
  have C : Cx p s m args meth c D cy ad (Ar ad) cX8_borne 3 RX8 (some .int) := C
  unfold wp_X8_borne at h
  refine x_iconst C dX8_borne_0 ?_
  refine x_istore_n C dX8_borne_1 (Nat.le_of_ble_eq_true rfl) rfl ?_
  refine lp_X8_borne_L2 C x1 r1 Q _ _ h (by decide)
set_option maxRecDepth 100000 in
set_option maxHeartbeats 4000000 in
theorem sd_X8_put (l : Launch) (D : va_G) (cy : Nat → ClassId) (ad : Nat → Int → Nat) (x1 : Int) (x2 : Int) (r1 : iR x1) (r2 : iR x2) (M : Mm) (Q : Int → Mm → Prop) (h : wp_X8_put x1 x2 M Q) : Ct l D cy ad yX8_put cX8_put 4 (some .int) rm_X8_put [aR 8, aI x1, aI x2] M (rI Q) := by
  refine ct_of (z := 1) (ls := [some (aR 8), some (aI x1), some (aI x2), none]) (by decide) rfl (Nat.le_of_ble_eq_true rfl) ?_
  intro p e s m args below meth c C
  have C : Cx p s m args meth c D cy ad (Ar ad) cX8_put 4 RX8 (some .int) := C
  unfold wp_X8_put at h
  refine x_aload_n C dX8_put_0 rfl ?_
  refine x_iload_n C dX8_put_1 rfl ?_
  refine x_callV (vs := [aI x1]) C cv_RX8_93 ly_8 rfl (by decide) ⟨rfl, rfl, Nat.le_of_ble_eq_true rfl, Nat.le_of_ble_eq_true rfl⟩ ⟨Nat.zero_le _, Nat.zero_le _⟩ rfl rfl (Nat.le_of_ble_eq_true rfl) dX8_put_2 (sd_X8_isLetter l D cy ad x1 r1 M _ h) (fun _ M1 qz => ?_)
  obtain ⟨z1, rfl, rz1, h⟩ := qz
  refine x_if_eq (tgt := 16) C (ka_bi rz1) dX8_put_5 (by decide) (fun q1 => ?_) (fun q1 => ?_)
  · have h := h.1 q1
    refine x_bipush C dX8_put_16 rfl ?_
    exact x_iret C (by decide) h dX8_put_18
  · have h := h.2 q1
    refine x_aload_n C dX8_put_8 rfl ?_
    refine x_iload_n C dX8_put_9 rfl ?_
    refine x_callV (vs := [aI x2]) C cv_RX8_101 ly_8 rfl (by decide) ⟨rfl, rfl, Nat.le_of_ble_eq_true rfl, Nat.le_of_ble_eq_true rfl⟩ ⟨Nat.zero_le _, Nat.zero_le _⟩ rfl rfl (Nat.le_of_ble_eq_true rfl) dX8_put_10 (sd_X8_isKey l D cy ad x2 r2 M1 _ h) (fun _ M2 qz => ?_)
    obtain ⟨z2, rfl, rz2, h⟩ := qz
    refine x_if_ne (tgt := 19) C (ka_bi rz2) dX8_put_13 (by decide) (fun q2 => ?_) (fun q2 => ?_)
    · have h := h.1 q2
      refine x_aload_n C dX8_put_19 rfl ?_
      refine x_rng (fun hR1 => ?_)
      refine x_getZ C gf_RX8_83 ly_8 rfl rfl (by decide) dX8_put_20 ?_
      refine x_if_ne (tgt := 29) C (ka_bi (ka_fZ hR1 ly_8 rfl)) dX8_put_23 (by decide) (fun q3 => ?_) (fun q3 => ?_)
      · have h := h.1 q3
        refine x_aload_n C dX8_put_29 rfl ?_
        refine x_iload_n C dX8_put_30 rfl ?_
        refine x_callV (vs := [aI x2]) C cv_RX8_114 ly_8 rfl (by decide) ⟨rfl, rfl, Nat.le_of_ble_eq_true rfl, Nat.le_of_ble_eq_true rfl⟩ ⟨Nat.zero_le _, Nat.zero_le _⟩ rfl rfl (Nat.le_of_ble_eq_true rfl) dX8_put_31 (sd_X8_borne l D cy ad x2 r2 M2 _ h) (fun _ M3 qz => ?_)
        obtain ⟨z3, rfl, rz3, h⟩ := qz
        refine x_istore_n C dX8_put_34 (Nat.le_of_ble_eq_true rfl) rfl ?_
        refine x_aload_n C dX8_put_35 rfl ?_
        refine x_getR C gf_RX8_36 ly_8 rfl (by decide) dX8_put_36 ?_
        refine x_iload_n C dX8_put_39 rfl ?_
        obtain ⟨o1, h⟩ := h
        refine x_rng (fun hR2 => ?_)
        refine x_iald C ly_37 rfl (by decide) (by decide) o1 dX8_put_40 ?_
        refine x_iconst C dX8_put_41 ?_
        refine x_icmp_ne (tgt := 60) C (ka_gI hR2 ly_37 _) (by decide) dX8_put_42 (by decide) (fun q4 => ?_) (fun q4 => ?_)
        · have h := h.1 q4
          refine x_bipush C dX8_put_60 rfl ?_
          exact x_iret C (by decide) h dX8_put_62
        · have h := h.2 q4
          refine x_iload_n C dX8_put_45 rfl ?_
          refine x_iconst C dX8_put_46 ?_
          refine x_icmp_eq (tgt := 63) C rz3 (by decide) dX8_put_47 (by decide) (fun q5 => ?_) (fun q5 => ?_)
          · have h := h.1 q5
            refine x_iload_n C dX8_put_63 rfl ?_
            refine x_iconst C dX8_put_64 ?_
            refine x_icmp_eq (tgt := 80) C rz3 (by decide) dX8_put_65 (by decide) (fun q6 => ?_) (fun q6 => ?_)
            · have h := h.1 q6
              refine x_aload_n C dX8_put_80 rfl ?_
              refine x_getR C gf_RX8_39 ly_8 rfl (by decide) dX8_put_81 ?_
              refine x_iload_n C dX8_put_84 rfl ?_
              refine x_iload_n C dX8_put_85 rfl ?_
              obtain ⟨o2, h⟩ := h
              refine x_iast C ly_38 rfl (by decide) (by decide) o2 r2 dX8_put_86 ?_
              refine x_iconst C dX8_put_87 ?_
              exact x_iret C (by decide) h dX8_put_88
            · have h := h.2 q6
              refine x_aload_n C dX8_put_68 rfl ?_
              refine x_getR C gf_RX8_39 ly_8 rfl (by decide) dX8_put_69 ?_
              refine x_iload_n C dX8_put_72 rfl ?_
              refine x_aload_n C dX8_put_73 rfl ?_
              refine x_getR C gf_RX8_39 ly_8 rfl (by decide) dX8_put_74 ?_
              refine x_iload_n C dX8_put_77 rfl ?_
              obtain ⟨o3, h⟩ := h
              refine x_iald C ly_38 rfl (by decide) (by decide) o3 dX8_put_78 ?_
              obtain ⟨o4, h⟩ := h
              refine x_iast C ly_38 rfl (by decide) (by decide) o4 (ka_gI hR2 ly_38 _) dX8_put_79 ?_
              refine x_aload_n C dX8_put_80 rfl ?_
              refine x_getR C gf_RX8_39 ly_8 rfl (by decide) dX8_put_81 ?_
              refine x_iload_n C dX8_put_84 rfl ?_
              refine x_iload_n C dX8_put_85 rfl ?_
              obtain ⟨o5, h⟩ := h
              refine x_iast C ly_38 rfl (by decide) (by decide) o5 r2 dX8_put_86 ?_
              refine x_iconst C dX8_put_87 ?_
              exact x_iret C (by decide) h dX8_put_88
          · have h := h.2 q5
            refine x_aload_n C dX8_put_50 rfl ?_
            refine x_getR C gf_RX8_36 ly_8 rfl (by decide) dX8_put_51 ?_
            refine x_iload_n C dX8_put_54 rfl ?_
            obtain ⟨o6, h⟩ := h
            refine x_iald C ly_37 rfl (by decide) (by decide) o6 dX8_put_55 ?_
            refine x_iconst C dX8_put_56 ?_
            refine x_icmp_eq (tgt := 63) C (ka_gI hR2 ly_37 _) (by decide) dX8_put_57 (by decide) (fun q7 => ?_) (fun q7 => ?_)
            · have h := h.1 q7
              refine x_iload_n C dX8_put_63 rfl ?_
              refine x_iconst C dX8_put_64 ?_
              refine x_icmp_eq (tgt := 80) C rz3 (by decide) dX8_put_65 (by decide) (fun q8 => ?_) (fun q8 => ?_)
              · have h := h.1 q8
                refine x_aload_n C dX8_put_80 rfl ?_
                refine x_getR C gf_RX8_39 ly_8 rfl (by decide) dX8_put_81 ?_
                refine x_iload_n C dX8_put_84 rfl ?_
                refine x_iload_n C dX8_put_85 rfl ?_
                obtain ⟨o7, h⟩ := h
                refine x_iast C ly_38 rfl (by decide) (by decide) o7 r2 dX8_put_86 ?_
                refine x_iconst C dX8_put_87 ?_
                exact x_iret C (by decide) h dX8_put_88
              · have h := h.2 q8
                refine x_aload_n C dX8_put_68 rfl ?_
                refine x_getR C gf_RX8_39 ly_8 rfl (by decide) dX8_put_69 ?_
                refine x_iload_n C dX8_put_72 rfl ?_
                refine x_aload_n C dX8_put_73 rfl ?_
                refine x_getR C gf_RX8_39 ly_8 rfl (by decide) dX8_put_74 ?_
                refine x_iload_n C dX8_put_77 rfl ?_
                obtain ⟨o8, h⟩ := h
                refine x_iald C ly_38 rfl (by decide) (by decide) o8 dX8_put_78 ?_
                obtain ⟨o9, h⟩ := h
                refine x_iast C ly_38 rfl (by decide) (by decide) o9 (ka_gI hR2 ly_38 _) dX8_put_79 ?_
                refine x_aload_n C dX8_put_80 rfl ?_
                refine x_getR C gf_RX8_39 ly_8 rfl (by decide) dX8_put_81 ?_
                refine x_iload_n C dX8_put_84 rfl ?_
                refine x_iload_n C dX8_put_85 rfl ?_
                obtain ⟨o10, h⟩ := h
                refine x_iast C ly_38 rfl (by decide) (by decide) o10 r2 dX8_put_86 ?_
                refine x_iconst C dX8_put_87 ?_
                exact x_iret C (by decide) h dX8_put_88
            · have h := h.2 q7
              refine x_bipush C dX8_put_60 rfl ?_
              exact x_iret C (by decide) h dX8_put_62
      · have h := h.2 q3
        refine x_bipush C dX8_put_26 rfl ?_
        exact x_iret C (by decide) h dX8_put_28
    · have h := h.2 q2
      refine x_bipush C dX8_put_16 rfl ?_
      exact x_iret C (by decide) h dX8_put_18
set_option maxRecDepth 100000 in
set_option maxHeartbeats 4000000 in
theorem sd_X7_at (l : Launch) (D : va_G) (cy : Nat → ClassId) (ad : Nat → Int → Nat) (x1 : Int) (r1 : iR x1) (M : Mm) (Q : Int → Mm → Prop) (h : wp_X7_at x1 M Q) : Ct l D cy ad yX7_at cX7_at 2 (some .int) rm_X7_at [aR 0, aI x1] M (rI Q) := by
  refine ct_of (z := 0) (ls := [some (aR 0), some (aI x1)]) (by decide) rfl (Nat.le_of_ble_eq_true rfl) ?_
  intro p e s m args below meth c C
  have C : Cx p s m args meth c D cy ad (Ar ad) cX7_at 2 RX7 (some .int) := C
  unfold wp_X7_at at h
  refine x_aload_n C dX7_at_0 rfl ?_
  refine x_getR C gf_RX7_10 ly_0 rfl (by decide) dX7_at_1 ?_
  refine x_iload_n C dX7_at_4 rfl ?_
  refine x_callV (vs := [aI x1]) C cv_RX7_96 ly_1 rfl (by decide) ⟨rfl, rfl, Nat.le_of_ble_eq_true rfl, Nat.le_of_ble_eq_true rfl⟩ ⟨Nat.zero_le _, Nat.zero_le _⟩ rfl rfl (Nat.le_of_ble_eq_true rfl) dX7_at_5 (sd_X3_has l D cy ad x1 r1 M _ h) (fun _ M1 qz => ?_)
  obtain ⟨z1, rfl, rz1, h⟩ := qz
  refine x_if_ne (tgt := 14) C (ka_bi rz1) dX7_at_8 (by decide) (fun q1 => ?_) (fun q1 => ?_)
  · have h := h.1 q1
    refine x_aload_n C dX7_at_14 rfl ?_
    refine x_getR C gf_RX7_39 ly_0 rfl (by decide) dX7_at_15 ?_
    refine x_rng (fun hR1 => ?_)
    refine x_getZ C gf_RX7_74 ly_4 rfl rfl (by decide) dX7_at_18 ?_
    refine x_if_eq (tgt := 36) C (ka_bi (ka_fZ hR1 ly_4 rfl)) dX7_at_21 (by decide) (fun q2 => ?_) (fun q2 => ?_)
    · have h := h.1 q2
      refine x_bipush C dX7_at_36 rfl ?_
      exact x_iret C (by decide) h dX7_at_38
    · have h := h.2 q2
      refine x_aload_n C dX7_at_24 rfl ?_
      refine x_getR C gf_RX7_39 ly_0 rfl (by decide) dX7_at_25 ?_
      refine x_getR C gf_RX7_145 ly_4 rfl (by decide) dX7_at_28 ?_
      refine x_iload_n C dX7_at_31 rfl ?_
      obtain ⟨o1, h⟩ := h
      refine x_iald C ly_19 rfl (by decide) (by decide) o1 dX7_at_32 ?_
      refine x_goto (tgt := 38) C dX7_at_33 (by decide) ?_
      exact x_iret C (ka_gI hR1 ly_19 _) h dX7_at_38
  · have h := h.2 q1
    refine x_bipush C dX7_at_11 rfl ?_
    exact x_iret C (by decide) h dX7_at_13
set_option maxRecDepth 100000 in
set_option maxHeartbeats 4000000 in
theorem sd_X8_at (l : Launch) (D : va_G) (cy : Nat → ClassId) (ad : Nat → Int → Nat) (x1 : Int) (r1 : iR x1) (M : Mm) (Q : Int → Mm → Prop) (h : wp_X8_at x1 M Q) : Ct l D cy ad yX8_at cX8_at 2 (some .int) rm_X8_at [aR 8, aI x1] M (rI Q) := by
  refine ct_of (z := 0) (ls := [some (aR 8), some (aI x1)]) (by decide) rfl (Nat.le_of_ble_eq_true rfl) ?_
  intro p e s m args below meth c C
  have C : Cx p s m args meth c D cy ad (Ar ad) cX8_at 2 RX8 (some .int) := C
  unfold wp_X8_at at h
  refine x_aload_n C dX8_at_0 rfl ?_
  refine x_iload_n C dX8_at_1 rfl ?_
  refine x_callV (vs := [aI x1]) C cv_RX8_93 ly_8 rfl (by decide) ⟨rfl, rfl, Nat.le_of_ble_eq_true rfl, Nat.le_of_ble_eq_true rfl⟩ ⟨Nat.zero_le _, Nat.zero_le _⟩ rfl rfl (Nat.le_of_ble_eq_true rfl) dX8_at_2 (sd_X8_isLetter l D cy ad x1 r1 M _ h) (fun _ M1 qz => ?_)
  obtain ⟨z1, rfl, rz1, h⟩ := qz
  refine x_if_ne (tgt := 13) C (ka_bi rz1) dX8_at_5 (by decide) (fun q1 => ?_) (fun q1 => ?_)
  · have h := h.1 q1
    refine x_aload_n C dX8_at_13 rfl ?_
    refine x_rng (fun hR1 => ?_)
    refine x_getZ C gf_RX8_83 ly_8 rfl rfl (by decide) dX8_at_14 ?_
    refine x_if_eq (tgt := 29) C (ka_bi (ka_fZ hR1 ly_8 rfl)) dX8_at_17 (by decide) (fun q2 => ?_) (fun q2 => ?_)
    · have h := h.1 q2
      refine x_bipush C dX8_at_29 rfl ?_
      exact x_iret C (by decide) h dX8_at_31
    · have h := h.2 q2
      refine x_aload_n C dX8_at_20 rfl ?_
      refine x_getR C gf_RX8_39 ly_8 rfl (by decide) dX8_at_21 ?_
      refine x_iload_n C dX8_at_24 rfl ?_
      obtain ⟨o1, h⟩ := h
      refine x_iald C ly_38 rfl (by decide) (by decide) o1 dX8_at_25 ?_
      refine x_goto (tgt := 31) C dX8_at_26 (by decide) ?_
      exact x_iret C (ka_gI hR1 ly_38 _) h dX8_at_31
  · have h := h.2 q1
    refine x_bipush C dX8_at_8 rfl ?_
    refine x_goto (tgt := 31) C dX8_at_10 (by decide) ?_
    exact x_iret C (by decide) h dX8_at_31
set_option maxRecDepth 100000 in
set_option maxHeartbeats 4000000 in
theorem sd_X5_pairCost (l : Launch) (D : va_G) (cy : Nat → ClassId) (ad : Nat → Int → Nat) (x1 : Int) (x2 : Int) (r1 : iR x1) (r2 : iR x2) (M : Mm) (Q : Int → Mm → Prop) (h : wp_X5_pairCost x1 x2 M Q) : Ct l D cy ad yX5_pairCost cX5_pairCost 3 (some .long) rm_X5_pairCost [aR 4, aI x1, aI x2] M (rL Q) := by
  refine ct_of (z := 0) (ls := [some (aR 4), some (aI x1), some (aI x2)]) (by decide) rfl (Nat.le_of_ble_eq_true rfl) ?_
  intro p e s m args below meth c C
  have C : Cx p s m args meth c D cy ad (Ar ad) cX5_pairCost 3 RX5 (some .long) := C
  unfold wp_X5_pairCost at h
  refine x_aload_n C dX5_pairCost_0 rfl ?_
  refine x_getR C gf_RX5_23 ly_4 rfl (by decide) dX5_pairCost_1 ?_
  refine x_iload_n C dX5_pairCost_4 rfl ?_
  obtain ⟨o1, h⟩ := h
  refine x_aald C ly_13 rfl (by decide) (by decide) o1 dX5_pairCost_5 ?_
  refine x_iload_n C dX5_pairCost_6 rfl ?_
  obtain ⟨o2, h⟩ := h
  refine x_rng (fun hR1 => ?_)
  refine x_iald2 C ly_13 rfl (by decide) (by decide) rfl o1 o2 dX5_pairCost_7 ?_
  refine x_i2l C (ka_gI hR1 ly_13 _) dX5_pairCost_8 ?_
  refine x_aload_n C dX5_pairCost_9 rfl ?_
  refine x_getR C gf_RX5_19 ly_4 rfl (by decide) dX5_pairCost_10 ?_
  refine x_getR C gf_RX5_57 ly_3 rfl (by decide) dX5_pairCost_13 ?_
  refine x_aload_n C dX5_pairCost_16 rfl ?_
  refine x_getR C gf_RX5_9 ly_4 rfl (by decide) dX5_pairCost_17 ?_
  refine x_iload_n C dX5_pairCost_20 rfl ?_
  obtain ⟨o3, h⟩ := h
  refine x_iald C ly_19 rfl (by decide) (by decide) o3 dX5_pairCost_21 ?_
  obtain ⟨o4, h⟩ := h
  refine x_aald C ly_17 rfl (by decide) (by decide) o4 dX5_pairCost_22 ?_
  refine x_aload_n C dX5_pairCost_23 rfl ?_
  refine x_getR C gf_RX5_9 ly_4 rfl (by decide) dX5_pairCost_24 ?_
  refine x_iload_n C dX5_pairCost_27 rfl ?_
  obtain ⟨o5, h⟩ := h
  refine x_iald C ly_19 rfl (by decide) (by decide) o5 dX5_pairCost_28 ?_
  obtain ⟨o6, h⟩ := h
  refine x_iald2 C ly_17 rfl (by decide) (by decide) rfl o4 o6 dX5_pairCost_29 ?_
  refine x_i2l C (ka_gI hR1 ly_17 _) dX5_pairCost_30 ?_
  refine x_lmul C dX5_pairCost_31 ?_
  exact x_lret C h dX5_pairCost_32
set_option maxRecDepth 100000 in
set_option maxHeartbeats 4000000 in
theorem lp_X5_wholeCost_L18 {p : Program} {l : Launch} {e : Env} {s : State} {m : MethodId} {args : Array Value} {below : List Frame} {meth : Method} {c : Code} {D : va_G} {cy : Nat → ClassId} {ad : Nat → Int → Nat} (C : Cx p s m args meth c D cy ad (Ar ad) cX5_wholeCost 5 RX5 (some .long)) (x3 : Int) (r3 : iR x3) (Q : Int → Mm → Prop) (K52 : Int → Mm → Prop) (k52 : ∀ (x1 : Int) (M : Mm), K52 x1 M → Xj p l e rm_X5_wholeCost s m args below meth c D cy ad (Ar ad) (MQ below (QX D cy ad (rL Q)) args s 0 0 (Ar ad)) 5 0 0 52 [some (aR 4), some (aL x1), none, some (aI x3), none] [] M) : ∀ (x1 : Int) (x4 : Int) (M : Mm), wp_X5_wholeCost_L18 x3 Q K52 x1 x4 M → iR x4 → Xj p l e rm_X5_wholeCost s m args below meth c D cy ad (Ar ad) (MQ below (QX D cy ad (rL Q)) args s 0 0 (Ar ad)) 5 0 0 18 [some (aR 4), some (aL x1), none, some (aI x3), some (aI x4)] [] M :=
  LP2.ind (P := fun x1 x4 M => iR x4 → Xj p l e rm_X5_wholeCost s m args below meth c D cy ad (Ar ad) (MQ below (QX D cy ad (rL Q)) args s 0 0 (Ar ad)) 5 0 0 18 [some (aR 4), some (aL x1), none, some (aI x3), some (aI x4)] [] M) (fun R ih => by
    intro x1 x4 M h r4
    unfold bc_X5_wholeCost_L18 at h
    refine x_iload C dX5_wholeCost_18 rfl ?_
    refine x_aload_n C dX5_wholeCost_20 rfl ?_
    refine x_getR C gf_RX5_15 ly_4 rfl (by decide) dX5_wholeCost_21 ?_
    refine x_rng (fun hR1 => ?_)
    refine x_getI C gf_RX5_27 ly_1 rfl rfl (by decide) dX5_wholeCost_24 ?_
    refine x_icmp_ge (tgt := 52) C r4 (ka_fI hR1 ly_1 rfl) dX5_wholeCost_27 (by decide) (fun q1 => ?_) (fun q1 => ?_)
    · have h := h.1 q1
      refine x_mask [true, true, false, true, false] rfl ?_
      exact k52 _ _ h
    · have h := h.2 q1
      refine x_iload_n C dX5_wholeCost_30 rfl ?_
      refine x_iload C dX5_wholeCost_31 rfl ?_
      refine x_icmp_eq (tgt := 46) C r3 r4 dX5_wholeCost_33 (by decide) (fun q2 => ?_) (fun q2 => ?_)
      · have h := h.1 q2
        refine x_iinc C dX5_wholeCost_46 rfl (Nat.le_of_ble_eq_true rfl) rfl ?_
        refine x_goto (tgt := 18) C dX5_wholeCost_49 (by decide) ?_
        obtain ⟨o1, h⟩ := h
        exact ih _ _ _ h o1
      · have h := h.2 q2
        refine x_lload_n C dX5_wholeCost_36 rfl ?_
        refine x_aload_n C dX5_wholeCost_37 rfl ?_
        refine x_iload_n C dX5_wholeCost_38 rfl ?_
        refine x_iload C dX5_wholeCost_39 rfl ?_
        refine x_callV (vs := [aI x3, aI x4]) C cv_RX5_60 ly_4 rfl (by decide) ⟨rfl, rfl, Nat.le_of_ble_eq_true rfl, Nat.le_of_ble_eq_true rfl⟩ ⟨Nat.zero_le _, Nat.zero_le _⟩ rfl rfl (Nat.le_of_ble_eq_true rfl) dX5_wholeCost_41 (sd_X5_pairCost l D cy ad x3 x4 r3 r4 M _ h) (fun _ M1 qz => ?_)
        obtain ⟨z1, rfl, h⟩ := qz
        refine x_ladd C dX5_wholeCost_44 ?_
        refine x_lstore_n C dX5_wholeCost_45 (Nat.le_of_ble_eq_true rfl) rfl ?_
        refine x_iinc C dX5_wholeCost_46 rfl (Nat.le_of_ble_eq_true rfl) rfl ?_
        refine x_goto (tgt := 18) C dX5_wholeCost_49 (by decide) ?_
        obtain ⟨o2, h⟩ := h
        exact ih _ _ _ h o2)
set_option maxRecDepth 100000 in
set_option maxHeartbeats 4000000 in
theorem lp_X5_wholeCost_L4 {p : Program} {l : Launch} {e : Env} {s : State} {m : MethodId} {args : Array Value} {below : List Frame} {meth : Method} {c : Code} {D : va_G} {cy : Nat → ClassId} {ad : Nat → Int → Nat} (C : Cx p s m args meth c D cy ad (Ar ad) cX5_wholeCost 5 RX5 (some .long)) (Q : Int → Mm → Prop) : ∀ (x1 : Int) (x3 : Int) (M : Mm), wp_X5_wholeCost_L4 Q x1 x3 M → iR x3 → Xj p l e rm_X5_wholeCost s m args below meth c D cy ad (Ar ad) (MQ below (QX D cy ad (rL Q)) args s 0 0 (Ar ad)) 5 0 0 4 [some (aR 4), some (aL x1), none, some (aI x3), none] [] M :=
  LP2.ind (P := fun x1 x3 M => iR x3 → Xj p l e rm_X5_wholeCost s m args below meth c D cy ad (Ar ad) (MQ below (QX D cy ad (rL Q)) args s 0 0 (Ar ad)) 5 0 0 4 [some (aR 4), some (aL x1), none, some (aI x3), none] [] M) (fun R ih => by
    intro x1 x3 M h r3
    unfold bc_X5_wholeCost_L4 at h
    refine x_iload_n C dX5_wholeCost_4 rfl ?_
    refine x_aload_n C dX5_wholeCost_5 rfl ?_
    refine x_getR C gf_RX5_15 ly_4 rfl (by decide) dX5_wholeCost_6 ?_
    refine x_rng (fun hR1 => ?_)
    refine x_getI C gf_RX5_27 ly_1 rfl rfl (by decide) dX5_wholeCost_9 ?_
    refine x_icmp_ge (tgt := 58) C r3 (ka_fI hR1 ly_1 rfl) dX5_wholeCost_12 (by decide) (fun q1 => ?_) (fun q1 => ?_)
    · have h := h.1 q1
      refine x_lload_n C dX5_wholeCost_58 rfl ?_
      exact x_lret C h dX5_wholeCost_59
    · have h := h.2 q1
      refine x_iconst C dX5_wholeCost_15 ?_
      refine x_istore C dX5_wholeCost_16 (Nat.le_of_ble_eq_true rfl) rfl ?_
      refine lp_X5_wholeCost_L18 C x3 r3 Q _ (fun y1_1 M1 h => ?_) _ _ _ h (by decide)
      · refine x_iinc C dX5_wholeCost_52 rfl (Nat.le_of_ble_eq_true rfl) rfl ?_
        refine x_goto (tgt := 4) C dX5_wholeCost_55 (by decide) ?_
        obtain ⟨o1, h⟩ := h
        exact ih _ _ _ h o1)
set_option maxRecDepth 100000 in
set_option maxHeartbeats 4000000 in
theorem sd_X5_wholeCost (l : Launch) (D : va_G) (cy : Nat → ClassId) (ad : Nat → Int → Nat) (M : Mm) (Q : Int → Mm → Prop) (h : wp_X5_wholeCost M Q) : Ct l D cy ad yX5_wholeCost cX5_wholeCost 5 (some .long) rm_X5_wholeCost [aR 4] M (rL Q) := by
  refine ct_of (z := 4) (ls := [some (aR 4), none, none, none, none]) (by decide) rfl (Nat.le_of_ble_eq_true rfl) ?_
  intro p e s m args below meth c C
  have C : Cx p s m args meth c D cy ad (Ar ad) cX5_wholeCost 5 RX5 (some .long) := C
  unfold wp_X5_wholeCost at h
  refine x_lconst (v := 0) C dX5_wholeCost_0 rfl ?_
  refine x_lstore_n C dX5_wholeCost_1 (Nat.le_of_ble_eq_true rfl) rfl ?_
  refine x_iconst C dX5_wholeCost_2 ?_
  refine x_istore_n C dX5_wholeCost_3 (Nat.le_of_ble_eq_true rfl) rfl ?_
  refine lp_X5_wholeCost_L4 C Q _ _ _ h (by decide)
