set_option maxRecDepth 100000 in
set_option maxHeartbeats 4000000 in
theorem sd_X7_price (l : Launch) (D : va_G) (cy : Nat → ClassId) (ad : Nat → Int → Nat) (x1 : Int) (x2 : Int) (r1 : iR x1) (r2 : iR x2) (M : Mm) (Q : Int → Mm → Prop) (h : wp_X7_price x1 x2 M Q) : Ct l D cy ad yX7_price cX7_price 3 (some .long) rm_X7_price [aR 0, aI x1, aI x2] M (rL Q) := by
  refine ct_of (z := 0) (ls := [some (aR 0), some (aI x1), some (aI x2)]) (by decide) rfl (Nat.le_of_ble_eq_true rfl) ?_
  intro p e s m args below meth c C
  have C : Cx p s m args meth c D cy ad (Ar ad) cX7_price 3 RX7 (some .long) := C
  unfold wp_X7_price at h
  refine x_aload_n C dX7_price_0 rfl ?_
  refine x_getR C gf_RX7_10 ly_0 rfl (by decide) dX7_price_1 ?_
  refine x_iload_n C dX7_price_4 rfl ?_
  refine x_callV (vs := [aI x1]) C cv_RX7_96 ly_1 rfl (by decide) ⟨rfl, rfl, Nat.le_of_ble_eq_true rfl, Nat.le_of_ble_eq_true rfl⟩ ⟨Nat.zero_le _, Nat.zero_le _⟩ rfl rfl (Nat.le_of_ble_eq_true rfl) dX7_price_5 (sd_X3_has l D cy ad x1 r1 M _ h) (fun _ M1 qz => ?_)
  obtain ⟨z1, rfl, rz1, h⟩ := qz
  refine x_if_eq (tgt := 22) C (ka_bi rz1) dX7_price_8 (by decide) (fun q1 => ?_) (fun q1 => ?_)
  · have h := h.1 q1
    refine x_ldc2 (v := (-2)) C kc_RX7_154 rfl dX7_price_22 ?_
    exact x_lret C h dX7_price_25
  · have h := h.2 q1
    refine x_aload_n C dX7_price_11 rfl ?_
    refine x_getR C gf_RX7_26 ly_0 rfl (by decide) dX7_price_12 ?_
    refine x_iload_n C dX7_price_15 rfl ?_
    refine x_callV (vs := [aI x2]) C cv_RX7_104 ly_3 rfl (by decide) ⟨rfl, rfl, Nat.le_of_ble_eq_true rfl, Nat.le_of_ble_eq_true rfl⟩ ⟨Nat.zero_le _, Nat.zero_le _⟩ rfl rfl (Nat.le_of_ble_eq_true rfl) dX7_price_16 (sd_X2_has l D cy ad x2 r2 M1 _ h) (fun _ M2 qz => ?_)
    obtain ⟨z2, rfl, rz2, h⟩ := qz
    refine x_if_ne (tgt := 26) C (ka_bi rz2) dX7_price_19 (by decide) (fun q2 => ?_) (fun q2 => ?_)
    · have h := h.1 q2
      refine x_aload_n C dX7_price_26 rfl ?_
      refine x_callV (vs := []) C cv_RX7_128 ly_0 rfl (by decide) ⟨rfl, rfl, Nat.le_of_ble_eq_true rfl, Nat.le_of_ble_eq_true rfl⟩ ⟨Nat.zero_le _, Nat.zero_le _⟩ rfl rfl (Nat.le_of_ble_eq_true rfl) dX7_price_27 (sd_X7_tooFewKeys l D cy ad M2 _ h) (fun _ M3 qz => ?_)
      obtain ⟨z3, rfl, rz3, h⟩ := qz
      refine x_if_eq (tgt := 39) C (ka_bi rz3) dX7_price_30 (by decide) (fun q3 => ?_) (fun q3 => ?_)
      · have h := h.1 q3
        refine x_aload_n C dX7_price_39 rfl ?_
        refine x_getR C gf_RX7_53 ly_0 rfl (by decide) dX7_price_40 ?_
        refine x_iload_n C dX7_price_43 rfl ?_
        refine x_iload_n C dX7_price_44 rfl ?_
        refine x_callV (vs := [aI x1, aI x2]) C cv_RX7_196 ly_6 rfl (by decide) ⟨rfl, rfl, Nat.le_of_ble_eq_true rfl, Nat.le_of_ble_eq_true rfl⟩ ⟨Nat.zero_le _, Nat.zero_le _⟩ rfl rfl (Nat.le_of_ble_eq_true rfl) dX7_price_45 (sd_X0_priceOn l D cy ad x1 x2 r1 r2 M3 _ h) (fun _ M4 qz => ?_)
        obtain ⟨z4, rfl, h⟩ := qz
        exact x_lret C h dX7_price_48
      · have h := h.2 q3
        refine x_ldc2 (v := (-3)) C kc_RX7_152 rfl dX7_price_33 ?_
        refine x_goto (tgt := 48) C dX7_price_36 (by decide) ?_
        exact x_lret C h dX7_price_48
    · have h := h.2 q2
      refine x_ldc2 (v := (-2)) C kc_RX7_154 rfl dX7_price_22 ?_
      exact x_lret C h dX7_price_25
set_option maxRecDepth 100000 in
set_option maxHeartbeats 4000000 in
theorem sd_X8_price (l : Launch) (D : va_G) (cy : Nat → ClassId) (ad : Nat → Int → Nat) (x1 : Int) (x2 : Int) (r1 : iR x1) (r2 : iR x2) (M : Mm) (Q : Int → Mm → Prop) (h : wp_X8_price x1 x2 M Q) : Ct l D cy ad yX8_price cX8_price 3 (some .long) rm_X8_price [aR 8, aI x1, aI x2] M (rL Q) := by
  refine ct_of (z := 0) (ls := [some (aR 8), some (aI x1), some (aI x2)]) (by decide) rfl (Nat.le_of_ble_eq_true rfl) ?_
  intro p e s m args below meth c C
  have C : Cx p s m args meth c D cy ad (Ar ad) cX8_price 3 RX8 (some .long) := C
  unfold wp_X8_price at h
  refine x_aload_n C dX8_price_0 rfl ?_
  refine x_iload_n C dX8_price_1 rfl ?_
  refine x_callV (vs := [aI x1]) C cv_RX8_93 ly_8 rfl (by decide) ⟨rfl, rfl, Nat.le_of_ble_eq_true rfl, Nat.le_of_ble_eq_true rfl⟩ ⟨Nat.zero_le _, Nat.zero_le _⟩ rfl rfl (Nat.le_of_ble_eq_true rfl) dX8_price_2 (sd_X8_isLetter l D cy ad x1 r1 M _ h) (fun _ M1 qz => ?_)
  obtain ⟨z1, rfl, rz1, h⟩ := qz
  refine x_if_eq (tgt := 16) C (ka_bi rz1) dX8_price_5 (by decide) (fun q1 => ?_) (fun q1 => ?_)
  · have h := h.1 q1
    refine x_ldc2 (v := (-2)) C kc_RX8_128 rfl dX8_price_16 ?_
    refine x_goto (tgt := 45) C dX8_price_19 (by decide) ?_
    exact x_lret C h dX8_price_45
  · have h := h.2 q1
    refine x_aload_n C dX8_price_8 rfl ?_
    refine x_iload_n C dX8_price_9 rfl ?_
    refine x_callV (vs := [aI x2]) C cv_RX8_101 ly_8 rfl (by decide) ⟨rfl, rfl, Nat.le_of_ble_eq_true rfl, Nat.le_of_ble_eq_true rfl⟩ ⟨Nat.zero_le _, Nat.zero_le _⟩ rfl rfl (Nat.le_of_ble_eq_true rfl) dX8_price_10 (sd_X8_isKey l D cy ad x2 r2 M1 _ h) (fun _ M2 qz => ?_)
    obtain ⟨z2, rfl, rz2, h⟩ := qz
    refine x_if_ne (tgt := 22) C (ka_bi rz2) dX8_price_13 (by decide) (fun q2 => ?_) (fun q2 => ?_)
    · have h := h.1 q2
      refine x_aload_n C dX8_price_22 rfl ?_
      refine x_rng (fun hR1 => ?_)
      refine x_getI C gf_RX8_80 ly_8 rfl rfl (by decide) dX8_price_23 ?_
      refine x_aload_n C dX8_price_26 rfl ?_
      refine x_getI C gf_RX8_7 ly_8 rfl rfl (by decide) dX8_price_27 ?_
      refine x_icmp_ge (tgt := 39) C (ka_fI hR1 ly_8 rfl) (ka_fI hR1 ly_8 rfl) dX8_price_30 (by decide) (fun q3 => ?_) (fun q3 => ?_)
      · have h := h.1 q3
        refine x_aload_n C dX8_price_39 rfl ?_
        refine x_iload_n C dX8_price_40 rfl ?_
        refine x_iload_n C dX8_price_41 rfl ?_
        refine x_callV (vs := [aI x1, aI x2]) C cv_RX8_151 ly_8 rfl (by decide) ⟨rfl, rfl, Nat.le_of_ble_eq_true rfl, Nat.le_of_ble_eq_true rfl⟩ ⟨Nat.zero_le _, Nat.zero_le _⟩ rfl rfl (Nat.le_of_ble_eq_true rfl) dX8_price_42 (sd_X8_priceOf l D cy ad x1 x2 r1 r2 M2 _ h) (fun _ M3 qz => ?_)
        obtain ⟨z3, rfl, h⟩ := qz
        exact x_lret C h dX8_price_45
      · have h := h.2 q3
        refine x_ldc2 (v := (-3)) C kc_RX8_126 rfl dX8_price_33 ?_
        refine x_goto (tgt := 45) C dX8_price_36 (by decide) ?_
        exact x_lret C h dX8_price_45
    · have h := h.2 q2
      refine x_ldc2 (v := (-2)) C kc_RX8_128 rfl dX8_price_16 ?_
      refine x_goto (tgt := 45) C dX8_price_19 (by decide) ?_
      exact x_lret C h dX8_price_45
set_option maxRecDepth 100000 in
set_option maxHeartbeats 4000000 in
theorem lp_J7_fill_53178_c28_L5 {p : Program} {l : Launch} {e : Env} {s : State} {m : MethodId} {args : Array Value} {below : List Frame} {meth : Method} {c : Code} {D : va_G} {cy : Nat → ClassId} {ad : Nat → Int → Nat} (C : Cx p s m args meth c D cy ad (Ar ad) cJ7_fill_53178 4 RJ7 none) (x1 : Int) (x3 : Int) (r1 : iR x1) (r3 : iR x3) (Q : Mm → Prop) : ∀ (x2 : Int) (M : Mm), wp_J7_fill_53178_c28_L5 x1 x3 Q x2 M → iR x2 → Xj p l e rm_J7_fill_53178_c28 s m args below meth c D cy ad (Ar ad) (MQ below (QX D cy ad (rV Q)) args s 0 0 (Ar ad)) 4 0 0 5 [some (aR 28), some (aI x1), some (aI x2), some (aI x3)] [] M :=
  LP1.ind (P := fun x2 M => iR x2 → Xj p l e rm_J7_fill_53178_c28 s m args below meth c D cy ad (Ar ad) (MQ below (QX D cy ad (rV Q)) args s 0 0 (Ar ad)) 4 0 0 5 [some (aR 28), some (aI x1), some (aI x2), some (aI x3)] [] M) (fun R ih => by
    intro x2 M h r2
    unfold bc_J7_fill_53178_c28_L5 at h
    refine x_iload_n C dJ7_fill_53178_5 rfl ?_
    refine x_iload_n C dJ7_fill_53178_6 rfl ?_
    refine x_icmp_ge (tgt := 20) C r2 r3 dJ7_fill_53178_7 (by decide) (fun q1 => ?_) (fun q1 => ?_)
    · have h := h.1 q1
      exact x_vret C h dJ7_fill_53178_20
    · have h := h.2 q1
      refine x_aload_n C dJ7_fill_53178_10 rfl ?_
      refine x_iload_n C dJ7_fill_53178_11 rfl ?_
      refine x_iload_n C dJ7_fill_53178_12 rfl ?_
      obtain ⟨o1, h⟩ := h
      refine x_iast C ly_28 rfl (by decide) (by decide) o1 r1 dJ7_fill_53178_13 ?_
      refine x_iinc C dJ7_fill_53178_14 rfl (Nat.le_of_ble_eq_true rfl) rfl ?_
      refine x_goto (tgt := 5) C dJ7_fill_53178_17 (by decide) ?_
      obtain ⟨o2, h⟩ := h
      exact ih _ _ h o2)
set_option maxRecDepth 100000 in
set_option maxHeartbeats 4000000 in
theorem sd_J7_fill_53178_c28 (l : Launch) (D : va_G) (cy : Nat → ClassId) (ad : Nat → Int → Nat) (x1 : Int) (r1 : iR x1) (M : Mm) (Q : Mm → Prop) (h : wp_J7_fill_53178_c28 x1 M Q) : Ct l D cy ad yJ7_fill_53178 cJ7_fill_53178 4 none rm_J7_fill_53178_c28 [aR 28, aI x1] M (rV Q) := by
  refine ct_of (z := 2) (ls := [some (aR 28), some (aI x1), none, none]) (by decide) rfl (Nat.le_of_ble_eq_true rfl) ?_
  intro p e s m args below meth c C
  have C : Cx p s m args meth c D cy ad (Ar ad) cJ7_fill_53178 4 RJ7 none := C
  unfold wp_J7_fill_53178_c28 at h
  refine x_iconst C dJ7_fill_53178_0 ?_
  refine x_istore_n C dJ7_fill_53178_1 (Nat.le_of_ble_eq_true rfl) rfl ?_
  refine x_aload_n C dJ7_fill_53178_2 rfl ?_
  refine x_alen C ly_28 rfl (by decide) dJ7_fill_53178_3 ?_
  refine x_istore_n C dJ7_fill_53178_4 (Nat.le_of_ble_eq_true rfl) rfl ?_
  refine lp_J7_fill_53178_c28_L5 C x1 7 r1 (by decide) Q _ _ h (by decide)
set_option maxRecDepth 100000 in
set_option maxHeartbeats 4000000 in
theorem sd_X6_sameGoings (l : Launch) (D : va_G) (cy : Nat → ClassId) (ad : Nat → Int → Nat) (x1 : Int) (x2 : Int) (x3 : Int) (x4 : Int) (r1 : iR x1) (r2 : iR x2) (r3 : iR x3) (r4 : iR x4) (M : Mm) (Q : Int → Mm → Prop) (h : wp_X6_sameGoings x1 x2 x3 x4 M Q) : Ct l D cy ad yX6_sameGoings cX6_sameGoings 5 (some .boolean) rm_X6_sameGoings [aR 7, aI x1, aI x2, aI x3, aI x4] M (rZ Q) := by
  refine ct_of (z := 0) (ls := [some (aR 7), some (aI x1), some (aI x2), some (aI x3), some (aI x4)]) (by decide) rfl (Nat.le_of_ble_eq_true rfl) ?_
  intro p e s m args below meth c C
  have C : Cx p s m args meth c D cy ad (Ar ad) cX6_sameGoings 5 RX6 (some .boolean) := C
  unfold wp_X6_sameGoings at h
  refine x_aload_n C dX6_sameGoings_0 rfl ?_
  refine x_getR C gf_RX6_22 ly_7 rfl (by decide) dX6_sameGoings_1 ?_
  refine x_getR C gf_RX6_56 ly_3 rfl (by decide) dX6_sameGoings_4 ?_
  refine x_iload_n C dX6_sameGoings_7 rfl ?_
  obtain ⟨o1, h⟩ := h
  refine x_aald C ly_16 rfl (by decide) (by decide) o1 dX6_sameGoings_8 ?_
  refine x_iload_n C dX6_sameGoings_9 rfl ?_
  obtain ⟨o2, h⟩ := h
  refine x_rng (fun hR1 => ?_)
  refine x_iald2 C ly_16 rfl (by decide) (by decide) rfl o1 o2 dX6_sameGoings_10 ?_
  refine x_aload_n C dX6_sameGoings_11 rfl ?_
  refine x_getR C gf_RX6_22 ly_7 rfl (by decide) dX6_sameGoings_12 ?_
  refine x_getR C gf_RX6_56 ly_3 rfl (by decide) dX6_sameGoings_15 ?_
  refine x_iload_n C dX6_sameGoings_18 rfl ?_
  obtain ⟨o3, h⟩ := h
  refine x_aald C ly_16 rfl (by decide) (by decide) o3 dX6_sameGoings_19 ?_
  refine x_iload C dX6_sameGoings_20 rfl ?_
  obtain ⟨o4, h⟩ := h
  refine x_iald2 C ly_16 rfl (by decide) (by decide) rfl o3 o4 dX6_sameGoings_22 ?_
  refine x_icmp_ne (tgt := 56) C (ka_gI hR1 ly_16 _) (ka_gI hR1 ly_16 _) dX6_sameGoings_23 (by decide) (fun q1 => ?_) (fun q1 => ?_)
  · have h := h.1 q1
    refine x_iconst C dX6_sameGoings_56 ?_
    exact x_zret C (by decide) h dX6_sameGoings_57
  · have h := h.2 q1
    refine x_aload_n C dX6_sameGoings_26 rfl ?_
    refine x_getR C gf_RX6_22 ly_7 rfl (by decide) dX6_sameGoings_27 ?_
    refine x_getR C gf_RX6_56 ly_3 rfl (by decide) dX6_sameGoings_30 ?_
    refine x_iload_n C dX6_sameGoings_33 rfl ?_
    obtain ⟨o5, h⟩ := h
    refine x_aald C ly_16 rfl (by decide) (by decide) o5 dX6_sameGoings_34 ?_
    refine x_iload_n C dX6_sameGoings_35 rfl ?_
    obtain ⟨o6, h⟩ := h
    refine x_iald2 C ly_16 rfl (by decide) (by decide) rfl o5 o6 dX6_sameGoings_36 ?_
    refine x_aload_n C dX6_sameGoings_37 rfl ?_
    refine x_getR C gf_RX6_22 ly_7 rfl (by decide) dX6_sameGoings_38 ?_
    refine x_getR C gf_RX6_56 ly_3 rfl (by decide) dX6_sameGoings_41 ?_
    refine x_iload C dX6_sameGoings_44 rfl ?_
    obtain ⟨o7, h⟩ := h
    refine x_aald C ly_16 rfl (by decide) (by decide) o7 dX6_sameGoings_46 ?_
    refine x_iload_n C dX6_sameGoings_47 rfl ?_
    obtain ⟨o8, h⟩ := h
    refine x_iald2 C ly_16 rfl (by decide) (by decide) rfl o7 o8 dX6_sameGoings_48 ?_
    refine x_icmp_ne (tgt := 56) C (ka_gI hR1 ly_16 _) (ka_gI hR1 ly_16 _) dX6_sameGoings_49 (by decide) (fun q2 => ?_) (fun q2 => ?_)
    · have h := h.1 q2
      refine x_iconst C dX6_sameGoings_56 ?_
      exact x_zret C (by decide) h dX6_sameGoings_57
    · have h := h.2 q2
      refine x_iconst C dX6_sameGoings_52 ?_
      refine x_goto (tgt := 57) C dX6_sameGoings_53 (by decide) ?_
      exact x_zret C (by decide) h dX6_sameGoings_57
set_option maxRecDepth 100000 in
set_option maxHeartbeats 4000000 in
theorem lp_X6_mayGo_L104 {p : Program} {l : Launch} {e : Env} {s : State} {m : MethodId} {args : Array Value} {below : List Frame} {meth : Method} {c : Code} {D : va_G} {cy : Nat → ClassId} {ad : Nat → Int → Nat} (C : Cx p s m args meth c D cy ad (Ar ad) cX6_mayGo 4 RX6 (some .boolean)) (x1 : Int) (x2 : Int) (r1 : iR x1) (r2 : iR x2) (Q : Int → Mm → Prop) : ∀ (x3 : Int) (M : Mm), wp_X6_mayGo_L104 x1 x2 Q x3 M → iR x3 → Xj p l e rm_X6_mayGo s m args below meth c D cy ad (Ar ad) (MQ below (QX D cy ad (rZ Q)) args s 0 0 (Ar ad)) 4 0 0 104 [some (aR 7), some (aI x1), some (aI x2), some (aI x3)] [] M :=
  LP1.ind (P := fun x3 M => iR x3 → Xj p l e rm_X6_mayGo s m args below meth c D cy ad (Ar ad) (MQ below (QX D cy ad (rZ Q)) args s 0 0 (Ar ad)) 4 0 0 104 [some (aR 7), some (aI x1), some (aI x2), some (aI x3)] [] M) (fun R ih => by
    intro x3 M h r3
    unfold bc_X6_mayGo_L104 at h
    refine x_iload_n C dX6_mayGo_104 rfl ?_
    refine x_iload_n C dX6_mayGo_105 rfl ?_
    refine x_icmp_ge (tgt := 133) C r3 r1 dX6_mayGo_106 (by decide) (fun q1 => ?_) (fun q1 => ?_)
    · have h := h.1 q1
      refine x_iconst C dX6_mayGo_133 ?_
      exact x_zret C (by decide) h dX6_mayGo_134
    · have h := h.2 q1
      refine x_aload_n C dX6_mayGo_109 rfl ?_
      refine x_iload_n C dX6_mayGo_110 rfl ?_
      refine x_iload_n C dX6_mayGo_111 rfl ?_
      refine x_iload_n C dX6_mayGo_112 rfl ?_
      refine x_aload_n C dX6_mayGo_113 rfl ?_
      refine x_getR C gf_RX6_9 ly_7 rfl (by decide) dX6_mayGo_114 ?_
      refine x_iload_n C dX6_mayGo_117 rfl ?_
      obtain ⟨o1, h⟩ := h
      refine x_rng (fun hR1 => ?_)
      refine x_iald C ly_27 rfl (by decide) (by decide) o1 dX6_mayGo_118 ?_
      refine x_callV (vs := [aI x1, aI x3, aI x2, aI (M 27 x3)]) C cv_RX6_60 ly_7 rfl (by decide) ⟨rfl, rfl, Nat.le_of_ble_eq_true rfl, Nat.le_of_ble_eq_true rfl⟩ ⟨Nat.zero_le _, Nat.zero_le _⟩ rfl rfl (Nat.le_of_ble_eq_true rfl) dX6_mayGo_119 (sd_X6_sameGoings l D cy ad x1 x3 x2 (M 27 x3) r1 r3 r2 (ka_gI hR1 ly_27 _) M _ h) (fun _ M1 qz => ?_)
      obtain ⟨z1, rfl, rz1, h⟩ := qz
      refine x_if_ne (tgt := 127) C (ka_bi rz1) dX6_mayGo_122 (by decide) (fun q2 => ?_) (fun q2 => ?_)
      · have h := h.1 q2
        refine x_iinc C dX6_mayGo_127 rfl (Nat.le_of_ble_eq_true rfl) rfl ?_
        refine x_goto (tgt := 104) C dX6_mayGo_130 (by decide) ?_
        obtain ⟨o2, h⟩ := h
        exact ih _ _ h o2
      · have h := h.2 q2
        refine x_iconst C dX6_mayGo_125 ?_
        exact x_zret C (by decide) h dX6_mayGo_126)
set_option maxRecDepth 100000 in
set_option maxHeartbeats 4000000 in
theorem sd_X6_mayGo (l : Launch) (D : va_G) (cy : Nat → ClassId) (ad : Nat → Int → Nat) (x1 : Int) (x2 : Int) (r1 : iR x1) (r2 : iR x2) (M : Mm) (Q : Int → Mm → Prop) (h : wp_X6_mayGo x1 x2 M Q) : Ct l D cy ad yX6_mayGo cX6_mayGo 4 (some .boolean) rm_X6_mayGo [aR 7, aI x1, aI x2] M (rZ Q) := by
  refine ct_of (z := 1) (ls := [some (aR 7), some (aI x1), some (aI x2), none]) (by decide) rfl (Nat.le_of_ble_eq_true rfl) ?_
  intro p e s m args below meth c C
  have C : Cx p s m args meth c D cy ad (Ar ad) cX6_mayGo 4 RX6 (some .boolean) := C
  unfold wp_X6_mayGo at h
  refine x_aload_n C dX6_mayGo_0 rfl ?_
  refine x_getR C gf_RX6_18 ly_7 rfl (by decide) dX6_mayGo_1 ?_
  refine x_iload_n C dX6_mayGo_4 rfl ?_
  obtain ⟨o1, h⟩ := h
  refine x_rng (fun hR1 => ?_)
  refine x_zald C ly_29 rfl (by decide) (by decide) o1 dX6_mayGo_5 ?_
  refine x_if_ne (tgt := 29) C (ka_bi (ka_gZ hR1 ly_29 _)) dX6_mayGo_6 (by decide) (fun q1 => ?_) (fun q1 => ?_)
  · have h := h.1 q1
    refine x_iconst C dX6_mayGo_29 ?_
    exact x_zret C (by decide) h dX6_mayGo_30
  · have h := h.2 q1
    refine x_aload_n C dX6_mayGo_9 rfl ?_
    refine x_getR C gf_RX6_15 ly_7 rfl (by decide) dX6_mayGo_10 ?_
    refine x_iload_n C dX6_mayGo_13 rfl ?_
    obtain ⟨o2, h⟩ := h
    refine x_iald C ly_28 rfl (by decide) (by decide) o2 dX6_mayGo_14 ?_
    refine x_iconst C dX6_mayGo_15 ?_
    refine x_icmp_eq (tgt := 31) C (ka_gI hR1 ly_28 _) (by decide) dX6_mayGo_16 (by decide) (fun q2 => ?_) (fun q2 => ?_)
    · have h := h.1 q2
      refine x_aload_n C dX6_mayGo_31 rfl ?_
      refine x_getR C gf_RX6_22 ly_7 rfl (by decide) dX6_mayGo_32 ?_
      refine x_getR C gf_RX6_50 ly_3 rfl (by decide) dX6_mayGo_35 ?_
      refine x_iload_n C dX6_mayGo_38 rfl ?_
      obtain ⟨o3, h⟩ := h
      refine x_iald C ly_14 rfl (by decide) (by decide) o3 dX6_mayGo_39 ?_
      refine x_aload_n C dX6_mayGo_40 rfl ?_
      refine x_getR C gf_RX6_22 ly_7 rfl (by decide) dX6_mayGo_41 ?_
      refine x_getR C gf_RX6_50 ly_3 rfl (by decide) dX6_mayGo_44 ?_
      refine x_iload_n C dX6_mayGo_47 rfl ?_
      obtain ⟨o4, h⟩ := h
      refine x_iald C ly_14 rfl (by decide) (by decide) o4 dX6_mayGo_48 ?_
      refine x_icmp_ne (tgt := 73) C (ka_gI hR1 ly_14 _) (ka_gI hR1 ly_14 _) dX6_mayGo_49 (by decide) (fun q3 => ?_) (fun q3 => ?_)
      · have h := h.1 q3
        refine x_iconst C dX6_mayGo_73 ?_
        exact x_zret C (by decide) h dX6_mayGo_74
      · have h := h.2 q3
        refine x_aload_n C dX6_mayGo_52 rfl ?_
        refine x_getR C gf_RX6_22 ly_7 rfl (by decide) dX6_mayGo_53 ?_
        refine x_getR C gf_RX6_53 ly_3 rfl (by decide) dX6_mayGo_56 ?_
        refine x_iload_n C dX6_mayGo_59 rfl ?_
        obtain ⟨o5, h⟩ := h
        refine x_iald C ly_15 rfl (by decide) (by decide) o5 dX6_mayGo_60 ?_
        refine x_aload_n C dX6_mayGo_61 rfl ?_
        refine x_getR C gf_RX6_22 ly_7 rfl (by decide) dX6_mayGo_62 ?_
        refine x_getR C gf_RX6_53 ly_3 rfl (by decide) dX6_mayGo_65 ?_
        refine x_iload_n C dX6_mayGo_68 rfl ?_
        obtain ⟨o6, h⟩ := h
        refine x_iald C ly_15 rfl (by decide) (by decide) o6 dX6_mayGo_69 ?_
        refine x_icmp_eq (tgt := 75) C (ka_gI hR1 ly_15 _) (ka_gI hR1 ly_15 _) dX6_mayGo_70 (by decide) (fun q4 => ?_) (fun q4 => ?_)
        · have h := h.1 q4
          refine x_aload_n C dX6_mayGo_75 rfl ?_
          refine x_getR C gf_RX6_22 ly_7 rfl (by decide) dX6_mayGo_76 ?_
          refine x_getR C gf_RX6_56 ly_3 rfl (by decide) dX6_mayGo_79 ?_
          refine x_iload_n C dX6_mayGo_82 rfl ?_
          obtain ⟨o7, h⟩ := h
          refine x_aald C ly_16 rfl (by decide) (by decide) o7 dX6_mayGo_83 ?_
          refine x_iload_n C dX6_mayGo_84 rfl ?_
          obtain ⟨o8, h⟩ := h
          refine x_iald2 C ly_16 rfl (by decide) (by decide) rfl o7 o8 dX6_mayGo_85 ?_
          refine x_aload_n C dX6_mayGo_86 rfl ?_
          refine x_getR C gf_RX6_22 ly_7 rfl (by decide) dX6_mayGo_87 ?_
          refine x_getR C gf_RX6_56 ly_3 rfl (by decide) dX6_mayGo_90 ?_
          refine x_iload_n C dX6_mayGo_93 rfl ?_
          obtain ⟨o9, h⟩ := h
          refine x_aald C ly_16 rfl (by decide) (by decide) o9 dX6_mayGo_94 ?_
          refine x_iload_n C dX6_mayGo_95 rfl ?_
          obtain ⟨o10, h⟩ := h
          refine x_iald2 C ly_16 rfl (by decide) (by decide) rfl o9 o10 dX6_mayGo_96 ?_
          refine x_icmp_eq (tgt := 102) C (ka_gI hR1 ly_16 _) (ka_gI hR1 ly_16 _) dX6_mayGo_97 (by decide) (fun q5 => ?_) (fun q5 => ?_)
          · have h := h.1 q5
            refine x_iconst C dX6_mayGo_102 ?_
            refine x_istore_n C dX6_mayGo_103 (Nat.le_of_ble_eq_true rfl) rfl ?_
            refine lp_X6_mayGo_L104 C x1 x2 r1 r2 Q _ _ h (by decide)
          · have h := h.2 q5
            refine x_iconst C dX6_mayGo_100 ?_
            exact x_zret C (by decide) h dX6_mayGo_101
        · have h := h.2 q4
          refine x_iconst C dX6_mayGo_73 ?_
          exact x_zret C (by decide) h dX6_mayGo_74
    · have h := h.2 q2
      refine x_aload_n C dX6_mayGo_19 rfl ?_
      refine x_getR C gf_RX6_15 ly_7 rfl (by decide) dX6_mayGo_20 ?_
      refine x_iload_n C dX6_mayGo_23 rfl ?_
      obtain ⟨o11, h⟩ := h
      refine x_iald C ly_28 rfl (by decide) (by decide) o11 dX6_mayGo_24 ?_
      refine x_iload_n C dX6_mayGo_25 rfl ?_
      refine x_icmp_eq (tgt := 31) C (ka_gI hR1 ly_28 _) r2 dX6_mayGo_26 (by decide) (fun q6 => ?_) (fun q6 => ?_)
      · have h := h.1 q6
        refine x_aload_n C dX6_mayGo_31 rfl ?_
        refine x_getR C gf_RX6_22 ly_7 rfl (by decide) dX6_mayGo_32 ?_
        refine x_getR C gf_RX6_50 ly_3 rfl (by decide) dX6_mayGo_35 ?_
        refine x_iload_n C dX6_mayGo_38 rfl ?_
        obtain ⟨o12, h⟩ := h
        refine x_iald C ly_14 rfl (by decide) (by decide) o12 dX6_mayGo_39 ?_
        refine x_aload_n C dX6_mayGo_40 rfl ?_
        refine x_getR C gf_RX6_22 ly_7 rfl (by decide) dX6_mayGo_41 ?_
        refine x_getR C gf_RX6_50 ly_3 rfl (by decide) dX6_mayGo_44 ?_
        refine x_iload_n C dX6_mayGo_47 rfl ?_
        obtain ⟨o13, h⟩ := h
        refine x_iald C ly_14 rfl (by decide) (by decide) o13 dX6_mayGo_48 ?_
        refine x_icmp_ne (tgt := 73) C (ka_gI hR1 ly_14 _) (ka_gI hR1 ly_14 _) dX6_mayGo_49 (by decide) (fun q7 => ?_) (fun q7 => ?_)
        · have h := h.1 q7
          refine x_iconst C dX6_mayGo_73 ?_
          exact x_zret C (by decide) h dX6_mayGo_74
        · have h := h.2 q7
          refine x_aload_n C dX6_mayGo_52 rfl ?_
          refine x_getR C gf_RX6_22 ly_7 rfl (by decide) dX6_mayGo_53 ?_
          refine x_getR C gf_RX6_53 ly_3 rfl (by decide) dX6_mayGo_56 ?_
          refine x_iload_n C dX6_mayGo_59 rfl ?_
          obtain ⟨o14, h⟩ := h
          refine x_iald C ly_15 rfl (by decide) (by decide) o14 dX6_mayGo_60 ?_
          refine x_aload_n C dX6_mayGo_61 rfl ?_
          refine x_getR C gf_RX6_22 ly_7 rfl (by decide) dX6_mayGo_62 ?_
          refine x_getR C gf_RX6_53 ly_3 rfl (by decide) dX6_mayGo_65 ?_
          refine x_iload_n C dX6_mayGo_68 rfl ?_
          obtain ⟨o15, h⟩ := h
          refine x_iald C ly_15 rfl (by decide) (by decide) o15 dX6_mayGo_69 ?_
          refine x_icmp_eq (tgt := 75) C (ka_gI hR1 ly_15 _) (ka_gI hR1 ly_15 _) dX6_mayGo_70 (by decide) (fun q8 => ?_) (fun q8 => ?_)
          · have h := h.1 q8
            refine x_aload_n C dX6_mayGo_75 rfl ?_
            refine x_getR C gf_RX6_22 ly_7 rfl (by decide) dX6_mayGo_76 ?_
            refine x_getR C gf_RX6_56 ly_3 rfl (by decide) dX6_mayGo_79 ?_
            refine x_iload_n C dX6_mayGo_82 rfl ?_
            obtain ⟨o16, h⟩ := h
            refine x_aald C ly_16 rfl (by decide) (by decide) o16 dX6_mayGo_83 ?_
            refine x_iload_n C dX6_mayGo_84 rfl ?_
            obtain ⟨o17, h⟩ := h
            refine x_iald2 C ly_16 rfl (by decide) (by decide) rfl o16 o17 dX6_mayGo_85 ?_
            refine x_aload_n C dX6_mayGo_86 rfl ?_
            refine x_getR C gf_RX6_22 ly_7 rfl (by decide) dX6_mayGo_87 ?_
            refine x_getR C gf_RX6_56 ly_3 rfl (by decide) dX6_mayGo_90 ?_
            refine x_iload_n C dX6_mayGo_93 rfl ?_
            obtain ⟨o18, h⟩ := h
            refine x_aald C ly_16 rfl (by decide) (by decide) o18 dX6_mayGo_94 ?_
            refine x_iload_n C dX6_mayGo_95 rfl ?_
            obtain ⟨o19, h⟩ := h
            refine x_iald2 C ly_16 rfl (by decide) (by decide) rfl o18 o19 dX6_mayGo_96 ?_
            refine x_icmp_eq (tgt := 102) C (ka_gI hR1 ly_16 _) (ka_gI hR1 ly_16 _) dX6_mayGo_97 (by decide) (fun q9 => ?_) (fun q9 => ?_)
            · have h := h.1 q9
              refine x_iconst C dX6_mayGo_102 ?_
              refine x_istore_n C dX6_mayGo_103 (Nat.le_of_ble_eq_true rfl) rfl ?_
              refine lp_X6_mayGo_L104 C x1 x2 r1 r2 Q _ _ h (by decide)
            · have h := h.2 q9
              refine x_iconst C dX6_mayGo_100 ?_
              exact x_zret C (by decide) h dX6_mayGo_101
          · have h := h.2 q8
            refine x_iconst C dX6_mayGo_73 ?_
            exact x_zret C (by decide) h dX6_mayGo_74
      · have h := h.2 q6
        refine x_iconst C dX6_mayGo_29 ?_
        exact x_zret C (by decide) h dX6_mayGo_30
set_option maxRecDepth 100000 in
set_option maxHeartbeats 4000000 in
theorem sd_X6_turnsWith (l : Launch) (D : va_G) (cy : Nat → ClassId) (ad : Nat → Int → Nat) (PF : Int → Mm → (Int → Mm → Prop) → Prop) (d : Nat) (ihPF : ∀ (x1 : Int) (_ : iR x1) (M : Mm) (Q : Int → Mm → Prop), PF x1 M Q → Ct l D cy ad yX6_turnsFrom cX6_turnsFrom 4 (some .int) (rm_X6_turnsFrom d) [aR 7, aI x1] M (rI Q)) (x1 : Int) (x2 : Int) (r1 : iR x1) (r2 : iR x2) (M : Mm) (Q : Int → Mm → Prop) (h : wp_X6_turnsWith PF x1 x2 M Q) : Ct l D cy ad yX6_turnsWith cX6_turnsWith 4 (some .int) (rm_X6_turnsWith d) [aR 7, aI x1, aI x2] M (rI Q) := by
  refine ct_of (z := 1) (ls := [some (aR 7), some (aI x1), some (aI x2), none]) (by decide) rfl (Nat.le_of_ble_eq_true rfl) ?_
  intro p e s m args below meth c C
  have C : Cx p s m args meth c D cy ad (Ar ad) cX6_turnsWith 4 RX6 (some .int) := C
  unfold wp_X6_turnsWith at h
  refine x_aload_n C dX6_turnsWith_0 rfl ?_
  refine x_getR C gf_RX6_9 ly_7 rfl (by decide) dX6_turnsWith_1 ?_
  refine x_iload_n C dX6_turnsWith_4 rfl ?_
  refine x_iload_n C dX6_turnsWith_5 rfl ?_
  obtain ⟨o1, h⟩ := h
  refine x_iast C ly_27 rfl (by decide) (by decide) o1 r2 dX6_turnsWith_6 ?_
  refine x_aload_n C dX6_turnsWith_7 rfl ?_
  refine x_getR C gf_RX6_18 ly_7 rfl (by decide) dX6_turnsWith_8 ?_
  refine x_iload_n C dX6_turnsWith_11 rfl ?_
  refine x_iconst C dX6_turnsWith_12 ?_
  obtain ⟨o2, h⟩ := h
  refine x_zast C ly_29 rfl (by decide) (by decide) o2 (by decide) dX6_turnsWith_13 ?_
  refine x_aload_n C dX6_turnsWith_14 rfl ?_
  refine x_iload_n C dX6_turnsWith_15 rfl ?_
  refine x_iconst C dX6_turnsWith_16 ?_
  refine x_iadd C dX6_turnsWith_17 ?_
  obtain ⟨o3, h⟩ := h
  refine x_callV (vs := [aI (x1 + 1)]) C cv_RX6_32 ly_7 rfl (by decide) ⟨rfl, rfl, (show 2 * d + 4 + 1 ≤ 2 * d + 5 by omega), (show 8 + (4 + 11) + (80 * d + 200) ≤ 80 * d + 240 by omega)⟩ ⟨Nat.zero_le _, Nat.zero_le _⟩ rfl rfl (Nat.le_of_ble_eq_true rfl) dX6_turnsWith_18 (ihPF (x1 + 1) o3 (mset (mset M 27 x1 x2) 29 x2 1) _ h) (fun _ M1 qz => ?_)
  obtain ⟨z1, rfl, rz1, h⟩ := qz
  refine x_istore_n C dX6_turnsWith_21 (Nat.le_of_ble_eq_true rfl) rfl ?_
  refine x_aload_n C dX6_turnsWith_22 rfl ?_
  refine x_getR C gf_RX6_18 ly_7 rfl (by decide) dX6_turnsWith_23 ?_
  refine x_iload_n C dX6_turnsWith_26 rfl ?_
  refine x_iconst C dX6_turnsWith_27 ?_
  obtain ⟨o4, h⟩ := h
  refine x_zast C ly_29 rfl (by decide) (by decide) o4 (by decide) dX6_turnsWith_28 ?_
  refine x_iload_n C dX6_turnsWith_29 rfl ?_
  exact x_iret C rz1 h dX6_turnsWith_30
set_option maxRecDepth 100000 in
set_option maxHeartbeats 4000000 in
theorem lp_X6_turnsFrom_L23 {p : Program} {l : Launch} {e : Env} {s : State} {m : MethodId} {args : Array Value} {below : List Frame} {meth : Method} {c : Code} {D : va_G} {cy : Nat → ClassId} {ad : Nat → Int → Nat} (PF : Int → Mm → (Int → Mm → Prop) → Prop) (d : Nat) (ihPF : ∀ (x1 : Int) (_ : iR x1) (M : Mm) (Q : Int → Mm → Prop), PF x1 M Q → Ct l D cy ad yX6_turnsFrom cX6_turnsFrom 4 (some .int) (rm_X6_turnsFrom d) [aR 7, aI x1] M (rI Q)) (C : Cx p s m args meth c D cy ad (Ar ad) cX6_turnsFrom 4 RX6 (some .int)) (x1 : Int) (r1 : iR x1) (Q : Int → Mm → Prop) : ∀ (x2 : Int) (x3 : Int) (M : Mm), wp_X6_turnsFrom_L23 PF x1 Q x2 x3 M → iR x2 → iR x3 → Xj p l e (rm_X6_turnsFrom (d + 1)) s m args below meth c D cy ad (Ar ad) (MQ below (QX D cy ad (rI Q)) args s 0 0 (Ar ad)) 4 0 0 23 [some (aR 7), some (aI x1), some (aI x2), some (aI x3)] [] M :=
  LP2.ind (P := fun x2 x3 M => iR x2 → iR x3 → Xj p l e (rm_X6_turnsFrom (d + 1)) s m args below meth c D cy ad (Ar ad) (MQ below (QX D cy ad (rI Q)) args s 0 0 (Ar ad)) 4 0 0 23 [some (aR 7), some (aI x1), some (aI x2), some (aI x3)] [] M) (fun R ih => by
    intro x2 x3 M h r2 r3
    unfold bc_X6_turnsFrom_L23 at h
    refine x_iload_n C dX6_turnsFrom_23 rfl ?_
    refine x_aload_n C dX6_turnsFrom_24 rfl ?_
    refine x_getR C gf_RX6_22 ly_7 rfl (by decide) dX6_turnsFrom_25 ?_
    refine x_rng (fun hR1 => ?_)
    refine x_getI C gf_RX6_36 ly_3 rfl rfl (by decide) dX6_turnsFrom_28 ?_
    refine x_icmp_ge (tgt := 64) C r3 (ka_fI hR1 ly_3 rfl) dX6_turnsFrom_31 (by decide) (fun q1 => ?_) (fun q1 => ?_)
    · have h := h.1 q1
      refine x_iload_n C dX6_turnsFrom_64 rfl ?_
      exact x_iret C r2 h dX6_turnsFrom_65
    · have h := h.2 q1
      refine x_iload_n C dX6_turnsFrom_34 rfl ?_
      refine x_bipush C dX6_turnsFrom_35 rfl ?_
      refine x_icmp_ge (tgt := 64) C r3 (by decide) dX6_turnsFrom_37 (by decide) (fun q2 => ?_) (fun q2 => ?_)
      · have h := h.1 q2
        refine x_iload_n C dX6_turnsFrom_64 rfl ?_
        exact x_iret C r2 h dX6_turnsFrom_65
      · have h := h.2 q2
        refine x_aload_n C dX6_turnsFrom_40 rfl ?_
        refine x_iload_n C dX6_turnsFrom_41 rfl ?_
        refine x_iload_n C dX6_turnsFrom_42 rfl ?_
        refine x_callV (vs := [aI x1, aI x3]) C cv_RX6_42 ly_7 rfl (by decide) ⟨rfl, rfl, (show 1 + 1 ≤ 2 * (d + 1) + 4 by omega), (show 8 + (4 + 11) + (24) ≤ 80 * (d + 1) + 200 by omega)⟩ ⟨Nat.zero_le _, Nat.zero_le _⟩ rfl rfl (Nat.le_of_ble_eq_true rfl) dX6_turnsFrom_43 (sd_X6_mayGo l D cy ad x1 x3 r1 r3 M _ h) (fun _ M1 qz => ?_)
        obtain ⟨z1, rfl, rz1, h⟩ := qz
        refine x_if_eq (tgt := 58) C (ka_bi rz1) dX6_turnsFrom_46 (by decide) (fun q3 => ?_) (fun q3 => ?_)
        · have h := h.1 q3
          refine x_iinc C dX6_turnsFrom_58 rfl (Nat.le_of_ble_eq_true rfl) rfl ?_
          refine x_goto (tgt := 23) C dX6_turnsFrom_61 (by decide) ?_
          obtain ⟨o1, h⟩ := h
          exact ih _ _ _ h r2 o1
        · have h := h.2 q3
          refine x_iload_n C dX6_turnsFrom_49 rfl ?_
          refine x_aload_n C dX6_turnsFrom_50 rfl ?_
          refine x_iload_n C dX6_turnsFrom_51 rfl ?_
          refine x_iload_n C dX6_turnsFrom_52 rfl ?_
          refine x_callV (vs := [aI x1, aI x3]) C cv_RX6_46 ly_7 rfl (by decide) ⟨rfl, rfl, (show 2 * d + 5 + 1 ≤ 2 * (d + 1) + 4 by omega), (show 8 + (4 + 11) + (80 * d + 240) ≤ 80 * (d + 1) + 200 by omega)⟩ ⟨Nat.zero_le _, Nat.zero_le _⟩ rfl rfl (Nat.le_of_ble_eq_true rfl) dX6_turnsFrom_53 (sd_X6_turnsWith l D cy ad PF d ihPF x1 x3 r1 r3 M1 _ h) (fun _ M2 qz => ?_)
          obtain ⟨z2, rfl, rz2, h⟩ := qz
          refine x_iadd C dX6_turnsFrom_56 ?_
          refine x_istore_n C dX6_turnsFrom_57 (Nat.le_of_ble_eq_true rfl) rfl ?_
          refine x_iinc C dX6_turnsFrom_58 rfl (Nat.le_of_ble_eq_true rfl) rfl ?_
          refine x_goto (tgt := 23) C dX6_turnsFrom_61 (by decide) ?_
          obtain ⟨o2, h⟩ := h
          obtain ⟨o3, h⟩ := h
          exact ih _ _ _ h o2 o3)
set_option maxRecDepth 100000 in
set_option maxHeartbeats 4000000 in
theorem sb_X6_turnsFrom (l : Launch) (D : va_G) (cy : Nat → ClassId) (ad : Nat → Int → Nat) (PF : Int → Mm → (Int → Mm → Prop) → Prop) (d : Nat) (ihPF : ∀ (x1 : Int) (_ : iR x1) (M : Mm) (Q : Int → Mm → Prop), PF x1 M Q → Ct l D cy ad yX6_turnsFrom cX6_turnsFrom 4 (some .int) (rm_X6_turnsFrom d) [aR 7, aI x1] M (rI Q)) (x1 : Int) (r1 : iR x1) (M : Mm) (Q : Int → Mm → Prop) (h : wb_X6_turnsFrom PF x1 M Q) : Ct l D cy ad yX6_turnsFrom cX6_turnsFrom 4 (some .int) (rm_X6_turnsFrom (d + 1)) [aR 7, aI x1] M (rI Q) := by
  refine ct_of (z := 2) (ls := [some (aR 7), some (aI x1), none, none]) (by decide) rfl (Nat.le_of_ble_eq_true rfl) ?_
  intro p e s m args below meth c C
  have C : Cx p s m args meth c D cy ad (Ar ad) cX6_turnsFrom 4 RX6 (some .int) := C
  unfold wb_X6_turnsFrom at h
  refine x_iload_n C dX6_turnsFrom_0 rfl ?_
  refine x_aload_n C dX6_turnsFrom_1 rfl ?_
  refine x_getR C gf_RX6_22 ly_7 rfl (by decide) dX6_turnsFrom_2 ?_
  refine x_rng (fun hR1 => ?_)
  refine x_getI C gf_RX6_36 ly_3 rfl rfl (by decide) dX6_turnsFrom_5 ?_
  refine x_icmp_ge (tgt := 17) C r1 (ka_fI hR1 ly_3 rfl) dX6_turnsFrom_8 (by decide) (fun q1 => ?_) (fun q1 => ?_)
  · have h := h.1 q1
    refine x_iconst C dX6_turnsFrom_17 ?_
    exact x_iret C (by decide) h dX6_turnsFrom_18
  · have h := h.2 q1
    refine x_iload_n C dX6_turnsFrom_11 rfl ?_
    refine x_bipush C dX6_turnsFrom_12 rfl ?_
    refine x_icmp_lt (tgt := 19) C r1 (by decide) dX6_turnsFrom_14 (by decide) (fun q2 => ?_) (fun q2 => ?_)
    · have h := h.1 q2
      refine x_iconst C dX6_turnsFrom_19 ?_
      refine x_istore_n C dX6_turnsFrom_20 (Nat.le_of_ble_eq_true rfl) rfl ?_
      refine x_iconst C dX6_turnsFrom_21 ?_
      refine x_istore_n C dX6_turnsFrom_22 (Nat.le_of_ble_eq_true rfl) rfl ?_
      refine lp_X6_turnsFrom_L23 PF d ihPF C x1 r1 Q _ _ _ h (by decide) (by decide)
    · have h := h.2 q2
      refine x_iconst C dX6_turnsFrom_17 ?_
      exact x_iret C (by decide) h dX6_turnsFrom_18
theorem sd_X6_turnsFrom (l : Launch) (D : va_G) (cy : Nat → ClassId) (ad : Nat → Int → Nat) : ∀ (d : Nat) (x1 : Int) (r1 : iR x1) (M : Mm) (Q : Int → Mm → Prop) (_ : wp_X6_turnsFrom d x1 M Q), Ct l D cy ad yX6_turnsFrom cX6_turnsFrom 4 (some .int) (rm_X6_turnsFrom d) [aR 7, aI x1] M (rI Q) := by
  intro d
  induction d with
  | zero => intro x1 r1 M Q h; exact h.elim
  | succ d ih => intro x1 r1 M Q h; exact sb_X6_turnsFrom l D cy ad (wp_X6_turnsFrom d) d ih x1 r1 M Q h
set_option maxRecDepth 100000 in
set_option maxHeartbeats 4000000 in
theorem sd_X6_countTurns (l : Launch) (D : va_G) (cy : Nat → ClassId) (ad : Nat → Int → Nat) (M : Mm) (Q : Int → Mm → Prop) (h : wp_X6_countTurns M Q) : Ct l D cy ad yX6_countTurns cX6_countTurns 1 (some .int) rm_X6_countTurns [aR 7] M (rI Q) := by
  refine ct_of (z := 0) (ls := [some (aR 7)]) (by decide) rfl (Nat.le_of_ble_eq_true rfl) ?_
  intro p e s m args below meth c C
  have C : Cx p s m args meth c D cy ad (Ar ad) cX6_countTurns 1 RX6 (some .int) := C
  unfold wp_X6_countTurns at h
  refine x_aload_n C dX6_countTurns_0 rfl ?_
  refine x_getR C gf_RX6_15 ly_7 rfl (by decide) dX6_countTurns_1 ?_
  refine x_iconst C dX6_countTurns_4 ?_
  refine x_callS (vs := [aR 28, aI (-1)]) C cv_RX6_26 ⟨rfl, rfl, Nat.le_of_ble_eq_true rfl, Nat.le_of_ble_eq_true rfl⟩ ⟨Nat.zero_le _, Nat.zero_le _⟩ rfl rfl (Nat.le_of_ble_eq_true rfl) dX6_countTurns_5 (sd_J7_fill_53178_c28 l D cy ad (-1) (by decide) M _ h) (fun _ M1 qz => ?_)
  obtain ⟨rfl, h⟩ := qz
  refine x_aload_n C dX6_countTurns_8 rfl ?_
  refine x_iconst C dX6_countTurns_9 ?_
  refine x_callV (vs := [aI 0]) C cv_RX6_32 ly_7 rfl (by decide) ⟨rfl, rfl, Nat.le_of_ble_eq_true rfl, Nat.le_of_ble_eq_true rfl⟩ ⟨Nat.zero_le _, Nat.zero_le _⟩ rfl rfl (Nat.le_of_ble_eq_true rfl) dX6_countTurns_10 (sd_X6_turnsFrom l D cy ad 9 0 (by decide) M1 _ h) (fun _ M2 qz => ?_)
  obtain ⟨z1, rfl, rz1, h⟩ := qz
  exact x_iret C rz1 h dX6_countTurns_13
set_option maxRecDepth 100000 in
set_option maxHeartbeats 4000000 in
theorem sd_X7_turns (l : Launch) (D : va_G) (cy : Nat → ClassId) (ad : Nat → Int → Nat) (M : Mm) (Q : Int → Mm → Prop) (h : wp_X7_turns M Q) : Ct l D cy ad yX7_turns cX7_turns 1 (some .int) rm_X7_turns [aR 0] M (rI Q) := by
  refine ct_of (z := 0) (ls := [some (aR 0)]) (by decide) rfl (Nat.le_of_ble_eq_true rfl) ?_
  intro p e s m args below meth c C
  have C : Cx p s m args meth c D cy ad (Ar ad) cX7_turns 1 RX7 (some .int) := C
  unfold wp_X7_turns at h
  refine x_aload_n C dX7_turns_0 rfl ?_
  refine x_getR C gf_RX7_26 ly_0 rfl (by decide) dX7_turns_1 ?_
  refine x_rng (fun hR1 => ?_)
  refine x_getI C gf_RX7_99 ly_3 rfl rfl (by decide) dX7_turns_4 ?_
  refine x_iconst C dX7_turns_7 ?_
  refine x_icmp_lt (tgt := 23) C (ka_fI hR1 ly_3 rfl) (by decide) dX7_turns_8 (by decide) (fun q1 => ?_) (fun q1 => ?_)
  · have h := h.1 q1
    refine x_bipush C dX7_turns_23 rfl ?_
    exact x_iret C (by decide) h dX7_turns_25
  · have h := h.2 q1
    refine x_aload_n C dX7_turns_11 rfl ?_
    refine x_getR C gf_RX7_26 ly_0 rfl (by decide) dX7_turns_12 ?_
    refine x_getI C gf_RX7_99 ly_3 rfl rfl (by decide) dX7_turns_15 ?_
    refine x_bipush C dX7_turns_18 rfl ?_
    refine x_icmp_le (tgt := 26) C (ka_fI hR1 ly_3 rfl) (by decide) dX7_turns_20 (by decide) (fun q2 => ?_) (fun q2 => ?_)
    · have h := h.1 q2
      refine x_aload_n C dX7_turns_26 rfl ?_
      refine x_getR C gf_RX7_62 ly_0 rfl (by decide) dX7_turns_27 ?_
      refine x_callV (vs := []) C cv_RX7_199 ly_7 rfl (by decide) ⟨rfl, rfl, Nat.le_of_ble_eq_true rfl, Nat.le_of_ble_eq_true rfl⟩ ⟨Nat.zero_le _, Nat.zero_le _⟩ rfl rfl (Nat.le_of_ble_eq_true rfl) dX7_turns_30 (sd_X6_countTurns l D cy ad M _ h) (fun _ M1 qz => ?_)
      obtain ⟨z1, rfl, rz1, h⟩ := qz
      exact x_iret C rz1 h dX7_turns_33
    · have h := h.2 q2
      refine x_bipush C dX7_turns_23 rfl ?_
      exact x_iret C (by decide) h dX7_turns_25
set_option maxRecDepth 100000 in
set_option maxHeartbeats 4000000 in
theorem lp_X8_isTurned_L41 {p : Program} {l : Launch} {e : Env} {s : State} {m : MethodId} {args : Array Value} {below : List Frame} {meth : Method} {c : Code} {D : va_G} {cy : Nat → ClassId} {ad : Nat → Int → Nat} (C : Cx p s m args meth c D cy ad (Ar ad) cX8_isTurned 4 RX8 (some .boolean)) (x1 : Int) (x2 : Int) (r1 : iR x1) (r2 : iR x2) (Q : Int → Mm → Prop) : ∀ (x3 : Int) (M : Mm), wp_X8_isTurned_L41 x1 x2 Q x3 M → iR x3 → Xj p l e rm_X8_isTurned s m args below meth c D cy ad (Ar ad) (MQ below (QX D cy ad (rZ Q)) args s 0 0 (Ar ad)) 4 0 0 41 [some (aR 8), some (aI x1), some (aI x2), some (aI x3)] [] M :=
  LP1.ind (P := fun x3 M => iR x3 → Xj p l e rm_X8_isTurned s m args below meth c D cy ad (Ar ad) (MQ below (QX D cy ad (rZ Q)) args s 0 0 (Ar ad)) 4 0 0 41 [some (aR 8), some (aI x1), some (aI x2), some (aI x3)] [] M) (fun R ih => by
    intro x3 M h r3
    unfold bc_X8_isTurned_L41 at h
    refine x_iload_n C dX8_isTurned_41 rfl ?_
    refine x_iload_n C dX8_isTurned_42 rfl ?_
    refine x_icmp_gt (tgt := 129) C r3 r1 dX8_isTurned_43 (by decide) (fun q1 => ?_) (fun q1 => ?_)
    · have h := h.1 q1
      refine x_iconst C dX8_isTurned_129 ?_
      exact x_zret C (by decide) h dX8_isTurned_130
    · have h := h.2 q1
      refine x_iload_n C dX8_isTurned_46 rfl ?_
      refine x_iload_n C dX8_isTurned_47 rfl ?_
      refine x_icmp_ge (tgt := 61) C r3 r1 dX8_isTurned_48 (by decide) (fun q2 => ?_) (fun q2 => ?_)
      · have h := h.1 q2
        refine x_aload_n C dX8_isTurned_61 rfl ?_
        refine x_getR C gf_RX8_33 ly_8 rfl (by decide) dX8_isTurned_62 ?_
        refine x_bipush C dX8_isTurned_65 rfl ?_
        refine x_iload_n C dX8_isTurned_67 rfl ?_
        refine x_imul C dX8_isTurned_68 ?_
        refine x_iload_n C dX8_isTurned_69 rfl ?_
        refine x_iadd C dX8_isTurned_70 ?_
        obtain ⟨o1, h⟩ := h
        refine x_rng (fun hR1 => ?_)
        refine x_iald C ly_36 rfl (by decide) (by decide) o1 dX8_isTurned_71 ?_
        refine x_aload_n C dX8_isTurned_72 rfl ?_
        refine x_getR C gf_RX8_33 ly_8 rfl (by decide) dX8_isTurned_73 ?_
        refine x_bipush C dX8_isTurned_76 rfl ?_
        refine x_iload_n C dX8_isTurned_78 rfl ?_
        refine x_imul C dX8_isTurned_79 ?_
        refine x_aload_n C dX8_isTurned_80 rfl ?_
        refine x_getR C gf_RX8_70 ly_8 rfl (by decide) dX8_isTurned_81 ?_
        refine x_iload_n C dX8_isTurned_84 rfl ?_
        obtain ⟨o2, h⟩ := h
        refine x_iald C ly_48 rfl (by decide) (by decide) o2 dX8_isTurned_85 ?_
        refine x_iadd C dX8_isTurned_86 ?_
        obtain ⟨o3, h⟩ := h
        refine x_iald C ly_36 rfl (by decide) (by decide) o3 dX8_isTurned_87 ?_
        refine x_icmp_ne (tgt := 121) C (ka_gI hR1 ly_36 _) (ka_gI hR1 ly_36 _) dX8_isTurned_88 (by decide) (fun q3 => ?_) (fun q3 => ?_)
        · have h := h.1 q3
          refine x_iconst C dX8_isTurned_121 ?_
          exact x_zret C (by decide) h dX8_isTurned_122
        · have h := h.2 q3
          refine x_aload_n C dX8_isTurned_91 rfl ?_
          refine x_getR C gf_RX8_33 ly_8 rfl (by decide) dX8_isTurned_92 ?_
          refine x_bipush C dX8_isTurned_95 rfl ?_
          refine x_iload_n C dX8_isTurned_97 rfl ?_
          refine x_imul C dX8_isTurned_98 ?_
          refine x_iload_n C dX8_isTurned_99 rfl ?_
          refine x_iadd C dX8_isTurned_100 ?_
          obtain ⟨o4, h⟩ := h
          refine x_iald C ly_36 rfl (by decide) (by decide) o4 dX8_isTurned_101 ?_
          refine x_aload_n C dX8_isTurned_102 rfl ?_
          refine x_getR C gf_RX8_33 ly_8 rfl (by decide) dX8_isTurned_103 ?_
          refine x_bipush C dX8_isTurned_106 rfl ?_
          refine x_aload_n C dX8_isTurned_108 rfl ?_
          refine x_getR C gf_RX8_70 ly_8 rfl (by decide) dX8_isTurned_109 ?_
          refine x_iload_n C dX8_isTurned_112 rfl ?_
          obtain ⟨o5, h⟩ := h
          refine x_iald C ly_48 rfl (by decide) (by decide) o5 dX8_isTurned_113 ?_
          refine x_imul C dX8_isTurned_114 ?_
          refine x_iload_n C dX8_isTurned_115 rfl ?_
          refine x_iadd C dX8_isTurned_116 ?_
          obtain ⟨o6, h⟩ := h
          refine x_iald C ly_36 rfl (by decide) (by decide) o6 dX8_isTurned_117 ?_
          refine x_icmp_eq (tgt := 123) C (ka_gI hR1 ly_36 _) (ka_gI hR1 ly_36 _) dX8_isTurned_118 (by decide) (fun q4 => ?_) (fun q4 => ?_)
          · have h := h.1 q4
            refine x_iinc C dX8_isTurned_123 rfl (Nat.le_of_ble_eq_true rfl) rfl ?_
            refine x_goto (tgt := 41) C dX8_isTurned_126 (by decide) ?_
            obtain ⟨o7, h⟩ := h
            exact ih _ _ h o7
          · have h := h.2 q4
            refine x_iconst C dX8_isTurned_121 ?_
            exact x_zret C (by decide) h dX8_isTurned_122
      · have h := h.2 q2
        refine x_aload_n C dX8_isTurned_51 rfl ?_
        refine x_getR C gf_RX8_70 ly_8 rfl (by decide) dX8_isTurned_52 ?_
        refine x_iload_n C dX8_isTurned_55 rfl ?_
        obtain ⟨o8, h⟩ := h
        refine x_rng (fun hR2 => ?_)
        refine x_iald C ly_48 rfl (by decide) (by decide) o8 dX8_isTurned_56 ?_
        refine x_iload_n C dX8_isTurned_57 rfl ?_
        refine x_icmp_eq (tgt := 121) C (ka_gI hR2 ly_48 _) r2 dX8_isTurned_58 (by decide) (fun q5 => ?_) (fun q5 => ?_)
        · have h := h.1 q5
          refine x_iconst C dX8_isTurned_121 ?_
          exact x_zret C (by decide) h dX8_isTurned_122
        · have h := h.2 q5
          refine x_aload_n C dX8_isTurned_61 rfl ?_
          refine x_getR C gf_RX8_33 ly_8 rfl (by decide) dX8_isTurned_62 ?_
          refine x_bipush C dX8_isTurned_65 rfl ?_
          refine x_iload_n C dX8_isTurned_67 rfl ?_
          refine x_imul C dX8_isTurned_68 ?_
          refine x_iload_n C dX8_isTurned_69 rfl ?_
          refine x_iadd C dX8_isTurned_70 ?_
          obtain ⟨o9, h⟩ := h
          refine x_iald C ly_36 rfl (by decide) (by decide) o9 dX8_isTurned_71 ?_
          refine x_aload_n C dX8_isTurned_72 rfl ?_
          refine x_getR C gf_RX8_33 ly_8 rfl (by decide) dX8_isTurned_73 ?_
          refine x_bipush C dX8_isTurned_76 rfl ?_
          refine x_iload_n C dX8_isTurned_78 rfl ?_
          refine x_imul C dX8_isTurned_79 ?_
          refine x_aload_n C dX8_isTurned_80 rfl ?_
          refine x_getR C gf_RX8_70 ly_8 rfl (by decide) dX8_isTurned_81 ?_
          refine x_iload_n C dX8_isTurned_84 rfl ?_
          obtain ⟨o10, h⟩ := h
          refine x_iald C ly_48 rfl (by decide) (by decide) o10 dX8_isTurned_85 ?_
          refine x_iadd C dX8_isTurned_86 ?_
          obtain ⟨o11, h⟩ := h
          refine x_iald C ly_36 rfl (by decide) (by decide) o11 dX8_isTurned_87 ?_
          refine x_icmp_ne (tgt := 121) C (ka_gI hR2 ly_36 _) (ka_gI hR2 ly_36 _) dX8_isTurned_88 (by decide) (fun q6 => ?_) (fun q6 => ?_)
          · have h := h.1 q6
            refine x_iconst C dX8_isTurned_121 ?_
            exact x_zret C (by decide) h dX8_isTurned_122
          · have h := h.2 q6
            refine x_aload_n C dX8_isTurned_91 rfl ?_
            refine x_getR C gf_RX8_33 ly_8 rfl (by decide) dX8_isTurned_92 ?_
            refine x_bipush C dX8_isTurned_95 rfl ?_
            refine x_iload_n C dX8_isTurned_97 rfl ?_
            refine x_imul C dX8_isTurned_98 ?_
            refine x_iload_n C dX8_isTurned_99 rfl ?_
            refine x_iadd C dX8_isTurned_100 ?_
            obtain ⟨o12, h⟩ := h
            refine x_iald C ly_36 rfl (by decide) (by decide) o12 dX8_isTurned_101 ?_
            refine x_aload_n C dX8_isTurned_102 rfl ?_
            refine x_getR C gf_RX8_33 ly_8 rfl (by decide) dX8_isTurned_103 ?_
            refine x_bipush C dX8_isTurned_106 rfl ?_
            refine x_aload_n C dX8_isTurned_108 rfl ?_
            refine x_getR C gf_RX8_70 ly_8 rfl (by decide) dX8_isTurned_109 ?_
            refine x_iload_n C dX8_isTurned_112 rfl ?_
            obtain ⟨o13, h⟩ := h
            refine x_iald C ly_48 rfl (by decide) (by decide) o13 dX8_isTurned_113 ?_
            refine x_imul C dX8_isTurned_114 ?_
            refine x_iload_n C dX8_isTurned_115 rfl ?_
            refine x_iadd C dX8_isTurned_116 ?_
            obtain ⟨o14, h⟩ := h
            refine x_iald C ly_36 rfl (by decide) (by decide) o14 dX8_isTurned_117 ?_
            refine x_icmp_eq (tgt := 123) C (ka_gI hR2 ly_36 _) (ka_gI hR2 ly_36 _) dX8_isTurned_118 (by decide) (fun q7 => ?_) (fun q7 => ?_)
            · have h := h.1 q7
              refine x_iinc C dX8_isTurned_123 rfl (Nat.le_of_ble_eq_true rfl) rfl ?_
              refine x_goto (tgt := 41) C dX8_isTurned_126 (by decide) ?_
              obtain ⟨o15, h⟩ := h
              exact ih _ _ h o15
            · have h := h.2 q7
              refine x_iconst C dX8_isTurned_121 ?_
              exact x_zret C (by decide) h dX8_isTurned_122)
set_option maxRecDepth 100000 in
set_option maxHeartbeats 4000000 in
theorem sd_X8_isTurned (l : Launch) (D : va_G) (cy : Nat → ClassId) (ad : Nat → Int → Nat) (x1 : Int) (r1 : iR x1) (M : Mm) (Q : Int → Mm → Prop) (h : wp_X8_isTurned x1 M Q) : Ct l D cy ad yX8_isTurned cX8_isTurned 4 (some .boolean) rm_X8_isTurned [aR 8, aI x1] M (rZ Q) := by
  refine ct_of (z := 2) (ls := [some (aR 8), some (aI x1), none, none]) (by decide) rfl (Nat.le_of_ble_eq_true rfl) ?_
  intro p e s m args below meth c C
  have C : Cx p s m args meth c D cy ad (Ar ad) cX8_isTurned 4 RX8 (some .boolean) := C
  unfold wp_X8_isTurned at h
  refine x_aload_n C dX8_isTurned_0 rfl ?_
  refine x_getR C gf_RX8_70 ly_8 rfl (by decide) dX8_isTurned_1 ?_
  refine x_iload_n C dX8_isTurned_4 rfl ?_
  obtain ⟨o1, h⟩ := h
  refine x_rng (fun hR1 => ?_)
  refine x_iald C ly_48 rfl (by decide) (by decide) o1 dX8_isTurned_5 ?_
  refine x_istore_n C dX8_isTurned_6 (Nat.le_of_ble_eq_true rfl) rfl ?_
  refine x_aload_n C dX8_isTurned_7 rfl ?_
  refine x_getR C gf_RX8_27 ly_8 rfl (by decide) dX8_isTurned_8 ?_
  refine x_iload_n C dX8_isTurned_11 rfl ?_
  obtain ⟨o2, h⟩ := h
  refine x_iald C ly_34 rfl (by decide) (by decide) o2 dX8_isTurned_12 ?_
  refine x_aload_n C dX8_isTurned_13 rfl ?_
  refine x_getR C gf_RX8_27 ly_8 rfl (by decide) dX8_isTurned_14 ?_
  refine x_iload_n C dX8_isTurned_17 rfl ?_
  obtain ⟨o3, h⟩ := h
  refine x_iald C ly_34 rfl (by decide) (by decide) o3 dX8_isTurned_18 ?_
  refine x_icmp_ne (tgt := 37) C (ka_gI hR1 ly_34 _) (ka_gI hR1 ly_34 _) dX8_isTurned_19 (by decide) (fun q1 => ?_) (fun q1 => ?_)
  · have h := h.1 q1
    refine x_iconst C dX8_isTurned_37 ?_
    exact x_zret C (by decide) h dX8_isTurned_38
  · have h := h.2 q1
    refine x_aload_n C dX8_isTurned_22 rfl ?_
    refine x_getR C gf_RX8_30 ly_8 rfl (by decide) dX8_isTurned_23 ?_
    refine x_iload_n C dX8_isTurned_26 rfl ?_
    obtain ⟨o4, h⟩ := h
    refine x_iald C ly_35 rfl (by decide) (by decide) o4 dX8_isTurned_27 ?_
    refine x_aload_n C dX8_isTurned_28 rfl ?_
    refine x_getR C gf_RX8_30 ly_8 rfl (by decide) dX8_isTurned_29 ?_
    refine x_iload_n C dX8_isTurned_32 rfl ?_
    obtain ⟨o5, h⟩ := h
    refine x_iald C ly_35 rfl (by decide) (by decide) o5 dX8_isTurned_33 ?_
    refine x_icmp_eq (tgt := 39) C (ka_gI hR1 ly_35 _) (ka_gI hR1 ly_35 _) dX8_isTurned_34 (by decide) (fun q2 => ?_) (fun q2 => ?_)
    · have h := h.1 q2
      refine x_iconst C dX8_isTurned_39 ?_
      refine x_istore_n C dX8_isTurned_40 (Nat.le_of_ble_eq_true rfl) rfl ?_
      refine lp_X8_isTurned_L41 C x1 (M 48 x1) r1 (ka_gI hR1 ly_48 _) Q _ _ h (by decide)
    · have h := h.2 q2
      refine x_iconst C dX8_isTurned_37 ?_
      exact x_zret C (by decide) h dX8_isTurned_38
set_option maxRecDepth 100000 in
set_option maxHeartbeats 4000000 in
theorem lp_X8_leads_L2 {p : Program} {l : Launch} {e : Env} {s : State} {m : MethodId} {args : Array Value} {below : List Frame} {meth : Method} {c : Code} {D : va_G} {cy : Nat → ClassId} {ad : Nat → Int → Nat} (C : Cx p s m args meth c D cy ad (Ar ad) cX8_leads 2 RX8 (some .boolean)) (Q : Int → Mm → Prop) : ∀ (x1 : Int) (M : Mm), wp_X8_leads_L2 Q x1 M → iR x1 → Xj p l e rm_X8_leads s m args below meth c D cy ad (Ar ad) (MQ below (QX D cy ad (rZ Q)) args s 0 0 (Ar ad)) 2 0 0 2 [some (aR 8), some (aI x1)] [] M :=
  LP1.ind (P := fun x1 M => iR x1 → Xj p l e rm_X8_leads s m args below meth c D cy ad (Ar ad) (MQ below (QX D cy ad (rZ Q)) args s 0 0 (Ar ad)) 2 0 0 2 [some (aR 8), some (aI x1)] [] M) (fun R ih => by
    intro x1 M h r1
    unfold bc_X8_leads_L2 at h
    refine x_iload_n C dX8_leads_2 rfl ?_
    refine x_aload_n C dX8_leads_3 rfl ?_
    refine x_rng (fun hR1 => ?_)
    refine x_getI C gf_RX8_7 ly_8 rfl rfl (by decide) dX8_leads_4 ?_
    refine x_icmp_ge (tgt := 38) C r1 (ka_fI hR1 ly_8 rfl) dX8_leads_7 (by decide) (fun q1 => ?_) (fun q1 => ?_)
    · have h := h.1 q1
      refine x_iconst C dX8_leads_38 ?_
      exact x_zret C (by decide) h dX8_leads_39
    · have h := h.2 q1
      refine x_aload_n C dX8_leads_10 rfl ?_
      refine x_getR C gf_RX8_70 ly_8 rfl (by decide) dX8_leads_11 ?_
      refine x_aload_n C dX8_leads_14 rfl ?_
      refine x_getR C gf_RX8_39 ly_8 rfl (by decide) dX8_leads_15 ?_
      refine x_iload_n C dX8_leads_18 rfl ?_
      obtain ⟨o1, h⟩ := h
      refine x_iald C ly_38 rfl (by decide) (by decide) o1 dX8_leads_19 ?_
      obtain ⟨o2, h⟩ := h
      refine x_iald C ly_48 rfl (by decide) (by decide) o2 dX8_leads_20 ?_
      refine x_aload_n C dX8_leads_21 rfl ?_
      refine x_getR C gf_RX8_42 ly_8 rfl (by decide) dX8_leads_22 ?_
      refine x_iload_n C dX8_leads_25 rfl ?_
      obtain ⟨o3, h⟩ := h
      refine x_iald C ly_39 rfl (by decide) (by decide) o3 dX8_leads_26 ?_
      refine x_icmp_eq (tgt := 32) C (ka_gI hR1 ly_48 _) (ka_gI hR1 ly_39 _) dX8_leads_27 (by decide) (fun q2 => ?_) (fun q2 => ?_)
      · have h := h.1 q2
        refine x_iinc C dX8_leads_32 rfl (Nat.le_of_ble_eq_true rfl) rfl ?_
        refine x_goto (tgt := 2) C dX8_leads_35 (by decide) ?_
        obtain ⟨o4, h⟩ := h
        exact ih _ _ h o4
      · have h := h.2 q2
        refine x_iconst C dX8_leads_30 ?_
        exact x_zret C (by decide) h dX8_leads_31)
set_option maxRecDepth 100000 in
set_option maxHeartbeats 4000000 in
theorem sd_X8_leads (l : Launch) (D : va_G) (cy : Nat → ClassId) (ad : Nat → Int → Nat) (M : Mm) (Q : Int → Mm → Prop) (h : wp_X8_leads M Q) : Ct l D cy ad yX8_leads cX8_leads 2 (some .boolean) rm_X8_leads [aR 8] M (rZ Q) := by
  refine ct_of (z := 1) (ls := [some (aR 8), none]) (by decide) rfl (Nat.le_of_ble_eq_true rfl) ?_
  intro p e s m args below meth c C
  have C : Cx p s m args meth c D cy ad (Ar ad) cX8_leads 2 RX8 (some .boolean) := C
  unfold wp_X8_leads at h
  refine x_iconst C dX8_leads_0 ?_
  refine x_istore_n C dX8_leads_1 (Nat.le_of_ble_eq_true rfl) rfl ?_
  refine lp_X8_leads_L2 C Q _ _ h (by decide)
set_option maxRecDepth 100000 in
set_option maxHeartbeats 4000000 in
theorem lp_X8_turned_L11 {p : Program} {l : Launch} {e : Env} {s : State} {m : MethodId} {args : Array Value} {below : List Frame} {meth : Method} {c : Code} {D : va_G} {cy : Nat → ClassId} {ad : Nat → Int → Nat} (C : Cx p s m args meth c D cy ad (Ar ad) cX8_turned 4 RX8 (some .int)) (x1 : Int) (r1 : iR x1) (Q : Int → Mm → Prop) : ∀ (x2 : Int) (x3 : Int) (M : Mm), wp_X8_turned_L11 x1 Q x2 x3 M → iR x2 → iR x3 → Xj p l e rm_X8_turned s m args below meth c D cy ad (Ar ad) (MQ below (QX D cy ad (rI Q)) args s 0 0 (Ar ad)) 4 0 0 11 [some (aR 8), some (aI x1), some (aI x2), some (aI x3)] [] M :=
  LP2.ind (P := fun x2 x3 M => iR x2 → iR x3 → Xj p l e rm_X8_turned s m args below meth c D cy ad (Ar ad) (MQ below (QX D cy ad (rI Q)) args s 0 0 (Ar ad)) 4 0 0 11 [some (aR 8), some (aI x1), some (aI x2), some (aI x3)] [] M) (fun R ih => by
    intro x2 x3 M h r2 r3
    unfold bc_X8_turned_L11 at h
    refine x_iload_n C dX8_turned_11 rfl ?_
    refine x_if_lt (tgt := 97) C r3 dX8_turned_12 (by decide) (fun q1 => ?_) (fun q1 => ?_)
    · have h := h.1 q1
      refine x_iload_n C dX8_turned_97 rfl ?_
      exact x_iret C r2 h dX8_turned_98
    · have h := h.2 q1
      refine x_aload_n C dX8_turned_15 rfl ?_
      refine x_getR C gf_RX8_70 ly_8 rfl (by decide) dX8_turned_16 ?_
      refine x_iload_n C dX8_turned_19 rfl ?_
      refine x_dup2 C dX8_turned_20 rfl rfl ?_
      obtain ⟨o1, h⟩ := h
      refine x_rng (fun hR1 => ?_)
      refine x_iald C ly_48 rfl (by decide) (by decide) o1 dX8_turned_21 ?_
      refine x_iconst C dX8_turned_22 ?_
      refine x_iadd C dX8_turned_23 ?_
      obtain ⟨o2, h⟩ := h
      obtain ⟨o3, h⟩ := h
      refine x_iast C ly_48 rfl (by decide) (by decide) o3 o2 dX8_turned_24 ?_
      refine x_aload_n C dX8_turned_25 rfl ?_
      refine x_getR C gf_RX8_70 ly_8 rfl (by decide) dX8_turned_26 ?_
      refine x_iload_n C dX8_turned_29 rfl ?_
      obtain ⟨o4, h⟩ := h
      refine x_rng (fun hR2 => ?_)
      refine x_iald C ly_48 rfl (by decide) (by decide) o4 dX8_turned_30 ?_
      refine x_aload_n C dX8_turned_31 rfl ?_
      refine x_getI C gf_RX8_80 ly_8 rfl rfl (by decide) dX8_turned_32 ?_
      refine x_icmp_ne (tgt := 44) C (ka_gI hR2 ly_48 _) (ka_fI hR2 ly_8 rfl) dX8_turned_35 (by decide) (fun q2 => ?_) (fun q2 => ?_)
      · have h := h.1 q2
        refine x_aload_n C dX8_turned_44 rfl ?_
        refine x_iload_n C dX8_turned_45 rfl ?_
        refine x_callV (vs := [aI x3]) C cv_RX8_155 ly_8 rfl (by decide) ⟨rfl, rfl, Nat.le_of_ble_eq_true rfl, Nat.le_of_ble_eq_true rfl⟩ ⟨Nat.zero_le _, Nat.zero_le _⟩ rfl rfl (Nat.le_of_ble_eq_true rfl) dX8_turned_46 (sd_X8_isTurned l D cy ad x3 r3 (mset M 48 x3 ((M 48 x3) + 1)) _ h) (fun _ M1 qz => ?_)
        obtain ⟨z1, rfl, rz1, h⟩ := qz
        refine x_if_eq (tgt := 11) C (ka_bi rz1) dX8_turned_49 (by decide) (fun q3 => ?_) (fun q3 => ?_)
        · have h := h.1 q3
          exact ih _ _ _ h r2 r3
        · have h := h.2 q3
          refine x_iload_n C dX8_turned_52 rfl ?_
          refine x_aload_n C dX8_turned_53 rfl ?_
          refine x_rng (fun hR3 => ?_)
          refine x_getI C gf_RX8_80 ly_8 rfl rfl (by decide) dX8_turned_54 ?_
          refine x_iconst C dX8_turned_57 ?_
          refine x_isub C dX8_turned_58 ?_
          obtain ⟨o5, h⟩ := h
          refine x_icmp_ne (tgt := 84) C r3 o5 dX8_turned_59 (by decide) (fun q4 => ?_) (fun q4 => ?_)
          · have h := h.1 q4
            refine x_iinc C dX8_turned_84 rfl (Nat.le_of_ble_eq_true rfl) rfl ?_
            refine x_aload_n C dX8_turned_87 rfl ?_
            refine x_getR C gf_RX8_70 ly_8 rfl (by decide) dX8_turned_88 ?_
            refine x_iload_n C dX8_turned_91 rfl ?_
            refine x_iconst C dX8_turned_92 ?_
            obtain ⟨o6, h⟩ := h
            refine x_iast C ly_48 rfl (by decide) (by decide) o6 (by decide) dX8_turned_93 ?_
            refine x_goto (tgt := 11) C dX8_turned_94 (by decide) ?_
            obtain ⟨o7, h⟩ := h
            exact ih _ _ _ h r2 o7
          · have h := h.2 q4
            refine x_iload_n C dX8_turned_62 rfl ?_
            refine x_iload_n C dX8_turned_63 rfl ?_
            refine x_if_eq (tgt := 74) C r1 dX8_turned_64 (by decide) (fun q5 => ?_) (fun q5 => ?_)
            · have h := h.1 q5
              refine x_iconst C dX8_turned_74 ?_
              refine x_goto (tgt := 79) C dX8_turned_75 (by decide) ?_
              refine x_iadd C dX8_turned_79 ?_
              refine x_istore_n C dX8_turned_80 (Nat.le_of_ble_eq_true rfl) rfl ?_
              refine x_goto (tgt := 11) C dX8_turned_81 (by decide) ?_
              obtain ⟨o8, h⟩ := h
              exact ih _ _ _ h o8 r3
            · have h := h.2 q5
              refine x_aload_n C dX8_turned_67 rfl ?_
              refine x_callV (vs := []) C cv_RX8_158 ly_8 rfl (by decide) ⟨rfl, rfl, Nat.le_of_ble_eq_true rfl, Nat.le_of_ble_eq_true rfl⟩ ⟨Nat.zero_le _, Nat.zero_le _⟩ rfl rfl (Nat.le_of_ble_eq_true rfl) dX8_turned_68 (sd_X8_leads l D cy ad M1 _ h) (fun _ M2 qz => ?_)
              obtain ⟨z2, rfl, rz2, h⟩ := qz
              refine x_if_eq (tgt := 78) C (ka_bi rz2) dX8_turned_71 (by decide) (fun q6 => ?_) (fun q6 => ?_)
              · have h := h.1 q6
                refine x_iconst C dX8_turned_78 ?_
                refine x_iadd C dX8_turned_79 ?_
                refine x_istore_n C dX8_turned_80 (Nat.le_of_ble_eq_true rfl) rfl ?_
                refine x_goto (tgt := 11) C dX8_turned_81 (by decide) ?_
                obtain ⟨o9, h⟩ := h
                exact ih _ _ _ h o9 r3
              · have h := h.2 q6
                refine x_iconst C dX8_turned_74 ?_
                refine x_goto (tgt := 79) C dX8_turned_75 (by decide) ?_
                refine x_iadd C dX8_turned_79 ?_
                refine x_istore_n C dX8_turned_80 (Nat.le_of_ble_eq_true rfl) rfl ?_
                refine x_goto (tgt := 11) C dX8_turned_81 (by decide) ?_
                obtain ⟨o10, h⟩ := h
                exact ih _ _ _ h o10 r3
      · have h := h.2 q2
        refine x_iinc C dX8_turned_38 rfl (Nat.le_of_ble_eq_true rfl) rfl ?_
        refine x_goto (tgt := 11) C dX8_turned_41 (by decide) ?_
        obtain ⟨o11, h⟩ := h
        exact ih _ _ _ h r2 o11)
set_option maxRecDepth 100000 in
set_option maxHeartbeats 4000000 in
theorem sd_X8_turned (l : Launch) (D : va_G) (cy : Nat → ClassId) (ad : Nat → Int → Nat) (x1 : Int) (r1 : iR x1) (M : Mm) (Q : Int → Mm → Prop) (h : wp_X8_turned x1 M Q) : Ct l D cy ad yX8_turned cX8_turned 4 (some .int) rm_X8_turned [aR 8, aI x1] M (rI Q) := by
  refine ct_of (z := 2) (ls := [some (aR 8), some (aI x1), none, none]) (by decide) rfl (Nat.le_of_ble_eq_true rfl) ?_
  intro p e s m args below meth c C
  have C : Cx p s m args meth c D cy ad (Ar ad) cX8_turned 4 RX8 (some .int) := C
  unfold wp_X8_turned at h
  refine x_iconst C dX8_turned_0 ?_
  refine x_istore_n C dX8_turned_1 (Nat.le_of_ble_eq_true rfl) rfl ?_
  refine x_iconst C dX8_turned_2 ?_
  refine x_istore_n C dX8_turned_3 (Nat.le_of_ble_eq_true rfl) rfl ?_
  refine x_aload_n C dX8_turned_4 rfl ?_
  refine x_getR C gf_RX8_70 ly_8 rfl (by decide) dX8_turned_5 ?_
  refine x_iconst C dX8_turned_8 ?_
  refine x_iconst C dX8_turned_9 ?_
  refine x_iast C ly_48 rfl (by decide) (by decide) (by decide) (by decide) dX8_turned_10 ?_
  refine lp_X8_turned_L11 C x1 r1 Q _ _ _ h (by decide) (by decide)
set_option maxRecDepth 100000 in
set_option maxHeartbeats 4000000 in
theorem sd_X8_turns (l : Launch) (D : va_G) (cy : Nat → ClassId) (ad : Nat → Int → Nat) (M : Mm) (Q : Int → Mm → Prop) (h : wp_X8_turns M Q) : Ct l D cy ad yX8_turns cX8_turns 1 (some .int) rm_X8_turns [aR 8] M (rI Q) := by
  refine ct_of (z := 0) (ls := [some (aR 8)]) (by decide) rfl (Nat.le_of_ble_eq_true rfl) ?_
  intro p e s m args below meth c C
  have C : Cx p s m args meth c D cy ad (Ar ad) cX8_turns 1 RX8 (some .int) := C
  unfold wp_X8_turns at h
  refine x_aload_n C dX8_turns_0 rfl ?_
  refine x_rng (fun hR1 => ?_)
  refine x_getI C gf_RX8_80 ly_8 rfl rfl (by decide) dX8_turns_1 ?_
  refine x_if_eq (tgt := 16) C (ka_fI hR1 ly_8 rfl) dX8_turns_4 (by decide) (fun q1 => ?_) (fun q1 => ?_)
  · have h := h.1 q1
    refine x_bipush C dX8_turns_16 rfl ?_
    refine x_goto (tgt := 26) C dX8_turns_18 (by decide) ?_
    exact x_iret C (by decide) h dX8_turns_26
  · have h := h.2 q1
    refine x_aload_n C dX8_turns_7 rfl ?_
    refine x_getI C gf_RX8_80 ly_8 rfl rfl (by decide) dX8_turns_8 ?_
    refine x_bipush C dX8_turns_11 rfl ?_
    refine x_icmp_le (tgt := 21) C (ka_fI hR1 ly_8 rfl) (by decide) dX8_turns_13 (by decide) (fun q2 => ?_) (fun q2 => ?_)
    · have h := h.1 q2
      refine x_aload_n C dX8_turns_21 rfl ?_
      refine x_iconst C dX8_turns_22 ?_
      refine x_callV (vs := [aI 0]) C cv_RX8_162 ly_8 rfl (by decide) ⟨rfl, rfl, Nat.le_of_ble_eq_true rfl, Nat.le_of_ble_eq_true rfl⟩ ⟨Nat.zero_le _, Nat.zero_le _⟩ rfl rfl (Nat.le_of_ble_eq_true rfl) dX8_turns_23 (sd_X8_turned l D cy ad 0 (by decide) M _ h) (fun _ M1 qz => ?_)
      obtain ⟨z1, rfl, rz1, h⟩ := qz
      exact x_iret C rz1 h dX8_turns_26
    · have h := h.2 q2
      refine x_bipush C dX8_turns_16 rfl ?_
      refine x_goto (tgt := 26) C dX8_turns_18 (by decide) ?_
      exact x_iret C (by decide) h dX8_turns_26
set_option maxRecDepth 100000 in
set_option maxHeartbeats 4000000 in
theorem lp_X6_leads_c19_c22_L11 {p : Program} {l : Launch} {e : Env} {s : State} {m : MethodId} {args : Array Value} {below : List Frame} {meth : Method} {c : Code} {D : va_G} {cy : Nat → ClassId} {ad : Nat → Int → Nat} (C : Cx p s m args meth c D cy ad (Ar ad) cX6_leads 5 RX6 (some .boolean)) (x3 : Int) (r3 : iR x3) (Q : Int → Mm → Prop) : ∀ (x4 : Int) (M : Mm), wp_X6_leads_c19_c22_L11 x3 Q x4 M → iR x4 → Xj p l e rm_X6_leads_c19_c22 s m args below meth c D cy ad (Ar ad) (MQ below (QX D cy ad (rZ Q)) args s 0 0 (Ar ad)) 5 0 0 11 [some (aR 7), some (aR 19), some (aR 22), some (aI x3), some (aI x4)] [] M :=
  LP1.ind (P := fun x4 M => iR x4 → Xj p l e rm_X6_leads_c19_c22 s m args below meth c D cy ad (Ar ad) (MQ below (QX D cy ad (rZ Q)) args s 0 0 (Ar ad)) 5 0 0 11 [some (aR 7), some (aR 19), some (aR 22), some (aI x3), some (aI x4)] [] M) (fun R ih => by
    intro x4 M h r4
    unfold bc_X6_leads_c19_c22_L11 at h
    refine x_iload C dX6_leads_11 rfl ?_
    refine x_iload_n C dX6_leads_13 rfl ?_
    refine x_icmp_ge (tgt := 36) C r4 r3 dX6_leads_14 (by decide) (fun q1 => ?_) (fun q1 => ?_)
    · have h := h.1 q1
      refine x_aload_n C dX6_leads_36 rfl ?_
      refine x_iconst C dX6_leads_37 ?_
      refine x_callV (vs := [aI 0]) C cv_RX6_32 ly_7 rfl (by decide) ⟨rfl, rfl, Nat.le_of_ble_eq_true rfl, Nat.le_of_ble_eq_true rfl⟩ ⟨Nat.zero_le _, Nat.zero_le _⟩ rfl rfl (Nat.le_of_ble_eq_true rfl) dX6_leads_38 (sd_X6_turnsFrom l D cy ad 9 0 (by decide) M _ h) (fun _ M1 qz => ?_)
      obtain ⟨z1, rfl, rz1, h⟩ := qz
      refine x_if_le (tgt := 48) C rz1 dX6_leads_41 (by decide) (fun q2 => ?_) (fun q2 => ?_)
      · have h := h.1 q2
        refine x_iconst C dX6_leads_48 ?_
        exact x_zret C (by decide) h dX6_leads_49
      · have h := h.2 q2
        refine x_iconst C dX6_leads_44 ?_
        refine x_goto (tgt := 49) C dX6_leads_45 (by decide) ?_
        exact x_zret C (by decide) h dX6_leads_49
    · have h := h.2 q1
      refine x_aload_n C dX6_leads_17 rfl ?_
      refine x_getR C gf_RX6_15 ly_7 rfl (by decide) dX6_leads_18 ?_
      refine x_aload_n C dX6_leads_21 rfl ?_
      refine x_iload C dX6_leads_22 rfl ?_
      obtain ⟨o1, h⟩ := h
      refine x_rng (fun hR1 => ?_)
      refine x_iald C ly_19 rfl (by decide) (by decide) o1 dX6_leads_24 ?_
      refine x_aload_n C dX6_leads_25 rfl ?_
      refine x_iload C dX6_leads_26 rfl ?_
      obtain ⟨o2, h⟩ := h
      refine x_iald C ly_22 rfl (by decide) (by decide) o2 dX6_leads_28 ?_
      obtain ⟨o3, h⟩ := h
      refine x_iast C ly_28 rfl (by decide) (by decide) o3 (ka_gI hR1 ly_22 _) dX6_leads_29 ?_
      refine x_iinc C dX6_leads_30 rfl (Nat.le_of_ble_eq_true rfl) rfl ?_
      refine x_goto (tgt := 11) C dX6_leads_33 (by decide) ?_
      obtain ⟨o4, h⟩ := h
      exact ih _ _ h o4)
set_option maxRecDepth 100000 in
set_option maxHeartbeats 4000000 in
theorem sd_X6_leads_c19_c22 (l : Launch) (D : va_G) (cy : Nat → ClassId) (ad : Nat → Int → Nat) (x3 : Int) (r3 : iR x3) (M : Mm) (Q : Int → Mm → Prop) (h : wp_X6_leads_c19_c22 x3 M Q) : Ct l D cy ad yX6_leads cX6_leads 5 (some .boolean) rm_X6_leads_c19_c22 [aR 7, aR 19, aR 22, aI x3] M (rZ Q) := by
  refine ct_of (z := 1) (ls := [some (aR 7), some (aR 19), some (aR 22), some (aI x3), none]) (by decide) rfl (Nat.le_of_ble_eq_true rfl) ?_
  intro p e s m args below meth c C
  have C : Cx p s m args meth c D cy ad (Ar ad) cX6_leads 5 RX6 (some .boolean) := C
  unfold wp_X6_leads_c19_c22 at h
  refine x_aload_n C dX6_leads_0 rfl ?_
  refine x_getR C gf_RX6_15 ly_7 rfl (by decide) dX6_leads_1 ?_
  refine x_iconst C dX6_leads_4 ?_
  refine x_callS (vs := [aR 28, aI (-1)]) C cv_RX6_26 ⟨rfl, rfl, Nat.le_of_ble_eq_true rfl, Nat.le_of_ble_eq_true rfl⟩ ⟨Nat.zero_le _, Nat.zero_le _⟩ rfl rfl (Nat.le_of_ble_eq_true rfl) dX6_leads_5 (sd_J7_fill_53178_c28 l D cy ad (-1) (by decide) M _ h) (fun _ M1 qz => ?_)
  obtain ⟨rfl, h⟩ := qz
  refine x_iconst C dX6_leads_8 ?_
  refine x_istore C dX6_leads_9 (Nat.le_of_ble_eq_true rfl) rfl ?_
  refine lp_X6_leads_c19_c22_L11 C x3 r3 Q _ _ h (by decide)
set_option maxRecDepth 100000 in
set_option maxHeartbeats 4000000 in
theorem sd_X7_alike (l : Launch) (D : va_G) (cy : Nat → ClassId) (ad : Nat → Int → Nat) (M : Mm) (Q : Int → Mm → Prop) (h : wp_X7_alike M Q) : Ct l D cy ad yX7_alike cX7_alike 1 (some .int) rm_X7_alike [aR 0] M (rI Q) := by
  refine ct_of (z := 0) (ls := [some (aR 0)]) (by decide) rfl (Nat.le_of_ble_eq_true rfl) ?_
  intro p e s m args below meth c C
  have C : Cx p s m args meth c D cy ad (Ar ad) cX7_alike 1 RX7 (some .int) := C
  unfold wp_X7_alike at h
  refine x_aload_n C dX7_alike_0 rfl ?_
  refine x_getR C gf_RX7_39 ly_0 rfl (by decide) dX7_alike_1 ?_
  refine x_rng (fun hR1 => ?_)
  refine x_getZ C gf_RX7_74 ly_4 rfl rfl (by decide) dX7_alike_4 ?_
  refine x_if_eq (tgt := 32) C (ka_bi (ka_fZ hR1 ly_4 rfl)) dX7_alike_7 (by decide) (fun q1 => ?_) (fun q1 => ?_)
  · have h := h.1 q1
    refine x_bipush C dX7_alike_32 rfl ?_
    exact x_iret C (by decide) h dX7_alike_34
  · have h := h.2 q1
    refine x_aload_n C dX7_alike_10 rfl ?_
    refine x_getR C gf_RX7_46 ly_0 rfl (by decide) dX7_alike_11 ?_
    refine x_getZ C gf_RX7_174 ly_5 rfl rfl (by decide) dX7_alike_14 ?_
    refine x_if_eq (tgt := 32) C (ka_bi (ka_fZ hR1 ly_5 rfl)) dX7_alike_17 (by decide) (fun q2 => ?_) (fun q2 => ?_)
    · have h := h.1 q2
      refine x_bipush C dX7_alike_32 rfl ?_
      exact x_iret C (by decide) h dX7_alike_34
    · have h := h.2 q2
      refine x_aload_n C dX7_alike_20 rfl ?_
      refine x_getR C gf_RX7_26 ly_0 rfl (by decide) dX7_alike_21 ?_
      refine x_getI C gf_RX7_99 ly_3 rfl rfl (by decide) dX7_alike_24 ?_
      refine x_bipush C dX7_alike_27 rfl ?_
      refine x_icmp_le (tgt := 35) C (ka_fI hR1 ly_3 rfl) (by decide) dX7_alike_29 (by decide) (fun q3 => ?_) (fun q3 => ?_)
      · have h := h.1 q3
        refine x_aload_n C dX7_alike_35 rfl ?_
        refine x_getR C gf_RX7_62 ly_0 rfl (by decide) dX7_alike_36 ?_
        refine x_aload_n C dX7_alike_39 rfl ?_
        refine x_getR C gf_RX7_39 ly_0 rfl (by decide) dX7_alike_40 ?_
        refine x_getR C gf_RX7_145 ly_4 rfl (by decide) dX7_alike_43 ?_
        refine x_aload_n C dX7_alike_46 rfl ?_
        refine x_getR C gf_RX7_46 ly_0 rfl (by decide) dX7_alike_47 ?_
        refine x_getR C gf_RX7_183 ly_5 rfl (by decide) dX7_alike_50 ?_
        refine x_aload_n C dX7_alike_53 rfl ?_
        refine x_getR C gf_RX7_10 ly_0 rfl (by decide) dX7_alike_54 ?_
        refine x_getI C gf_RX7_66 ly_1 rfl rfl (by decide) dX7_alike_57 ?_
        refine x_callV (vs := [aR 19, aR 22, aI (M 1 0)]) C cv_RX7_202 ly_7 rfl (by decide) ⟨rfl, rfl, Nat.le_of_ble_eq_true rfl, Nat.le_of_ble_eq_true rfl⟩ ⟨Nat.zero_le _, Nat.zero_le _⟩ rfl rfl (Nat.le_of_ble_eq_true rfl) dX7_alike_60 (sd_X6_leads_c19_c22 l D cy ad (M 1 0) (ka_fI hR1 ly_1 rfl) M _ h) (fun _ M1 qz => ?_)
        obtain ⟨z1, rfl, rz1, h⟩ := qz
        refine x_if_eq (tgt := 70) C (ka_bi rz1) dX7_alike_63 (by decide) (fun q4 => ?_) (fun q4 => ?_)
        · have h := h.1 q4
          refine x_iconst C dX7_alike_70 ?_
          exact x_iret C (by decide) h dX7_alike_71
        · have h := h.2 q4
          refine x_iconst C dX7_alike_66 ?_
          refine x_goto (tgt := 71) C dX7_alike_67 (by decide) ?_
          exact x_iret C (by decide) h dX7_alike_71
      · have h := h.2 q3
        refine x_bipush C dX7_alike_32 rfl ?_
        exact x_iret C (by decide) h dX7_alike_34
set_option maxRecDepth 100000 in
set_option maxHeartbeats 4000000 in
theorem sd_X8_alike (l : Launch) (D : va_G) (cy : Nat → ClassId) (ad : Nat → Int → Nat) (M : Mm) (Q : Int → Mm → Prop) (h : wp_X8_alike M Q) : Ct l D cy ad yX8_alike cX8_alike 1 (some .int) rm_X8_alike [aR 8] M (rI Q) := by
  refine ct_of (z := 0) (ls := [some (aR 8)]) (by decide) rfl (Nat.le_of_ble_eq_true rfl) ?_
  intro p e s m args below meth c C
  have C : Cx p s m args meth c D cy ad (Ar ad) cX8_alike 1 RX8 (some .int) := C
  unfold wp_X8_alike at h
  refine x_aload_n C dX8_alike_0 rfl ?_
  refine x_rng (fun hR1 => ?_)
  refine x_getZ C gf_RX8_83 ly_8 rfl rfl (by decide) dX8_alike_1 ?_
  refine x_if_eq (tgt := 23) C (ka_bi (ka_fZ hR1 ly_8 rfl)) dX8_alike_4 (by decide) (fun q1 => ?_) (fun q1 => ?_)
  · have h := h.1 q1
    refine x_bipush C dX8_alike_23 rfl ?_
    refine x_goto (tgt := 41) C dX8_alike_25 (by decide) ?_
    exact x_iret C (by decide) h dX8_alike_41
  · have h := h.2 q1
    refine x_aload_n C dX8_alike_7 rfl ?_
    refine x_getZ C gf_RX8_87 ly_8 rfl rfl (by decide) dX8_alike_8 ?_
    refine x_if_eq (tgt := 23) C (ka_bi (ka_fZ hR1 ly_8 rfl)) dX8_alike_11 (by decide) (fun q2 => ?_) (fun q2 => ?_)
    · have h := h.1 q2
      refine x_bipush C dX8_alike_23 rfl ?_
      refine x_goto (tgt := 41) C dX8_alike_25 (by decide) ?_
      exact x_iret C (by decide) h dX8_alike_41
    · have h := h.2 q2
      refine x_aload_n C dX8_alike_14 rfl ?_
      refine x_getI C gf_RX8_80 ly_8 rfl rfl (by decide) dX8_alike_15 ?_
      refine x_bipush C dX8_alike_18 rfl ?_
      refine x_icmp_le (tgt := 28) C (ka_fI hR1 ly_8 rfl) (by decide) dX8_alike_20 (by decide) (fun q3 => ?_) (fun q3 => ?_)
      · have h := h.1 q3
        refine x_aload_n C dX8_alike_28 rfl ?_
        refine x_iconst C dX8_alike_29 ?_
        refine x_callV (vs := [aI 1]) C cv_RX8_162 ly_8 rfl (by decide) ⟨rfl, rfl, Nat.le_of_ble_eq_true rfl, Nat.le_of_ble_eq_true rfl⟩ ⟨Nat.zero_le _, Nat.zero_le _⟩ rfl rfl (Nat.le_of_ble_eq_true rfl) dX8_alike_30 (sd_X8_turned l D cy ad 1 (by decide) M _ h) (fun _ M1 qz => ?_)
        obtain ⟨z1, rfl, rz1, h⟩ := qz
        refine x_if_le (tgt := 40) C rz1 dX8_alike_33 (by decide) (fun q4 => ?_) (fun q4 => ?_)
        · have h := h.1 q4
          refine x_iconst C dX8_alike_40 ?_
          exact x_iret C (by decide) h dX8_alike_41
        · have h := h.2 q4
          refine x_iconst C dX8_alike_36 ?_
          refine x_goto (tgt := 41) C dX8_alike_37 (by decide) ?_
          exact x_iret C (by decide) h dX8_alike_41
      · have h := h.2 q3
        refine x_bipush C dX8_alike_23 rfl ?_
        refine x_goto (tgt := 41) C dX8_alike_25 (by decide) ?_
        exact x_iret C (by decide) h dX8_alike_41
