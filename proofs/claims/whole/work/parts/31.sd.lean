set_option maxRecDepth 100000 in
set_option maxHeartbeats 4000000 in
theorem lp_J7_fill_53178_c9_L5 {p : Program} {l : Launch} {e : Env} {s : State} {m : MethodId} {args : Array Value} {below : List Frame} {meth : Method} {c : Code} {D : va_G} {cy : Nat → ClassId} {ad : Nat → Int → Nat} (C : Cx p s m args meth c D cy ad (Ar ad) cJ7_fill_53178 4 RJ7 none) (x1 : Int) (x3 : Int) (r1 : iR x1) (r3 : iR x3) (Q : Mm → Prop) : ∀ (x2 : Int) (M : Mm), wp_J7_fill_53178_c9_L5 x1 x3 Q x2 M → iR x2 → Xj p l e rm_J7_fill_53178_c9 s m args below meth c D cy ad (Ar ad) (MQ below (QX D cy ad (rV Q)) args s 0 0 (Ar ad)) 4 0 0 5 [some (aR 9), some (aI x1), some (aI x2), some (aI x3)] [] M :=
  LP1.ind (P := fun x2 M => iR x2 → Xj p l e rm_J7_fill_53178_c9 s m args below meth c D cy ad (Ar ad) (MQ below (QX D cy ad (rV Q)) args s 0 0 (Ar ad)) 4 0 0 5 [some (aR 9), some (aI x1), some (aI x2), some (aI x3)] [] M) (fun R ih => by
    intro x2 M h r2
    unfold bc_J7_fill_53178_c9_L5 at h
    refine x_iload_n C dJ7_fill_53178_5 rfl ?_
    refine x_iload_n C dJ7_fill_53178_6 rfl ?_
    refine x_icmp_ge (tgt := 20) C r2 r3 dJ7_fill_53178_7 (by decide) (fun q1 => ?_) (fun q1 => ?_)
    · have h := h.1 q1
      exact x_vret C h dJ7_fill_53178_20
    · have h := h.2 q1
      refine x_aload_n C dJ7_fill_53178_10 rfl ?_
      refine x_iload_n C dJ7_fill_53178_11 rfl ?_
      refine x_iload_n C dJ7_fill_53178_12 rfl ?_
      obtain ⟨o1, h⟩ := h
      refine x_iast C ly_9 rfl (by decide) (by decide) o1 r1 dJ7_fill_53178_13 ?_
      refine x_iinc C dJ7_fill_53178_14 rfl (Nat.le_of_ble_eq_true rfl) rfl ?_
      refine x_goto (tgt := 5) C dJ7_fill_53178_17 (by decide) ?_
      obtain ⟨o2, h⟩ := h
      exact ih _ _ h o2)
set_option maxRecDepth 100000 in
set_option maxHeartbeats 4000000 in
theorem sd_J7_fill_53178_c9 (l : Launch) (D : va_G) (cy : Nat → ClassId) (ad : Nat → Int → Nat) (x1 : Int) (r1 : iR x1) (M : Mm) (Q : Mm → Prop) (h : wp_J7_fill_53178_c9 x1 M Q) : Ct l D cy ad yJ7_fill_53178 cJ7_fill_53178 4 none rm_J7_fill_53178_c9 [aR 9, aI x1] M (rV Q) := by
  refine ct_of (z := 2) (ls := [some (aR 9), some (aI x1), none, none]) (by decide) rfl (Nat.le_of_ble_eq_true rfl) ?_
  intro p e s m args below meth c C
  have C : Cx p s m args meth c D cy ad (Ar ad) cJ7_fill_53178 4 RJ7 none := C
  unfold wp_J7_fill_53178_c9 at h
  refine x_iconst C dJ7_fill_53178_0 ?_
  refine x_istore_n C dJ7_fill_53178_1 (Nat.le_of_ble_eq_true rfl) rfl ?_
  refine x_aload_n C dJ7_fill_53178_2 rfl ?_
  refine x_alen C ly_9 rfl (by decide) dJ7_fill_53178_3 ?_
  refine x_istore_n C dJ7_fill_53178_4 (Nat.le_of_ble_eq_true rfl) rfl ?_
  refine lp_J7_fill_53178_c9_L5 C x1 10 r1 (by decide) Q _ _ h (by decide)
set_option maxRecDepth 100000 in
set_option maxHeartbeats 4000000 in
theorem lp_J7_fill_53178_c10_L5 {p : Program} {l : Launch} {e : Env} {s : State} {m : MethodId} {args : Array Value} {below : List Frame} {meth : Method} {c : Code} {D : va_G} {cy : Nat → ClassId} {ad : Nat → Int → Nat} (C : Cx p s m args meth c D cy ad (Ar ad) cJ7_fill_53178 4 RJ7 none) (x1 : Int) (x3 : Int) (r1 : iR x1) (r3 : iR x3) (Q : Mm → Prop) : ∀ (x2 : Int) (M : Mm), wp_J7_fill_53178_c10_L5 x1 x3 Q x2 M → iR x2 → Xj p l e rm_J7_fill_53178_c10 s m args below meth c D cy ad (Ar ad) (MQ below (QX D cy ad (rV Q)) args s 0 0 (Ar ad)) 4 0 0 5 [some (aR 10), some (aI x1), some (aI x2), some (aI x3)] [] M :=
  LP1.ind (P := fun x2 M => iR x2 → Xj p l e rm_J7_fill_53178_c10 s m args below meth c D cy ad (Ar ad) (MQ below (QX D cy ad (rV Q)) args s 0 0 (Ar ad)) 4 0 0 5 [some (aR 10), some (aI x1), some (aI x2), some (aI x3)] [] M) (fun R ih => by
    intro x2 M h r2
    unfold bc_J7_fill_53178_c10_L5 at h
    refine x_iload_n C dJ7_fill_53178_5 rfl ?_
    refine x_iload_n C dJ7_fill_53178_6 rfl ?_
    refine x_icmp_ge (tgt := 20) C r2 r3 dJ7_fill_53178_7 (by decide) (fun q1 => ?_) (fun q1 => ?_)
    · have h := h.1 q1
      exact x_vret C h dJ7_fill_53178_20
    · have h := h.2 q1
      refine x_aload_n C dJ7_fill_53178_10 rfl ?_
      refine x_iload_n C dJ7_fill_53178_11 rfl ?_
      refine x_iload_n C dJ7_fill_53178_12 rfl ?_
      obtain ⟨o1, h⟩ := h
      refine x_iast C ly_10 rfl (by decide) (by decide) o1 r1 dJ7_fill_53178_13 ?_
      refine x_iinc C dJ7_fill_53178_14 rfl (Nat.le_of_ble_eq_true rfl) rfl ?_
      refine x_goto (tgt := 5) C dJ7_fill_53178_17 (by decide) ?_
      obtain ⟨o2, h⟩ := h
      exact ih _ _ h o2)
set_option maxRecDepth 100000 in
set_option maxHeartbeats 4000000 in
theorem sd_J7_fill_53178_c10 (l : Launch) (D : va_G) (cy : Nat → ClassId) (ad : Nat → Int → Nat) (x1 : Int) (r1 : iR x1) (M : Mm) (Q : Mm → Prop) (h : wp_J7_fill_53178_c10 x1 M Q) : Ct l D cy ad yJ7_fill_53178 cJ7_fill_53178 4 none rm_J7_fill_53178_c10 [aR 10, aI x1] M (rV Q) := by
  refine ct_of (z := 2) (ls := [some (aR 10), some (aI x1), none, none]) (by decide) rfl (Nat.le_of_ble_eq_true rfl) ?_
  intro p e s m args below meth c C
  have C : Cx p s m args meth c D cy ad (Ar ad) cJ7_fill_53178 4 RJ7 none := C
  unfold wp_J7_fill_53178_c10 at h
  refine x_iconst C dJ7_fill_53178_0 ?_
  refine x_istore_n C dJ7_fill_53178_1 (Nat.le_of_ble_eq_true rfl) rfl ?_
  refine x_aload_n C dJ7_fill_53178_2 rfl ?_
  refine x_alen C ly_10 rfl (by decide) dJ7_fill_53178_3 ?_
  refine x_istore_n C dJ7_fill_53178_4 (Nat.le_of_ble_eq_true rfl) rfl ?_
  refine lp_J7_fill_53178_c10_L5 C x1 12 r1 (by decide) Q _ _ h (by decide)
set_option maxRecDepth 100000 in
set_option maxHeartbeats 4000000 in
theorem sd_X3_startAnew (l : Launch) (D : va_G) (cy : Nat → ClassId) (ad : Nat → Int → Nat) (x1 : Int) (r1 : iR x1) (M : Mm) (Q : Mm → Prop) (h : wp_X3_startAnew x1 M Q) : Ct l D cy ad yX3_startAnew cX3_startAnew 2 none rm_X3_startAnew [aR 1, aI x1] M (rV Q) := by
  refine ct_of (z := 0) (ls := [some (aR 1), some (aI x1)]) (by decide) rfl (Nat.le_of_ble_eq_true rfl) ?_
  intro p e s m args below meth c C
  have C : Cx p s m args meth c D cy ad (Ar ad) cX3_startAnew 2 RX3 none := C
  unfold wp_X3_startAnew at h
  refine x_aload_n C dX3_startAnew_0 rfl ?_
  refine x_iload_n C dX3_startAnew_1 rfl ?_
  refine x_putI C pf_RX3_9 ly_1 rfl rfl (by decide) r1 dX3_startAnew_2 ?_
  refine x_aload_n C dX3_startAnew_5 rfl ?_
  refine x_getR C gf_RX3_15 ly_1 rfl (by decide) dX3_startAnew_6 ?_
  refine x_iconst C dX3_startAnew_9 ?_
  refine x_callS (vs := [aR 9, aI (-1)]) C cv_RX3_22 ⟨rfl, rfl, Nat.le_of_ble_eq_true rfl, Nat.le_of_ble_eq_true rfl⟩ ⟨Nat.zero_le _, Nat.zero_le _⟩ rfl rfl (Nat.le_of_ble_eq_true rfl) dX3_startAnew_10 (sd_J7_fill_53178_c9 l D cy ad (-1) (by decide) (mset M 1 0 x1) _ h) (fun _ M1 qz => ?_)
  obtain ⟨rfl, h⟩ := qz
  refine x_aload_n C dX3_startAnew_13 rfl ?_
  refine x_getR C gf_RX3_19 ly_1 rfl (by decide) dX3_startAnew_14 ?_
  refine x_iconst C dX3_startAnew_17 ?_
  refine x_callS (vs := [aR 10, aI (-1)]) C cv_RX3_22 ⟨rfl, rfl, Nat.le_of_ble_eq_true rfl, Nat.le_of_ble_eq_true rfl⟩ ⟨Nat.zero_le _, Nat.zero_le _⟩ rfl rfl (Nat.le_of_ble_eq_true rfl) dX3_startAnew_18 (sd_J7_fill_53178_c10 l D cy ad (-1) (by decide) M1 _ h) (fun _ M2 qz => ?_)
  obtain ⟨rfl, h⟩ := qz
  exact x_vret C h dX3_startAnew_21
set_option maxRecDepth 100000 in
set_option maxHeartbeats 4000000 in
theorem sd_X1_forget (l : Launch) (D : va_G) (cy : Nat → ClassId) (ad : Nat → Int → Nat) (M : Mm) (Q : Mm → Prop) (h : wp_X1_forget M Q) : Ct l D cy ad yX1_forget cX1_forget 1 none rm_X1_forget [aR 5] M (rV Q) := by
  refine ct_of (z := 0) (ls := [some (aR 5)]) (by decide) rfl (Nat.le_of_ble_eq_true rfl) ?_
  intro p e s m args below meth c C
  have C : Cx p s m args meth c D cy ad (Ar ad) cX1_forget 1 RX1 none := C
  unfold wp_X1_forget at h
  refine x_aload_n C dX1_forget_0 rfl ?_
  refine x_iconst C dX1_forget_1 ?_
  refine x_putZ C pf_RX1_34 ly_5 rfl rfl (by decide) (by decide) dX1_forget_2 ?_
  exact x_vret C h dX1_forget_5
set_option maxRecDepth 100000 in
set_option maxHeartbeats 4000000 in
theorem sd_X7_letters (l : Launch) (D : va_G) (cy : Nat → ClassId) (ad : Nat → Int → Nat) (x1 : Int) (r1 : iR x1) (M : Mm) (Q : Int → Mm → Prop) (h : wp_X7_letters x1 M Q) : Ct l D cy ad yX7_letters cX7_letters 3 (some .int) rm_X7_letters [aR 0, aI x1] M (rI Q) := by
  refine ct_of (z := 1) (ls := [some (aR 0), some (aI x1), none]) (by decide) rfl (Nat.le_of_ble_eq_true rfl) ?_
  intro p e s m args below meth c C
  have C : Cx p s m args meth c D cy ad (Ar ad) cX7_letters 3 RX7 (some .int) := C
  unfold wp_X7_letters at h
  refine x_iload_n C dX7_letters_0 rfl ?_
  refine x_iconst C dX7_letters_1 ?_
  refine x_icmp_lt (tgt := 11) C r1 (by decide) dX7_letters_2 (by decide) (fun q1 => ?_) (fun q1 => ?_)
  · have h := h.1 q1
    refine x_bipush C dX7_letters_11 rfl ?_
    exact x_iret C (by decide) h dX7_letters_13
  · have h := h.2 q1
    refine x_iload_n C dX7_letters_5 rfl ?_
    refine x_bipush C dX7_letters_6 rfl ?_
    refine x_icmp_le (tgt := 14) C r1 (by decide) dX7_letters_8 (by decide) (fun q2 => ?_) (fun q2 => ?_)
    · have h := h.1 q2
      refine x_aload_n C dX7_letters_14 rfl ?_
      refine x_getR C gf_RX7_10 ly_0 rfl (by decide) dX7_letters_15 ?_
      refine x_rng (fun hR1 => ?_)
      refine x_getI C gf_RX7_66 ly_1 rfl rfl (by decide) dX7_letters_18 ?_
      refine x_istore_n C dX7_letters_21 (Nat.le_of_ble_eq_true rfl) rfl ?_
      refine x_aload_n C dX7_letters_22 rfl ?_
      refine x_getR C gf_RX7_10 ly_0 rfl (by decide) dX7_letters_23 ?_
      refine x_iload_n C dX7_letters_26 rfl ?_
      refine x_callV (vs := [aI x1]) C cv_RX7_70 ly_1 rfl (by decide) ⟨rfl, rfl, Nat.le_of_ble_eq_true rfl, Nat.le_of_ble_eq_true rfl⟩ ⟨Nat.zero_le _, Nat.zero_le _⟩ rfl rfl (Nat.le_of_ble_eq_true rfl) dX7_letters_27 (sd_X3_startAnew l D cy ad x1 r1 M _ h) (fun _ M1 qz => ?_)
      obtain ⟨rfl, h⟩ := qz
      refine x_aload_n C dX7_letters_30 rfl ?_
      refine x_getR C gf_RX7_39 ly_0 rfl (by decide) dX7_letters_31 ?_
      refine x_iconst C dX7_letters_34 ?_
      refine x_putZ C pf_RX7_74 ly_4 rfl rfl (by decide) (by decide) dX7_letters_35 ?_
      refine x_aload_n C dX7_letters_38 rfl ?_
      refine x_getR C gf_RX7_46 ly_0 rfl (by decide) dX7_letters_39 ?_
      refine x_callV (vs := []) C cv_RX7_78 ly_5 rfl (by decide) ⟨rfl, rfl, Nat.le_of_ble_eq_true rfl, Nat.le_of_ble_eq_true rfl⟩ ⟨Nat.zero_le _, Nat.zero_le _⟩ rfl rfl (Nat.le_of_ble_eq_true rfl) dX7_letters_42 (sd_X1_forget l D cy ad (mset M1 4 4 0) _ h) (fun _ M2 qz => ?_)
      obtain ⟨rfl, h⟩ := qz
      refine x_iload_n C dX7_letters_45 rfl ?_
      exact x_iret C (ka_fI hR1 ly_1 rfl) h dX7_letters_46
    · have h := h.2 q2
      refine x_bipush C dX7_letters_11 rfl ?_
      exact x_iret C (by decide) h dX7_letters_13
set_option maxRecDepth 100000 in
set_option maxHeartbeats 4000000 in
theorem sd_X8_in (l : Launch) (D : va_G) (cy : Nat → ClassId) (ad : Nat → Int → Nat) (x0 : Int) (x1 : Int) (x2 : Int) (r0 : iR x0) (r1 : iR x1) (r2 : iR x2) (M : Mm) (Q : Int → Mm → Prop) (h : wp_X8_in x0 x1 x2 M Q) : Ct l D cy ad yX8_in cX8_in 3 (some .boolean) rm_X8_in [aI x0, aI x1, aI x2] M (rZ Q) := by
  refine ct_of (z := 0) (ls := [some (aI x0), some (aI x1), some (aI x2)]) (by decide) rfl (Nat.le_of_ble_eq_true rfl) ?_
  intro p e s m args below meth c C
  have C : Cx p s m args meth c D cy ad (Ar ad) cX8_in 3 RX8 (some .boolean) := C
  unfold wp_X8_in at h
  refine x_iload_n C dX8_in_0 rfl ?_
  refine x_iload_n C dX8_in_1 rfl ?_
  refine x_icmp_lt (tgt := 14) C r0 r1 dX8_in_2 (by decide) (fun q1 => ?_) (fun q1 => ?_)
  · have h := h.1 q1
    refine x_iconst C dX8_in_14 ?_
    exact x_zret C (by decide) h dX8_in_15
  · have h := h.2 q1
    refine x_iload_n C dX8_in_5 rfl ?_
    refine x_iload_n C dX8_in_6 rfl ?_
    refine x_icmp_gt (tgt := 14) C r0 r2 dX8_in_7 (by decide) (fun q2 => ?_) (fun q2 => ?_)
    · have h := h.1 q2
      refine x_iconst C dX8_in_14 ?_
      exact x_zret C (by decide) h dX8_in_15
    · have h := h.2 q2
      refine x_iconst C dX8_in_10 ?_
      refine x_goto (tgt := 15) C dX8_in_11 (by decide) ?_
      exact x_zret C (by decide) h dX8_in_15
set_option maxRecDepth 100000 in
set_option maxHeartbeats 4000000 in
theorem lp_X8_unfix_L2 {p : Program} {l : Launch} {e : Env} {s : State} {m : MethodId} {args : Array Value} {below : List Frame} {meth : Method} {c : Code} {D : va_G} {cy : Nat → ClassId} {ad : Nat → Int → Nat} (C : Cx p s m args meth c D cy ad (Ar ad) cX8_unfix 2 RX8 none) (Q : Mm → Prop) : ∀ (x1 : Int) (M : Mm), wp_X8_unfix_L2 Q x1 M → iR x1 → Xj p l e rm_X8_unfix s m args below meth c D cy ad (Ar ad) (MQ below (QX D cy ad (rV Q)) args s 0 0 (Ar ad)) 2 0 0 2 [some (aR 8), some (aI x1)] [] M :=
  LP1.ind (P := fun x1 M => iR x1 → Xj p l e rm_X8_unfix s m args below meth c D cy ad (Ar ad) (MQ below (QX D cy ad (rV Q)) args s 0 0 (Ar ad)) 2 0 0 2 [some (aR 8), some (aI x1)] [] M) (fun R ih => by
    intro x1 M h r1
    unfold bc_X8_unfix_L2 at h
    refine x_iload_n C dX8_unfix_2 rfl ?_
    refine x_bipush C dX8_unfix_3 rfl ?_
    refine x_icmp_ge (tgt := 21) C r1 (by decide) dX8_unfix_5 (by decide) (fun q1 => ?_) (fun q1 => ?_)
    · have h := h.1 q1
      exact x_vret C h dX8_unfix_21
    · have h := h.2 q1
      refine x_aload_n C dX8_unfix_8 rfl ?_
      refine x_getR C gf_RX8_36 ly_8 rfl (by decide) dX8_unfix_9 ?_
      refine x_iload_n C dX8_unfix_12 rfl ?_
      refine x_iconst C dX8_unfix_13 ?_
      obtain ⟨o1, h⟩ := h
      refine x_iast C ly_37 rfl (by decide) (by decide) o1 (by decide) dX8_unfix_14 ?_
      refine x_iinc C dX8_unfix_15 rfl (Nat.le_of_ble_eq_true rfl) rfl ?_
      refine x_goto (tgt := 2) C dX8_unfix_18 (by decide) ?_
      obtain ⟨o2, h⟩ := h
      exact ih _ _ h o2)
set_option maxRecDepth 100000 in
set_option maxHeartbeats 4000000 in
theorem sd_X8_unfix (l : Launch) (D : va_G) (cy : Nat → ClassId) (ad : Nat → Int → Nat) (M : Mm) (Q : Mm → Prop) (h : wp_X8_unfix M Q) : Ct l D cy ad yX8_unfix cX8_unfix 2 none rm_X8_unfix [aR 8] M (rV Q) := by
  refine ct_of (z := 1) (ls := [some (aR 8), none]) (by decide) rfl (Nat.le_of_ble_eq_true rfl) ?_
  intro p e s m args below meth c C
  have C : Cx p s m args meth c D cy ad (Ar ad) cX8_unfix 2 RX8 none := C
  unfold wp_X8_unfix at h
  refine x_iconst C dX8_unfix_0 ?_
  refine x_istore_n C dX8_unfix_1 (Nat.le_of_ble_eq_true rfl) rfl ?_
  refine lp_X8_unfix_L2 C Q _ _ h (by decide)
set_option maxRecDepth 100000 in
set_option maxHeartbeats 4000000 in
theorem sd_X8_isLetter (l : Launch) (D : va_G) (cy : Nat → ClassId) (ad : Nat → Int → Nat) (x1 : Int) (r1 : iR x1) (M : Mm) (Q : Int → Mm → Prop) (h : wp_X8_isLetter x1 M Q) : Ct l D cy ad yX8_isLetter cX8_isLetter 2 (some .boolean) rm_X8_isLetter [aR 8, aI x1] M (rZ Q) := by
  refine ct_of (z := 0) (ls := [some (aR 8), some (aI x1)]) (by decide) rfl (Nat.le_of_ble_eq_true rfl) ?_
  intro p e s m args below meth c C
  have C : Cx p s m args meth c D cy ad (Ar ad) cX8_isLetter 2 RX8 (some .boolean) := C
  unfold wp_X8_isLetter at h
  refine x_iload_n C dX8_isLetter_0 rfl ?_
  refine x_iconst C dX8_isLetter_1 ?_
  refine x_aload_n C dX8_isLetter_2 rfl ?_
  refine x_rng (fun hR1 => ?_)
  refine x_getI C gf_RX8_7 ly_8 rfl rfl (by decide) dX8_isLetter_3 ?_
  refine x_iconst C dX8_isLetter_6 ?_
  refine x_isub C dX8_isLetter_7 ?_
  obtain ⟨o1, h⟩ := h
  refine x_callS (vs := [aI x1, aI 0, aI ((M 8 0) - 1)]) C cv_RX8_76 ⟨rfl, rfl, Nat.le_of_ble_eq_true rfl, Nat.le_of_ble_eq_true rfl⟩ ⟨Nat.zero_le _, Nat.zero_le _⟩ rfl rfl (Nat.le_of_ble_eq_true rfl) dX8_isLetter_8 (sd_X8_in l D cy ad x1 0 ((M 8 0) - 1) r1 (by decide) o1 M _ h) (fun _ M1 qz => ?_)
  obtain ⟨z1, rfl, rz1, h⟩ := qz
  exact x_zret C rz1 h dX8_isLetter_11
set_option maxRecDepth 100000 in
set_option maxHeartbeats 4000000 in
theorem sd_X8_letterAt (l : Launch) (D : va_G) (cy : Nat → ClassId) (ad : Nat → Int → Nat) (x1 : Int) (x2 : Int) (r1 : iR x1) (r2 : iR x2) (M : Mm) (Q : Int → Mm → Prop) (h : wp_X8_letterAt x1 x2 M Q) : Ct l D cy ad yX8_letterAt cX8_letterAt 4 (some .int) rm_X8_letterAt [aR 8, aI x1, aI x2] M (rI Q) := by
  refine ct_of (z := 1) (ls := [some (aR 8), some (aI x1), some (aI x2), none]) (by decide) rfl (Nat.le_of_ble_eq_true rfl) ?_
  intro p e s m args below meth c C
  have C : Cx p s m args meth c D cy ad (Ar ad) cX8_letterAt 4 RX8 (some .int) := C
  unfold wp_X8_letterAt at h
  refine x_aload_n C dX8_letterAt_0 rfl ?_
  refine x_getR C gf_RX8_21 ly_8 rfl (by decide) dX8_letterAt_1 ?_
  refine x_sipush C dX8_letterAt_4 rfl ?_
  refine x_iload_n C dX8_letterAt_7 rfl ?_
  refine x_imul C dX8_letterAt_8 ?_
  refine x_iload_n C dX8_letterAt_9 rfl ?_
  refine x_iadd C dX8_letterAt_10 ?_
  obtain ⟨o1, h⟩ := h
  refine x_rng (fun hR1 => ?_)
  refine x_iald C ly_32 rfl (by decide) (by decide) o1 dX8_letterAt_11 ?_
  refine x_bipush C dX8_letterAt_12 rfl ?_
  refine x_isub C dX8_letterAt_14 ?_
  refine x_istore_n C dX8_letterAt_15 (Nat.le_of_ble_eq_true rfl) rfl ?_
  refine x_aload_n C dX8_letterAt_16 rfl ?_
  refine x_iload_n C dX8_letterAt_17 rfl ?_
  obtain ⟨o2, h⟩ := h
  refine x_callV (vs := [aI ((M 32 ((300 * x1) + x2)) - 97)]) C cv_RX8_93 ly_8 rfl (by decide) ⟨rfl, rfl, Nat.le_of_ble_eq_true rfl, Nat.le_of_ble_eq_true rfl⟩ ⟨Nat.zero_le _, Nat.zero_le _⟩ rfl rfl (Nat.le_of_ble_eq_true rfl) dX8_letterAt_18 (sd_X8_isLetter l D cy ad ((M 32 ((300 * x1) + x2)) - 97) o2 M _ h) (fun _ M1 qz => ?_)
  obtain ⟨z1, rfl, rz1, h⟩ := qz
  refine x_if_eq (tgt := 28) C (ka_bi rz1) dX8_letterAt_21 (by decide) (fun q1 => ?_) (fun q1 => ?_)
  · have h := h.1 q1
    refine x_iconst C dX8_letterAt_28 ?_
    exact x_iret C (by decide) h dX8_letterAt_29
  · have h := h.2 q1
    refine x_iload_n C dX8_letterAt_24 rfl ?_
    refine x_goto (tgt := 29) C dX8_letterAt_25 (by decide) ?_
    exact x_iret C o2 h dX8_letterAt_29
set_option maxRecDepth 100000 in
set_option maxHeartbeats 4000000 in
theorem lp_X8_counts_L2 {p : Program} {l : Launch} {e : Env} {s : State} {m : MethodId} {args : Array Value} {below : List Frame} {meth : Method} {c : Code} {D : va_G} {cy : Nat → ClassId} {ad : Nat → Int → Nat} (C : Cx p s m args meth c D cy ad (Ar ad) cX8_counts 5 RX8 none) (Q : Mm → Prop) (K21 : Mm → Prop) (k21 : ∀ (M : Mm), K21 M → Xj p l e rm_X8_counts s m args below meth c D cy ad (Ar ad) (MQ below (QX D cy ad (rV Q)) args s 0 0 (Ar ad)) 5 0 0 21 [some (aR 8), none, none, none, none] [] M) : ∀ (x1 : Int) (M : Mm), wp_X8_counts_L2 Q K21 x1 M → iR x1 → Xj p l e rm_X8_counts s m args below meth c D cy ad (Ar ad) (MQ below (QX D cy ad (rV Q)) args s 0 0 (Ar ad)) 5 0 0 2 [some (aR 8), some (aI x1), none, none, none] [] M :=
  LP1.ind (P := fun x1 M => iR x1 → Xj p l e rm_X8_counts s m args below meth c D cy ad (Ar ad) (MQ below (QX D cy ad (rV Q)) args s 0 0 (Ar ad)) 5 0 0 2 [some (aR 8), some (aI x1), none, none, none] [] M) (fun R ih => by
    intro x1 M h r1
    unfold bc_X8_counts_L2 at h
    refine x_iload_n C dX8_counts_2 rfl ?_
    refine x_bipush C dX8_counts_3 rfl ?_
    refine x_icmp_ge (tgt := 21) C r1 (by decide) dX8_counts_5 (by decide) (fun q1 => ?_) (fun q1 => ?_)
    · have h := h.1 q1
      refine x_mask [true, false, false, false, false] rfl ?_
      exact k21 _ h
    · have h := h.2 q1
      refine x_aload_n C dX8_counts_8 rfl ?_
      refine x_getR C gf_RX8_24 ly_8 rfl (by decide) dX8_counts_9 ?_
      refine x_iload_n C dX8_counts_12 rfl ?_
      refine x_iconst C dX8_counts_13 ?_
      obtain ⟨o1, h⟩ := h
      refine x_iast C ly_33 rfl (by decide) (by decide) o1 (by decide) dX8_counts_14 ?_
      refine x_iinc C dX8_counts_15 rfl (Nat.le_of_ble_eq_true rfl) rfl ?_
      refine x_goto (tgt := 2) C dX8_counts_18 (by decide) ?_
      obtain ⟨o2, h⟩ := h
      exact ih _ _ h o2)
set_option maxRecDepth 100000 in
set_option maxHeartbeats 4000000 in
theorem lp_X8_counts_L31 {p : Program} {l : Launch} {e : Env} {s : State} {m : MethodId} {args : Array Value} {below : List Frame} {meth : Method} {c : Code} {D : va_G} {cy : Nat → ClassId} {ad : Nat → Int → Nat} (C : Cx p s m args meth c D cy ad (Ar ad) cX8_counts 5 RX8 none) (x1 : Int) (r1 : iR x1) (Q : Mm → Prop) (K100 : Mm → Prop) (k100 : ∀ (M : Mm), K100 M → Xj p l e rm_X8_counts s m args below meth c D cy ad (Ar ad) (MQ below (QX D cy ad (rV Q)) args s 0 0 (Ar ad)) 5 0 0 100 [some (aR 8), some (aI x1), none, none, none] [] M) : ∀ (x2 : Int) (M : Mm), wp_X8_counts_L31 x1 Q K100 x2 M → iR x2 → Xj p l e rm_X8_counts s m args below meth c D cy ad (Ar ad) (MQ below (QX D cy ad (rV Q)) args s 0 0 (Ar ad)) 5 0 0 31 [some (aR 8), some (aI x1), some (aI x2), none, none] [] M :=
  LP1.ind (P := fun x2 M => iR x2 → Xj p l e rm_X8_counts s m args below meth c D cy ad (Ar ad) (MQ below (QX D cy ad (rV Q)) args s 0 0 (Ar ad)) 5 0 0 31 [some (aR 8), some (aI x1), some (aI x2), none, none] [] M) (fun R ih => by
    intro x2 M h r2
    unfold bc_X8_counts_L31 at h
    refine x_iload_n C dX8_counts_31 rfl ?_
    refine x_aload_n C dX8_counts_32 rfl ?_
    refine x_getR C gf_RX8_17 ly_8 rfl (by decide) dX8_counts_33 ?_
    refine x_iload_n C dX8_counts_36 rfl ?_
    obtain ⟨o1, h⟩ := h
    refine x_rng (fun hR1 => ?_)
    refine x_iald C ly_31 rfl (by decide) (by decide) o1 dX8_counts_37 ?_
    refine x_icmp_ge (tgt := 100) C r2 (ka_gI hR1 ly_31 _) dX8_counts_38 (by decide) (fun q1 => ?_) (fun q1 => ?_)
    · have h := h.1 q1
      refine x_mask [true, true, false, false, false] rfl ?_
      exact k100 _ h
    · have h := h.2 q1
      refine x_aload_n C dX8_counts_41 rfl ?_
      refine x_getR C gf_RX8_13 ly_8 rfl (by decide) dX8_counts_42 ?_
      refine x_iload_n C dX8_counts_45 rfl ?_
      obtain ⟨o2, h⟩ := h
      refine x_zald C ly_30 rfl (by decide) (by decide) o2 dX8_counts_46 ?_
      refine x_if_eq (tgt := 100) C (ka_bi (ka_gZ hR1 ly_30 _)) dX8_counts_47 (by decide) (fun q2 => ?_) (fun q2 => ?_)
      · have h := h.1 q2
        refine x_mask [true, true, false, false, false] rfl ?_
        exact k100 _ h
      · have h := h.2 q2
        refine x_aload_n C dX8_counts_50 rfl ?_
        refine x_iload_n C dX8_counts_51 rfl ?_
        refine x_iload_n C dX8_counts_52 rfl ?_
        refine x_iconst C dX8_counts_53 ?_
        refine x_isub C dX8_counts_54 ?_
        obtain ⟨o3, h⟩ := h
        refine x_callV (vs := [aI x1, aI (x2 - 1)]) C cv_RX8_97 ly_8 rfl (by decide) ⟨rfl, rfl, Nat.le_of_ble_eq_true rfl, Nat.le_of_ble_eq_true rfl⟩ ⟨Nat.zero_le _, Nat.zero_le _⟩ rfl rfl (Nat.le_of_ble_eq_true rfl) dX8_counts_55 (sd_X8_letterAt l D cy ad x1 (x2 - 1) r1 o3 M _ h) (fun _ M1 qz => ?_)
        obtain ⟨z1, rfl, rz1, h⟩ := qz
        refine x_istore_n C dX8_counts_58 (Nat.le_of_ble_eq_true rfl) rfl ?_
        refine x_aload_n C dX8_counts_59 rfl ?_
        refine x_iload_n C dX8_counts_60 rfl ?_
        refine x_iload_n C dX8_counts_61 rfl ?_
        refine x_callV (vs := [aI x1, aI x2]) C cv_RX8_97 ly_8 rfl (by decide) ⟨rfl, rfl, Nat.le_of_ble_eq_true rfl, Nat.le_of_ble_eq_true rfl⟩ ⟨Nat.zero_le _, Nat.zero_le _⟩ rfl rfl (Nat.le_of_ble_eq_true rfl) dX8_counts_62 (sd_X8_letterAt l D cy ad x1 x2 r1 r2 M1 _ h) (fun _ M2 qz => ?_)
        obtain ⟨z2, rfl, rz2, h⟩ := qz
        refine x_istore C dX8_counts_65 (Nat.le_of_ble_eq_true rfl) rfl ?_
        refine x_iload_n C dX8_counts_67 rfl ?_
        refine x_iconst C dX8_counts_68 ?_
        refine x_icmp_eq (tgt := 94) C rz1 (by decide) dX8_counts_69 (by decide) (fun q3 => ?_) (fun q3 => ?_)
        · have h := h.1 q3
          refine x_iinc C dX8_counts_94 rfl (Nat.le_of_ble_eq_true rfl) rfl ?_
          refine x_goto (tgt := 31) C dX8_counts_97 (by decide) ?_
          obtain ⟨o4, h⟩ := h
          refine x_mask [true, true, true, false, false] rfl ?_
          exact ih _ _ h o4
        · have h := h.2 q3
          refine x_iload C dX8_counts_72 rfl ?_
          refine x_iconst C dX8_counts_74 ?_
          refine x_icmp_eq (tgt := 94) C rz2 (by decide) dX8_counts_75 (by decide) (fun q4 => ?_) (fun q4 => ?_)
          · have h := h.1 q4
            refine x_iinc C dX8_counts_94 rfl (Nat.le_of_ble_eq_true rfl) rfl ?_
            refine x_goto (tgt := 31) C dX8_counts_97 (by decide) ?_
            obtain ⟨o5, h⟩ := h
            refine x_mask [true, true, true, false, false] rfl ?_
            exact ih _ _ h o5
          · have h := h.2 q4
            refine x_aload_n C dX8_counts_78 rfl ?_
            refine x_getR C gf_RX8_24 ly_8 rfl (by decide) dX8_counts_79 ?_
            refine x_bipush C dX8_counts_82 rfl ?_
            refine x_iload_n C dX8_counts_84 rfl ?_
            refine x_imul C dX8_counts_85 ?_
            refine x_iload C dX8_counts_86 rfl ?_
            refine x_iadd C dX8_counts_88 ?_
            refine x_dup2 C dX8_counts_89 rfl rfl ?_
            obtain ⟨o6, h⟩ := h
            refine x_rng (fun hR2 => ?_)
            refine x_iald C ly_33 rfl (by decide) (by decide) o6 dX8_counts_90 ?_
            refine x_iconst C dX8_counts_91 ?_
            refine x_iadd C dX8_counts_92 ?_
            obtain ⟨o7, h⟩ := h
            obtain ⟨o8, h⟩ := h
            refine x_iast C ly_33 rfl (by decide) (by decide) o8 o7 dX8_counts_93 ?_
            refine x_iinc C dX8_counts_94 rfl (Nat.le_of_ble_eq_true rfl) rfl ?_
            refine x_goto (tgt := 31) C dX8_counts_97 (by decide) ?_
            obtain ⟨o9, h⟩ := h
            refine x_mask [true, true, true, false, false] rfl ?_
            exact ih _ _ h o9)
set_option maxRecDepth 100000 in
set_option maxHeartbeats 4000000 in
theorem lp_X8_counts_L23 {p : Program} {l : Launch} {e : Env} {s : State} {m : MethodId} {args : Array Value} {below : List Frame} {meth : Method} {c : Code} {D : va_G} {cy : Nat → ClassId} {ad : Nat → Int → Nat} (C : Cx p s m args meth c D cy ad (Ar ad) cX8_counts 5 RX8 none) (Q : Mm → Prop) : ∀ (x1 : Int) (M : Mm), wp_X8_counts_L23 Q x1 M → iR x1 → Xj p l e rm_X8_counts s m args below meth c D cy ad (Ar ad) (MQ below (QX D cy ad (rV Q)) args s 0 0 (Ar ad)) 5 0 0 23 [some (aR 8), some (aI x1), none, none, none] [] M :=
  LP1.ind (P := fun x1 M => iR x1 → Xj p l e rm_X8_counts s m args below meth c D cy ad (Ar ad) (MQ below (QX D cy ad (rV Q)) args s 0 0 (Ar ad)) 5 0 0 23 [some (aR 8), some (aI x1), none, none, none] [] M) (fun R ih => by
    intro x1 M h r1
    unfold bc_X8_counts_L23 at h
    refine x_iload_n C dX8_counts_23 rfl ?_
    refine x_bipush C dX8_counts_24 rfl ?_
    refine x_icmp_ge (tgt := 106) C r1 (by decide) dX8_counts_26 (by decide) (fun q1 => ?_) (fun q1 => ?_)
    · have h := h.1 q1
      exact x_vret C h dX8_counts_106
    · have h := h.2 q1
      refine x_iconst C dX8_counts_29 ?_
      refine x_istore_n C dX8_counts_30 (Nat.le_of_ble_eq_true rfl) rfl ?_
      refine lp_X8_counts_L31 C x1 r1 Q _ (fun M1 h => ?_) _ _ h (by decide)
      · refine x_iinc C dX8_counts_100 rfl (Nat.le_of_ble_eq_true rfl) rfl ?_
        refine x_goto (tgt := 23) C dX8_counts_103 (by decide) ?_
        obtain ⟨o1, h⟩ := h
        exact ih _ _ h o1)
set_option maxRecDepth 100000 in
set_option maxHeartbeats 4000000 in
theorem sd_X8_counts (l : Launch) (D : va_G) (cy : Nat → ClassId) (ad : Nat → Int → Nat) (M : Mm) (Q : Mm → Prop) (h : wp_X8_counts M Q) : Ct l D cy ad yX8_counts cX8_counts 5 none rm_X8_counts [aR 8] M (rV Q) := by
  refine ct_of (z := 4) (ls := [some (aR 8), none, none, none, none]) (by decide) rfl (Nat.le_of_ble_eq_true rfl) ?_
  intro p e s m args below meth c C
  have C : Cx p s m args meth c D cy ad (Ar ad) cX8_counts 5 RX8 none := C
  unfold wp_X8_counts at h
  refine x_iconst C dX8_counts_0 ?_
  refine x_istore_n C dX8_counts_1 (Nat.le_of_ble_eq_true rfl) rfl ?_
  refine lp_X8_counts_L2 C Q _ (fun M1 h => ?_) _ _ h (by decide)
  · refine x_iconst C dX8_counts_21 ?_
    refine x_istore_n C dX8_counts_22 (Nat.le_of_ble_eq_true rfl) rfl ?_
    refine lp_X8_counts_L23 C Q _ _ h (by decide)
set_option maxRecDepth 100000 in
set_option maxHeartbeats 4000000 in
theorem sd_X8_letters (l : Launch) (D : va_G) (cy : Nat → ClassId) (ad : Nat → Int → Nat) (x1 : Int) (r1 : iR x1) (M : Mm) (Q : Int → Mm → Prop) (h : wp_X8_letters x1 M Q) : Ct l D cy ad yX8_letters cX8_letters 3 (some .int) rm_X8_letters [aR 8, aI x1] M (rI Q) := by
  refine ct_of (z := 1) (ls := [some (aR 8), some (aI x1), none]) (by decide) rfl (Nat.le_of_ble_eq_true rfl) ?_
  intro p e s m args below meth c C
  have C : Cx p s m args meth c D cy ad (Ar ad) cX8_letters 3 RX8 (some .int) := C
  unfold wp_X8_letters at h
  refine x_iload_n C dX8_letters_0 rfl ?_
  refine x_iconst C dX8_letters_1 ?_
  refine x_bipush C dX8_letters_2 rfl ?_
  refine x_callS (vs := [aI x1, aI 1, aI 10]) C cv_RX8_76 ⟨rfl, rfl, Nat.le_of_ble_eq_true rfl, Nat.le_of_ble_eq_true rfl⟩ ⟨Nat.zero_le _, Nat.zero_le _⟩ rfl rfl (Nat.le_of_ble_eq_true rfl) dX8_letters_4 (sd_X8_in l D cy ad x1 1 10 r1 (by decide) (by decide) M _ h) (fun _ M1 qz => ?_)
  obtain ⟨z1, rfl, rz1, h⟩ := qz
  refine x_if_ne (tgt := 13) C (ka_bi rz1) dX8_letters_7 (by decide) (fun q1 => ?_) (fun q1 => ?_)
  · have h := h.1 q1
    refine x_aload_n C dX8_letters_13 rfl ?_
    refine x_rng (fun hR1 => ?_)
    refine x_getI C gf_RX8_7 ly_8 rfl rfl (by decide) dX8_letters_14 ?_
    refine x_istore_n C dX8_letters_17 (Nat.le_of_ble_eq_true rfl) rfl ?_
    refine x_aload_n C dX8_letters_18 rfl ?_
    refine x_iload_n C dX8_letters_19 rfl ?_
    refine x_putI C pf_RX8_7 ly_8 rfl rfl (by decide) r1 dX8_letters_20 ?_
    refine x_aload_n C dX8_letters_23 rfl ?_
    refine x_iconst C dX8_letters_24 ?_
    refine x_putZ C pf_RX8_83 ly_8 rfl rfl (by decide) (by decide) dX8_letters_25 ?_
    refine x_aload_n C dX8_letters_28 rfl ?_
    refine x_iconst C dX8_letters_29 ?_
    refine x_putZ C pf_RX8_87 ly_8 rfl rfl (by decide) (by decide) dX8_letters_30 ?_
    refine x_aload_n C dX8_letters_33 rfl ?_
    refine x_callV (vs := []) C cv_RX8_73 ly_8 rfl (by decide) ⟨rfl, rfl, Nat.le_of_ble_eq_true rfl, Nat.le_of_ble_eq_true rfl⟩ ⟨Nat.zero_le _, Nat.zero_le _⟩ rfl rfl (Nat.le_of_ble_eq_true rfl) dX8_letters_34 (sd_X8_unfix l D cy ad (mset (mset (mset M1 8 0 x1) 8 10 0) 8 12 0) _ h) (fun _ M2 qz => ?_)
    obtain ⟨rfl, h⟩ := qz
    refine x_aload_n C dX8_letters_37 rfl ?_
    refine x_callV (vs := []) C cv_RX8_90 ly_8 rfl (by decide) ⟨rfl, rfl, Nat.le_of_ble_eq_true rfl, Nat.le_of_ble_eq_true rfl⟩ ⟨Nat.zero_le _, Nat.zero_le _⟩ rfl rfl (Nat.le_of_ble_eq_true rfl) dX8_letters_38 (sd_X8_counts l D cy ad M2 _ h) (fun _ M3 qz => ?_)
    obtain ⟨rfl, h⟩ := qz
    refine x_iload_n C dX8_letters_41 rfl ?_
    exact x_iret C (ka_fI hR1 ly_8 rfl) h dX8_letters_42
  · have h := h.2 q1
    refine x_bipush C dX8_letters_10 rfl ?_
    exact x_iret C (by decide) h dX8_letters_12
set_option maxRecDepth 100000 in
set_option maxHeartbeats 4000000 in
theorem sd_X7_isPage (l : Launch) (D : va_G) (cy : Nat → ClassId) (ad : Nat → Int → Nat) (x0 : Int) (r0 : iR x0) (M : Mm) (Q : Int → Mm → Prop) (h : wp_X7_isPage x0 M Q) : Ct l D cy ad yX7_isPage cX7_isPage 1 (some .boolean) rm_X7_isPage [aI x0] M (rZ Q) := by
  refine ct_of (z := 0) (ls := [some (aI x0)]) (by decide) rfl (Nat.le_of_ble_eq_true rfl) ?_
  intro p e s m args below meth c C
  have C : Cx p s m args meth c D cy ad (Ar ad) cX7_isPage 1 RX7 (some .boolean) := C
  unfold wp_X7_isPage at h
  refine x_iload_n C dX7_isPage_0 rfl ?_
  refine x_if_lt (tgt := 14) C r0 dX7_isPage_1 (by decide) (fun q1 => ?_) (fun q1 => ?_)
  · have h := h.1 q1
    refine x_iconst C dX7_isPage_14 ?_
    exact x_zret C (by decide) h dX7_isPage_15
  · have h := h.2 q1
    refine x_iload_n C dX7_isPage_4 rfl ?_
    refine x_bipush C dX7_isPage_5 rfl ?_
    refine x_icmp_ge (tgt := 14) C r0 (by decide) dX7_isPage_7 (by decide) (fun q2 => ?_) (fun q2 => ?_)
    · have h := h.1 q2
      refine x_iconst C dX7_isPage_14 ?_
      exact x_zret C (by decide) h dX7_isPage_15
    · have h := h.2 q2
      refine x_iconst C dX7_isPage_10 ?_
      refine x_goto (tgt := 15) C dX7_isPage_11 (by decide) ?_
      exact x_zret C (by decide) h dX7_isPage_15
set_option maxRecDepth 100000 in
set_option maxHeartbeats 4000000 in
theorem sd_X4_countPair (l : Launch) (D : va_G) (cy : Nat → ClassId) (ad : Nat → Int → Nat) (x1 : Int) (x2 : Int) (x3 : Int) (r1 : iR x1) (r2 : iR x2) (r3 : iR x3) (M : Mm) (Q : Mm → Prop) (h : wp_X4_countPair x1 x2 x3 M Q) : Ct l D cy ad yX4_countPair cX4_countPair 6 none rm_X4_countPair [aR 2, aI x1, aI x2, aI x3] M (rV Q) := by
  refine ct_of (z := 2) (ls := [some (aR 2), some (aI x1), some (aI x2), some (aI x3), none, none]) (by decide) rfl (Nat.le_of_ble_eq_true rfl) ?_
  intro p e s m args below meth c C
  have C : Cx p s m args meth c D cy ad (Ar ad) cX4_countPair 6 RX4 none := C
  unfold wp_X4_countPair at h
  refine x_iload_n C dX4_countPair_0 rfl ?_
  refine x_bipush C dX4_countPair_1 rfl ?_
  refine x_isub C dX4_countPair_3 ?_
  refine x_istore C dX4_countPair_4 (Nat.le_of_ble_eq_true rfl) rfl ?_
  refine x_iload_n C dX4_countPair_6 rfl ?_
  refine x_bipush C dX4_countPair_7 rfl ?_
  refine x_isub C dX4_countPair_9 ?_
  refine x_istore C dX4_countPair_10 (Nat.le_of_ble_eq_true rfl) rfl ?_
  refine x_iload C dX4_countPair_12 rfl ?_
  obtain ⟨o1, h⟩ := h
  refine x_if_lt (tgt := 50) C o1 dX4_countPair_14 (by decide) (fun q1 => ?_) (fun q1 => ?_)
  · have h := h.1 q1
    exact x_vret C h dX4_countPair_50
  · have h := h.2 q1
    refine x_iload C dX4_countPair_17 rfl ?_
    refine x_bipush C dX4_countPair_19 rfl ?_
    refine x_icmp_ge (tgt := 50) C o1 (by decide) dX4_countPair_21 (by decide) (fun q2 => ?_) (fun q2 => ?_)
    · have h := h.1 q2
      exact x_vret C h dX4_countPair_50
    · have h := h.2 q2
      refine x_iload C dX4_countPair_24 rfl ?_
      obtain ⟨o2, h⟩ := h
      refine x_if_lt (tgt := 50) C o2 dX4_countPair_26 (by decide) (fun q3 => ?_) (fun q3 => ?_)
      · have h := h.1 q3
        exact x_vret C h dX4_countPair_50
      · have h := h.2 q3
        refine x_iload C dX4_countPair_29 rfl ?_
        refine x_bipush C dX4_countPair_31 rfl ?_
        refine x_icmp_ge (tgt := 50) C o2 (by decide) dX4_countPair_33 (by decide) (fun q4 => ?_) (fun q4 => ?_)
        · have h := h.1 q4
          exact x_vret C h dX4_countPair_50
        · have h := h.2 q4
          refine x_aload_n C dX4_countPair_36 rfl ?_
          refine x_getR C gf_RX4_20 ly_2 rfl (by decide) dX4_countPair_37 ?_
          refine x_iload C dX4_countPair_40 rfl ?_
          obtain ⟨o3, h⟩ := h
          refine x_aald C ly_13 rfl (by decide) (by decide) o3 dX4_countPair_42 ?_
          refine x_iload C dX4_countPair_43 rfl ?_
          refine x_dup2 C dX4_countPair_45 rfl rfl ?_
          obtain ⟨o4, h⟩ := h
          refine x_rng (fun hR1 => ?_)
          refine x_iald2 C ly_13 rfl (by decide) (by decide) rfl o3 o4 dX4_countPair_46 ?_
          refine x_iload_n C dX4_countPair_47 rfl ?_
          refine x_iadd C dX4_countPair_48 ?_
          obtain ⟨o5, h⟩ := h
          obtain ⟨o6, h⟩ := h
          refine x_iast2 C ly_13 rfl (by decide) (by decide) rfl o3 o6 o5 dX4_countPair_49 ?_
          exact x_vret C h dX4_countPair_50
set_option maxRecDepth 100000 in
set_option maxHeartbeats 4000000 in
theorem sd_X4_append (l : Launch) (D : va_G) (cy : Nat → ClassId) (ad : Nat → Int → Nat) (x1 : Int) (x2 : Int) (r1 : iR x1) (r2 : iR x2) (M : Mm) (Q : Mm → Prop) (h : wp_X4_append x1 x2 M Q) : Ct l D cy ad yX4_append cX4_append 4 none rm_X4_append [aR 2, aI x1, aI x2] M (rV Q) := by
  refine ct_of (z := 1) (ls := [some (aR 2), some (aI x1), some (aI x2), none]) (by decide) rfl (Nat.le_of_ble_eq_true rfl) ?_
  intro p e s m args below meth c C
  have C : Cx p s m args meth c D cy ad (Ar ad) cX4_append 4 RX4 none := C
  unfold wp_X4_append at h
  refine x_aload_n C dX4_append_0 rfl ?_
  refine x_getR C gf_RX4_16 ly_2 rfl (by decide) dX4_append_1 ?_
  refine x_iload_n C dX4_append_4 rfl ?_
  obtain ⟨o1, h⟩ := h
  refine x_rng (fun hR1 => ?_)
  refine x_iald C ly_12 rfl (by decide) (by decide) o1 dX4_append_5 ?_
  refine x_istore_n C dX4_append_6 (Nat.le_of_ble_eq_true rfl) rfl ?_
  refine x_iload_n C dX4_append_7 rfl ?_
  refine x_sipush C dX4_append_8 rfl ?_
  refine x_icmp_lt (tgt := 15) C (ka_gI hR1 ly_12 _) (by decide) dX4_append_11 (by decide) (fun q1 => ?_) (fun q1 => ?_)
  · have h := h.1 q1
    refine x_iload_n C dX4_append_15 rfl ?_
    refine x_if_le (tgt := 35) C (ka_gI hR1 ly_12 _) dX4_append_16 (by decide) (fun q2 => ?_) (fun q2 => ?_)
    · have h := h.1 q2
      refine x_aload_n C dX4_append_35 rfl ?_
      refine x_getR C gf_RX4_11 ly_2 rfl (by decide) dX4_append_36 ?_
      refine x_iload_n C dX4_append_39 rfl ?_
      obtain ⟨o2, h⟩ := h
      refine x_aald C ly_11 rfl (by decide) (by decide) o2 dX4_append_40 ?_
      refine x_iload_n C dX4_append_41 rfl ?_
      refine x_iload_n C dX4_append_42 rfl ?_
      obtain ⟨o3, h⟩ := h
      refine x_iast2 C ly_11 rfl (by decide) (by decide) rfl o2 o3 r2 dX4_append_43 ?_
      refine x_aload_n C dX4_append_44 rfl ?_
      refine x_getR C gf_RX4_16 ly_2 rfl (by decide) dX4_append_45 ?_
      refine x_iload_n C dX4_append_48 rfl ?_
      refine x_iload_n C dX4_append_49 rfl ?_
      refine x_iconst C dX4_append_50 ?_
      refine x_iadd C dX4_append_51 ?_
      obtain ⟨o4, h⟩ := h
      obtain ⟨o5, h⟩ := h
      refine x_iast C ly_12 rfl (by decide) (by decide) o5 o4 dX4_append_52 ?_
      exact x_vret C h dX4_append_53
    · have h := h.2 q2
      refine x_aload_n C dX4_append_19 rfl ?_
      refine x_aload_n C dX4_append_20 rfl ?_
      refine x_getR C gf_RX4_11 ly_2 rfl (by decide) dX4_append_21 ?_
      refine x_iload_n C dX4_append_24 rfl ?_
      obtain ⟨o6, h⟩ := h
      refine x_aald C ly_11 rfl (by decide) (by decide) o6 dX4_append_25 ?_
      refine x_iload_n C dX4_append_26 rfl ?_
      refine x_iconst C dX4_append_27 ?_
      refine x_isub C dX4_append_28 ?_
      obtain ⟨o7, h⟩ := h
      refine x_iald2 C ly_11 rfl (by decide) (by decide) rfl o6 o7 dX4_append_29 ?_
      refine x_iload_n C dX4_append_30 rfl ?_
      refine x_iconst C dX4_append_31 ?_
      refine x_callV (vs := [aI (M 11 (300 * x1 + ((M 12 x1) - 1))), aI x2, aI 1]) C cv_RX4_29 ly_2 rfl (by decide) ⟨rfl, rfl, Nat.le_of_ble_eq_true rfl, Nat.le_of_ble_eq_true rfl⟩ ⟨Nat.zero_le _, Nat.zero_le _⟩ rfl rfl (Nat.le_of_ble_eq_true rfl) dX4_append_32 (sd_X4_countPair l D cy ad (M 11 (300 * x1 + ((M 12 x1) - 1))) x2 1 (ka_gI hR1 ly_11 _) r2 (by decide) M _ h) (fun _ M1 qz => ?_)
      obtain ⟨rfl, h⟩ := qz
      refine x_aload_n C dX4_append_35 rfl ?_
      refine x_getR C gf_RX4_11 ly_2 rfl (by decide) dX4_append_36 ?_
      refine x_iload_n C dX4_append_39 rfl ?_
      obtain ⟨o8, h⟩ := h
      refine x_aald C ly_11 rfl (by decide) (by decide) o8 dX4_append_40 ?_
      refine x_iload_n C dX4_append_41 rfl ?_
      refine x_iload_n C dX4_append_42 rfl ?_
      obtain ⟨o9, h⟩ := h
      refine x_iast2 C ly_11 rfl (by decide) (by decide) rfl o8 o9 r2 dX4_append_43 ?_
      refine x_aload_n C dX4_append_44 rfl ?_
      refine x_getR C gf_RX4_16 ly_2 rfl (by decide) dX4_append_45 ?_
      refine x_iload_n C dX4_append_48 rfl ?_
      refine x_iload_n C dX4_append_49 rfl ?_
      refine x_iconst C dX4_append_50 ?_
      refine x_iadd C dX4_append_51 ?_
      obtain ⟨o10, h⟩ := h
      obtain ⟨o11, h⟩ := h
      refine x_iast C ly_12 rfl (by decide) (by decide) o11 o10 dX4_append_52 ?_
      exact x_vret C h dX4_append_53
  · have h := h.2 q1
    exact x_vret C h dX4_append_14
set_option maxRecDepth 100000 in
set_option maxHeartbeats 4000000 in
theorem lp_X4_write_L6 {p : Program} {l : Launch} {e : Env} {s : State} {m : MethodId} {args : Array Value} {below : List Frame} {meth : Method} {c : Code} {D : va_G} {cy : Nat → ClassId} {ad : Nat → Int → Nat} (C : Cx p s m args meth c D cy ad (Ar ad) cX4_write 6 RX4 none) (x1 : Int) (x2 : Int) (r1 : iR x1) (Q : Mm → Prop) : ∀ (x5 : Int) (M : Mm), wp_X4_write_L6 x1 x2 Q x5 M → iR x5 → Xj p l e rm_X4_write s m args below meth c D cy ad (Ar ad) (MQ below (QX D cy ad (rV Q)) args s 0 0 (Ar ad)) 6 0 0 6 [some (aR 2), some (aI x1), some (aL x2), none, none, some (aI x5)] [] M :=
  LP1.ind (P := fun x5 M => iR x5 → Xj p l e rm_X4_write s m args below meth c D cy ad (Ar ad) (MQ below (QX D cy ad (rV Q)) args s 0 0 (Ar ad)) 6 0 0 6 [some (aR 2), some (aI x1), some (aL x2), none, none, some (aI x5)] [] M) (fun R ih => by
    intro x5 M h r5
    unfold bc_X4_write_L6 at h
    refine x_iload C dX4_write_6 rfl ?_
    refine x_if_lt (tgt := 34) C r5 dX4_write_8 (by decide) (fun q1 => ?_) (fun q1 => ?_)
    · have h := h.1 q1
      exact x_vret C h dX4_write_34
    · have h := h.2 q1
      refine x_aload_n C dX4_write_11 rfl ?_
      refine x_iload_n C dX4_write_12 rfl ?_
      refine x_lload_n C dX4_write_13 rfl ?_
      refine x_bipush C dX4_write_14 rfl ?_
      refine x_iload C dX4_write_16 rfl ?_
      refine x_imul C dX4_write_18 ?_
      refine x_lushr C dX4_write_19 ?_
      refine x_ldc2 (v := 255) C kc_RX4_23 rfl dX4_write_20 ?_
      refine x_land C dX4_write_23 ?_
      refine x_l2i C dX4_write_24 ?_
      obtain ⟨o1, h⟩ := h
      refine x_callV (vs := [aI x1, aI (a_and64 (a_ushr64 x2 (8 * x5)) 255)]) C cv_RX4_25 ly_2 rfl (by decide) ⟨rfl, rfl, Nat.le_of_ble_eq_true rfl, Nat.le_of_ble_eq_true rfl⟩ ⟨Nat.zero_le _, Nat.zero_le _⟩ rfl rfl (Nat.le_of_ble_eq_true rfl) dX4_write_25 (sd_X4_append l D cy ad x1 (a_and64 (a_ushr64 x2 (8 * x5)) 255) r1 o1 M _ h) (fun _ M1 qz => ?_)
      obtain ⟨rfl, h⟩ := qz
      refine x_iinc C dX4_write_28 rfl (Nat.le_of_ble_eq_true rfl) rfl ?_
      refine x_goto (tgt := 6) C dX4_write_31 (by decide) ?_
      obtain ⟨o2, h⟩ := h
      exact ih _ _ h o2)
set_option maxRecDepth 100000 in
set_option maxHeartbeats 4000000 in
theorem sd_X4_write (l : Launch) (D : va_G) (cy : Nat → ClassId) (ad : Nat → Int → Nat) (x1 : Int) (x2 : Int) (x4 : Int) (r1 : iR x1) (r4 : iR x4) (M : Mm) (Q : Mm → Prop) (h : wp_X4_write x1 x2 x4 M Q) : Ct l D cy ad yX4_write cX4_write 6 none rm_X4_write [aR 2, aI x1, aL x2, aI x4] M (rV Q) := by
  refine ct_of (z := 1) (ls := [some (aR 2), some (aI x1), some (aL x2), none, some (aI x4), none]) (by decide) rfl (Nat.le_of_ble_eq_true rfl) ?_
  intro p e s m args below meth c C
  have C : Cx p s m args meth c D cy ad (Ar ad) cX4_write 6 RX4 none := C
  unfold wp_X4_write at h
  refine x_iload C dX4_write_0 rfl ?_
  refine x_iconst C dX4_write_2 ?_
  refine x_isub C dX4_write_3 ?_
  refine x_istore C dX4_write_4 (Nat.le_of_ble_eq_true rfl) rfl ?_
  obtain ⟨o1, h⟩ := h
  refine x_mask [true, true, true, false, false, true] rfl ?_
  refine lp_X4_write_L6 C x1 x2 r1 Q _ _ h o1
set_option maxRecDepth 100000 in
set_option maxHeartbeats 4000000 in
theorem sd_X7_feed (l : Launch) (D : va_G) (cy : Nat → ClassId) (ad : Nat → Int → Nat) (x1 : Int) (x2 : Int) (x4 : Int) (r1 : iR x1) (r4 : iR x4) (M : Mm) (Q : Int → Mm → Prop) (h : wp_X7_feed x1 x2 x4 M Q) : Ct l D cy ad yX7_feed cX7_feed 5 (some .int) rm_X7_feed [aR 0, aI x1, aL x2, aI x4] M (rI Q) := by
  refine ct_of (z := 0) (ls := [some (aR 0), some (aI x1), some (aL x2), none, some (aI x4)]) (by decide) rfl (Nat.le_of_ble_eq_true rfl) ?_
  intro p e s m args below meth c C
  have C : Cx p s m args meth c D cy ad (Ar ad) cX7_feed 5 RX7 (some .int) := C
  unfold wp_X7_feed at h
  refine x_iload_n C dX7_feed_0 rfl ?_
  refine x_callS (vs := [aI x1]) C cv_RX7_81 ⟨rfl, rfl, Nat.le_of_ble_eq_true rfl, Nat.le_of_ble_eq_true rfl⟩ ⟨Nat.zero_le _, Nat.zero_le _⟩ rfl rfl (Nat.le_of_ble_eq_true rfl) dX7_feed_1 (sd_X7_isPage l D cy ad x1 r1 M _ h) (fun _ M1 qz => ?_)
  obtain ⟨z1, rfl, rz1, h⟩ := qz
  refine x_if_eq (tgt := 20) C (ka_bi rz1) dX7_feed_4 (by decide) (fun q1 => ?_) (fun q1 => ?_)
  · have h := h.1 q1
    refine x_bipush C dX7_feed_20 rfl ?_
    exact x_iret C (by decide) h dX7_feed_22
  · have h := h.2 q1
    refine x_iload C dX7_feed_7 rfl ?_
    refine x_iconst C dX7_feed_9 ?_
    refine x_icmp_lt (tgt := 20) C r4 (by decide) dX7_feed_10 (by decide) (fun q2 => ?_) (fun q2 => ?_)
    · have h := h.1 q2
      refine x_bipush C dX7_feed_20 rfl ?_
      exact x_iret C (by decide) h dX7_feed_22
    · have h := h.2 q2
      refine x_iload C dX7_feed_13 rfl ?_
      refine x_bipush C dX7_feed_15 rfl ?_
      refine x_icmp_le (tgt := 23) C r4 (by decide) dX7_feed_17 (by decide) (fun q3 => ?_) (fun q3 => ?_)
      · have h := h.1 q3
        refine x_aload_n C dX7_feed_23 rfl ?_
        refine x_getR C gf_RX7_19 ly_0 rfl (by decide) dX7_feed_24 ?_
        refine x_getR C gf_RX7_85 ly_2 rfl (by decide) dX7_feed_27 ?_
        refine x_iload_n C dX7_feed_30 rfl ?_
        obtain ⟨o1, h⟩ := h
        refine x_rng (fun hR1 => ?_)
        refine x_iald C ly_12 rfl (by decide) (by decide) o1 dX7_feed_31 ?_
        refine x_iload C dX7_feed_32 rfl ?_
        refine x_iadd C dX7_feed_34 ?_
        refine x_sipush C dX7_feed_35 rfl ?_
        obtain ⟨o2, h⟩ := h
        refine x_icmp_le (tgt := 44) C o2 (by decide) dX7_feed_38 (by decide) (fun q4 => ?_) (fun q4 => ?_)
        · have h := h.1 q4
          refine x_aload_n C dX7_feed_44 rfl ?_
          refine x_getR C gf_RX7_46 ly_0 rfl (by decide) dX7_feed_45 ?_
          refine x_callV (vs := []) C cv_RX7_78 ly_5 rfl (by decide) ⟨rfl, rfl, Nat.le_of_ble_eq_true rfl, Nat.le_of_ble_eq_true rfl⟩ ⟨Nat.zero_le _, Nat.zero_le _⟩ rfl rfl (Nat.le_of_ble_eq_true rfl) dX7_feed_48 (sd_X1_forget l D cy ad M1 _ h) (fun _ M2 qz => ?_)
          obtain ⟨rfl, h⟩ := qz
          refine x_aload_n C dX7_feed_51 rfl ?_
          refine x_getR C gf_RX7_19 ly_0 rfl (by decide) dX7_feed_52 ?_
          refine x_iload_n C dX7_feed_55 rfl ?_
          refine x_lload_n C dX7_feed_56 rfl ?_
          refine x_iload C dX7_feed_57 rfl ?_
          refine x_callV (vs := [aI x1, aL x2, aI x4]) C cv_RX7_89 ly_2 rfl (by decide) ⟨rfl, rfl, Nat.le_of_ble_eq_true rfl, Nat.le_of_ble_eq_true rfl⟩ ⟨Nat.zero_le _, Nat.zero_le _⟩ rfl rfl (Nat.le_of_ble_eq_true rfl) dX7_feed_59 (sd_X4_write l D cy ad x1 x2 x4 r1 r4 M2 _ h) (fun _ M3 qz => ?_)
          obtain ⟨rfl, h⟩ := qz
          refine x_aload_n C dX7_feed_62 rfl ?_
          refine x_getR C gf_RX7_19 ly_0 rfl (by decide) dX7_feed_63 ?_
          refine x_getR C gf_RX7_85 ly_2 rfl (by decide) dX7_feed_66 ?_
          refine x_iload_n C dX7_feed_69 rfl ?_
          obtain ⟨o3, h⟩ := h
          refine x_rng (fun hR2 => ?_)
          refine x_iald C ly_12 rfl (by decide) (by decide) o3 dX7_feed_70 ?_
          exact x_iret C (ka_gI hR2 ly_12 _) h dX7_feed_71
        · have h := h.2 q4
          refine x_bipush C dX7_feed_41 rfl ?_
          exact x_iret C (by decide) h dX7_feed_43
      · have h := h.2 q3
        refine x_bipush C dX7_feed_20 rfl ?_
        exact x_iret C (by decide) h dX7_feed_22
set_option maxRecDepth 100000 in
set_option maxHeartbeats 4000000 in
theorem lp_X8_feed_L64 {p : Program} {l : Launch} {e : Env} {s : State} {m : MethodId} {args : Array Value} {below : List Frame} {meth : Method} {c : Code} {D : va_G} {cy : Nat → ClassId} {ad : Nat → Int → Nat} (C : Cx p s m args meth c D cy ad (Ar ad) cX8_feed 7 RX8 (some .int)) (x1 : Int) (x2 : Int) (x4 : Int) (x5 : Int) (r1 : iR x1) (r4 : iR x4) (r5 : iR x5) (Q : Int → Mm → Prop) (K108 : Mm → Prop) (k108 : ∀ (M : Mm), K108 M → Xj p l e rm_X8_feed s m args below meth c D cy ad (Ar ad) (MQ below (QX D cy ad (rI Q)) args s 0 0 (Ar ad)) 7 0 0 108 [some (aR 8), some (aI x1), none, none, some (aI x4), some (aI x5), none] [] M) : ∀ (x6 : Int) (M : Mm), wp_X8_feed_L64 x1 x2 x4 x5 Q K108 x6 M → iR x6 → Xj p l e rm_X8_feed s m args below meth c D cy ad (Ar ad) (MQ below (QX D cy ad (rI Q)) args s 0 0 (Ar ad)) 7 0 0 64 [some (aR 8), some (aI x1), some (aL x2), none, some (aI x4), some (aI x5), some (aI x6)] [] M :=
  LP1.ind (P := fun x6 M => iR x6 → Xj p l e rm_X8_feed s m args below meth c D cy ad (Ar ad) (MQ below (QX D cy ad (rI Q)) args s 0 0 (Ar ad)) 7 0 0 64 [some (aR 8), some (aI x1), some (aL x2), none, some (aI x4), some (aI x5), some (aI x6)] [] M) (fun R ih => by
    intro x6 M h r6
    unfold bc_X8_feed_L64 at h
    refine x_iload C dX8_feed_64 rfl ?_
    refine x_if_lt (tgt := 108) C r6 dX8_feed_66 (by decide) (fun q1 => ?_) (fun q1 => ?_)
    · have h := h.1 q1
      refine x_mask [true, true, false, false, true, true, false] rfl ?_
      exact k108 _ h
    · have h := h.2 q1
      refine x_aload_n C dX8_feed_69 rfl ?_
      refine x_getR C gf_RX8_21 ly_8 rfl (by decide) dX8_feed_70 ?_
      refine x_sipush C dX8_feed_73 rfl ?_
      refine x_iload_n C dX8_feed_76 rfl ?_
      refine x_imul C dX8_feed_77 ?_
      refine x_iload C dX8_feed_78 rfl ?_
      refine x_iadd C dX8_feed_80 ?_
      refine x_iload C dX8_feed_81 rfl ?_
      refine x_iadd C dX8_feed_83 ?_
      refine x_iconst C dX8_feed_84 ?_
      refine x_isub C dX8_feed_85 ?_
      refine x_iload C dX8_feed_86 rfl ?_
      refine x_isub C dX8_feed_88 ?_
      refine x_lload_n C dX8_feed_89 rfl ?_
      refine x_bipush C dX8_feed_90 rfl ?_
      refine x_iload C dX8_feed_92 rfl ?_
      refine x_imul C dX8_feed_94 ?_
      refine x_lshr C dX8_feed_95 ?_
      refine x_l2i C dX8_feed_96 ?_
      refine x_sipush C dX8_feed_97 rfl ?_
      refine x_iand C dX8_feed_100 ?_
      obtain ⟨o1, h⟩ := h
      refine x_iast C ly_32 rfl (by decide) (by decide) o1 (ka_r32 _) dX8_feed_101 ?_
      refine x_iinc C dX8_feed_102 rfl (Nat.le_of_ble_eq_true rfl) rfl ?_
      refine x_goto (tgt := 64) C dX8_feed_105 (by decide) ?_
      obtain ⟨o2, h⟩ := h
      exact ih _ _ h o2)
set_option maxRecDepth 100000 in
set_option maxHeartbeats 4000000 in
theorem sd_X8_feed (l : Launch) (D : va_G) (cy : Nat → ClassId) (ad : Nat → Int → Nat) (x1 : Int) (x2 : Int) (x4 : Int) (r1 : iR x1) (r4 : iR x4) (M : Mm) (Q : Int → Mm → Prop) (h : wp_X8_feed x1 x2 x4 M Q) : Ct l D cy ad yX8_feed cX8_feed 7 (some .int) rm_X8_feed [aR 8, aI x1, aL x2, aI x4] M (rI Q) := by
  refine ct_of (z := 2) (ls := [some (aR 8), some (aI x1), some (aL x2), none, some (aI x4), none, none]) (by decide) rfl (Nat.le_of_ble_eq_true rfl) ?_
  intro p e s m args below meth c C
  have C : Cx p s m args meth c D cy ad (Ar ad) cX8_feed 7 RX8 (some .int) := C
  unfold wp_X8_feed at h
  refine x_iload_n C dX8_feed_0 rfl ?_
  refine x_iconst C dX8_feed_1 ?_
  refine x_iconst C dX8_feed_2 ?_
  refine x_callS (vs := [aI x1, aI 0, aI 5]) C cv_RX8_76 ⟨rfl, rfl, Nat.le_of_ble_eq_true rfl, Nat.le_of_ble_eq_true rfl⟩ ⟨Nat.zero_le _, Nat.zero_le _⟩ rfl rfl (Nat.le_of_ble_eq_true rfl) dX8_feed_3 (sd_X8_in l D cy ad x1 0 5 r1 (by decide) (by decide) M _ h) (fun _ M1 qz => ?_)
  obtain ⟨z1, rfl, rz1, h⟩ := qz
  refine x_if_eq (tgt := 20) C (ka_bi rz1) dX8_feed_6 (by decide) (fun q1 => ?_) (fun q1 => ?_)
  · have h := h.1 q1
    refine x_bipush C dX8_feed_20 rfl ?_
    exact x_iret C (by decide) h dX8_feed_22
  · have h := h.2 q1
    refine x_iload C dX8_feed_9 rfl ?_
    refine x_iconst C dX8_feed_11 ?_
    refine x_bipush C dX8_feed_12 rfl ?_
    refine x_callS (vs := [aI x4, aI 1, aI 8]) C cv_RX8_76 ⟨rfl, rfl, Nat.le_of_ble_eq_true rfl, Nat.le_of_ble_eq_true rfl⟩ ⟨Nat.zero_le _, Nat.zero_le _⟩ rfl rfl (Nat.le_of_ble_eq_true rfl) dX8_feed_14 (sd_X8_in l D cy ad x4 1 8 r4 (by decide) (by decide) M1 _ h) (fun _ M2 qz => ?_)
    obtain ⟨z2, rfl, rz2, h⟩ := qz
    refine x_if_ne (tgt := 23) C (ka_bi rz2) dX8_feed_17 (by decide) (fun q2 => ?_) (fun q2 => ?_)
    · have h := h.1 q2
      refine x_aload_n C dX8_feed_23 rfl ?_
      refine x_getR C gf_RX8_13 ly_8 rfl (by decide) dX8_feed_24 ?_
      refine x_iload_n C dX8_feed_27 rfl ?_
      obtain ⟨o1, h⟩ := h
      refine x_rng (fun hR1 => ?_)
      refine x_zald C ly_30 rfl (by decide) (by decide) o1 dX8_feed_28 ?_
      refine x_if_eq (tgt := 41) C (ka_bi (ka_gZ hR1 ly_30 _)) dX8_feed_29 (by decide) (fun q3 => ?_) (fun q3 => ?_)
      · have h := h.1 q3
        refine x_iconst C dX8_feed_41 ?_
        refine x_istore C dX8_feed_42 (Nat.le_of_ble_eq_true rfl) rfl ?_
        refine x_iload C dX8_feed_44 rfl ?_
        refine x_iload C dX8_feed_46 rfl ?_
        refine x_iadd C dX8_feed_48 ?_
        refine x_sipush C dX8_feed_49 rfl ?_
        obtain ⟨o2, h⟩ := h
        refine x_icmp_le (tgt := 58) C o2 (by decide) dX8_feed_52 (by decide) (fun q4 => ?_) (fun q4 => ?_)
        · have h := h.1 q4
          refine x_iload C dX8_feed_58 rfl ?_
          refine x_iconst C dX8_feed_60 ?_
          refine x_isub C dX8_feed_61 ?_
          refine x_istore C dX8_feed_62 (Nat.le_of_ble_eq_true rfl) rfl ?_
          obtain ⟨o3, h⟩ := h
          refine lp_X8_feed_L64 C x1 x2 x4 0 r1 r4 (by decide) Q _ (fun M3 h => ?_) _ _ h o3
          · refine x_aload_n C dX8_feed_108 rfl ?_
            refine x_getR C gf_RX8_13 ly_8 rfl (by decide) dX8_feed_109 ?_
            refine x_iload_n C dX8_feed_112 rfl ?_
            refine x_iconst C dX8_feed_113 ?_
            obtain ⟨o4, h⟩ := h
            refine x_zast C ly_30 rfl (by decide) (by decide) o4 (by decide) dX8_feed_114 ?_
            refine x_aload_n C dX8_feed_115 rfl ?_
            refine x_getR C gf_RX8_17 ly_8 rfl (by decide) dX8_feed_116 ?_
            refine x_iload_n C dX8_feed_119 rfl ?_
            refine x_iload C dX8_feed_120 rfl ?_
            refine x_iload C dX8_feed_122 rfl ?_
            refine x_iadd C dX8_feed_124 ?_
            obtain ⟨o5, h⟩ := h
            obtain ⟨o6, h⟩ := h
            refine x_iast C ly_31 rfl (by decide) (by decide) o6 o5 dX8_feed_125 ?_
            refine x_aload_n C dX8_feed_126 rfl ?_
            refine x_iconst C dX8_feed_127 ?_
            refine x_putZ C pf_RX8_87 ly_8 rfl rfl (by decide) (by decide) dX8_feed_128 ?_
            refine x_aload_n C dX8_feed_131 rfl ?_
            refine x_callV (vs := []) C cv_RX8_90 ly_8 rfl (by decide) ⟨rfl, rfl, Nat.le_of_ble_eq_true rfl, Nat.le_of_ble_eq_true rfl⟩ ⟨Nat.zero_le _, Nat.zero_le _⟩ rfl rfl (Nat.le_of_ble_eq_true rfl) dX8_feed_132 (sd_X8_counts l D cy ad (mset (mset (mset M3 30 x1 1) 31 x1 (0 + x4)) 8 12 0) _ h) (fun _ M4 qz => ?_)
            obtain ⟨rfl, h⟩ := qz
            refine x_aload_n C dX8_feed_135 rfl ?_
            refine x_getR C gf_RX8_17 ly_8 rfl (by decide) dX8_feed_136 ?_
            refine x_iload_n C dX8_feed_139 rfl ?_
            obtain ⟨o7, h⟩ := h
            refine x_rng (fun hR2 => ?_)
            refine x_iald C ly_31 rfl (by decide) (by decide) o7 dX8_feed_140 ?_
            exact x_iret C (ka_gI hR2 ly_31 _) h dX8_feed_141
        · have h := h.2 q4
          refine x_bipush C dX8_feed_55 rfl ?_
          exact x_iret C (by decide) h dX8_feed_57
      · have h := h.2 q3
        refine x_aload_n C dX8_feed_32 rfl ?_
        refine x_getR C gf_RX8_17 ly_8 rfl (by decide) dX8_feed_33 ?_
        refine x_iload_n C dX8_feed_36 rfl ?_
        obtain ⟨o8, h⟩ := h
        refine x_iald C ly_31 rfl (by decide) (by decide) o8 dX8_feed_37 ?_
        refine x_goto (tgt := 42) C dX8_feed_38 (by decide) ?_
        refine x_istore C dX8_feed_42 (Nat.le_of_ble_eq_true rfl) rfl ?_
        refine x_iload C dX8_feed_44 rfl ?_
        refine x_iload C dX8_feed_46 rfl ?_
        refine x_iadd C dX8_feed_48 ?_
        refine x_sipush C dX8_feed_49 rfl ?_
        obtain ⟨o9, h⟩ := h
        refine x_icmp_le (tgt := 58) C o9 (by decide) dX8_feed_52 (by decide) (fun q5 => ?_) (fun q5 => ?_)
        · have h := h.1 q5
          refine x_iload C dX8_feed_58 rfl ?_
          refine x_iconst C dX8_feed_60 ?_
          refine x_isub C dX8_feed_61 ?_
          refine x_istore C dX8_feed_62 (Nat.le_of_ble_eq_true rfl) rfl ?_
          obtain ⟨o10, h⟩ := h
          refine lp_X8_feed_L64 C x1 x2 x4 (M2 31 x1) r1 r4 (ka_gI hR1 ly_31 _) Q _ (fun M5 h => ?_) _ _ h o10
          · refine x_aload_n C dX8_feed_108 rfl ?_
            refine x_getR C gf_RX8_13 ly_8 rfl (by decide) dX8_feed_109 ?_
            refine x_iload_n C dX8_feed_112 rfl ?_
            refine x_iconst C dX8_feed_113 ?_
            obtain ⟨o11, h⟩ := h
            refine x_zast C ly_30 rfl (by decide) (by decide) o11 (by decide) dX8_feed_114 ?_
            refine x_aload_n C dX8_feed_115 rfl ?_
            refine x_getR C gf_RX8_17 ly_8 rfl (by decide) dX8_feed_116 ?_
            refine x_iload_n C dX8_feed_119 rfl ?_
            refine x_iload C dX8_feed_120 rfl ?_
            refine x_iload C dX8_feed_122 rfl ?_
            refine x_iadd C dX8_feed_124 ?_
            obtain ⟨o12, h⟩ := h
            obtain ⟨o13, h⟩ := h
            refine x_iast C ly_31 rfl (by decide) (by decide) o13 o12 dX8_feed_125 ?_
            refine x_aload_n C dX8_feed_126 rfl ?_
            refine x_iconst C dX8_feed_127 ?_
            refine x_putZ C pf_RX8_87 ly_8 rfl rfl (by decide) (by decide) dX8_feed_128 ?_
            refine x_aload_n C dX8_feed_131 rfl ?_
            refine x_callV (vs := []) C cv_RX8_90 ly_8 rfl (by decide) ⟨rfl, rfl, Nat.le_of_ble_eq_true rfl, Nat.le_of_ble_eq_true rfl⟩ ⟨Nat.zero_le _, Nat.zero_le _⟩ rfl rfl (Nat.le_of_ble_eq_true rfl) dX8_feed_132 (sd_X8_counts l D cy ad (mset (mset (mset M5 30 x1 1) 31 x1 ((M2 31 x1) + x4)) 8 12 0) _ h) (fun _ M6 qz => ?_)
            obtain ⟨rfl, h⟩ := qz
            refine x_aload_n C dX8_feed_135 rfl ?_
            refine x_getR C gf_RX8_17 ly_8 rfl (by decide) dX8_feed_136 ?_
            refine x_iload_n C dX8_feed_139 rfl ?_
            obtain ⟨o14, h⟩ := h
            refine x_rng (fun hR3 => ?_)
            refine x_iald C ly_31 rfl (by decide) (by decide) o14 dX8_feed_140 ?_
            exact x_iret C (ka_gI hR3 ly_31 _) h dX8_feed_141
        · have h := h.2 q5
          refine x_bipush C dX8_feed_55 rfl ?_
          exact x_iret C (by decide) h dX8_feed_57
    · have h := h.2 q2
      refine x_bipush C dX8_feed_20 rfl ?_
      exact x_iret C (by decide) h dX8_feed_22
set_option maxRecDepth 100000 in
set_option maxHeartbeats 4000000 in
theorem lp_X4_wipe_L2 {p : Program} {l : Launch} {e : Env} {s : State} {m : MethodId} {args : Array Value} {below : List Frame} {meth : Method} {c : Code} {D : va_G} {cy : Nat → ClassId} {ad : Nat → Int → Nat} (C : Cx p s m args meth c D cy ad (Ar ad) cX4_wipe 3 RX4 none) (x1 : Int) (r1 : iR x1) (Q : Mm → Prop) : ∀ (x2 : Int) (M : Mm), wp_X4_wipe_L2 x1 Q x2 M → iR x2 → Xj p l e rm_X4_wipe s m args below meth c D cy ad (Ar ad) (MQ below (QX D cy ad (rV Q)) args s 0 0 (Ar ad)) 3 0 0 2 [some (aR 2), some (aI x1), some (aI x2)] [] M :=
  LP1.ind (P := fun x2 M => iR x2 → Xj p l e rm_X4_wipe s m args below meth c D cy ad (Ar ad) (MQ below (QX D cy ad (rV Q)) args s 0 0 (Ar ad)) 3 0 0 2 [some (aR 2), some (aI x1), some (aI x2)] [] M) (fun R ih => by
    intro x2 M h r2
    unfold bc_X4_wipe_L2 at h
    refine x_iload_n C dX4_wipe_2 rfl ?_
    refine x_aload_n C dX4_wipe_3 rfl ?_
    refine x_getR C gf_RX4_16 ly_2 rfl (by decide) dX4_wipe_4 ?_
    refine x_iload_n C dX4_wipe_7 rfl ?_
    obtain ⟨o1, h⟩ := h
    refine x_rng (fun hR1 => ?_)
    refine x_iald C ly_12 rfl (by decide) (by decide) o1 dX4_wipe_8 ?_
    refine x_icmp_ge (tgt := 41) C r2 (ka_gI hR1 ly_12 _) dX4_wipe_9 (by decide) (fun q1 => ?_) (fun q1 => ?_)
    · have h := h.1 q1
      refine x_aload_n C dX4_wipe_41 rfl ?_
      refine x_getR C gf_RX4_16 ly_2 rfl (by decide) dX4_wipe_42 ?_
      refine x_iload_n C dX4_wipe_45 rfl ?_
      refine x_iconst C dX4_wipe_46 ?_
      obtain ⟨o2, h⟩ := h
      refine x_iast C ly_12 rfl (by decide) (by decide) o2 (by decide) dX4_wipe_47 ?_
      exact x_vret C h dX4_wipe_48
    · have h := h.2 q1
      refine x_aload_n C dX4_wipe_12 rfl ?_
      refine x_aload_n C dX4_wipe_13 rfl ?_
      refine x_getR C gf_RX4_11 ly_2 rfl (by decide) dX4_wipe_14 ?_
      refine x_iload_n C dX4_wipe_17 rfl ?_
      obtain ⟨o3, h⟩ := h
      refine x_aald C ly_11 rfl (by decide) (by decide) o3 dX4_wipe_18 ?_
      refine x_iload_n C dX4_wipe_19 rfl ?_
      refine x_iconst C dX4_wipe_20 ?_
      refine x_isub C dX4_wipe_21 ?_
      obtain ⟨o4, h⟩ := h
      refine x_iald2 C ly_11 rfl (by decide) (by decide) rfl o3 o4 dX4_wipe_22 ?_
      refine x_aload_n C dX4_wipe_23 rfl ?_
      refine x_getR C gf_RX4_11 ly_2 rfl (by decide) dX4_wipe_24 ?_
      refine x_iload_n C dX4_wipe_27 rfl ?_
      obtain ⟨o5, h⟩ := h
      refine x_aald C ly_11 rfl (by decide) (by decide) o5 dX4_wipe_28 ?_
      refine x_iload_n C dX4_wipe_29 rfl ?_
      obtain ⟨o6, h⟩ := h
      refine x_iald2 C ly_11 rfl (by decide) (by decide) rfl o5 o6 dX4_wipe_30 ?_
      refine x_iconst C dX4_wipe_31 ?_
      refine x_callV (vs := [aI (M 11 (300 * x1 + (x2 - 1))), aI (M 11 (300 * x1 + x2)), aI (-1)]) C cv_RX4_29 ly_2 rfl (by decide) ⟨rfl, rfl, Nat.le_of_ble_eq_true rfl, Nat.le_of_ble_eq_true rfl⟩ ⟨Nat.zero_le _, Nat.zero_le _⟩ rfl rfl (Nat.le_of_ble_eq_true rfl) dX4_wipe_32 (sd_X4_countPair l D cy ad (M 11 (300 * x1 + (x2 - 1))) (M 11 (300 * x1 + x2)) (-1) (ka_gI hR1 ly_11 _) (ka_gI hR1 ly_11 _) (by decide) M _ h) (fun _ M1 qz => ?_)
      obtain ⟨rfl, h⟩ := qz
      refine x_iinc C dX4_wipe_35 rfl (Nat.le_of_ble_eq_true rfl) rfl ?_
      refine x_goto (tgt := 2) C dX4_wipe_38 (by decide) ?_
      obtain ⟨o7, h⟩ := h
      exact ih _ _ h o7)
set_option maxRecDepth 100000 in
set_option maxHeartbeats 4000000 in
theorem sd_X4_wipe (l : Launch) (D : va_G) (cy : Nat → ClassId) (ad : Nat → Int → Nat) (x1 : Int) (r1 : iR x1) (M : Mm) (Q : Mm → Prop) (h : wp_X4_wipe x1 M Q) : Ct l D cy ad yX4_wipe cX4_wipe 3 none rm_X4_wipe [aR 2, aI x1] M (rV Q) := by
  refine ct_of (z := 1) (ls := [some (aR 2), some (aI x1), none]) (by decide) rfl (Nat.le_of_ble_eq_true rfl) ?_
  intro p e s m args below meth c C
  have C : Cx p s m args meth c D cy ad (Ar ad) cX4_wipe 3 RX4 none := C
  unfold wp_X4_wipe at h
  refine x_iconst C dX4_wipe_0 ?_
  refine x_istore_n C dX4_wipe_1 (Nat.le_of_ble_eq_true rfl) rfl ?_
  refine lp_X4_wipe_L2 C x1 r1 Q _ _ h (by decide)
set_option maxRecDepth 100000 in
set_option maxHeartbeats 4000000 in
theorem sd_X7_tear (l : Launch) (D : va_G) (cy : Nat → ClassId) (ad : Nat → Int → Nat) (x1 : Int) (r1 : iR x1) (M : Mm) (Q : Int → Mm → Prop) (h : wp_X7_tear x1 M Q) : Ct l D cy ad yX7_tear cX7_tear 3 (some .int) rm_X7_tear [aR 0, aI x1] M (rI Q) := by
  refine ct_of (z := 1) (ls := [some (aR 0), some (aI x1), none]) (by decide) rfl (Nat.le_of_ble_eq_true rfl) ?_
  intro p e s m args below meth c C
  have C : Cx p s m args meth c D cy ad (Ar ad) cX7_tear 3 RX7 (some .int) := C
  unfold wp_X7_tear at h
  refine x_iload_n C dX7_tear_0 rfl ?_
  refine x_callS (vs := [aI x1]) C cv_RX7_81 ⟨rfl, rfl, Nat.le_of_ble_eq_true rfl, Nat.le_of_ble_eq_true rfl⟩ ⟨Nat.zero_le _, Nat.zero_le _⟩ rfl rfl (Nat.le_of_ble_eq_true rfl) dX7_tear_1 (sd_X7_isPage l D cy ad x1 r1 M _ h) (fun _ M1 qz => ?_)
  obtain ⟨z1, rfl, rz1, h⟩ := qz
  refine x_if_ne (tgt := 10) C (ka_bi rz1) dX7_tear_4 (by decide) (fun q1 => ?_) (fun q1 => ?_)
  · have h := h.1 q1
    refine x_aload_n C dX7_tear_10 rfl ?_
    refine x_getR C gf_RX7_19 ly_0 rfl (by decide) dX7_tear_11 ?_
    refine x_getR C gf_RX7_85 ly_2 rfl (by decide) dX7_tear_14 ?_
    refine x_iload_n C dX7_tear_17 rfl ?_
    obtain ⟨o1, h⟩ := h
    refine x_rng (fun hR1 => ?_)
    refine x_iald C ly_12 rfl (by decide) (by decide) o1 dX7_tear_18 ?_
    refine x_istore_n C dX7_tear_19 (Nat.le_of_ble_eq_true rfl) rfl ?_
    refine x_iload_n C dX7_tear_20 rfl ?_
    refine x_if_ne (tgt := 27) C (ka_gI hR1 ly_12 _) dX7_tear_21 (by decide) (fun q2 => ?_) (fun q2 => ?_)
    · have h := h.1 q2
      refine x_aload_n C dX7_tear_27 rfl ?_
      refine x_getR C gf_RX7_46 ly_0 rfl (by decide) dX7_tear_28 ?_
      refine x_callV (vs := []) C cv_RX7_78 ly_5 rfl (by decide) ⟨rfl, rfl, Nat.le_of_ble_eq_true rfl, Nat.le_of_ble_eq_true rfl⟩ ⟨Nat.zero_le _, Nat.zero_le _⟩ rfl rfl (Nat.le_of_ble_eq_true rfl) dX7_tear_31 (sd_X1_forget l D cy ad M1 _ h) (fun _ M2 qz => ?_)
      obtain ⟨rfl, h⟩ := qz
      refine x_aload_n C dX7_tear_34 rfl ?_
      refine x_getR C gf_RX7_19 ly_0 rfl (by decide) dX7_tear_35 ?_
      refine x_iload_n C dX7_tear_38 rfl ?_
      refine x_callV (vs := [aI x1]) C cv_RX7_93 ly_2 rfl (by decide) ⟨rfl, rfl, Nat.le_of_ble_eq_true rfl, Nat.le_of_ble_eq_true rfl⟩ ⟨Nat.zero_le _, Nat.zero_le _⟩ rfl rfl (Nat.le_of_ble_eq_true rfl) dX7_tear_39 (sd_X4_wipe l D cy ad x1 r1 M2 _ h) (fun _ M3 qz => ?_)
      obtain ⟨rfl, h⟩ := qz
      refine x_iload_n C dX7_tear_42 rfl ?_
      exact x_iret C (ka_gI hR1 ly_12 _) h dX7_tear_43
    · have h := h.2 q2
      refine x_bipush C dX7_tear_24 rfl ?_
      exact x_iret C (by decide) h dX7_tear_26
  · have h := h.2 q1
    refine x_bipush C dX7_tear_7 rfl ?_
    exact x_iret C (by decide) h dX7_tear_9
set_option maxRecDepth 100000 in
set_option maxHeartbeats 4000000 in
theorem sd_X8_tear (l : Launch) (D : va_G) (cy : Nat → ClassId) (ad : Nat → Int → Nat) (x1 : Int) (r1 : iR x1) (M : Mm) (Q : Int → Mm → Prop) (h : wp_X8_tear x1 M Q) : Ct l D cy ad yX8_tear cX8_tear 2 (some .int) rm_X8_tear [aR 8, aI x1] M (rI Q) := by
  refine ct_of (z := 0) (ls := [some (aR 8), some (aI x1)]) (by decide) rfl (Nat.le_of_ble_eq_true rfl) ?_
  intro p e s m args below meth c C
  have C : Cx p s m args meth c D cy ad (Ar ad) cX8_tear 2 RX8 (some .int) := C
  unfold wp_X8_tear at h
  refine x_iload_n C dX8_tear_0 rfl ?_
  refine x_iconst C dX8_tear_1 ?_
  refine x_iconst C dX8_tear_2 ?_
  refine x_callS (vs := [aI x1, aI 0, aI 5]) C cv_RX8_76 ⟨rfl, rfl, Nat.le_of_ble_eq_true rfl, Nat.le_of_ble_eq_true rfl⟩ ⟨Nat.zero_le _, Nat.zero_le _⟩ rfl rfl (Nat.le_of_ble_eq_true rfl) dX8_tear_3 (sd_X8_in l D cy ad x1 0 5 r1 (by decide) (by decide) M _ h) (fun _ M1 qz => ?_)
  obtain ⟨z1, rfl, rz1, h⟩ := qz
  refine x_if_ne (tgt := 12) C (ka_bi rz1) dX8_tear_6 (by decide) (fun q1 => ?_) (fun q1 => ?_)
  · have h := h.1 q1
    refine x_aload_n C dX8_tear_12 rfl ?_
    refine x_getR C gf_RX8_13 ly_8 rfl (by decide) dX8_tear_13 ?_
    refine x_iload_n C dX8_tear_16 rfl ?_
    obtain ⟨o1, h⟩ := h
    refine x_rng (fun hR1 => ?_)
    refine x_zald C ly_30 rfl (by decide) (by decide) o1 dX8_tear_17 ?_
    refine x_if_ne (tgt := 24) C (ka_bi (ka_gZ hR1 ly_30 _)) dX8_tear_18 (by decide) (fun q2 => ?_) (fun q2 => ?_)
    · have h := h.1 q2
      refine x_aload_n C dX8_tear_24 rfl ?_
      refine x_getR C gf_RX8_13 ly_8 rfl (by decide) dX8_tear_25 ?_
      refine x_iload_n C dX8_tear_28 rfl ?_
      refine x_iconst C dX8_tear_29 ?_
      obtain ⟨o2, h⟩ := h
      refine x_zast C ly_30 rfl (by decide) (by decide) o2 (by decide) dX8_tear_30 ?_
      refine x_aload_n C dX8_tear_31 rfl ?_
      refine x_iconst C dX8_tear_32 ?_
      refine x_putZ C pf_RX8_87 ly_8 rfl rfl (by decide) (by decide) dX8_tear_33 ?_
      refine x_aload_n C dX8_tear_36 rfl ?_
      refine x_callV (vs := []) C cv_RX8_90 ly_8 rfl (by decide) ⟨rfl, rfl, Nat.le_of_ble_eq_true rfl, Nat.le_of_ble_eq_true rfl⟩ ⟨Nat.zero_le _, Nat.zero_le _⟩ rfl rfl (Nat.le_of_ble_eq_true rfl) dX8_tear_37 (sd_X8_counts l D cy ad (mset (mset M1 30 x1 0) 8 12 0) _ h) (fun _ M2 qz => ?_)
      obtain ⟨rfl, h⟩ := qz
      refine x_aload_n C dX8_tear_40 rfl ?_
      refine x_getR C gf_RX8_17 ly_8 rfl (by decide) dX8_tear_41 ?_
      refine x_iload_n C dX8_tear_44 rfl ?_
      obtain ⟨o3, h⟩ := h
      refine x_rng (fun hR2 => ?_)
      refine x_iald C ly_31 rfl (by decide) (by decide) o3 dX8_tear_45 ?_
      exact x_iret C (ka_gI hR2 ly_31 _) h dX8_tear_46
    · have h := h.2 q2
      refine x_bipush C dX8_tear_21 rfl ?_
      exact x_iret C (by decide) h dX8_tear_23
  · have h := h.2 q1
    refine x_bipush C dX8_tear_9 rfl ?_
    exact x_iret C (by decide) h dX8_tear_11
set_option maxRecDepth 100000 in
set_option maxHeartbeats 4000000 in
theorem sd_X3_has (l : Launch) (D : va_G) (cy : Nat → ClassId) (ad : Nat → Int → Nat) (x1 : Int) (r1 : iR x1) (M : Mm) (Q : Int → Mm → Prop) (h : wp_X3_has x1 M Q) : Ct l D cy ad yX3_has cX3_has 2 (some .boolean) rm_X3_has [aR 1, aI x1] M (rZ Q) := by
  refine ct_of (z := 0) (ls := [some (aR 1), some (aI x1)]) (by decide) rfl (Nat.le_of_ble_eq_true rfl) ?_
  intro p e s m args below meth c C
  have C : Cx p s m args meth c D cy ad (Ar ad) cX3_has 2 RX3 (some .boolean) := C
  unfold wp_X3_has at h
  refine x_iload_n C dX3_has_0 rfl ?_
  refine x_if_lt (tgt := 16) C r1 dX3_has_1 (by decide) (fun q1 => ?_) (fun q1 => ?_)
  · have h := h.1 q1
    refine x_iconst C dX3_has_16 ?_
    exact x_zret C (by decide) h dX3_has_17
  · have h := h.2 q1
    refine x_iload_n C dX3_has_4 rfl ?_
    refine x_aload_n C dX3_has_5 rfl ?_
    refine x_rng (fun hR1 => ?_)
    refine x_getI C gf_RX3_9 ly_1 rfl rfl (by decide) dX3_has_6 ?_
    refine x_icmp_ge (tgt := 16) C r1 (ka_fI hR1 ly_1 rfl) dX3_has_9 (by decide) (fun q2 => ?_) (fun q2 => ?_)
    · have h := h.1 q2
      refine x_iconst C dX3_has_16 ?_
      exact x_zret C (by decide) h dX3_has_17
    · have h := h.2 q2
      refine x_iconst C dX3_has_12 ?_
      refine x_goto (tgt := 17) C dX3_has_13 (by decide) ?_
      exact x_zret C (by decide) h dX3_has_17
set_option maxRecDepth 100000 in
set_option maxHeartbeats 4000000 in
theorem sd_X7_often (l : Launch) (D : va_G) (cy : Nat → ClassId) (ad : Nat → Int → Nat) (x1 : Int) (x2 : Int) (r1 : iR x1) (r2 : iR x2) (M : Mm) (Q : Int → Mm → Prop) (h : wp_X7_often x1 x2 M Q) : Ct l D cy ad yX7_often cX7_often 3 (some .int) rm_X7_often [aR 0, aI x1, aI x2] M (rI Q) := by
  refine ct_of (z := 0) (ls := [some (aR 0), some (aI x1), some (aI x2)]) (by decide) rfl (Nat.le_of_ble_eq_true rfl) ?_
  intro p e s m args below meth c C
  have C : Cx p s m args meth c D cy ad (Ar ad) cX7_often 3 RX7 (some .int) := C
  unfold wp_X7_often at h
  refine x_aload_n C dX7_often_0 rfl ?_
  refine x_getR C gf_RX7_10 ly_0 rfl (by decide) dX7_often_1 ?_
  refine x_iload_n C dX7_often_4 rfl ?_
  refine x_callV (vs := [aI x1]) C cv_RX7_96 ly_1 rfl (by decide) ⟨rfl, rfl, Nat.le_of_ble_eq_true rfl, Nat.le_of_ble_eq_true rfl⟩ ⟨Nat.zero_le _, Nat.zero_le _⟩ rfl rfl (Nat.le_of_ble_eq_true rfl) dX7_often_5 (sd_X3_has l D cy ad x1 r1 M _ h) (fun _ M1 qz => ?_)
  obtain ⟨z1, rfl, rz1, h⟩ := qz
  refine x_if_eq (tgt := 22) C (ka_bi rz1) dX7_often_8 (by decide) (fun q1 => ?_) (fun q1 => ?_)
  · have h := h.1 q1
    refine x_bipush C dX7_often_22 rfl ?_
    exact x_iret C (by decide) h dX7_often_24
  · have h := h.2 q1
    refine x_aload_n C dX7_often_11 rfl ?_
    refine x_getR C gf_RX7_10 ly_0 rfl (by decide) dX7_often_12 ?_
    refine x_iload_n C dX7_often_15 rfl ?_
    refine x_callV (vs := [aI x2]) C cv_RX7_96 ly_1 rfl (by decide) ⟨rfl, rfl, Nat.le_of_ble_eq_true rfl, Nat.le_of_ble_eq_true rfl⟩ ⟨Nat.zero_le _, Nat.zero_le _⟩ rfl rfl (Nat.le_of_ble_eq_true rfl) dX7_often_16 (sd_X3_has l D cy ad x2 r2 M1 _ h) (fun _ M2 qz => ?_)
    obtain ⟨z2, rfl, rz2, h⟩ := qz
    refine x_if_ne (tgt := 25) C (ka_bi rz2) dX7_often_19 (by decide) (fun q2 => ?_) (fun q2 => ?_)
    · have h := h.1 q2
      refine x_aload_n C dX7_often_25 rfl ?_
      refine x_getR C gf_RX7_19 ly_0 rfl (by decide) dX7_often_26 ?_
      refine x_getR C gf_RX7_32 ly_2 rfl (by decide) dX7_often_29 ?_
      refine x_iload_n C dX7_often_32 rfl ?_
      obtain ⟨o1, h⟩ := h
      refine x_aald C ly_13 rfl (by decide) (by decide) o1 dX7_often_33 ?_
      refine x_iload_n C dX7_often_34 rfl ?_
      obtain ⟨o2, h⟩ := h
      refine x_rng (fun hR1 => ?_)
      refine x_iald2 C ly_13 rfl (by decide) (by decide) rfl o1 o2 dX7_often_35 ?_
      exact x_iret C (ka_gI hR1 ly_13 _) h dX7_often_36
    · have h := h.2 q2
      refine x_bipush C dX7_often_22 rfl ?_
      exact x_iret C (by decide) h dX7_often_24
