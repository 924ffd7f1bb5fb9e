def bc_L_law_L18 (sx : Int → Int) (Ln : Int) (Q : Int → Mm → Prop) (R : Int → Mm → Prop) (x3 : Int) (M : Mm) : Prop :=
  iR (Ln - 5) ∧ (Ln - 5 < x3 →
    Q 1 M) ∧
  (¬ (Ln - 5 < x3) →
    (0 ≤ x3 ∧ x3 < Ln) ∧ (a_and32 (sx x3) 31 = 0 →
      (0 ≤ x3 + 1 ∧ x3 + 1 < Ln) ∧ wp_X7_letters (sx (x3 + 1)) M (fun z1 M1 =>
        (0 ≤ x3 + 1 ∧ x3 + 1 < Ln) ∧ wp_X8_letters (sx (x3 + 1)) M1 (fun z2 M2 =>
          (z1 = z2 →
            iR (x3 + 5) ∧ R (x3 + 5) M2) ∧
          (¬ z1 = z2 →
            Q 0 M2)))) ∧
    (a_and32 (sx x3) 31 = 1 →
      (0 ≤ x3 + 1 ∧ x3 + 1 < Ln) ∧ (0 ≤ x3 + 2 ∧ x3 + 2 < Ln) ∧ (0 ≤ x3 + 3 ∧ x3 + 3 < Ln) ∧ (0 ≤ x3 + 4 ∧ x3 + 4 < Ln) ∧ wp_X7_feed (sx (x3 + 1)) (a_or64 (a_shl64 (sx (x3 + 2)) 32) (a_and64 (sx (x3 + 3)) 4294967295)) (sx (x3 + 4)) M (fun z3 M3 =>
        (0 ≤ x3 + 1 ∧ x3 + 1 < Ln) ∧ (0 ≤ x3 + 2 ∧ x3 + 2 < Ln) ∧ (0 ≤ x3 + 3 ∧ x3 + 3 < Ln) ∧ (0 ≤ x3 + 4 ∧ x3 + 4 < Ln) ∧ wp_X8_feed (sx (x3 + 1)) (a_or64 (a_shl64 (sx (x3 + 2)) 32) (a_and64 (sx (x3 + 3)) 4294967295)) (sx (x3 + 4)) M3 (fun z4 M4 =>
          (z3 = z4 →
            iR (x3 + 5) ∧ R (x3 + 5) M4) ∧
          (¬ z3 = z4 →
            Q 0 M4)))) ∧
    (a_and32 (sx x3) 31 = 2 →
      (0 ≤ x3 + 1 ∧ x3 + 1 < Ln) ∧ wp_X7_tear (sx (x3 + 1)) M (fun z5 M5 =>
        (0 ≤ x3 + 1 ∧ x3 + 1 < Ln) ∧ wp_X8_tear (sx (x3 + 1)) M5 (fun z6 M6 =>
          (z5 = z6 →
            iR (x3 + 5) ∧ R (x3 + 5) M6) ∧
          (¬ z5 = z6 →
            Q 0 M6)))) ∧
    (a_and32 (sx x3) 31 = 3 →
      (0 ≤ x3 + 1 ∧ x3 + 1 < Ln) ∧ (0 ≤ x3 + 2 ∧ x3 + 2 < Ln) ∧ wp_X7_often (sx (x3 + 1)) (sx (x3 + 2)) M (fun z7 M7 =>
        (0 ≤ x3 + 1 ∧ x3 + 1 < Ln) ∧ (0 ≤ x3 + 2 ∧ x3 + 2 < Ln) ∧ wp_X8_often (sx (x3 + 1)) (sx (x3 + 2)) M7 (fun z8 M8 =>
          (z7 = z8 →
            iR (x3 + 5) ∧ R (x3 + 5) M8) ∧
          (¬ z7 = z8 →
            Q 0 M8)))) ∧
    (a_and32 (sx x3) 31 = 4 →
      (0 ≤ x3 + 1 ∧ x3 + 1 < Ln) ∧ (0 ≤ x3 + 2 ∧ x3 + 2 < Ln) ∧ wp_X7_key (sx (x3 + 1)) (sx (x3 + 2)) M (fun z9 M9 =>
        (0 ≤ x3 + 1 ∧ x3 + 1 < Ln) ∧ (0 ≤ x3 + 2 ∧ x3 + 2 < Ln) ∧ wp_X8_key (sx (x3 + 1)) (sx (x3 + 2)) M9 (fun z10 M10 =>
          (z9 = z10 →
            iR (x3 + 5) ∧ R (x3 + 5) M10) ∧
          (¬ z9 = z10 →
            Q 0 M10)))) ∧
    (a_and32 (sx x3) 31 = 5 →
      (0 ≤ x3 + 1 ∧ x3 + 1 < Ln) ∧ (0 ≤ x3 + 2 ∧ x3 + 2 < Ln) ∧ (0 ≤ x3 + 3 ∧ x3 + 3 < Ln) ∧ wp_X7_go (sx (x3 + 1)) (sx (x3 + 2)) (sx (x3 + 3)) M (fun z11 M11 =>
        (0 ≤ x3 + 1 ∧ x3 + 1 < Ln) ∧ (0 ≤ x3 + 2 ∧ x3 + 2 < Ln) ∧ (0 ≤ x3 + 3 ∧ x3 + 3 < Ln) ∧ wp_X8_go (sx (x3 + 1)) (sx (x3 + 2)) (sx (x3 + 3)) M11 (fun z12 M12 =>
          (z11 = z12 →
            iR (x3 + 5) ∧ R (x3 + 5) M12) ∧
          (¬ z11 = z12 →
            Q 0 M12)))) ∧
    (a_and32 (sx x3) 31 = 6 →
      (0 ≤ x3 + 1 ∧ x3 + 1 < Ln) ∧ (0 ≤ x3 + 2 ∧ x3 + 2 < Ln) ∧ wp_X7_cost (sx (x3 + 1)) (sx (x3 + 2)) M (fun z13 M13 =>
        (0 ≤ x3 + 1 ∧ x3 + 1 < Ln) ∧ (0 ≤ x3 + 2 ∧ x3 + 2 < Ln) ∧ wp_X8_cost (sx (x3 + 1)) (sx (x3 + 2)) M13 (fun z14 M14 =>
          (z13 = z14 →
            iR (x3 + 5) ∧ R (x3 + 5) M14) ∧
          (¬ z13 = z14 →
            Q 0 M14)))) ∧
    (a_and32 (sx x3) 31 = 7 →
      (0 ≤ x3 + 1 ∧ x3 + 1 < Ln) ∧ wp_X7_body (sx (x3 + 1)) M (fun z15 M15 =>
        (0 ≤ x3 + 1 ∧ x3 + 1 < Ln) ∧ wp_X8_body (sx (x3 + 1)) M15 (fun z16 M16 =>
          (z15 = z16 →
            iR (x3 + 5) ∧ R (x3 + 5) M16) ∧
          (¬ z15 = z16 →
            Q 0 M16)))) ∧
    (a_and32 (sx x3) 31 = 8 →
      (0 ≤ x3 + 1 ∧ x3 + 1 < Ln) ∧ (0 ≤ x3 + 2 ∧ x3 + 2 < Ln) ∧ wp_X7_fix (sx (x3 + 1)) (sx (x3 + 2)) M (fun z17 M17 =>
        (0 ≤ x3 + 1 ∧ x3 + 1 < Ln) ∧ (0 ≤ x3 + 2 ∧ x3 + 2 < Ln) ∧ wp_X8_fix (sx (x3 + 1)) (sx (x3 + 2)) M17 (fun z18 M18 =>
          (z17 = z18 →
            iR (x3 + 5) ∧ R (x3 + 5) M18) ∧
          (¬ z17 = z18 →
            Q 0 M18)))) ∧
    (a_and32 (sx x3) 31 = 9 →
      wp_X7_first M (fun z19 M19 =>
        wp_X8_first M19 (fun z20 M20 =>
          (z19 = z20 →
            iR (x3 + 5) ∧ R (x3 + 5) M20) ∧
          (¬ z19 = z20 →
            Q 0 M20)))) ∧
    (a_and32 (sx x3) 31 = 10 →
      (0 ≤ x3 + 1 ∧ x3 + 1 < Ln) ∧ (0 ≤ x3 + 2 ∧ x3 + 2 < Ln) ∧ wp_X7_put (sx (x3 + 1)) (sx (x3 + 2)) M (fun z21 M21 =>
        (0 ≤ x3 + 1 ∧ x3 + 1 < Ln) ∧ (0 ≤ x3 + 2 ∧ x3 + 2 < Ln) ∧ wp_X8_put (sx (x3 + 1)) (sx (x3 + 2)) M21 (fun z22 M22 =>
          (z21 = z22 →
            iR (x3 + 5) ∧ R (x3 + 5) M22) ∧
          (¬ z21 = z22 →
            Q 0 M22)))) ∧
    (a_and32 (sx x3) 31 = 11 →
      (0 ≤ x3 + 1 ∧ x3 + 1 < Ln) ∧ wp_X7_at (sx (x3 + 1)) M (fun z23 M23 =>
        (0 ≤ x3 + 1 ∧ x3 + 1 < Ln) ∧ wp_X8_at (sx (x3 + 1)) M23 (fun z24 M24 =>
          (z23 = z24 →
            iR (x3 + 5) ∧ R (x3 + 5) M24) ∧
          (¬ z23 = z24 →
            Q 0 M24)))) ∧
    (a_and32 (sx x3) 31 = 12 →
      wp_X7_all M (fun z25 M25 =>
        wp_X8_all M25 (fun z26 M26 =>
          ((lR z25 ∧ lR z26) ∨ z25 = z26) ∧ (z25 = z26 →
            iR (x3 + 5) ∧ R (x3 + 5) M26) ∧
          (¬ z25 = z26 →
            Q 0 M26)))) ∧
    (a_and32 (sx x3) 31 = 13 →
      (0 ≤ x3 + 1 ∧ x3 + 1 < Ln) ∧ wp_X7_share (sx (x3 + 1)) M (fun z27 M27 =>
        (0 ≤ x3 + 1 ∧ x3 + 1 < Ln) ∧ wp_X8_share (sx (x3 + 1)) M27 (fun z28 M28 =>
          ((lR z27 ∧ lR z28) ∨ z27 = z28) ∧ (z27 = z28 →
            iR (x3 + 5) ∧ R (x3 + 5) M28) ∧
          (¬ z27 = z28 →
            Q 0 M28)))) ∧
    (a_and32 (sx x3) 31 = 14 →
      wp_X7_better M (fun z29 M29 =>
        wp_X8_better M29 (fun z30 M30 =>
          (z29 = z30 →
            iR (x3 + 5) ∧ R (x3 + 5) M30) ∧
          (¬ z29 = z30 →
            Q 0 M30)))) ∧
    (a_and32 (sx x3) 31 = 15 →
      (0 ≤ x3 + 1 ∧ x3 + 1 < Ln) ∧ (0 ≤ x3 + 2 ∧ x3 + 2 < Ln) ∧ wp_X7_change (sx (x3 + 1)) (sx (x3 + 2)) M (fun z31 M31 =>
        (0 ≤ x3 + 1 ∧ x3 + 1 < Ln) ∧ (0 ≤ x3 + 2 ∧ x3 + 2 < Ln) ∧ wp_X8_change (sx (x3 + 1)) (sx (x3 + 2)) M31 (fun z32 M32 =>
          ((lR z31 ∧ lR z32) ∨ z31 = z32) ∧ (z31 = z32 →
            iR (x3 + 5) ∧ R (x3 + 5) M32) ∧
          (¬ z31 = z32 →
            Q 0 M32)))) ∧
    (a_and32 (sx x3) 31 = 16 →
      wp_X7_search M (fun z33 M33 =>
        wp_X8_search M33 (fun z34 M34 =>
          (z33 = z34 →
            iR (x3 + 5) ∧ R (x3 + 5) M34) ∧
          (¬ z33 = z34 →
            Q 0 M34)))) ∧
    (a_and32 (sx x3) 31 = 17 →
      wp_X7_least M (fun z35 M35 =>
        wp_X8_least M35 (fun z36 M36 =>
          ((lR z35 ∧ lR z36) ∨ z35 = z36) ∧ (z35 = z36 →
            iR (x3 + 5) ∧ R (x3 + 5) M36) ∧
          (¬ z35 = z36 →
            Q 0 M36)))) ∧
    (a_and32 (sx x3) 31 = 18 →
      wp_X7_take M (fun z37 M37 =>
        wp_X8_take M37 (fun z38 M38 =>
          (z37 = z38 →
            iR (x3 + 5) ∧ R (x3 + 5) M38) ∧
          (¬ z37 = z38 →
            Q 0 M38)))) ∧
    (a_and32 (sx x3) 31 = 19 →
      wp_X7_tries M (fun z39 M39 =>
        wp_X8_tries M39 (fun z40 M40 =>
          (z39 = z40 →
            iR (x3 + 5) ∧ R (x3 + 5) M40) ∧
          (¬ z39 = z40 →
            Q 0 M40)))) ∧
    (a_and32 (sx x3) 31 = 20 →
      wp_X7_bound M (fun z41 M41 =>
        wp_X8_bound M41 (fun z42 M42 =>
          ((lR z41 ∧ lR z42) ∨ z41 = z42) ∧ (z41 = z42 →
            iR (x3 + 5) ∧ R (x3 + 5) M42) ∧
          (¬ z41 = z42 →
            Q 0 M42)))) ∧
    (a_and32 (sx x3) 31 = 21 →
      (0 ≤ x3 + 1 ∧ x3 + 1 < Ln) ∧ (0 ≤ x3 + 2 ∧ x3 + 2 < Ln) ∧ wp_X7_price (sx (x3 + 1)) (sx (x3 + 2)) M (fun z43 M43 =>
        (0 ≤ x3 + 1 ∧ x3 + 1 < Ln) ∧ (0 ≤ x3 + 2 ∧ x3 + 2 < Ln) ∧ wp_X8_price (sx (x3 + 1)) (sx (x3 + 2)) M43 (fun z44 M44 =>
          ((lR z43 ∧ lR z44) ∨ z43 = z44) ∧ (z43 = z44 →
            iR (x3 + 5) ∧ R (x3 + 5) M44) ∧
          (¬ z43 = z44 →
            Q 0 M44)))) ∧
    (a_and32 (sx x3) 31 = 22 →
      wp_X7_turns M (fun z45 M45 =>
        wp_X8_turns M45 (fun z46 M46 =>
          (z45 = z46 →
            iR (x3 + 5) ∧ R (x3 + 5) M46) ∧
          (¬ z45 = z46 →
            Q 0 M46)))) ∧
    (a_and32 (sx x3) 31 = 23 →
      wp_X7_alike M (fun z47 M47 =>
        wp_X8_alike M47 (fun z48 M48 =>
          (z47 = z48 →
            iR (x3 + 5) ∧ R (x3 + 5) M48) ∧
          (¬ z47 = z48 →
            Q 0 M48)))) ∧
    (a_and32 (sx x3) 31 = 24 →
      (0 ≤ x3 + 1 ∧ x3 + 1 < Ln) ∧ wp_X7_count (sx (x3 + 1)) M (fun z49 M49 =>
        (0 ≤ x3 + 1 ∧ x3 + 1 < Ln) ∧ wp_X8_count (sx (x3 + 1)) M49 (fun z50 M50 =>
          (z49 = z50 →
            iR (x3 + 5) ∧ R (x3 + 5) M50) ∧
          (¬ z49 = z50 →
            Q 0 M50)))) ∧
    (a_and32 (sx x3) 31 = 25 →
      wp_X7_digest M (fun z51 M51 =>
        wp_X8_digest M51 (fun z52 M52 =>
          ((lR z51 ∧ lR z52) ∨ z51 = z52) ∧ (z51 = z52 →
            iR (x3 + 5) ∧ R (x3 + 5) M52) ∧
          (¬ z51 = z52 →
            Q 0 M52)))) ∧
    ((a_and32 (sx x3) 31 < 0 ∨ 25 < a_and32 (sx x3) 31) →
      iR (x3 + 5) ∧ R (x3 + 5) M))
def wp_L_law_L18 (sx : Int → Int) (Ln : Int) (Q : Int → Mm → Prop) (x3 : Int) (M : Mm) : Prop := LP1 (bc_L_law_L18 sx Ln Q) x3 M
set_option maxRecDepth 100000 in
set_option maxHeartbeats 4000000 in
theorem lp_L_law_L18 {p : Program} {l : Launch} {e : Env} {s : State} {m : MethodId} {args : Array Value} {below : List Frame} {meth : Method} {c : Code} {D : va_G} {cy : Nat → ClassId} {ad : Nat → Int → Nat} {b L : Nat} {xs : Nat → Int32} (sx : Int → Int) (Ln : Int) (hs : Sc s b L xs ad sx Ln) (C : Cx p s m #[Value.ref b] meth c D cy ad (fun q : Nat => s.heap.size ≤ q) cL_law 4 RL (some .boolean)) (Q : Int → Mm → Prop) (hQ : ∀ (r : Int) (M : Mm), Q r M → r = 1) : ∀ (x3 : Int) (M : Mm), wp_L_law_L18 sx Ln Q x3 M → iR x3 → Xj p l e room_1 s m #[Value.ref b] below meth c D cy ad (fun q : Nat => s.heap.size ≤ q) (lw_Z below #[Value.ref b] s) 4 89 13952 18 [some (aR 49), some (aR 0), some (aR 8), some (aI x3)] [] M :=
  LP1.ind (P := fun x3 M => iR x3 → Xj p l e room_1 s m #[Value.ref b] below meth c D cy ad (fun q : Nat => s.heap.size ≤ q) (lw_Z below #[Value.ref b] s) 4 89 13952 18 [some (aR 49), some (aR 0), some (aR 8), some (aI x3)] [] M) (fun R ih => by
    intro x3 M h r3
    unfold bc_L_law_L18 at h
    refine x_iload_n C dL_law_18 rfl ?_
    refine x_aload_n C dL_law_19 rfl ?_
    refine x_slen C hs dL_law_20 ?_
    refine x_iconst C dL_law_21 ?_
    refine x_isub C dL_law_22 ?_
    obtain ⟨o1, h⟩ := h
    refine x_icmp_gt (tgt := 793) C r3 o1 dL_law_23 (by decide) (fun q1 => ?_) (fun q1 => ?_)
    · have h := h.1 q1
      refine x_iconst C dL_law_793 ?_
      exact x_lawret C (hQ _ _ h) dL_law_794
    · have h := h.2 q1
      refine x_aload_n C dL_law_26 rfl ?_
      refine x_iload_n C dL_law_27 rfl ?_
      obtain ⟨o2, h⟩ := h
      refine x_sld C hs o2 dL_law_28 ?_
      refine x_bipush C dL_law_29 rfl ?_
      refine x_iand C dL_law_31 ?_
      by_cases q2_0 : a_and32 (sx x3) 31 = 0
      · have h := h.1 q2_0
        refine x_tin (tgt := 152) (off := 120) C (ka_r32 _) (by omega) (by omega) (by rw [q2_0]; rfl) dL_law_32 (by decide) ?_
        refine x_aload_n C dL_law_152 rfl ?_
        refine x_aload_n C dL_law_153 rfl ?_
        refine x_iload_n C dL_law_154 rfl ?_
        refine x_iconst C dL_law_155 ?_
        refine x_iadd C dL_law_156 ?_
        obtain ⟨o3, h⟩ := h
        refine x_sld C hs o3 dL_law_157 ?_
        refine x_callV (vs := [aI (sx (x3 + 1))]) C cv_RL_13 ly_0 rfl (by decide) ⟨rfl, rfl, Nat.le_of_ble_eq_true rfl, Nat.le_of_ble_eq_true rfl⟩ ⟨Nat.le_of_ble_eq_true rfl, Nat.le_of_ble_eq_true rfl⟩ rfl rfl (Nat.le_of_ble_eq_true rfl) dL_law_158 (sd_X7_letters l D cy ad (sx (x3 + 1)) (hs.2.2.2.2.2.2 _) M _ h) (fun _ M1 qz => ?_)
        obtain ⟨z1, rfl, rz1, h⟩ := qz
        refine x_aload_n C dL_law_161 rfl ?_
        refine x_aload_n C dL_law_162 rfl ?_
        refine x_iload_n C dL_law_163 rfl ?_
        refine x_iconst C dL_law_164 ?_
        refine x_iadd C dL_law_165 ?_
        obtain ⟨o4, h⟩ := h
        refine x_sld C hs o4 dL_law_166 ?_
        refine x_callV (vs := [aI (sx (x3 + 1))]) C cv_RL_17 ly_8 rfl (by decide) ⟨rfl, rfl, Nat.le_of_ble_eq_true rfl, Nat.le_of_ble_eq_true rfl⟩ ⟨Nat.le_of_ble_eq_true rfl, Nat.le_of_ble_eq_true rfl⟩ rfl rfl (Nat.le_of_ble_eq_true rfl) dL_law_167 (sd_X8_letters l D cy ad (sx (x3 + 1)) (hs.2.2.2.2.2.2 _) M1 _ h) (fun _ M2 qz => ?_)
        obtain ⟨z2, rfl, rz2, h⟩ := qz
        refine x_icmp_eq (tgt := 787) C rz1 rz2 dL_law_170 (by decide) (fun q3 => ?_) (fun q3 => ?_)
        · have h := h.1 q3
          refine x_iinc C dL_law_787 rfl (Nat.le_of_ble_eq_true rfl) rfl ?_
          refine x_goto (tgt := 18) C dL_law_790 (by decide) ?_
          obtain ⟨o5, h⟩ := h
          exact ih _ _ h o5
        · have h := h.2 q3
          refine x_iconst C dL_law_173 ?_
          exact x_lawret C (hQ _ _ h) dL_law_174
      by_cases q2_1 : a_and32 (sx x3) 31 = 1
      · have h := h.2.1 q2_1
        refine x_tin (tgt := 175) (off := 143) C (ka_r32 _) (by omega) (by omega) (by rw [q2_1]; rfl) dL_law_32 (by decide) ?_
        refine x_aload_n C dL_law_175 rfl ?_
        refine x_aload_n C dL_law_176 rfl ?_
        refine x_iload_n C dL_law_177 rfl ?_
        refine x_iconst C dL_law_178 ?_
        refine x_iadd C dL_law_179 ?_
        obtain ⟨o6, h⟩ := h
        refine x_sld C hs o6 dL_law_180 ?_
        refine x_aload_n C dL_law_181 rfl ?_
        refine x_iload_n C dL_law_182 rfl ?_
        refine x_iconst C dL_law_183 ?_
        refine x_iadd C dL_law_184 ?_
        obtain ⟨o7, h⟩ := h
        refine x_sld C hs o7 dL_law_185 ?_
        refine x_i2l C (hs.2.2.2.2.2.2 _) dL_law_186 ?_
        refine x_bipush C dL_law_187 rfl ?_
        refine x_lshl C dL_law_189 ?_
        refine x_aload_n C dL_law_190 rfl ?_
        refine x_iload_n C dL_law_191 rfl ?_
        refine x_iconst C dL_law_192 ?_
        refine x_iadd C dL_law_193 ?_
        obtain ⟨o8, h⟩ := h
        refine x_sld C hs o8 dL_law_194 ?_
        refine x_i2l C (hs.2.2.2.2.2.2 _) dL_law_195 ?_
        refine x_ldc2 (v := 4294967295) C kc_RL_18 rfl dL_law_196 ?_
        refine x_land C dL_law_199 ?_
        refine x_lor C dL_law_200 ?_
        refine x_aload_n C dL_law_201 rfl ?_
        refine x_iload_n C dL_law_202 rfl ?_
        refine x_iconst C dL_law_203 ?_
        refine x_iadd C dL_law_204 ?_
        obtain ⟨o9, h⟩ := h
        refine x_sld C hs o9 dL_law_205 ?_
        refine x_callV (vs := [aI (sx (x3 + 1)), aL (a_or64 (a_shl64 (sx (x3 + 2)) 32) (a_and64 (sx (x3 + 3)) 4294967295)), aI (sx (x3 + 4))]) C cv_RL_20 ly_0 rfl (by decide) ⟨rfl, rfl, Nat.le_of_ble_eq_true rfl, Nat.le_of_ble_eq_true rfl⟩ ⟨Nat.le_of_ble_eq_true rfl, Nat.le_of_ble_eq_true rfl⟩ rfl rfl (Nat.le_of_ble_eq_true rfl) dL_law_206 (sd_X7_feed l D cy ad (sx (x3 + 1)) (a_or64 (a_shl64 (sx (x3 + 2)) 32) (a_and64 (sx (x3 + 3)) 4294967295)) (sx (x3 + 4)) (hs.2.2.2.2.2.2 _) (hs.2.2.2.2.2.2 _) M _ h) (fun _ M3 qz => ?_)
        obtain ⟨z3, rfl, rz3, h⟩ := qz
        refine x_aload_n C dL_law_209 rfl ?_
        refine x_aload_n C dL_law_210 rfl ?_
        refine x_iload_n C dL_law_211 rfl ?_
        refine x_iconst C dL_law_212 ?_
        refine x_iadd C dL_law_213 ?_
        obtain ⟨o10, h⟩ := h
        refine x_sld C hs o10 dL_law_214 ?_
        refine x_aload_n C dL_law_215 rfl ?_
        refine x_iload_n C dL_law_216 rfl ?_
        refine x_iconst C dL_law_217 ?_
        refine x_iadd C dL_law_218 ?_
        obtain ⟨o11, h⟩ := h
        refine x_sld C hs o11 dL_law_219 ?_
        refine x_i2l C (hs.2.2.2.2.2.2 _) dL_law_220 ?_
        refine x_bipush C dL_law_221 rfl ?_
        refine x_lshl C dL_law_223 ?_
        refine x_aload_n C dL_law_224 rfl ?_
        refine x_iload_n C dL_law_225 rfl ?_
        refine x_iconst C dL_law_226 ?_
        refine x_iadd C dL_law_227 ?_
        obtain ⟨o12, h⟩ := h
        refine x_sld C hs o12 dL_law_228 ?_
        refine x_i2l C (hs.2.2.2.2.2.2 _) dL_law_229 ?_
        refine x_ldc2 (v := 4294967295) C kc_RL_18 rfl dL_law_230 ?_
        refine x_land C dL_law_233 ?_
        refine x_lor C dL_law_234 ?_
        refine x_aload_n C dL_law_235 rfl ?_
        refine x_iload_n C dL_law_236 rfl ?_
        refine x_iconst C dL_law_237 ?_
        refine x_iadd C dL_law_238 ?_
        obtain ⟨o13, h⟩ := h
        refine x_sld C hs o13 dL_law_239 ?_
        refine x_callV (vs := [aI (sx (x3 + 1)), aL (a_or64 (a_shl64 (sx (x3 + 2)) 32) (a_and64 (sx (x3 + 3)) 4294967295)), aI (sx (x3 + 4))]) C cv_RL_24 ly_8 rfl (by decide) ⟨rfl, rfl, Nat.le_of_ble_eq_true rfl, Nat.le_of_ble_eq_true rfl⟩ ⟨Nat.le_of_ble_eq_true rfl, Nat.le_of_ble_eq_true rfl⟩ rfl rfl (Nat.le_of_ble_eq_true rfl) dL_law_240 (sd_X8_feed l D cy ad (sx (x3 + 1)) (a_or64 (a_shl64 (sx (x3 + 2)) 32) (a_and64 (sx (x3 + 3)) 4294967295)) (sx (x3 + 4)) (hs.2.2.2.2.2.2 _) (hs.2.2.2.2.2.2 _) M3 _ h) (fun _ M4 qz => ?_)
        obtain ⟨z4, rfl, rz4, h⟩ := qz
        refine x_icmp_eq (tgt := 787) C rz3 rz4 dL_law_243 (by decide) (fun q4 => ?_) (fun q4 => ?_)
        · have h := h.1 q4
          refine x_iinc C dL_law_787 rfl (Nat.le_of_ble_eq_true rfl) rfl ?_
          refine x_goto (tgt := 18) C dL_law_790 (by decide) ?_
          obtain ⟨o14, h⟩ := h
          exact ih _ _ h o14
        · have h := h.2 q4
          refine x_iconst C dL_law_246 ?_
          exact x_lawret C (hQ _ _ h) dL_law_247
      by_cases q2_2 : a_and32 (sx x3) 31 = 2
      · have h := h.2.2.1 q2_2
        refine x_tin (tgt := 248) (off := 216) C (ka_r32 _) (by omega) (by omega) (by rw [q2_2]; rfl) dL_law_32 (by decide) ?_
        refine x_aload_n C dL_law_248 rfl ?_
        refine x_aload_n C dL_law_249 rfl ?_
        refine x_iload_n C dL_law_250 rfl ?_
        refine x_iconst C dL_law_251 ?_
        refine x_iadd C dL_law_252 ?_
        obtain ⟨o15, h⟩ := h
        refine x_sld C hs o15 dL_law_253 ?_
        refine x_callV (vs := [aI (sx (x3 + 1))]) C cv_RL_25 ly_0 rfl (by decide) ⟨rfl, rfl, Nat.le_of_ble_eq_true rfl, Nat.le_of_ble_eq_true rfl⟩ ⟨Nat.le_of_ble_eq_true rfl, Nat.le_of_ble_eq_true rfl⟩ rfl rfl (Nat.le_of_ble_eq_true rfl) dL_law_254 (sd_X7_tear l D cy ad (sx (x3 + 1)) (hs.2.2.2.2.2.2 _) M _ h) (fun _ M5 qz => ?_)
        obtain ⟨z5, rfl, rz5, h⟩ := qz
        refine x_aload_n C dL_law_257 rfl ?_
        refine x_aload_n C dL_law_258 rfl ?_
        refine x_iload_n C dL_law_259 rfl ?_
        refine x_iconst C dL_law_260 ?_
        refine x_iadd C dL_law_261 ?_
        obtain ⟨o16, h⟩ := h
        refine x_sld C hs o16 dL_law_262 ?_
        refine x_callV (vs := [aI (sx (x3 + 1))]) C cv_RL_28 ly_8 rfl (by decide) ⟨rfl, rfl, Nat.le_of_ble_eq_true rfl, Nat.le_of_ble_eq_true rfl⟩ ⟨Nat.le_of_ble_eq_true rfl, Nat.le_of_ble_eq_true rfl⟩ rfl rfl (Nat.le_of_ble_eq_true rfl) dL_law_263 (sd_X8_tear l D cy ad (sx (x3 + 1)) (hs.2.2.2.2.2.2 _) M5 _ h) (fun _ M6 qz => ?_)
        obtain ⟨z6, rfl, rz6, h⟩ := qz
        refine x_icmp_eq (tgt := 787) C rz5 rz6 dL_law_266 (by decide) (fun q5 => ?_) (fun q5 => ?_)
        · have h := h.1 q5
          refine x_iinc C dL_law_787 rfl (Nat.le_of_ble_eq_true rfl) rfl ?_
          refine x_goto (tgt := 18) C dL_law_790 (by decide) ?_
          obtain ⟨o17, h⟩ := h
          exact ih _ _ h o17
        · have h := h.2 q5
          refine x_iconst C dL_law_269 ?_
          exact x_lawret C (hQ _ _ h) dL_law_270
      by_cases q2_3 : a_and32 (sx x3) 31 = 3
      · have h := h.2.2.2.1 q2_3
        refine x_tin (tgt := 271) (off := 239) C (ka_r32 _) (by omega) (by omega) (by rw [q2_3]; rfl) dL_law_32 (by decide) ?_
        refine x_aload_n C dL_law_271 rfl ?_
        refine x_aload_n C dL_law_272 rfl ?_
        refine x_iload_n C dL_law_273 rfl ?_
        refine x_iconst C dL_law_274 ?_
        refine x_iadd C dL_law_275 ?_
        obtain ⟨o18, h⟩ := h
        refine x_sld C hs o18 dL_law_276 ?_
        refine x_aload_n C dL_law_277 rfl ?_
        refine x_iload_n C dL_law_278 rfl ?_
        refine x_iconst C dL_law_279 ?_
        refine x_iadd C dL_law_280 ?_
        obtain ⟨o19, h⟩ := h
        refine x_sld C hs o19 dL_law_281 ?_
        refine x_callV (vs := [aI (sx (x3 + 1)), aI (sx (x3 + 2))]) C cv_RL_29 ly_0 rfl (by decide) ⟨rfl, rfl, Nat.le_of_ble_eq_true rfl, Nat.le_of_ble_eq_true rfl⟩ ⟨Nat.le_of_ble_eq_true rfl, Nat.le_of_ble_eq_true rfl⟩ rfl rfl (Nat.le_of_ble_eq_true rfl) dL_law_282 (sd_X7_often l D cy ad (sx (x3 + 1)) (sx (x3 + 2)) (hs.2.2.2.2.2.2 _) (hs.2.2.2.2.2.2 _) M _ h) (fun _ M7 qz => ?_)
        obtain ⟨z7, rfl, rz7, h⟩ := qz
        refine x_aload_n C dL_law_285 rfl ?_
        refine x_aload_n C dL_law_286 rfl ?_
        refine x_iload_n C dL_law_287 rfl ?_
        refine x_iconst C dL_law_288 ?_
        refine x_iadd C dL_law_289 ?_
        obtain ⟨o20, h⟩ := h
        refine x_sld C hs o20 dL_law_290 ?_
        refine x_aload_n C dL_law_291 rfl ?_
        refine x_iload_n C dL_law_292 rfl ?_
        refine x_iconst C dL_law_293 ?_
        refine x_iadd C dL_law_294 ?_
        obtain ⟨o21, h⟩ := h
        refine x_sld C hs o21 dL_law_295 ?_
        refine x_callV (vs := [aI (sx (x3 + 1)), aI (sx (x3 + 2))]) C cv_RL_33 ly_8 rfl (by decide) ⟨rfl, rfl, Nat.le_of_ble_eq_true rfl, Nat.le_of_ble_eq_true rfl⟩ ⟨Nat.le_of_ble_eq_true rfl, Nat.le_of_ble_eq_true rfl⟩ rfl rfl (Nat.le_of_ble_eq_true rfl) dL_law_296 (sd_X8_often l D cy ad (sx (x3 + 1)) (sx (x3 + 2)) (hs.2.2.2.2.2.2 _) (hs.2.2.2.2.2.2 _) M7 _ h) (fun _ M8 qz => ?_)
        obtain ⟨z8, rfl, rz8, h⟩ := qz
        refine x_icmp_eq (tgt := 787) C rz7 rz8 dL_law_299 (by decide) (fun q6 => ?_) (fun q6 => ?_)
        · have h := h.1 q6
          refine x_iinc C dL_law_787 rfl (Nat.le_of_ble_eq_true rfl) rfl ?_
          refine x_goto (tgt := 18) C dL_law_790 (by decide) ?_
          obtain ⟨o22, h⟩ := h
          exact ih _ _ h o22
        · have h := h.2 q6
          refine x_iconst C dL_law_302 ?_
          exact x_lawret C (hQ _ _ h) dL_law_303
      by_cases q2_4 : a_and32 (sx x3) 31 = 4
      · have h := h.2.2.2.2.1 q2_4
        refine x_tin (tgt := 304) (off := 272) C (ka_r32 _) (by omega) (by omega) (by rw [q2_4]; rfl) dL_law_32 (by decide) ?_
        refine x_aload_n C dL_law_304 rfl ?_
        refine x_aload_n C dL_law_305 rfl ?_
        refine x_iload_n C dL_law_306 rfl ?_
        refine x_iconst C dL_law_307 ?_
        refine x_iadd C dL_law_308 ?_
        obtain ⟨o23, h⟩ := h
        refine x_sld C hs o23 dL_law_309 ?_
        refine x_aload_n C dL_law_310 rfl ?_
        refine x_iload_n C dL_law_311 rfl ?_
        refine x_iconst C dL_law_312 ?_
        refine x_iadd C dL_law_313 ?_
        obtain ⟨o24, h⟩ := h
        refine x_sld C hs o24 dL_law_314 ?_
        refine x_callV (vs := [aI (sx (x3 + 1)), aI (sx (x3 + 2))]) C cv_RL_34 ly_0 rfl (by decide) ⟨rfl, rfl, Nat.le_of_ble_eq_true rfl, Nat.le_of_ble_eq_true rfl⟩ ⟨Nat.le_of_ble_eq_true rfl, Nat.le_of_ble_eq_true rfl⟩ rfl rfl (Nat.le_of_ble_eq_true rfl) dL_law_315 (sd_X7_key l D cy ad (sx (x3 + 1)) (sx (x3 + 2)) (hs.2.2.2.2.2.2 _) (hs.2.2.2.2.2.2 _) M _ h) (fun _ M9 qz => ?_)
        obtain ⟨z9, rfl, rz9, h⟩ := qz
        refine x_aload_n C dL_law_318 rfl ?_
        refine x_aload_n C dL_law_319 rfl ?_
        refine x_iload_n C dL_law_320 rfl ?_
        refine x_iconst C dL_law_321 ?_
        refine x_iadd C dL_law_322 ?_
        obtain ⟨o25, h⟩ := h
        refine x_sld C hs o25 dL_law_323 ?_
        refine x_aload_n C dL_law_324 rfl ?_
        refine x_iload_n C dL_law_325 rfl ?_
        refine x_iconst C dL_law_326 ?_
        refine x_iadd C dL_law_327 ?_
        obtain ⟨o26, h⟩ := h
        refine x_sld C hs o26 dL_law_328 ?_
        refine x_callV (vs := [aI (sx (x3 + 1)), aI (sx (x3 + 2))]) C cv_RL_37 ly_8 rfl (by decide) ⟨rfl, rfl, Nat.le_of_ble_eq_true rfl, Nat.le_of_ble_eq_true rfl⟩ ⟨Nat.le_of_ble_eq_true rfl, Nat.le_of_ble_eq_true rfl⟩ rfl rfl (Nat.le_of_ble_eq_true rfl) dL_law_329 (sd_X8_key l D cy ad (sx (x3 + 1)) (sx (x3 + 2)) (hs.2.2.2.2.2.2 _) (hs.2.2.2.2.2.2 _) M9 _ h) (fun _ M10 qz => ?_)
        obtain ⟨z10, rfl, rz10, h⟩ := qz
        refine x_icmp_eq (tgt := 787) C rz9 rz10 dL_law_332 (by decide) (fun q7 => ?_) (fun q7 => ?_)
        · have h := h.1 q7
          refine x_iinc C dL_law_787 rfl (Nat.le_of_ble_eq_true rfl) rfl ?_
          refine x_goto (tgt := 18) C dL_law_790 (by decide) ?_
          obtain ⟨o27, h⟩ := h
          exact ih _ _ h o27
        · have h := h.2 q7
          refine x_iconst C dL_law_335 ?_
          exact x_lawret C (hQ _ _ h) dL_law_336
      by_cases q2_5 : a_and32 (sx x3) 31 = 5
      · have h := h.2.2.2.2.2.1 q2_5
        refine x_tin (tgt := 337) (off := 305) C (ka_r32 _) (by omega) (by omega) (by rw [q2_5]; rfl) dL_law_32 (by decide) ?_
        refine x_aload_n C dL_law_337 rfl ?_
        refine x_aload_n C dL_law_338 rfl ?_
        refine x_iload_n C dL_law_339 rfl ?_
        refine x_iconst C dL_law_340 ?_
        refine x_iadd C dL_law_341 ?_
        obtain ⟨o28, h⟩ := h
        refine x_sld C hs o28 dL_law_342 ?_
        refine x_aload_n C dL_law_343 rfl ?_
        refine x_iload_n C dL_law_344 rfl ?_
        refine x_iconst C dL_law_345 ?_
        refine x_iadd C dL_law_346 ?_
        obtain ⟨o29, h⟩ := h
        refine x_sld C hs o29 dL_law_347 ?_
        refine x_aload_n C dL_law_348 rfl ?_
        refine x_iload_n C dL_law_349 rfl ?_
        refine x_iconst C dL_law_350 ?_
        refine x_iadd C dL_law_351 ?_
        obtain ⟨o30, h⟩ := h
        refine x_sld C hs o30 dL_law_352 ?_
        refine x_callV (vs := [aI (sx (x3 + 1)), aI (sx (x3 + 2)), aI (sx (x3 + 3))]) C cv_RL_38 ly_0 rfl (by decide) ⟨rfl, rfl, Nat.le_of_ble_eq_true rfl, Nat.le_of_ble_eq_true rfl⟩ ⟨Nat.le_of_ble_eq_true rfl, Nat.le_of_ble_eq_true rfl⟩ rfl rfl (Nat.le_of_ble_eq_true rfl) dL_law_353 (sd_X7_go l D cy ad (sx (x3 + 1)) (sx (x3 + 2)) (sx (x3 + 3)) (hs.2.2.2.2.2.2 _) (hs.2.2.2.2.2.2 _) (hs.2.2.2.2.2.2 _) M _ h) (fun _ M11 qz => ?_)
        obtain ⟨z11, rfl, rz11, h⟩ := qz
        refine x_aload_n C dL_law_356 rfl ?_
        refine x_aload_n C dL_law_357 rfl ?_
        refine x_iload_n C dL_law_358 rfl ?_
        refine x_iconst C dL_law_359 ?_
        refine x_iadd C dL_law_360 ?_
        obtain ⟨o31, h⟩ := h
        refine x_sld C hs o31 dL_law_361 ?_
        refine x_aload_n C dL_law_362 rfl ?_
        refine x_iload_n C dL_law_363 rfl ?_
        refine x_iconst C dL_law_364 ?_
        refine x_iadd C dL_law_365 ?_
        obtain ⟨o32, h⟩ := h
        refine x_sld C hs o32 dL_law_366 ?_
        refine x_aload_n C dL_law_367 rfl ?_
        refine x_iload_n C dL_law_368 rfl ?_
        refine x_iconst C dL_law_369 ?_
        refine x_iadd C dL_law_370 ?_
        obtain ⟨o33, h⟩ := h
        refine x_sld C hs o33 dL_law_371 ?_
        refine x_callV (vs := [aI (sx (x3 + 1)), aI (sx (x3 + 2)), aI (sx (x3 + 3))]) C cv_RL_42 ly_8 rfl (by decide) ⟨rfl, rfl, Nat.le_of_ble_eq_true rfl, Nat.le_of_ble_eq_true rfl⟩ ⟨Nat.le_of_ble_eq_true rfl, Nat.le_of_ble_eq_true rfl⟩ rfl rfl (Nat.le_of_ble_eq_true rfl) dL_law_372 (sd_X8_go l D cy ad (sx (x3 + 1)) (sx (x3 + 2)) (sx (x3 + 3)) (hs.2.2.2.2.2.2 _) (hs.2.2.2.2.2.2 _) (hs.2.2.2.2.2.2 _) M11 _ h) (fun _ M12 qz => ?_)
        obtain ⟨z12, rfl, rz12, h⟩ := qz
        refine x_icmp_eq (tgt := 787) C rz11 rz12 dL_law_375 (by decide) (fun q8 => ?_) (fun q8 => ?_)
        · have h := h.1 q8
          refine x_iinc C dL_law_787 rfl (Nat.le_of_ble_eq_true rfl) rfl ?_
          refine x_goto (tgt := 18) C dL_law_790 (by decide) ?_
          obtain ⟨o34, h⟩ := h
          exact ih _ _ h o34
        · have h := h.2 q8
          refine x_iconst C dL_law_378 ?_
          exact x_lawret C (hQ _ _ h) dL_law_379
      by_cases q2_6 : a_and32 (sx x3) 31 = 6
      · have h := h.2.2.2.2.2.2.1 q2_6
        refine x_tin (tgt := 380) (off := 348) C (ka_r32 _) (by omega) (by omega) (by rw [q2_6]; rfl) dL_law_32 (by decide) ?_
        refine x_aload_n C dL_law_380 rfl ?_
        refine x_aload_n C dL_law_381 rfl ?_
        refine x_iload_n C dL_law_382 rfl ?_
        refine x_iconst C dL_law_383 ?_
        refine x_iadd C dL_law_384 ?_
        obtain ⟨o35, h⟩ := h
        refine x_sld C hs o35 dL_law_385 ?_
        refine x_aload_n C dL_law_386 rfl ?_
        refine x_iload_n C dL_law_387 rfl ?_
        refine x_iconst C dL_law_388 ?_
        refine x_iadd C dL_law_389 ?_
        obtain ⟨o36, h⟩ := h
        refine x_sld C hs o36 dL_law_390 ?_
        refine x_callV (vs := [aI (sx (x3 + 1)), aI (sx (x3 + 2))]) C cv_RL_43 ly_0 rfl (by decide) ⟨rfl, rfl, Nat.le_of_ble_eq_true rfl, Nat.le_of_ble_eq_true rfl⟩ ⟨Nat.le_of_ble_eq_true rfl, Nat.le_of_ble_eq_true rfl⟩ rfl rfl (Nat.le_of_ble_eq_true rfl) dL_law_391 (sd_X7_cost l D cy ad (sx (x3 + 1)) (sx (x3 + 2)) (hs.2.2.2.2.2.2 _) (hs.2.2.2.2.2.2 _) M _ h) (fun _ M13 qz => ?_)
        obtain ⟨z13, rfl, rz13, h⟩ := qz
        refine x_aload_n C dL_law_394 rfl ?_
        refine x_aload_n C dL_law_395 rfl ?_
        refine x_iload_n C dL_law_396 rfl ?_
        refine x_iconst C dL_law_397 ?_
        refine x_iadd C dL_law_398 ?_
        obtain ⟨o37, h⟩ := h
        refine x_sld C hs o37 dL_law_399 ?_
        refine x_aload_n C dL_law_400 rfl ?_
        refine x_iload_n C dL_law_401 rfl ?_
        refine x_iconst C dL_law_402 ?_
        refine x_iadd C dL_law_403 ?_
        obtain ⟨o38, h⟩ := h
        refine x_sld C hs o38 dL_law_404 ?_
        refine x_callV (vs := [aI (sx (x3 + 1)), aI (sx (x3 + 2))]) C cv_RL_46 ly_8 rfl (by decide) ⟨rfl, rfl, Nat.le_of_ble_eq_true rfl, Nat.le_of_ble_eq_true rfl⟩ ⟨Nat.le_of_ble_eq_true rfl, Nat.le_of_ble_eq_true rfl⟩ rfl rfl (Nat.le_of_ble_eq_true rfl) dL_law_405 (sd_X8_cost l D cy ad (sx (x3 + 1)) (sx (x3 + 2)) (hs.2.2.2.2.2.2 _) (hs.2.2.2.2.2.2 _) M13 _ h) (fun _ M14 qz => ?_)
        obtain ⟨z14, rfl, rz14, h⟩ := qz
        refine x_icmp_eq (tgt := 787) C rz13 rz14 dL_law_408 (by decide) (fun q9 => ?_) (fun q9 => ?_)
        · have h := h.1 q9
          refine x_iinc C dL_law_787 rfl (Nat.le_of_ble_eq_true rfl) rfl ?_
          refine x_goto (tgt := 18) C dL_law_790 (by decide) ?_
          obtain ⟨o39, h⟩ := h
          exact ih _ _ h o39
        · have h := h.2 q9
          refine x_iconst C dL_law_411 ?_
          exact x_lawret C (hQ _ _ h) dL_law_412
      by_cases q2_7 : a_and32 (sx x3) 31 = 7
      · have h := h.2.2.2.2.2.2.2.1 q2_7
        refine x_tin (tgt := 413) (off := 381) C (ka_r32 _) (by omega) (by omega) (by rw [q2_7]; rfl) dL_law_32 (by decide) ?_
        refine x_aload_n C dL_law_413 rfl ?_
        refine x_aload_n C dL_law_414 rfl ?_
        refine x_iload_n C dL_law_415 rfl ?_
        refine x_iconst C dL_law_416 ?_
        refine x_iadd C dL_law_417 ?_
        obtain ⟨o40, h⟩ := h
        refine x_sld C hs o40 dL_law_418 ?_
        refine x_callV (vs := [aI (sx (x3 + 1))]) C cv_RL_47 ly_0 rfl (by decide) ⟨rfl, rfl, Nat.le_of_ble_eq_true rfl, Nat.le_of_ble_eq_true rfl⟩ ⟨Nat.le_of_ble_eq_true rfl, Nat.le_of_ble_eq_true rfl⟩ rfl rfl (Nat.le_of_ble_eq_true rfl) dL_law_419 (sd_X7_body l D cy ad (sx (x3 + 1)) (hs.2.2.2.2.2.2 _) M _ h) (fun _ M15 qz => ?_)
        obtain ⟨z15, rfl, rz15, h⟩ := qz
        refine x_aload_n C dL_law_422 rfl ?_
        refine x_aload_n C dL_law_423 rfl ?_
        refine x_iload_n C dL_law_424 rfl ?_
        refine x_iconst C dL_law_425 ?_
        refine x_iadd C dL_law_426 ?_
        obtain ⟨o41, h⟩ := h
        refine x_sld C hs o41 dL_law_427 ?_
        refine x_callV (vs := [aI (sx (x3 + 1))]) C cv_RL_50 ly_8 rfl (by decide) ⟨rfl, rfl, Nat.le_of_ble_eq_true rfl, Nat.le_of_ble_eq_true rfl⟩ ⟨Nat.le_of_ble_eq_true rfl, Nat.le_of_ble_eq_true rfl⟩ rfl rfl (Nat.le_of_ble_eq_true rfl) dL_law_428 (sd_X8_body l D cy ad (sx (x3 + 1)) (hs.2.2.2.2.2.2 _) M15 _ h) (fun _ M16 qz => ?_)
        obtain ⟨z16, rfl, rz16, h⟩ := qz
        refine x_icmp_eq (tgt := 787) C rz15 rz16 dL_law_431 (by decide) (fun q10 => ?_) (fun q10 => ?_)
        · have h := h.1 q10
          refine x_iinc C dL_law_787 rfl (Nat.le_of_ble_eq_true rfl) rfl ?_
          refine x_goto (tgt := 18) C dL_law_790 (by decide) ?_
          obtain ⟨o42, h⟩ := h
          exact ih _ _ h o42
        · have h := h.2 q10
          refine x_iconst C dL_law_434 ?_
          exact x_lawret C (hQ _ _ h) dL_law_435
      by_cases q2_8 : a_and32 (sx x3) 31 = 8
      · have h := h.2.2.2.2.2.2.2.2.1 q2_8
        refine x_tin (tgt := 436) (off := 404) C (ka_r32 _) (by omega) (by omega) (by rw [q2_8]; rfl) dL_law_32 (by decide) ?_
        refine x_aload_n C dL_law_436 rfl ?_
        refine x_aload_n C dL_law_437 rfl ?_
        refine x_iload_n C dL_law_438 rfl ?_
        refine x_iconst C dL_law_439 ?_
        refine x_iadd C dL_law_440 ?_
        obtain ⟨o43, h⟩ := h
        refine x_sld C hs o43 dL_law_441 ?_
        refine x_aload_n C dL_law_442 rfl ?_
        refine x_iload_n C dL_law_443 rfl ?_
        refine x_iconst C dL_law_444 ?_
        refine x_iadd C dL_law_445 ?_
        obtain ⟨o44, h⟩ := h
        refine x_sld C hs o44 dL_law_446 ?_
        refine x_callV (vs := [aI (sx (x3 + 1)), aI (sx (x3 + 2))]) C cv_RL_51 ly_0 rfl (by decide) ⟨rfl, rfl, Nat.le_of_ble_eq_true rfl, Nat.le_of_ble_eq_true rfl⟩ ⟨Nat.le_of_ble_eq_true rfl, Nat.le_of_ble_eq_true rfl⟩ rfl rfl (Nat.le_of_ble_eq_true rfl) dL_law_447 (sd_X7_fix l D cy ad (sx (x3 + 1)) (sx (x3 + 2)) (hs.2.2.2.2.2.2 _) (hs.2.2.2.2.2.2 _) M _ h) (fun _ M17 qz => ?_)
        obtain ⟨z17, rfl, rz17, h⟩ := qz
        refine x_aload_n C dL_law_450 rfl ?_
        refine x_aload_n C dL_law_451 rfl ?_
        refine x_iload_n C dL_law_452 rfl ?_
        refine x_iconst C dL_law_453 ?_
        refine x_iadd C dL_law_454 ?_
        obtain ⟨o45, h⟩ := h
        refine x_sld C hs o45 dL_law_455 ?_
        refine x_aload_n C dL_law_456 rfl ?_
        refine x_iload_n C dL_law_457 rfl ?_
        refine x_iconst C dL_law_458 ?_
        refine x_iadd C dL_law_459 ?_
        obtain ⟨o46, h⟩ := h
        refine x_sld C hs o46 dL_law_460 ?_
        refine x_callV (vs := [aI (sx (x3 + 1)), aI (sx (x3 + 2))]) C cv_RL_54 ly_8 rfl (by decide) ⟨rfl, rfl, Nat.le_of_ble_eq_true rfl, Nat.le_of_ble_eq_true rfl⟩ ⟨Nat.le_of_ble_eq_true rfl, Nat.le_of_ble_eq_true rfl⟩ rfl rfl (Nat.le_of_ble_eq_true rfl) dL_law_461 (sd_X8_fix l D cy ad (sx (x3 + 1)) (sx (x3 + 2)) (hs.2.2.2.2.2.2 _) (hs.2.2.2.2.2.2 _) M17 _ h) (fun _ M18 qz => ?_)
        obtain ⟨z18, rfl, rz18, h⟩ := qz
        refine x_icmp_eq (tgt := 787) C rz17 rz18 dL_law_464 (by decide) (fun q11 => ?_) (fun q11 => ?_)
        · have h := h.1 q11
          refine x_iinc C dL_law_787 rfl (Nat.le_of_ble_eq_true rfl) rfl ?_
          refine x_goto (tgt := 18) C dL_law_790 (by decide) ?_
          obtain ⟨o47, h⟩ := h
          exact ih _ _ h o47
        · have h := h.2 q11
          refine x_iconst C dL_law_467 ?_
          exact x_lawret C (hQ _ _ h) dL_law_468
      by_cases q2_9 : a_and32 (sx x3) 31 = 9
      · have h := h.2.2.2.2.2.2.2.2.2.1 q2_9
        refine x_tin (tgt := 469) (off := 437) C (ka_r32 _) (by omega) (by omega) (by rw [q2_9]; rfl) dL_law_32 (by decide) ?_
        refine x_aload_n C dL_law_469 rfl ?_
        refine x_callV (vs := []) C cv_RL_55 ly_0 rfl (by decide) ⟨rfl, rfl, Nat.le_of_ble_eq_true rfl, Nat.le_of_ble_eq_true rfl⟩ ⟨Nat.le_of_ble_eq_true rfl, Nat.le_of_ble_eq_true rfl⟩ rfl rfl (Nat.le_of_ble_eq_true rfl) dL_law_470 (sd_X7_first l D cy ad M _ h) (fun _ M19 qz => ?_)
        obtain ⟨z19, rfl, rz19, h⟩ := qz
        refine x_aload_n C dL_law_473 rfl ?_
        refine x_callV (vs := []) C cv_RL_59 ly_8 rfl (by decide) ⟨rfl, rfl, Nat.le_of_ble_eq_true rfl, Nat.le_of_ble_eq_true rfl⟩ ⟨Nat.le_of_ble_eq_true rfl, Nat.le_of_ble_eq_true rfl⟩ rfl rfl (Nat.le_of_ble_eq_true rfl) dL_law_474 (sd_X8_first l D cy ad M19 _ h) (fun _ M20 qz => ?_)
        obtain ⟨z20, rfl, rz20, h⟩ := qz
        refine x_icmp_eq (tgt := 787) C rz19 rz20 dL_law_477 (by decide) (fun q12 => ?_) (fun q12 => ?_)
        · have h := h.1 q12
          refine x_iinc C dL_law_787 rfl (Nat.le_of_ble_eq_true rfl) rfl ?_
          refine x_goto (tgt := 18) C dL_law_790 (by decide) ?_
          obtain ⟨o48, h⟩ := h
          exact ih _ _ h o48
        · have h := h.2 q12
          refine x_iconst C dL_law_480 ?_
          exact x_lawret C (hQ _ _ h) dL_law_481
      by_cases q2_10 : a_and32 (sx x3) 31 = 10
      · have h := h.2.2.2.2.2.2.2.2.2.2.1 q2_10
        refine x_tin (tgt := 482) (off := 450) C (ka_r32 _) (by omega) (by omega) (by rw [q2_10]; rfl) dL_law_32 (by decide) ?_
        refine x_aload_n C dL_law_482 rfl ?_
        refine x_aload_n C dL_law_483 rfl ?_
        refine x_iload_n C dL_law_484 rfl ?_
        refine x_iconst C dL_law_485 ?_
        refine x_iadd C dL_law_486 ?_
        obtain ⟨o49, h⟩ := h
        refine x_sld C hs o49 dL_law_487 ?_
        refine x_aload_n C dL_law_488 rfl ?_
        refine x_iload_n C dL_law_489 rfl ?_
        refine x_iconst C dL_law_490 ?_
        refine x_iadd C dL_law_491 ?_
        obtain ⟨o50, h⟩ := h
        refine x_sld C hs o50 dL_law_492 ?_
        refine x_callV (vs := [aI (sx (x3 + 1)), aI (sx (x3 + 2))]) C cv_RL_60 ly_0 rfl (by decide) ⟨rfl, rfl, Nat.le_of_ble_eq_true rfl, Nat.le_of_ble_eq_true rfl⟩ ⟨Nat.le_of_ble_eq_true rfl, Nat.le_of_ble_eq_true rfl⟩ rfl rfl (Nat.le_of_ble_eq_true rfl) dL_law_493 (sd_X7_put l D cy ad (sx (x3 + 1)) (sx (x3 + 2)) (hs.2.2.2.2.2.2 _) (hs.2.2.2.2.2.2 _) M _ h) (fun _ M21 qz => ?_)
        obtain ⟨z21, rfl, rz21, h⟩ := qz
        refine x_aload_n C dL_law_496 rfl ?_
        refine x_aload_n C dL_law_497 rfl ?_
        refine x_iload_n C dL_law_498 rfl ?_
        refine x_iconst C dL_law_499 ?_
        refine x_iadd C dL_law_500 ?_
        obtain ⟨o51, h⟩ := h
        refine x_sld C hs o51 dL_law_501 ?_
        refine x_aload_n C dL_law_502 rfl ?_
        refine x_iload_n C dL_law_503 rfl ?_
        refine x_iconst C dL_law_504 ?_
        refine x_iadd C dL_law_505 ?_
        obtain ⟨o52, h⟩ := h
        refine x_sld C hs o52 dL_law_506 ?_
        refine x_callV (vs := [aI (sx (x3 + 1)), aI (sx (x3 + 2))]) C cv_RL_63 ly_8 rfl (by decide) ⟨rfl, rfl, Nat.le_of_ble_eq_true rfl, Nat.le_of_ble_eq_true rfl⟩ ⟨Nat.le_of_ble_eq_true rfl, Nat.le_of_ble_eq_true rfl⟩ rfl rfl (Nat.le_of_ble_eq_true rfl) dL_law_507 (sd_X8_put l D cy ad (sx (x3 + 1)) (sx (x3 + 2)) (hs.2.2.2.2.2.2 _) (hs.2.2.2.2.2.2 _) M21 _ h) (fun _ M22 qz => ?_)
        obtain ⟨z22, rfl, rz22, h⟩ := qz
        refine x_icmp_eq (tgt := 787) C rz21 rz22 dL_law_510 (by decide) (fun q13 => ?_) (fun q13 => ?_)
        · have h := h.1 q13
          refine x_iinc C dL_law_787 rfl (Nat.le_of_ble_eq_true rfl) rfl ?_
          refine x_goto (tgt := 18) C dL_law_790 (by decide) ?_
          obtain ⟨o53, h⟩ := h
          exact ih _ _ h o53
        · have h := h.2 q13
          refine x_iconst C dL_law_513 ?_
          exact x_lawret C (hQ _ _ h) dL_law_514
      by_cases q2_11 : a_and32 (sx x3) 31 = 11
      · have h := h.2.2.2.2.2.2.2.2.2.2.2.1 q2_11
        refine x_tin (tgt := 515) (off := 483) C (ka_r32 _) (by omega) (by omega) (by rw [q2_11]; rfl) dL_law_32 (by decide) ?_
        refine x_aload_n C dL_law_515 rfl ?_
        refine x_aload_n C dL_law_516 rfl ?_
        refine x_iload_n C dL_law_517 rfl ?_
        refine x_iconst C dL_law_518 ?_
        refine x_iadd C dL_law_519 ?_
        obtain ⟨o54, h⟩ := h
        refine x_sld C hs o54 dL_law_520 ?_
        refine x_callV (vs := [aI (sx (x3 + 1))]) C cv_RL_64 ly_0 rfl (by decide) ⟨rfl, rfl, Nat.le_of_ble_eq_true rfl, Nat.le_of_ble_eq_true rfl⟩ ⟨Nat.le_of_ble_eq_true rfl, Nat.le_of_ble_eq_true rfl⟩ rfl rfl (Nat.le_of_ble_eq_true rfl) dL_law_521 (sd_X7_at l D cy ad (sx (x3 + 1)) (hs.2.2.2.2.2.2 _) M _ h) (fun _ M23 qz => ?_)
        obtain ⟨z23, rfl, rz23, h⟩ := qz
        refine x_aload_n C dL_law_524 rfl ?_
        refine x_aload_n C dL_law_525 rfl ?_
        refine x_iload_n C dL_law_526 rfl ?_
        refine x_iconst C dL_law_527 ?_
        refine x_iadd C dL_law_528 ?_
        obtain ⟨o55, h⟩ := h
        refine x_sld C hs o55 dL_law_529 ?_
        refine x_callV (vs := [aI (sx (x3 + 1))]) C cv_RL_67 ly_8 rfl (by decide) ⟨rfl, rfl, Nat.le_of_ble_eq_true rfl, Nat.le_of_ble_eq_true rfl⟩ ⟨Nat.le_of_ble_eq_true rfl, Nat.le_of_ble_eq_true rfl⟩ rfl rfl (Nat.le_of_ble_eq_true rfl) dL_law_530 (sd_X8_at l D cy ad (sx (x3 + 1)) (hs.2.2.2.2.2.2 _) M23 _ h) (fun _ M24 qz => ?_)
        obtain ⟨z24, rfl, rz24, h⟩ := qz
        refine x_icmp_eq (tgt := 787) C rz23 rz24 dL_law_533 (by decide) (fun q14 => ?_) (fun q14 => ?_)
        · have h := h.1 q14
          refine x_iinc C dL_law_787 rfl (Nat.le_of_ble_eq_true rfl) rfl ?_
          refine x_goto (tgt := 18) C dL_law_790 (by decide) ?_
          obtain ⟨o56, h⟩ := h
          exact ih _ _ h o56
        · have h := h.2 q14
          refine x_iconst C dL_law_536 ?_
          exact x_lawret C (hQ _ _ h) dL_law_537
      by_cases q2_12 : a_and32 (sx x3) 31 = 12
      · have h := h.2.2.2.2.2.2.2.2.2.2.2.2.1 q2_12
        refine x_tin (tgt := 538) (off := 506) C (ka_r32 _) (by omega) (by omega) (by rw [q2_12]; rfl) dL_law_32 (by decide) ?_
        refine x_aload_n C dL_law_538 rfl ?_
        refine x_callV (vs := []) C cv_RL_68 ly_0 rfl (by decide) ⟨rfl, rfl, Nat.le_of_ble_eq_true rfl, Nat.le_of_ble_eq_true rfl⟩ ⟨Nat.le_of_ble_eq_true rfl, Nat.le_of_ble_eq_true rfl⟩ rfl rfl (Nat.le_of_ble_eq_true rfl) dL_law_539 (sd_X7_all l D cy ad M _ h) (fun _ M25 qz => ?_)
        obtain ⟨z25, rfl, h⟩ := qz
        refine x_aload_n C dL_law_542 rfl ?_
        refine x_callV (vs := []) C cv_RL_72 ly_8 rfl (by decide) ⟨rfl, rfl, Nat.le_of_ble_eq_true rfl, Nat.le_of_ble_eq_true rfl⟩ ⟨Nat.le_of_ble_eq_true rfl, Nat.le_of_ble_eq_true rfl⟩ rfl rfl (Nat.le_of_ble_eq_true rfl) dL_law_543 (sd_X8_all l D cy ad M25 _ h) (fun _ M26 qz => ?_)
        obtain ⟨z26, rfl, h⟩ := qz
        obtain ⟨o57, h⟩ := h
        refine x_lcmp_eq (tgt := 787) C o57 dL_law_546 dL_law_547 (by decide) (fun q15 => ?_) (fun q15 => ?_)
        · have h := h.1 q15
          refine x_iinc C dL_law_787 rfl (Nat.le_of_ble_eq_true rfl) rfl ?_
          refine x_goto (tgt := 18) C dL_law_790 (by decide) ?_
          obtain ⟨o58, h⟩ := h
          exact ih _ _ h o58
        · have h := h.2 q15
          refine x_iconst C dL_law_550 ?_
          exact x_lawret C (hQ _ _ h) dL_law_551
      by_cases q2_13 : a_and32 (sx x3) 31 = 13
      · have h := h.2.2.2.2.2.2.2.2.2.2.2.2.2.1 q2_13
        refine x_tin (tgt := 552) (off := 520) C (ka_r32 _) (by omega) (by omega) (by rw [q2_13]; rfl) dL_law_32 (by decide) ?_
        refine x_aload_n C dL_law_552 rfl ?_
        refine x_aload_n C dL_law_553 rfl ?_
        refine x_iload_n C dL_law_554 rfl ?_
        refine x_iconst C dL_law_555 ?_
        refine x_iadd C dL_law_556 ?_
        obtain ⟨o59, h⟩ := h
        refine x_sld C hs o59 dL_law_557 ?_
        refine x_callV (vs := [aI (sx (x3 + 1))]) C cv_RL_73 ly_0 rfl (by decide) ⟨rfl, rfl, Nat.le_of_ble_eq_true rfl, Nat.le_of_ble_eq_true rfl⟩ ⟨Nat.le_of_ble_eq_true rfl, Nat.le_of_ble_eq_true rfl⟩ rfl rfl (Nat.le_of_ble_eq_true rfl) dL_law_558 (sd_X7_share l D cy ad (sx (x3 + 1)) (hs.2.2.2.2.2.2 _) M _ h) (fun _ M27 qz => ?_)
        obtain ⟨z27, rfl, h⟩ := qz
        refine x_aload_n C dL_law_561 rfl ?_
        refine x_aload_n C dL_law_562 rfl ?_
        refine x_iload_n C dL_law_563 rfl ?_
        refine x_iconst C dL_law_564 ?_
        refine x_iadd C dL_law_565 ?_
        obtain ⟨o60, h⟩ := h
        refine x_sld C hs o60 dL_law_566 ?_
        refine x_callV (vs := [aI (sx (x3 + 1))]) C cv_RL_77 ly_8 rfl (by decide) ⟨rfl, rfl, Nat.le_of_ble_eq_true rfl, Nat.le_of_ble_eq_true rfl⟩ ⟨Nat.le_of_ble_eq_true rfl, Nat.le_of_ble_eq_true rfl⟩ rfl rfl (Nat.le_of_ble_eq_true rfl) dL_law_567 (sd_X8_share l D cy ad (sx (x3 + 1)) (hs.2.2.2.2.2.2 _) M27 _ h) (fun _ M28 qz => ?_)
        obtain ⟨z28, rfl, h⟩ := qz
        obtain ⟨o61, h⟩ := h
        refine x_lcmp_eq (tgt := 787) C o61 dL_law_570 dL_law_571 (by decide) (fun q16 => ?_) (fun q16 => ?_)
        · have h := h.1 q16
          refine x_iinc C dL_law_787 rfl (Nat.le_of_ble_eq_true rfl) rfl ?_
          refine x_goto (tgt := 18) C dL_law_790 (by decide) ?_
          obtain ⟨o62, h⟩ := h
          exact ih _ _ h o62
        · have h := h.2 q16
          refine x_iconst C dL_law_574 ?_
          exact x_lawret C (hQ _ _ h) dL_law_575
      by_cases q2_14 : a_and32 (sx x3) 31 = 14
      · have h := h.2.2.2.2.2.2.2.2.2.2.2.2.2.2.1 q2_14
        refine x_tin (tgt := 576) (off := 544) C (ka_r32 _) (by omega) (by omega) (by rw [q2_14]; rfl) dL_law_32 (by decide) ?_
        refine x_aload_n C dL_law_576 rfl ?_
        refine x_callV (vs := []) C cv_RL_78 ly_0 rfl (by decide) ⟨rfl, rfl, Nat.le_of_ble_eq_true rfl, Nat.le_of_ble_eq_true rfl⟩ ⟨Nat.le_of_ble_eq_true rfl, Nat.le_of_ble_eq_true rfl⟩ rfl rfl (Nat.le_of_ble_eq_true rfl) dL_law_577 (sd_X7_better l D cy ad M _ h) (fun _ M29 qz => ?_)
        obtain ⟨z29, rfl, rz29, h⟩ := qz
        refine x_aload_n C dL_law_580 rfl ?_
        refine x_callV (vs := []) C cv_RL_81 ly_8 rfl (by decide) ⟨rfl, rfl, Nat.le_of_ble_eq_true rfl, Nat.le_of_ble_eq_true rfl⟩ ⟨Nat.le_of_ble_eq_true rfl, Nat.le_of_ble_eq_true rfl⟩ rfl rfl (Nat.le_of_ble_eq_true rfl) dL_law_581 (sd_X8_better l D cy ad M29 _ h) (fun _ M30 qz => ?_)
        obtain ⟨z30, rfl, rz30, h⟩ := qz
        refine x_icmp_eq (tgt := 787) C rz29 rz30 dL_law_584 (by decide) (fun q17 => ?_) (fun q17 => ?_)
        · have h := h.1 q17
          refine x_iinc C dL_law_787 rfl (Nat.le_of_ble_eq_true rfl) rfl ?_
          refine x_goto (tgt := 18) C dL_law_790 (by decide) ?_
          obtain ⟨o63, h⟩ := h
          exact ih _ _ h o63
        · have h := h.2 q17
          refine x_iconst C dL_law_587 ?_
          exact x_lawret C (hQ _ _ h) dL_law_588
      by_cases q2_15 : a_and32 (sx x3) 31 = 15
      · have h := h.2.2.2.2.2.2.2.2.2.2.2.2.2.2.2.1 q2_15
        refine x_tin (tgt := 589) (off := 557) C (ka_r32 _) (by omega) (by omega) (by rw [q2_15]; rfl) dL_law_32 (by decide) ?_
        refine x_aload_n C dL_law_589 rfl ?_
        refine x_aload_n C dL_law_590 rfl ?_
        refine x_iload_n C dL_law_591 rfl ?_
        refine x_iconst C dL_law_592 ?_
        refine x_iadd C dL_law_593 ?_
        obtain ⟨o64, h⟩ := h
        refine x_sld C hs o64 dL_law_594 ?_
        refine x_aload_n C dL_law_595 rfl ?_
        refine x_iload_n C dL_law_596 rfl ?_
        refine x_iconst C dL_law_597 ?_
        refine x_iadd C dL_law_598 ?_
        obtain ⟨o65, h⟩ := h
        refine x_sld C hs o65 dL_law_599 ?_
        refine x_callV (vs := [aI (sx (x3 + 1)), aI (sx (x3 + 2))]) C cv_RL_82 ly_0 rfl (by decide) ⟨rfl, rfl, Nat.le_of_ble_eq_true rfl, Nat.le_of_ble_eq_true rfl⟩ ⟨Nat.le_of_ble_eq_true rfl, Nat.le_of_ble_eq_true rfl⟩ rfl rfl (Nat.le_of_ble_eq_true rfl) dL_law_600 (sd_X7_change l D cy ad (sx (x3 + 1)) (sx (x3 + 2)) (hs.2.2.2.2.2.2 _) (hs.2.2.2.2.2.2 _) M _ h) (fun _ M31 qz => ?_)
        obtain ⟨z31, rfl, h⟩ := qz
        refine x_aload_n C dL_law_603 rfl ?_
        refine x_aload_n C dL_law_604 rfl ?_
        refine x_iload_n C dL_law_605 rfl ?_
        refine x_iconst C dL_law_606 ?_
        refine x_iadd C dL_law_607 ?_
        obtain ⟨o66, h⟩ := h
        refine x_sld C hs o66 dL_law_608 ?_
        refine x_aload_n C dL_law_609 rfl ?_
        refine x_iload_n C dL_law_610 rfl ?_
        refine x_iconst C dL_law_611 ?_
        refine x_iadd C dL_law_612 ?_
        obtain ⟨o67, h⟩ := h
        refine x_sld C hs o67 dL_law_613 ?_
        refine x_callV (vs := [aI (sx (x3 + 1)), aI (sx (x3 + 2))]) C cv_RL_86 ly_8 rfl (by decide) ⟨rfl, rfl, Nat.le_of_ble_eq_true rfl, Nat.le_of_ble_eq_true rfl⟩ ⟨Nat.le_of_ble_eq_true rfl, Nat.le_of_ble_eq_true rfl⟩ rfl rfl (Nat.le_of_ble_eq_true rfl) dL_law_614 (sd_X8_change l D cy ad (sx (x3 + 1)) (sx (x3 + 2)) (hs.2.2.2.2.2.2 _) (hs.2.2.2.2.2.2 _) M31 _ h) (fun _ M32 qz => ?_)
        obtain ⟨z32, rfl, h⟩ := qz
        obtain ⟨o68, h⟩ := h
        refine x_lcmp_eq (tgt := 787) C o68 dL_law_617 dL_law_618 (by decide) (fun q18 => ?_) (fun q18 => ?_)
        · have h := h.1 q18
          refine x_iinc C dL_law_787 rfl (Nat.le_of_ble_eq_true rfl) rfl ?_
          refine x_goto (tgt := 18) C dL_law_790 (by decide) ?_
          obtain ⟨o69, h⟩ := h
          exact ih _ _ h o69
        · have h := h.2 q18
          refine x_iconst C dL_law_621 ?_
          exact x_lawret C (hQ _ _ h) dL_law_622
      by_cases q2_16 : a_and32 (sx x3) 31 = 16
      · have h := h.2.2.2.2.2.2.2.2.2.2.2.2.2.2.2.2.1 q2_16
        refine x_tin (tgt := 623) (off := 591) C (ka_r32 _) (by omega) (by omega) (by rw [q2_16]; rfl) dL_law_32 (by decide) ?_
        refine x_aload_n C dL_law_623 rfl ?_
        refine x_callV (vs := []) C cv_RL_87 ly_0 rfl (by decide) ⟨rfl, rfl, Nat.le_of_ble_eq_true rfl, Nat.le_of_ble_eq_true rfl⟩ ⟨Nat.le_of_ble_eq_true rfl, Nat.le_of_ble_eq_true rfl⟩ rfl rfl (Nat.le_of_ble_eq_true rfl) dL_law_624 (sd_X7_search l D cy ad M _ h) (fun _ M33 qz => ?_)
        obtain ⟨z33, rfl, rz33, h⟩ := qz
        refine x_aload_n C dL_law_627 rfl ?_
        refine x_callV (vs := []) C cv_RL_90 ly_8 rfl (by decide) ⟨rfl, rfl, Nat.le_of_ble_eq_true rfl, Nat.le_of_ble_eq_true rfl⟩ ⟨Nat.le_of_ble_eq_true rfl, Nat.le_of_ble_eq_true rfl⟩ rfl rfl (Nat.le_of_ble_eq_true rfl) dL_law_628 (sd_X8_search l D cy ad M33 _ h) (fun _ M34 qz => ?_)
        obtain ⟨z34, rfl, rz34, h⟩ := qz
        refine x_icmp_eq (tgt := 787) C rz33 rz34 dL_law_631 (by decide) (fun q19 => ?_) (fun q19 => ?_)
        · have h := h.1 q19
          refine x_iinc C dL_law_787 rfl (Nat.le_of_ble_eq_true rfl) rfl ?_
          refine x_goto (tgt := 18) C dL_law_790 (by decide) ?_
          obtain ⟨o70, h⟩ := h
          exact ih _ _ h o70
        · have h := h.2 q19
          refine x_iconst C dL_law_634 ?_
          exact x_lawret C (hQ _ _ h) dL_law_635
      by_cases q2_17 : a_and32 (sx x3) 31 = 17
      · have h := h.2.2.2.2.2.2.2.2.2.2.2.2.2.2.2.2.2.1 q2_17
        refine x_tin (tgt := 636) (off := 604) C (ka_r32 _) (by omega) (by omega) (by rw [q2_17]; rfl) dL_law_32 (by decide) ?_
        refine x_aload_n C dL_law_636 rfl ?_
        refine x_callV (vs := []) C cv_RL_91 ly_0 rfl (by decide) ⟨rfl, rfl, Nat.le_of_ble_eq_true rfl, Nat.le_of_ble_eq_true rfl⟩ ⟨Nat.le_of_ble_eq_true rfl, Nat.le_of_ble_eq_true rfl⟩ rfl rfl (Nat.le_of_ble_eq_true rfl) dL_law_637 (sd_X7_least l D cy ad M _ h) (fun _ M35 qz => ?_)
        obtain ⟨z35, rfl, h⟩ := qz
        refine x_aload_n C dL_law_640 rfl ?_
        refine x_callV (vs := []) C cv_RL_94 ly_8 rfl (by decide) ⟨rfl, rfl, Nat.le_of_ble_eq_true rfl, Nat.le_of_ble_eq_true rfl⟩ ⟨Nat.le_of_ble_eq_true rfl, Nat.le_of_ble_eq_true rfl⟩ rfl rfl (Nat.le_of_ble_eq_true rfl) dL_law_641 (sd_X8_least l D cy ad M35 _ h) (fun _ M36 qz => ?_)
        obtain ⟨z36, rfl, h⟩ := qz
        obtain ⟨o71, h⟩ := h
        refine x_lcmp_eq (tgt := 787) C o71 dL_law_644 dL_law_645 (by decide) (fun q20 => ?_) (fun q20 => ?_)
        · have h := h.1 q20
          refine x_iinc C dL_law_787 rfl (Nat.le_of_ble_eq_true rfl) rfl ?_
          refine x_goto (tgt := 18) C dL_law_790 (by decide) ?_
          obtain ⟨o72, h⟩ := h
          exact ih _ _ h o72
        · have h := h.2 q20
          refine x_iconst C dL_law_648 ?_
          exact x_lawret C (hQ _ _ h) dL_law_649
      by_cases q2_18 : a_and32 (sx x3) 31 = 18
      · have h := h.2.2.2.2.2.2.2.2.2.2.2.2.2.2.2.2.2.2.1 q2_18
        refine x_tin (tgt := 650) (off := 618) C (ka_r32 _) (by omega) (by omega) (by rw [q2_18]; rfl) dL_law_32 (by decide) ?_
        refine x_aload_n C dL_law_650 rfl ?_
        refine x_callV (vs := []) C cv_RL_95 ly_0 rfl (by decide) ⟨rfl, rfl, Nat.le_of_ble_eq_true rfl, Nat.le_of_ble_eq_true rfl⟩ ⟨Nat.le_of_ble_eq_true rfl, Nat.le_of_ble_eq_true rfl⟩ rfl rfl (Nat.le_of_ble_eq_true rfl) dL_law_651 (sd_X7_take l D cy ad M _ h) (fun _ M37 qz => ?_)
        obtain ⟨z37, rfl, rz37, h⟩ := qz
        refine x_aload_n C dL_law_654 rfl ?_
        refine x_callV (vs := []) C cv_RL_98 ly_8 rfl (by decide) ⟨rfl, rfl, Nat.le_of_ble_eq_true rfl, Nat.le_of_ble_eq_true rfl⟩ ⟨Nat.le_of_ble_eq_true rfl, Nat.le_of_ble_eq_true rfl⟩ rfl rfl (Nat.le_of_ble_eq_true rfl) dL_law_655 (sd_X8_take l D cy ad M37 _ h) (fun _ M38 qz => ?_)
        obtain ⟨z38, rfl, rz38, h⟩ := qz
        refine x_icmp_eq (tgt := 787) C rz37 rz38 dL_law_658 (by decide) (fun q21 => ?_) (fun q21 => ?_)
        · have h := h.1 q21
          refine x_iinc C dL_law_787 rfl (Nat.le_of_ble_eq_true rfl) rfl ?_
          refine x_goto (tgt := 18) C dL_law_790 (by decide) ?_
          obtain ⟨o73, h⟩ := h
          exact ih _ _ h o73
        · have h := h.2 q21
          refine x_iconst C dL_law_661 ?_
          exact x_lawret C (hQ _ _ h) dL_law_662
      by_cases q2_19 : a_and32 (sx x3) 31 = 19
      · have h := h.2.2.2.2.2.2.2.2.2.2.2.2.2.2.2.2.2.2.2.1 q2_19
        refine x_tin (tgt := 663) (off := 631) C (ka_r32 _) (by omega) (by omega) (by rw [q2_19]; rfl) dL_law_32 (by decide) ?_
        refine x_aload_n C dL_law_663 rfl ?_
        refine x_callV (vs := []) C cv_RL_99 ly_0 rfl (by decide) ⟨rfl, rfl, Nat.le_of_ble_eq_true rfl, Nat.le_of_ble_eq_true rfl⟩ ⟨Nat.le_of_ble_eq_true rfl, Nat.le_of_ble_eq_true rfl⟩ rfl rfl (Nat.le_of_ble_eq_true rfl) dL_law_664 (sd_X7_tries l D cy ad M _ h) (fun _ M39 qz => ?_)
        obtain ⟨z39, rfl, rz39, h⟩ := qz
        refine x_aload_n C dL_law_667 rfl ?_
        refine x_callV (vs := []) C cv_RL_102 ly_8 rfl (by decide) ⟨rfl, rfl, Nat.le_of_ble_eq_true rfl, Nat.le_of_ble_eq_true rfl⟩ ⟨Nat.le_of_ble_eq_true rfl, Nat.le_of_ble_eq_true rfl⟩ rfl rfl (Nat.le_of_ble_eq_true rfl) dL_law_668 (sd_X8_tries l D cy ad M39 _ h) (fun _ M40 qz => ?_)
        obtain ⟨z40, rfl, rz40, h⟩ := qz
        refine x_icmp_eq (tgt := 787) C rz39 rz40 dL_law_671 (by decide) (fun q22 => ?_) (fun q22 => ?_)
        · have h := h.1 q22
          refine x_iinc C dL_law_787 rfl (Nat.le_of_ble_eq_true rfl) rfl ?_
          refine x_goto (tgt := 18) C dL_law_790 (by decide) ?_
          obtain ⟨o74, h⟩ := h
          exact ih _ _ h o74
        · have h := h.2 q22
          refine x_iconst C dL_law_674 ?_
          exact x_lawret C (hQ _ _ h) dL_law_675
      by_cases q2_20 : a_and32 (sx x3) 31 = 20
      · have h := h.2.2.2.2.2.2.2.2.2.2.2.2.2.2.2.2.2.2.2.2.1 q2_20
        refine x_tin (tgt := 676) (off := 644) C (ka_r32 _) (by omega) (by omega) (by rw [q2_20]; rfl) dL_law_32 (by decide) ?_
        refine x_aload_n C dL_law_676 rfl ?_
        refine x_callV (vs := []) C cv_RL_103 ly_0 rfl (by decide) ⟨rfl, rfl, Nat.le_of_ble_eq_true rfl, Nat.le_of_ble_eq_true rfl⟩ ⟨Nat.le_of_ble_eq_true rfl, Nat.le_of_ble_eq_true rfl⟩ rfl rfl (Nat.le_of_ble_eq_true rfl) dL_law_677 (sd_X7_bound l D cy ad M _ h) (fun _ M41 qz => ?_)
        obtain ⟨z41, rfl, h⟩ := qz
        refine x_aload_n C dL_law_680 rfl ?_
        refine x_callV (vs := []) C cv_RL_106 ly_8 rfl (by decide) ⟨rfl, rfl, Nat.le_of_ble_eq_true rfl, Nat.le_of_ble_eq_true rfl⟩ ⟨Nat.le_of_ble_eq_true rfl, Nat.le_of_ble_eq_true rfl⟩ rfl rfl (Nat.le_of_ble_eq_true rfl) dL_law_681 (sd_X8_bound l D cy ad M41 _ h) (fun _ M42 qz => ?_)
        obtain ⟨z42, rfl, h⟩ := qz
        obtain ⟨o75, h⟩ := h
        refine x_lcmp_eq (tgt := 787) C o75 dL_law_684 dL_law_685 (by decide) (fun q23 => ?_) (fun q23 => ?_)
        · have h := h.1 q23
          refine x_iinc C dL_law_787 rfl (Nat.le_of_ble_eq_true rfl) rfl ?_
          refine x_goto (tgt := 18) C dL_law_790 (by decide) ?_
          obtain ⟨o76, h⟩ := h
          exact ih _ _ h o76
        · have h := h.2 q23
          refine x_iconst C dL_law_688 ?_
          exact x_lawret C (hQ _ _ h) dL_law_689
      by_cases q2_21 : a_and32 (sx x3) 31 = 21
      · have h := h.2.2.2.2.2.2.2.2.2.2.2.2.2.2.2.2.2.2.2.2.2.1 q2_21
        refine x_tin (tgt := 690) (off := 658) C (ka_r32 _) (by omega) (by omega) (by rw [q2_21]; rfl) dL_law_32 (by decide) ?_
        refine x_aload_n C dL_law_690 rfl ?_
        refine x_aload_n C dL_law_691 rfl ?_
        refine x_iload_n C dL_law_692 rfl ?_
        refine x_iconst C dL_law_693 ?_
        refine x_iadd C dL_law_694 ?_
        obtain ⟨o77, h⟩ := h
        refine x_sld C hs o77 dL_law_695 ?_
        refine x_aload_n C dL_law_696 rfl ?_
        refine x_iload_n C dL_law_697 rfl ?_
        refine x_iconst C dL_law_698 ?_
        refine x_iadd C dL_law_699 ?_
        obtain ⟨o78, h⟩ := h
        refine x_sld C hs o78 dL_law_700 ?_
        refine x_callV (vs := [aI (sx (x3 + 1)), aI (sx (x3 + 2))]) C cv_RL_107 ly_0 rfl (by decide) ⟨rfl, rfl, Nat.le_of_ble_eq_true rfl, Nat.le_of_ble_eq_true rfl⟩ ⟨Nat.le_of_ble_eq_true rfl, Nat.le_of_ble_eq_true rfl⟩ rfl rfl (Nat.le_of_ble_eq_true rfl) dL_law_701 (sd_X7_price l D cy ad (sx (x3 + 1)) (sx (x3 + 2)) (hs.2.2.2.2.2.2 _) (hs.2.2.2.2.2.2 _) M _ h) (fun _ M43 qz => ?_)
        obtain ⟨z43, rfl, h⟩ := qz
        refine x_aload_n C dL_law_704 rfl ?_
        refine x_aload_n C dL_law_705 rfl ?_
        refine x_iload_n C dL_law_706 rfl ?_
        refine x_iconst C dL_law_707 ?_
        refine x_iadd C dL_law_708 ?_
        obtain ⟨o79, h⟩ := h
        refine x_sld C hs o79 dL_law_709 ?_
        refine x_aload_n C dL_law_710 rfl ?_
        refine x_iload_n C dL_law_711 rfl ?_
        refine x_iconst C dL_law_712 ?_
        refine x_iadd C dL_law_713 ?_
        obtain ⟨o80, h⟩ := h
        refine x_sld C hs o80 dL_law_714 ?_
        refine x_callV (vs := [aI (sx (x3 + 1)), aI (sx (x3 + 2))]) C cv_RL_110 ly_8 rfl (by decide) ⟨rfl, rfl, Nat.le_of_ble_eq_true rfl, Nat.le_of_ble_eq_true rfl⟩ ⟨Nat.le_of_ble_eq_true rfl, Nat.le_of_ble_eq_true rfl⟩ rfl rfl (Nat.le_of_ble_eq_true rfl) dL_law_715 (sd_X8_price l D cy ad (sx (x3 + 1)) (sx (x3 + 2)) (hs.2.2.2.2.2.2 _) (hs.2.2.2.2.2.2 _) M43 _ h) (fun _ M44 qz => ?_)
        obtain ⟨z44, rfl, h⟩ := qz
        obtain ⟨o81, h⟩ := h
        refine x_lcmp_eq (tgt := 787) C o81 dL_law_718 dL_law_719 (by decide) (fun q24 => ?_) (fun q24 => ?_)
        · have h := h.1 q24
          refine x_iinc C dL_law_787 rfl (Nat.le_of_ble_eq_true rfl) rfl ?_
          refine x_goto (tgt := 18) C dL_law_790 (by decide) ?_
          obtain ⟨o82, h⟩ := h
          exact ih _ _ h o82
        · have h := h.2 q24
          refine x_iconst C dL_law_722 ?_
          exact x_lawret C (hQ _ _ h) dL_law_723
      by_cases q2_22 : a_and32 (sx x3) 31 = 22
      · have h := h.2.2.2.2.2.2.2.2.2.2.2.2.2.2.2.2.2.2.2.2.2.2.1 q2_22
        refine x_tin (tgt := 724) (off := 692) C (ka_r32 _) (by omega) (by omega) (by rw [q2_22]; rfl) dL_law_32 (by decide) ?_
        refine x_aload_n C dL_law_724 rfl ?_
        refine x_callV (vs := []) C cv_RL_111 ly_0 rfl (by decide) ⟨rfl, rfl, Nat.le_of_ble_eq_true rfl, Nat.le_of_ble_eq_true rfl⟩ ⟨Nat.le_of_ble_eq_true rfl, Nat.le_of_ble_eq_true rfl⟩ rfl rfl (Nat.le_of_ble_eq_true rfl) dL_law_725 (sd_X7_turns l D cy ad M _ h) (fun _ M45 qz => ?_)
        obtain ⟨z45, rfl, rz45, h⟩ := qz
        refine x_aload_n C dL_law_728 rfl ?_
        refine x_callV (vs := []) C cv_RL_114 ly_8 rfl (by decide) ⟨rfl, rfl, Nat.le_of_ble_eq_true rfl, Nat.le_of_ble_eq_true rfl⟩ ⟨Nat.le_of_ble_eq_true rfl, Nat.le_of_ble_eq_true rfl⟩ rfl rfl (Nat.le_of_ble_eq_true rfl) dL_law_729 (sd_X8_turns l D cy ad M45 _ h) (fun _ M46 qz => ?_)
        obtain ⟨z46, rfl, rz46, h⟩ := qz
        refine x_icmp_eq (tgt := 787) C rz45 rz46 dL_law_732 (by decide) (fun q25 => ?_) (fun q25 => ?_)
        · have h := h.1 q25
          refine x_iinc C dL_law_787 rfl (Nat.le_of_ble_eq_true rfl) rfl ?_
          refine x_goto (tgt := 18) C dL_law_790 (by decide) ?_
          obtain ⟨o83, h⟩ := h
          exact ih _ _ h o83
        · have h := h.2 q25
          refine x_iconst C dL_law_735 ?_
          exact x_lawret C (hQ _ _ h) dL_law_736
      by_cases q2_23 : a_and32 (sx x3) 31 = 23
      · have h := h.2.2.2.2.2.2.2.2.2.2.2.2.2.2.2.2.2.2.2.2.2.2.2.1 q2_23
        refine x_tin (tgt := 737) (off := 705) C (ka_r32 _) (by omega) (by omega) (by rw [q2_23]; rfl) dL_law_32 (by decide) ?_
        refine x_aload_n C dL_law_737 rfl ?_
        refine x_callV (vs := []) C cv_RL_115 ly_0 rfl (by decide) ⟨rfl, rfl, Nat.le_of_ble_eq_true rfl, Nat.le_of_ble_eq_true rfl⟩ ⟨Nat.le_of_ble_eq_true rfl, Nat.le_of_ble_eq_true rfl⟩ rfl rfl (Nat.le_of_ble_eq_true rfl) dL_law_738 (sd_X7_alike l D cy ad M _ h) (fun _ M47 qz => ?_)
        obtain ⟨z47, rfl, rz47, h⟩ := qz
        refine x_aload_n C dL_law_741 rfl ?_
        refine x_callV (vs := []) C cv_RL_118 ly_8 rfl (by decide) ⟨rfl, rfl, Nat.le_of_ble_eq_true rfl, Nat.le_of_ble_eq_true rfl⟩ ⟨Nat.le_of_ble_eq_true rfl, Nat.le_of_ble_eq_true rfl⟩ rfl rfl (Nat.le_of_ble_eq_true rfl) dL_law_742 (sd_X8_alike l D cy ad M47 _ h) (fun _ M48 qz => ?_)
        obtain ⟨z48, rfl, rz48, h⟩ := qz
        refine x_icmp_eq (tgt := 787) C rz47 rz48 dL_law_745 (by decide) (fun q26 => ?_) (fun q26 => ?_)
        · have h := h.1 q26
          refine x_iinc C dL_law_787 rfl (Nat.le_of_ble_eq_true rfl) rfl ?_
          refine x_goto (tgt := 18) C dL_law_790 (by decide) ?_
          obtain ⟨o84, h⟩ := h
          exact ih _ _ h o84
        · have h := h.2 q26
          refine x_iconst C dL_law_748 ?_
          exact x_lawret C (hQ _ _ h) dL_law_749
      by_cases q2_24 : a_and32 (sx x3) 31 = 24
      · have h := h.2.2.2.2.2.2.2.2.2.2.2.2.2.2.2.2.2.2.2.2.2.2.2.2.1 q2_24
        refine x_tin (tgt := 750) (off := 718) C (ka_r32 _) (by omega) (by omega) (by rw [q2_24]; rfl) dL_law_32 (by decide) ?_
        refine x_aload_n C dL_law_750 rfl ?_
        refine x_aload_n C dL_law_751 rfl ?_
        refine x_iload_n C dL_law_752 rfl ?_
        refine x_iconst C dL_law_753 ?_
        refine x_iadd C dL_law_754 ?_
        obtain ⟨o85, h⟩ := h
        refine x_sld C hs o85 dL_law_755 ?_
        refine x_callV (vs := [aI (sx (x3 + 1))]) C cv_RL_119 ly_0 rfl (by decide) ⟨rfl, rfl, Nat.le_of_ble_eq_true rfl, Nat.le_of_ble_eq_true rfl⟩ ⟨Nat.le_of_ble_eq_true rfl, Nat.le_of_ble_eq_true rfl⟩ rfl rfl (Nat.le_of_ble_eq_true rfl) dL_law_756 (sd_X7_count l D cy ad (sx (x3 + 1)) (hs.2.2.2.2.2.2 _) M _ h) (fun _ M49 qz => ?_)
        obtain ⟨z49, rfl, rz49, h⟩ := qz
        refine x_aload_n C dL_law_759 rfl ?_
        refine x_aload_n C dL_law_760 rfl ?_
        refine x_iload_n C dL_law_761 rfl ?_
        refine x_iconst C dL_law_762 ?_
        refine x_iadd C dL_law_763 ?_
        obtain ⟨o86, h⟩ := h
        refine x_sld C hs o86 dL_law_764 ?_
        refine x_callV (vs := [aI (sx (x3 + 1))]) C cv_RL_122 ly_8 rfl (by decide) ⟨rfl, rfl, Nat.le_of_ble_eq_true rfl, Nat.le_of_ble_eq_true rfl⟩ ⟨Nat.le_of_ble_eq_true rfl, Nat.le_of_ble_eq_true rfl⟩ rfl rfl (Nat.le_of_ble_eq_true rfl) dL_law_765 (sd_X8_count l D cy ad (sx (x3 + 1)) (hs.2.2.2.2.2.2 _) M49 _ h) (fun _ M50 qz => ?_)
        obtain ⟨z50, rfl, rz50, h⟩ := qz
        refine x_icmp_eq (tgt := 787) C rz49 rz50 dL_law_768 (by decide) (fun q27 => ?_) (fun q27 => ?_)
        · have h := h.1 q27
          refine x_iinc C dL_law_787 rfl (Nat.le_of_ble_eq_true rfl) rfl ?_
          refine x_goto (tgt := 18) C dL_law_790 (by decide) ?_
          obtain ⟨o87, h⟩ := h
          exact ih _ _ h o87
        · have h := h.2 q27
          refine x_iconst C dL_law_771 ?_
          exact x_lawret C (hQ _ _ h) dL_law_772
      by_cases q2_25 : a_and32 (sx x3) 31 = 25
      · have h := h.2.2.2.2.2.2.2.2.2.2.2.2.2.2.2.2.2.2.2.2.2.2.2.2.2.1 q2_25
        refine x_tin (tgt := 773) (off := 741) C (ka_r32 _) (by omega) (by omega) (by rw [q2_25]; rfl) dL_law_32 (by decide) ?_
        refine x_aload_n C dL_law_773 rfl ?_
        refine x_callV (vs := []) C cv_RL_123 ly_0 rfl (by decide) ⟨rfl, rfl, Nat.le_of_ble_eq_true rfl, Nat.le_of_ble_eq_true rfl⟩ ⟨Nat.le_of_ble_eq_true rfl, Nat.le_of_ble_eq_true rfl⟩ rfl rfl (Nat.le_of_ble_eq_true rfl) dL_law_774 (sd_X7_digest l D cy ad M _ h) (fun _ M51 qz => ?_)
        obtain ⟨z51, rfl, h⟩ := qz
        refine x_aload_n C dL_law_777 rfl ?_
        refine x_callV (vs := []) C cv_RL_126 ly_8 rfl (by decide) ⟨rfl, rfl, Nat.le_of_ble_eq_true rfl, Nat.le_of_ble_eq_true rfl⟩ ⟨Nat.le_of_ble_eq_true rfl, Nat.le_of_ble_eq_true rfl⟩ rfl rfl (Nat.le_of_ble_eq_true rfl) dL_law_778 (sd_X8_digest l D cy ad M51 _ h) (fun _ M52 qz => ?_)
        obtain ⟨z52, rfl, h⟩ := qz
        obtain ⟨o88, h⟩ := h
        refine x_lcmp_eq (tgt := 787) C o88 dL_law_781 dL_law_782 (by decide) (fun q28 => ?_) (fun q28 => ?_)
        · have h := h.1 q28
          refine x_iinc C dL_law_787 rfl (Nat.le_of_ble_eq_true rfl) rfl ?_
          refine x_goto (tgt := 18) C dL_law_790 (by decide) ?_
          obtain ⟨o89, h⟩ := h
          exact ih _ _ h o89
        · have h := h.2 q28
          refine x_iconst C dL_law_785 ?_
          exact x_lawret C (hQ _ _ h) dL_law_786
      have q2 : a_and32 (sx x3) 31 < 0 ∨ 25 < a_and32 (sx x3) 31 := by omega
      have h := h.2.2.2.2.2.2.2.2.2.2.2.2.2.2.2.2.2.2.2.2.2.2.2.2.2.2 q2
      refine x_tout (tgt := 787) C (ka_r32 _) q2 dL_law_32 (by decide) ?_
      refine x_iinc C dL_law_787 rfl (Nat.le_of_ble_eq_true rfl) rfl ?_
      refine x_goto (tgt := 18) C dL_law_790 (by decide) ?_
      obtain ⟨o90, h⟩ := h
      exact ih _ _ h o90)
