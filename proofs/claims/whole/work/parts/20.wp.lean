/-! what each method does: weakest preconditions over the memory, printed by program -/
def bc_J7_fill_53178_c9_L5 (x1 : Int) (x3 : Int) (Q : Mm → Prop) (R : Int → Mm → Prop) (x2 : Int) (M : Mm) : Prop :=
  (x3 ≤ x2 →
    Q M) ∧
  (¬ (x3 ≤ x2) →
    (0 ≤ x2 ∧ x2 < 10) ∧ iR (x2 + 1) ∧ R (x2 + 1) (mset M 9 x2 x1))
def wp_J7_fill_53178_c9_L5 (x1 : Int) (x3 : Int) (Q : Mm → Prop) (x2 : Int) (M : Mm) : Prop := LP1 (bc_J7_fill_53178_c9_L5 x1 x3 Q) x2 M
def wp_J7_fill_53178_c9 (x1 : Int) (M : Mm) (Q : Mm → Prop) : Prop :=
  wp_J7_fill_53178_c9_L5 x1 10 Q 0 M
def bc_J7_fill_53178_c10_L5 (x1 : Int) (x3 : Int) (Q : Mm → Prop) (R : Int → Mm → Prop) (x2 : Int) (M : Mm) : Prop :=
  (x3 ≤ x2 →
    Q M) ∧
  (¬ (x3 ≤ x2) →
    (0 ≤ x2 ∧ x2 < 12) ∧ iR (x2 + 1) ∧ R (x2 + 1) (mset M 10 x2 x1))
def wp_J7_fill_53178_c10_L5 (x1 : Int) (x3 : Int) (Q : Mm → Prop) (x2 : Int) (M : Mm) : Prop := LP1 (bc_J7_fill_53178_c10_L5 x1 x3 Q) x2 M
def wp_J7_fill_53178_c10 (x1 : Int) (M : Mm) (Q : Mm → Prop) : Prop :=
  wp_J7_fill_53178_c10_L5 x1 12 Q 0 M
def wp_X3_startAnew (x1 : Int) (M : Mm) (Q : Mm → Prop) : Prop :=
  wp_J7_fill_53178_c9 (-1) (mset M 1 0 x1) (fun M1 =>
    wp_J7_fill_53178_c10 (-1) M1 (fun M2 =>
      Q M2))
def wp_X1_forget (M : Mm) (Q : Mm → Prop) : Prop :=
  Q (mset M 5 7 0)
def wp_X7_letters (x1 : Int) (M : Mm) (Q : Int → Mm → Prop) : Prop :=
  (x1 < 1 →
    Q (-2) M) ∧
  (¬ (x1 < 1) →
    (x1 ≤ 10 →
      wp_X3_startAnew x1 M (fun M1 =>
        wp_X1_forget (mset M1 4 4 0) (fun M2 =>
          Q (M 1 0) M2))) ∧
    (¬ (x1 ≤ 10) →
      Q (-2) M))
def wp_X8_in (x0 : Int) (x1 : Int) (x2 : Int) (M : Mm) (Q : Int → Mm → Prop) : Prop :=
  (x0 < x1 →
    Q 0 M) ∧
  (¬ (x0 < x1) →
    (x2 < x0 →
      Q 0 M) ∧
    (¬ (x2 < x0) →
      Q 1 M))
def bc_X8_unfix_L2 (Q : Mm → Prop) (R : Int → Mm → Prop) (x1 : Int) (M : Mm) : Prop :=
  (10 ≤ x1 →
    Q M) ∧
  (¬ (10 ≤ x1) →
    (0 ≤ x1 ∧ x1 < 10) ∧ iR (x1 + 1) ∧ R (x1 + 1) (mset M 37 x1 (-1)))
def wp_X8_unfix_L2 (Q : Mm → Prop) (x1 : Int) (M : Mm) : Prop := LP1 (bc_X8_unfix_L2 Q) x1 M
def wp_X8_unfix (M : Mm) (Q : Mm → Prop) : Prop :=
  wp_X8_unfix_L2 Q 0 M
def wp_X8_isLetter (x1 : Int) (M : Mm) (Q : Int → Mm → Prop) : Prop :=
  iR ((M 8 0) - 1) ∧ wp_X8_in x1 0 ((M 8 0) - 1) M (fun z1 M1 =>
    Q z1 M1)
def wp_X8_letterAt (x1 : Int) (x2 : Int) (M : Mm) (Q : Int → Mm → Prop) : Prop :=
  (0 ≤ (300 * x1) + x2 ∧ (300 * x1) + x2 < 1800) ∧ iR ((M 32 ((300 * x1) + x2)) - 97) ∧ wp_X8_isLetter ((M 32 ((300 * x1) + x2)) - 97) M (fun z1 M1 =>
    (z1 = 0 →
      Q (-1) M1) ∧
    (¬ z1 = 0 →
      Q ((M 32 ((300 * x1) + x2)) - 97) M1))
def bc_X8_counts_L2 (Q : Mm → Prop) (K21 : Mm → Prop) (R : Int → Mm → Prop) (x1 : Int) (M : Mm) : Prop :=
  (100 ≤ x1 →
    K21 M) ∧
  (¬ (100 ≤ x1) →
    (0 ≤ x1 ∧ x1 < 100) ∧ iR (x1 + 1) ∧ R (x1 + 1) (mset M 33 x1 0))
def wp_X8_counts_L2 (Q : Mm → Prop) (K21 : Mm → Prop) (x1 : Int) (M : Mm) : Prop := LP1 (bc_X8_counts_L2 Q K21) x1 M
def bc_X8_counts_L31 (x1 : Int) (Q : Mm → Prop) (K100 : Mm → Prop) (R : Int → Mm → Prop) (x2 : Int) (M : Mm) : Prop :=
  (0 ≤ x1 ∧ x1 < 6) ∧ (M 31 x1 ≤ x2 →
    K100 M) ∧
  (¬ (M 31 x1 ≤ x2) →
    (0 ≤ x1 ∧ x1 < 6) ∧ (M 30 x1 = 0 →
      K100 M) ∧
    (¬ M 30 x1 = 0 →
      iR (x2 - 1) ∧ wp_X8_letterAt x1 (x2 - 1) M (fun z1 M1 =>
        wp_X8_letterAt x1 x2 M1 (fun z2 M2 =>
          (z1 = (-1) →
            iR (x2 + 1) ∧ R (x2 + 1) M2) ∧
          (¬ z1 = (-1) →
            (z2 = (-1) →
              iR (x2 + 1) ∧ R (x2 + 1) M2) ∧
            (¬ z2 = (-1) →
              (0 ≤ (10 * z1) + z2 ∧ (10 * z1) + z2 < 100) ∧ iR ((M2 33 ((10 * z1) + z2)) + 1) ∧ (0 ≤ (10 * z1) + z2 ∧ (10 * z1) + z2 < 100) ∧ iR (x2 + 1) ∧ R (x2 + 1) (mset M2 33 ((10 * z1) + z2) ((M2 33 ((10 * z1) + z2)) + 1))))))))
def wp_X8_counts_L31 (x1 : Int) (Q : Mm → Prop) (K100 : Mm → Prop) (x2 : Int) (M : Mm) : Prop := LP1 (bc_X8_counts_L31 x1 Q K100) x2 M
def bc_X8_counts_L23 (Q : Mm → Prop) (R : Int → Mm → Prop) (x1 : Int) (M : Mm) : Prop :=
  (6 ≤ x1 →
    Q M) ∧
  (¬ (6 ≤ x1) →
    wp_X8_counts_L31 x1 Q (fun M1 =>
      iR (x1 + 1) ∧ R (x1 + 1) M1) 1 M)
def wp_X8_counts_L23 (Q : Mm → Prop) (x1 : Int) (M : Mm) : Prop := LP1 (bc_X8_counts_L23 Q) x1 M
def wp_X8_counts (M : Mm) (Q : Mm → Prop) : Prop :=
  wp_X8_counts_L2 Q (fun M1 =>
    wp_X8_counts_L23 Q 0 M1) 0 M
def wp_X8_letters (x1 : Int) (M : Mm) (Q : Int → Mm → Prop) : Prop :=
  wp_X8_in x1 1 10 M (fun z1 M1 =>
    (¬ z1 = 0 →
      wp_X8_unfix (mset (mset (mset M1 8 0 x1) 8 10 0) 8 12 0) (fun M2 =>
        wp_X8_counts M2 (fun M3 =>
          Q (M1 8 0) M3))) ∧
    (z1 = 0 →
      Q (-2) M1))
def wp_X7_isPage (x0 : Int) (M : Mm) (Q : Int → Mm → Prop) : Prop :=
  (x0 < 0 →
    Q 0 M) ∧
  (¬ (x0 < 0) →
    (6 ≤ x0 →
      Q 0 M) ∧
    (¬ (6 ≤ x0) →
      Q 1 M))
def wp_X4_countPair (x1 : Int) (x2 : Int) (x3 : Int) (M : Mm) (Q : Mm → Prop) : Prop :=
  iR (x1 - 97) ∧ (x1 - 97 < 0 →
    Q M) ∧
  (¬ (x1 - 97 < 0) →
    (10 ≤ x1 - 97 →
      Q M) ∧
    (¬ (10 ≤ x1 - 97) →
      iR (x2 - 97) ∧ (x2 - 97 < 0 →
        Q M) ∧
      (¬ (x2 - 97 < 0) →
        (10 ≤ x2 - 97 →
          Q M) ∧
        (¬ (10 ≤ x2 - 97) →
          (0 ≤ x1 - 97 ∧ x1 - 97 < 10) ∧ (0 ≤ x2 - 97 ∧ x2 - 97 < 10) ∧ iR ((M 13 (10 * (x1 - 97) + (x2 - 97))) + x3) ∧ (0 ≤ x2 - 97 ∧ x2 - 97 < 10) ∧ Q (mset M 13 (10 * (x1 - 97) + (x2 - 97)) ((M 13 (10 * (x1 - 97) + (x2 - 97))) + x3))))))
def wp_X4_append (x1 : Int) (x2 : Int) (M : Mm) (Q : Mm → Prop) : Prop :=
  (0 ≤ x1 ∧ x1 < 6) ∧ (M 12 x1 < 300 →
    (M 12 x1 ≤ 0 →
      (0 ≤ x1 ∧ x1 < 6) ∧ (0 ≤ M 12 x1 ∧ M 12 x1 < 300) ∧ iR ((M 12 x1) + 1) ∧ (0 ≤ x1 ∧ x1 < 6) ∧ Q (mset (mset M 11 (300 * x1 + (M 12 x1)) x2) 12 x1 ((M 12 x1) + 1))) ∧
    (¬ (M 12 x1 ≤ 0) →
      (0 ≤ x1 ∧ x1 < 6) ∧ (0 ≤ (M 12 x1) - 1 ∧ (M 12 x1) - 1 < 300) ∧ wp_X4_countPair (M 11 (300 * x1 + ((M 12 x1) - 1))) x2 1 M (fun M1 =>
        (0 ≤ x1 ∧ x1 < 6) ∧ (0 ≤ M 12 x1 ∧ M 12 x1 < 300) ∧ iR ((M 12 x1) + 1) ∧ (0 ≤ x1 ∧ x1 < 6) ∧ Q (mset (mset M1 11 (300 * x1 + (M 12 x1)) x2) 12 x1 ((M 12 x1) + 1))))) ∧
  (¬ (M 12 x1 < 300) →
    Q M)
def bc_X4_write_L6 (x1 : Int) (x2 : Int) (Q : Mm → Prop) (R : Int → Mm → Prop) (x5 : Int) (M : Mm) : Prop :=
  (x5 < 0 →
    Q M) ∧
  (¬ (x5 < 0) →
    iR (a_and64 (a_ushr64 x2 (8 * x5)) 255) ∧ wp_X4_append x1 (a_and64 (a_ushr64 x2 (8 * x5)) 255) M (fun M1 =>
      iR (x5 + (-1)) ∧ R (x5 + (-1)) M1))
def wp_X4_write_L6 (x1 : Int) (x2 : Int) (Q : Mm → Prop) (x5 : Int) (M : Mm) : Prop := LP1 (bc_X4_write_L6 x1 x2 Q) x5 M
def wp_X4_write (x1 : Int) (x2 : Int) (x4 : Int) (M : Mm) (Q : Mm → Prop) : Prop :=
  iR (x4 - 1) ∧ wp_X4_write_L6 x1 x2 Q (x4 - 1) M
def wp_X7_feed (x1 : Int) (x2 : Int) (x4 : Int) (M : Mm) (Q : Int → Mm → Prop) : Prop :=
  wp_X7_isPage x1 M (fun z1 M1 =>
    (z1 = 0 →
      Q (-2) M1) ∧
    (¬ z1 = 0 →
      (x4 < 1 →
        Q (-2) M1) ∧
      (¬ (x4 < 1) →
        (x4 ≤ 8 →
          (0 ≤ x1 ∧ x1 < 6) ∧ iR ((M1 12 x1) + x4) ∧ ((M1 12 x1) + x4 ≤ 300 →
            wp_X1_forget M1 (fun M2 =>
              wp_X4_write x1 x2 x4 M2 (fun M3 =>
                (0 ≤ x1 ∧ x1 < 6) ∧ Q (M3 12 x1) M3))) ∧
          (¬ ((M1 12 x1) + x4 ≤ 300) →
            Q (-4) M1)) ∧
        (¬ (x4 ≤ 8) →
          Q (-2) M1))))
def bc_X8_feed_L64 (x1 : Int) (x2 : Int) (x4 : Int) (x5 : Int) (Q : Int → Mm → Prop) (K108 : Mm → Prop) (R : Int → Mm → Prop) (x6 : Int) (M : Mm) : Prop :=
  (x6 < 0 →
    K108 M) ∧
  (¬ (x6 < 0) →
    (0 ≤ ((((300 * x1) + x5) + x4) - 1) - x6 ∧ ((((300 * x1) + x5) + x4) - 1) - x6 < 1800) ∧ iR (x6 + (-1)) ∧ R (x6 + (-1)) (mset M 32 (((((300 * x1) + x5) + x4) - 1) - x6) (a_and32 (a_shr64 x2 (8 * x6)) 255)))
def wp_X8_feed_L64 (x1 : Int) (x2 : Int) (x4 : Int) (x5 : Int) (Q : Int → Mm → Prop) (K108 : Mm → Prop) (x6 : Int) (M : Mm) : Prop := LP1 (bc_X8_feed_L64 x1 x2 x4 x5 Q K108) x6 M
def wp_X8_feed (x1 : Int) (x2 : Int) (x4 : Int) (M : Mm) (Q : Int → Mm → Prop) : Prop :=
  wp_X8_in x1 0 5 M (fun z1 M1 =>
    (z1 = 0 →
      Q (-2) M1) ∧
    (¬ z1 = 0 →
      wp_X8_in x4 1 8 M1 (fun z2 M2 =>
        (¬ z2 = 0 →
          (0 ≤ x1 ∧ x1 < 6) ∧ (M2 30 x1 = 0 →
            iR (0 + x4) ∧ (0 + x4 ≤ 300 →
              iR (x4 - 1) ∧ wp_X8_feed_L64 x1 x2 x4 0 Q (fun M3 =>
                (0 ≤ x1 ∧ x1 < 6) ∧ iR (0 + x4) ∧ (0 ≤ x1 ∧ x1 < 6) ∧ wp_X8_counts (mset (mset (mset M3 30 x1 1) 31 x1 (0 + x4)) 8 12 0) (fun M4 =>
                  (0 ≤ x1 ∧ x1 < 6) ∧ Q (M4 31 x1) M4)) (x4 - 1) M2) ∧
            (¬ (0 + x4 ≤ 300) →
              Q (-4) M2)) ∧
          (¬ M2 30 x1 = 0 →
            (0 ≤ x1 ∧ x1 < 6) ∧ iR ((M2 31 x1) + x4) ∧ ((M2 31 x1) + x4 ≤ 300 →
              iR (x4 - 1) ∧ wp_X8_feed_L64 x1 x2 x4 (M2 31 x1) Q (fun M5 =>
                (0 ≤ x1 ∧ x1 < 6) ∧ iR ((M2 31 x1) + x4) ∧ (0 ≤ x1 ∧ x1 < 6) ∧ wp_X8_counts (mset (mset (mset M5 30 x1 1) 31 x1 ((M2 31 x1) + x4)) 8 12 0) (fun M6 =>
                  (0 ≤ x1 ∧ x1 < 6) ∧ Q (M6 31 x1) M6)) (x4 - 1) M2) ∧
            (¬ ((M2 31 x1) + x4 ≤ 300) →
              Q (-4) M2))) ∧
        (z2 = 0 →
          Q (-2) M2))))
def bc_X4_wipe_L2 (x1 : Int) (Q : Mm → Prop) (R : Int → Mm → Prop) (x2 : Int) (M : Mm) : Prop :=
  (0 ≤ x1 ∧ x1 < 6) ∧ (M 12 x1 ≤ x2 →
    (0 ≤ x1 ∧ x1 < 6) ∧ Q (mset M 12 x1 0)) ∧
  (¬ (M 12 x1 ≤ x2) →
    (0 ≤ x1 ∧ x1 < 6) ∧ (0 ≤ x2 - 1 ∧ x2 - 1 < 300) ∧ (0 ≤ x1 ∧ x1 < 6) ∧ (0 ≤ x2 ∧ x2 < 300) ∧ wp_X4_countPair (M 11 (300 * x1 + (x2 - 1))) (M 11 (300 * x1 + x2)) (-1) M (fun M1 =>
      iR (x2 + 1) ∧ R (x2 + 1) M1))
def wp_X4_wipe_L2 (x1 : Int) (Q : Mm → Prop) (x2 : Int) (M : Mm) : Prop := LP1 (bc_X4_wipe_L2 x1 Q) x2 M
def wp_X4_wipe (x1 : Int) (M : Mm) (Q : Mm → Prop) : Prop :=
  wp_X4_wipe_L2 x1 Q 1 M
def wp_X7_tear (x1 : Int) (M : Mm) (Q : Int → Mm → Prop) : Prop :=
  wp_X7_isPage x1 M (fun z1 M1 =>
    (¬ z1 = 0 →
      (0 ≤ x1 ∧ x1 < 6) ∧ (¬ M1 12 x1 = 0 →
        wp_X1_forget M1 (fun M2 =>
          wp_X4_wipe x1 M2 (fun M3 =>
            Q (M1 12 x1) M3))) ∧
      (M1 12 x1 = 0 →
        Q (-3) M1)) ∧
    (z1 = 0 →
      Q (-2) M1))
def wp_X8_tear (x1 : Int) (M : Mm) (Q : Int → Mm → Prop) : Prop :=
  wp_X8_in x1 0 5 M (fun z1 M1 =>
    (¬ z1 = 0 →
      (0 ≤ x1 ∧ x1 < 6) ∧ (¬ M1 30 x1 = 0 →
        (0 ≤ x1 ∧ x1 < 6) ∧ wp_X8_counts (mset (mset M1 30 x1 0) 8 12 0) (fun M2 =>
          (0 ≤ x1 ∧ x1 < 6) ∧ Q (M2 31 x1) M2)) ∧
      (M1 30 x1 = 0 →
        Q (-3) M1)) ∧
    (z1 = 0 →
      Q (-2) M1))
def wp_X3_has (x1 : Int) (M : Mm) (Q : Int → Mm → Prop) : Prop :=
  (x1 < 0 →
    Q 0 M) ∧
  (¬ (x1 < 0) →
    (M 1 0 ≤ x1 →
      Q 0 M) ∧
    (¬ (M 1 0 ≤ x1) →
      Q 1 M))
def wp_X7_often (x1 : Int) (x2 : Int) (M : Mm) (Q : Int → Mm → Prop) : Prop :=
  wp_X3_has x1 M (fun z1 M1 =>
    (z1 = 0 →
      Q (-2) M1) ∧
    (¬ z1 = 0 →
      wp_X3_has x2 M1 (fun z2 M2 =>
        (¬ z2 = 0 →
          (0 ≤ x1 ∧ x1 < 10) ∧ (0 ≤ x2 ∧ x2 < 10) ∧ Q (M2 13 (10 * x1 + x2)) M2) ∧
        (z2 = 0 →
          Q (-2) M2))))
def wp_X8_often (x1 : Int) (x2 : Int) (M : Mm) (Q : Int → Mm → Prop) : Prop :=
  wp_X8_isLetter x1 M (fun z1 M1 =>
    (z1 = 0 →
      Q (-2) M1) ∧
    (¬ z1 = 0 →
      wp_X8_isLetter x2 M1 (fun z2 M2 =>
        (z2 = 0 →
          Q (-2) M2) ∧
        (¬ z2 = 0 →
          (0 ≤ (10 * x1) + x2 ∧ (10 * x1) + x2 < 100) ∧ Q (M2 33 ((10 * x1) + x2)) M2))))
def wp_X2_reckonCost (x1 : Int) (x2 : Int) (M : Mm) (Q : Int → Mm → Prop) : Prop :=
  (0 ≤ x1 ∧ x1 < 12) ∧ (0 ≤ x2 ∧ x2 < 12) ∧ (0 ≤ x2 ∧ x2 < 12) ∧ (M 14 x2 = 1 →
    Q (a_div32 (M 16 (12 * x1 + x2)) 2) M) ∧
  (M 14 x2 = 2 →
    (0 ≤ x2 ∧ x2 < 12) ∧ iR ((M 16 (12 * x1 + x2)) + (M 15 x2)) ∧ Q ((M 16 (12 * x1 + x2)) + (M 15 x2)) M) ∧
  (M 14 x2 = 3 →
    (0 ≤ x2 ∧ x2 < 12) ∧ iR (2 * ((M 16 (12 * x1 + x2)) + (M 15 x2))) ∧ Q (2 * ((M 16 (12 * x1 + x2)) + (M 15 x2))) M) ∧
  ((M 14 x2 < 1 ∨ 3 < M 14 x2) →
    Q (M 16 (12 * x1 + x2)) M)
def bc_X2_append_L32 (x3 : Int) (Q : Int → Mm → Prop) (R : Int → Mm → Prop) (x4 : Int) (M : Mm) : Prop :=
  (M 3 0 ≤ x4 →
    Q x3 M) ∧
  (¬ (M 3 0 ≤ x4) →
    (0 ≤ x3 ∧ x3 < 12) ∧ wp_X2_reckonCost x3 x4 M (fun z1 M1 =>
      (0 ≤ x4 ∧ x4 < 12) ∧ (0 ≤ x4 ∧ x4 < 12) ∧ wp_X2_reckonCost x4 x3 (mset M1 17 (12 * x3 + x4) z1) (fun z2 M2 =>
        (0 ≤ x3 ∧ x3 < 12) ∧ iR (x4 + 1) ∧ R (x4 + 1) (mset M2 17 (12 * x4 + x3) z2))))
def wp_X2_append_L32 (x3 : Int) (Q : Int → Mm → Prop) (x4 : Int) (M : Mm) : Prop := LP1 (bc_X2_append_L32 x3 Q) x4 M
def wp_X2_append (x1 : Int) (x2 : Int) (M : Mm) (Q : Int → Mm → Prop) : Prop :=
  (0 ≤ M 3 0 ∧ M 3 0 < 12) ∧ (0 ≤ M 3 0 ∧ M 3 0 < 12) ∧ iR (((mset (mset M 14 (M 3 0) x1) 15 (M 3 0) x2) 3 0) + 1) ∧ wp_X2_append_L32 (M 3 0) Q 0 (mset (mset (mset M 14 (M 3 0) x1) 15 (M 3 0) x2) 3 0 (((mset (mset M 14 (M 3 0) x1) 15 (M 3 0) x2) 3 0) + 1))
def wp_X7_key (x1 : Int) (x2 : Int) (M : Mm) (Q : Int → Mm → Prop) : Prop :=
  (x1 < 0 →
    Q (-2) M) ∧
  (¬ (x1 < 0) →
    (3 < x1 →
      Q (-2) M) ∧
    (¬ (3 < x1) →
      (x2 < 0 →
        Q (-2) M) ∧
      (¬ (x2 < 0) →
        (x2 ≤ 1000 →
          (M 3 0 < 12 →
            wp_X1_forget M (fun M1 =>
              wp_X2_append x1 x2 M1 (fun z1 M2 =>
                Q z1 M2))) ∧
          (¬ (M 3 0 < 12) →
            Q (-4) M)) ∧
        (¬ (x2 ≤ 1000) →
          Q (-2) M))))
def wp_X8_key (x1 : Int) (x2 : Int) (M : Mm) (Q : Int → Mm → Prop) : Prop :=
  wp_X8_in x1 0 3 M (fun z1 M1 =>
    (z1 = 0 →
      Q (-2) M1) ∧
    (¬ z1 = 0 →
      wp_X8_in x2 0 1000 M1 (fun z2 M2 =>
        (¬ z2 = 0 →
          (¬ M2 8 5 = 12 →
            (0 ≤ M2 8 5 ∧ M2 8 5 < 12) ∧ (0 ≤ (mset M2 34 (M2 8 5) x1) 8 5 ∧ (mset M2 34 (M2 8 5) x1) 8 5 < 12) ∧ iR (((mset (mset M2 34 (M2 8 5) x1) 35 ((mset M2 34 (M2 8 5) x1) 8 5) x2) 8 5) + 1) ∧ iR (((mset (mset (mset (mset M2 34 (M2 8 5) x1) 35 ((mset M2 34 (M2 8 5) x1) 8 5) x2) 8 5 (((mset (mset M2 34 (M2 8 5) x1) 35 ((mset M2 34 (M2 8 5) x1) 8 5) x2) 8 5) + 1)) 8 12 0) 8 5) - 1) ∧ Q (((mset (mset (mset (mset M2 34 (M2 8 5) x1) 35 ((mset M2 34 (M2 8 5) x1) 8 5) x2) 8 5 (((mset (mset M2 34 (M2 8 5) x1) 35 ((mset M2 34 (M2 8 5) x1) 8 5) x2) 8 5) + 1)) 8 12 0) 8 5) - 1) (mset (mset (mset (mset M2 34 (M2 8 5) x1) 35 ((mset M2 34 (M2 8 5) x1) 8 5) x2) 8 5 (((mset (mset M2 34 (M2 8 5) x1) 35 ((mset M2 34 (M2 8 5) x1) 8 5) x2) 8 5) + 1)) 8 12 0)) ∧
          (M2 8 5 = 12 →
            Q (-4) M2)) ∧
        (z2 = 0 →
          Q (-2) M2))))
def wp_X2_has (x1 : Int) (M : Mm) (Q : Int → Mm → Prop) : Prop :=
  (x1 < 0 →
    Q 0 M) ∧
  (¬ (x1 < 0) →
    (M 3 0 ≤ x1 →
      Q 0 M) ∧
    (¬ (M 3 0 ≤ x1) →
      Q 1 M))
def wp_X2_setGoing (x1 : Int) (x2 : Int) (x3 : Int) (M : Mm) (Q : Int → Mm → Prop) : Prop :=
  (0 ≤ x1 ∧ x1 < 12) ∧ (0 ≤ x2 ∧ x2 < 12) ∧ (0 ≤ x1 ∧ x1 < 12) ∧ (0 ≤ x2 ∧ x2 < 12) ∧ (0 ≤ x1 ∧ x1 < 12) ∧ wp_X2_reckonCost x1 x2 (mset M 16 (12 * x1 + x2) x3) (fun z1 M1 =>
    (0 ≤ x2 ∧ x2 < 12) ∧ Q (M 16 (12 * x1 + x2)) (mset M1 17 (12 * x1 + x2) z1))
def wp_X7_go (x1 : Int) (x2 : Int) (x3 : Int) (M : Mm) (Q : Int → Mm → Prop) : Prop :=
  wp_X2_has x1 M (fun z1 M1 =>
    (z1 = 0 →
      Q (-2) M1) ∧
    (¬ z1 = 0 →
      wp_X2_has x2 M1 (fun z2 M2 =>
        (z2 = 0 →
          Q (-2) M2) ∧
        (¬ z2 = 0 →
          (x3 < 0 →
            Q (-2) M2) ∧
          (¬ (x3 < 0) →
            (x3 ≤ 1000 →
              wp_X1_forget M2 (fun M3 =>
                wp_X2_setGoing x1 x2 x3 M3 (fun z3 M4 =>
                  Q z3 M4))) ∧
            (¬ (x3 ≤ 1000) →
              Q (-2) M2))))))
def wp_X8_isKey (x1 : Int) (M : Mm) (Q : Int → Mm → Prop) : Prop :=
  iR ((M 8 5) - 1) ∧ wp_X8_in x1 0 ((M 8 5) - 1) M (fun z1 M1 =>
    Q z1 M1)
def wp_X8_go (x1 : Int) (x2 : Int) (x3 : Int) (M : Mm) (Q : Int → Mm → Prop) : Prop :=
  wp_X8_isKey x1 M (fun z1 M1 =>
    (z1 = 0 →
      Q (-2) M1) ∧
    (¬ z1 = 0 →
      wp_X8_isKey x2 M1 (fun z2 M2 =>
        (z2 = 0 →
          Q (-2) M2) ∧
        (¬ z2 = 0 →
          wp_X8_in x3 0 1000 M2 (fun z3 M3 =>
            (¬ z3 = 0 →
              (0 ≤ (12 * x1) + x2 ∧ (12 * x1) + x2 < 144) ∧ (0 ≤ (12 * x1) + x2 ∧ (12 * x1) + x2 < 144) ∧ Q (M3 36 ((12 * x1) + x2)) (mset (mset M3 36 ((12 * x1) + x2) x3) 8 12 0)) ∧
            (z3 = 0 →
              Q (-2) M3))))))
def wp_X2_writeBody (x1 : Int) (M : Mm) (Q : Mm → Prop) : Prop :=
  (3 ≤ M 3 6 →
    Q M) ∧
  (¬ (3 ≤ M 3 6) →
    (0 ≤ M 3 6 ∧ M 3 6 < 3) ∧ iR (((mset M 18 (M 3 6) x1) 3 6) + 1) ∧ Q (mset (mset M 18 (M 3 6) x1) 3 6 (((mset M 18 (M 3 6) x1) 3 6) + 1)))
def wp_X2_writeBodies (x1 : Int) (M : Mm) (Q : Mm → Prop) : Prop :=
  (0 ≤ x1 ∧ x1 < 12) ∧ (¬ (mset M 3 6 0) 14 x1 = 1 →
    (¬ (mset M 3 6 0) 14 x1 = 3 →
      ((mset M 3 6 0) 14 x1 = 3 →
        wp_X2_writeBody 3 (mset M 3 6 0) (fun M1 =>
          wp_X2_writeBody 1 M1 (fun M2 =>
            Q M2))) ∧
      (¬ (mset M 3 6 0) 14 x1 = 3 →
        (¬ (mset M 3 6 0) 14 x1 = 2 →
          wp_X2_writeBody 1 (mset M 3 6 0) (fun M3 =>
            Q M3)) ∧
        ((mset M 3 6 0) 14 x1 = 2 →
          wp_X2_writeBody 3 (mset M 3 6 0) (fun M4 =>
            wp_X2_writeBody 1 M4 (fun M5 =>
              Q M5))))) ∧
    ((mset M 3 6 0) 14 x1 = 3 →
      wp_X2_writeBody 4 (mset M 3 6 0) (fun M6 =>
        ((mset M 3 6 0) 14 x1 = 3 →
          wp_X2_writeBody 3 M6 (fun M7 =>
            wp_X2_writeBody 1 M7 (fun M8 =>
              Q M8))) ∧
        (¬ (mset M 3 6 0) 14 x1 = 3 →
          (¬ (mset M 3 6 0) 14 x1 = 2 →
            wp_X2_writeBody 1 M6 (fun M9 =>
              Q M9)) ∧
          ((mset M 3 6 0) 14 x1 = 2 →
            wp_X2_writeBody 3 M6 (fun M10 =>
              wp_X2_writeBody 1 M10 (fun M11 =>
                Q M11))))))) ∧
  ((mset M 3 6 0) 14 x1 = 1 →
    wp_X2_writeBody 2 (mset M 3 6 0) (fun M12 =>
      (¬ (mset M 3 6 0) 14 x1 = 3 →
        ((mset M 3 6 0) 14 x1 = 3 →
          wp_X2_writeBody 3 M12 (fun M13 =>
            wp_X2_writeBody 1 M13 (fun M14 =>
              Q M14))) ∧
        (¬ (mset M 3 6 0) 14 x1 = 3 →
          (¬ (mset M 3 6 0) 14 x1 = 2 →
            wp_X2_writeBody 1 M12 (fun M15 =>
              Q M15)) ∧
          ((mset M 3 6 0) 14 x1 = 2 →
            wp_X2_writeBody 3 M12 (fun M16 =>
              wp_X2_writeBody 1 M16 (fun M17 =>
                Q M17))))) ∧
      ((mset M 3 6 0) 14 x1 = 3 →
        wp_X2_writeBody 4 M12 (fun M18 =>
          ((mset M 3 6 0) 14 x1 = 3 →
            wp_X2_writeBody 3 M18 (fun M19 =>
              wp_X2_writeBody 1 M19 (fun M20 =>
                Q M20))) ∧
          (¬ (mset M 3 6 0) 14 x1 = 3 →
            (¬ (mset M 3 6 0) 14 x1 = 2 →
              wp_X2_writeBody 1 M18 (fun M21 =>
                Q M21)) ∧
            ((mset M 3 6 0) 14 x1 = 2 →
              wp_X2_writeBody 3 M18 (fun M22 =>
                wp_X2_writeBody 1 M22 (fun M23 =>
                  Q M23))))))))
def wp_X7_cost (x1 : Int) (x2 : Int) (M : Mm) (Q : Int → Mm → Prop) : Prop :=
  wp_X2_has x1 M (fun z1 M1 =>
    (z1 = 0 →
      Q (-2) M1) ∧
    (¬ z1 = 0 →
      wp_X2_has x2 M1 (fun z2 M2 =>
        (¬ z2 = 0 →
          wp_X2_writeBodies x2 M2 (fun M3 =>
            (0 ≤ x1 ∧ x1 < 12) ∧ (0 ≤ x2 ∧ x2 < 12) ∧ Q (M3 17 (12 * x1 + x2)) M3)) ∧
        (z2 = 0 →
          Q (-2) M2))))
def wp_X8_costOf (x1 : Int) (x2 : Int) (M : Mm) (Q : Int → Mm → Prop) : Prop :=
  (0 ≤ (12 * x1) + x2 ∧ (12 * x1) + x2 < 144) ∧ (0 ≤ x2 ∧ x2 < 12) ∧ (M 34 x2 = 0 →
    Q (M 36 ((12 * x1) + x2)) M) ∧
  (M 34 x2 = 1 →
    Q (a_div32 (M 36 ((12 * x1) + x2)) 2) M) ∧
  (M 34 x2 = 2 →
    (0 ≤ x2 ∧ x2 < 12) ∧ iR ((M 36 ((12 * x1) + x2)) + (M 35 x2)) ∧ Q ((M 36 ((12 * x1) + x2)) + (M 35 x2)) M) ∧
  ((M 34 x2 < 0 ∨ 2 < M 34 x2) →
    (0 ≤ x2 ∧ x2 < 12) ∧ iR (2 * ((M 36 ((12 * x1) + x2)) + (M 35 x2))) ∧ Q (2 * ((M 36 ((12 * x1) + x2)) + (M 35 x2))) M)
def wp_X8_cost (x1 : Int) (x2 : Int) (M : Mm) (Q : Int → Mm → Prop) : Prop :=
  wp_X8_isKey x1 M (fun z1 M1 =>
    (z1 = 0 →
      Q (-2) M1) ∧
    (¬ z1 = 0 →
      wp_X8_isKey x2 M1 (fun z2 M2 =>
        (¬ z2 = 0 →
          (0 ≤ x2 ∧ x2 < 12) ∧ (¬ (mset M2 8 16 0) 34 x2 = 3 →
            (0 ≤ x2 ∧ x2 < 12) ∧ ((mset M2 8 16 0) 34 x2 ≤ 0 →
              (0 ≤ (mset M2 8 16 0) 8 16 ∧ (mset M2 8 16 0) 8 16 < 3) ∧ iR (((mset (mset M2 8 16 0) 40 ((mset M2 8 16 0) 8 16) 1) 8 16) + 1) ∧ wp_X8_costOf x1 x2 (mset (mset (mset M2 8 16 0) 40 ((mset M2 8 16 0) 8 16) 1) 8 16 (((mset (mset M2 8 16 0) 40 ((mset M2 8 16 0) 8 16) 1) 8 16) + 1)) (fun z3 M3 =>
                Q z3 M3)) ∧
            (¬ ((mset M2 8 16 0) 34 x2 ≤ 0) →
              (0 ≤ x2 ∧ x2 < 12) ∧ iR (((mset M2 8 16 0) 34 x2) + 1) ∧ (0 ≤ (mset (mset (mset M2 8 16 0) 40 0 (((mset M2 8 16 0) 34 x2) + 1)) 8 16 1) 8 16 ∧ (mset (mset (mset M2 8 16 0) 40 0 (((mset M2 8 16 0) 34 x2) + 1)) 8 16 1) 8 16 < 3) ∧ iR (((mset (mset (mset (mset M2 8 16 0) 40 0 (((mset M2 8 16 0) 34 x2) + 1)) 8 16 1) 40 ((mset (mset (mset M2 8 16 0) 40 0 (((mset M2 8 16 0) 34 x2) + 1)) 8 16 1) 8 16) 1) 8 16) + 1) ∧ wp_X8_costOf x1 x2 (mset (mset (mset (mset (mset M2 8 16 0) 40 0 (((mset M2 8 16 0) 34 x2) + 1)) 8 16 1) 40 ((mset (mset (mset M2 8 16 0) 40 0 (((mset M2 8 16 0) 34 x2) + 1)) 8 16 1) 8 16) 1) 8 16 (((mset (mset (mset (mset M2 8 16 0) 40 0 (((mset M2 8 16 0) 34 x2) + 1)) 8 16 1) 40 ((mset (mset (mset M2 8 16 0) 40 0 (((mset M2 8 16 0) 34 x2) + 1)) 8 16 1) 8 16) 1) 8 16) + 1)) (fun z4 M4 =>
                Q z4 M4))) ∧
          ((mset M2 8 16 0) 34 x2 = 3 →
            (0 ≤ (mset (mset (mset (mset M2 8 16 0) 40 0 4) 40 1 3) 8 16 2) 8 16 ∧ (mset (mset (mset (mset M2 8 16 0) 40 0 4) 40 1 3) 8 16 2) 8 16 < 3) ∧ iR (((mset (mset (mset (mset (mset M2 8 16 0) 40 0 4) 40 1 3) 8 16 2) 40 ((mset (mset (mset (mset M2 8 16 0) 40 0 4) 40 1 3) 8 16 2) 8 16) 1) 8 16) + 1) ∧ wp_X8_costOf x1 x2 (mset (mset (mset (mset (mset (mset M2 8 16 0) 40 0 4) 40 1 3) 8 16 2) 40 ((mset (mset (mset (mset M2 8 16 0) 40 0 4) 40 1 3) 8 16 2) 8 16) 1) 8 16 (((mset (mset (mset (mset (mset M2 8 16 0) 40 0 4) 40 1 3) 8 16 2) 40 ((mset (mset (mset (mset M2 8 16 0) 40 0 4) 40 1 3) 8 16 2) 8 16) 1) 8 16) + 1)) (fun z5 M5 =>
              Q z5 M5))) ∧
        (z2 = 0 →
          Q (-2) M2))))
def wp_X7_body (x1 : Int) (M : Mm) (Q : Int → Mm → Prop) : Prop :=
  (x1 < 0 →
    Q (-1) M) ∧
  (¬ (x1 < 0) →
    (x1 < M 3 6 →
      (0 ≤ x1 ∧ x1 < 3) ∧ Q (M 18 x1) M) ∧
    (¬ (x1 < M 3 6) →
      Q (-1) M))
def wp_X8_body (x1 : Int) (M : Mm) (Q : Int → Mm → Prop) : Prop :=
  iR ((M 8 16) - 1) ∧ wp_X8_in x1 0 ((M 8 16) - 1) M (fun z1 M1 =>
    (z1 = 0 →
      Q (-1) M1) ∧
    (¬ z1 = 0 →
      (0 ≤ x1 ∧ x1 < 3) ∧ Q (M1 40 x1) M1))
def wp_X3_fixOn (x1 : Int) (x2 : Int) (M : Mm) (Q : Int → Mm → Prop) : Prop :=
  (0 ≤ x1 ∧ x1 < 10) ∧ (M 9 x1 = (-1) →
    (0 ≤ x1 ∧ x1 < 10) ∧ (x2 = (-1) →
      Q (M 9 x1) (mset M 9 x1 x2)) ∧
    (¬ x2 = (-1) →
      (0 ≤ x2 ∧ x2 < 12) ∧ Q (M 9 x1) (mset (mset M 9 x1 x2) 10 x2 x1))) ∧
  (¬ M 9 x1 = (-1) →
    (0 ≤ M 9 x1 ∧ M 9 x1 < 12) ∧ (0 ≤ x1 ∧ x1 < 10) ∧ (x2 = (-1) →
      Q (M 9 x1) (mset (mset M 10 (M 9 x1) (-1)) 9 x1 x2)) ∧
    (¬ x2 = (-1) →
      (0 ≤ x2 ∧ x2 < 12) ∧ Q (M 9 x1) (mset (mset (mset M 10 (M 9 x1) (-1)) 9 x1 x2) 10 x2 x1)))
def wp_X3_isFixedByOther (x1 : Int) (x2 : Int) (M : Mm) (Q : Int → Mm → Prop) : Prop :=
  (0 ≤ x2 ∧ x2 < 12) ∧ (M 10 x2 = (-1) →
    Q 0 M) ∧
  (¬ M 10 x2 = (-1) →
    (0 ≤ x2 ∧ x2 < 12) ∧ (M 10 x2 = x1 →
      Q 0 M) ∧
    (¬ M 10 x2 = x1 →
      Q 1 M))
def wp_X7_fix (x1 : Int) (x2 : Int) (M : Mm) (Q : Int → Mm → Prop) : Prop :=
  wp_X3_has x1 M (fun z1 M1 =>
    (z1 = 0 →
      Q (-2) M1) ∧
    (¬ z1 = 0 →
      (x2 = (-1) →
        (x2 = (-1) →
          wp_X1_forget (mset M1 4 4 0) (fun M2 =>
            wp_X3_fixOn x1 x2 M2 (fun z2 M3 =>
              Q z2 M3))) ∧
        (¬ x2 = (-1) →
          wp_X3_isFixedByOther x1 x2 M1 (fun z3 M4 =>
            (z3 = 0 →
              wp_X1_forget (mset M4 4 4 0) (fun M5 =>
                wp_X3_fixOn x1 x2 M5 (fun z4 M6 =>
                  Q z4 M6))) ∧
            (¬ z3 = 0 →
              Q (-3) M4)))) ∧
      (¬ x2 = (-1) →
        wp_X2_has x2 M1 (fun z5 M7 =>
          (¬ z5 = 0 →
            (x2 = (-1) →
              wp_X1_forget (mset M7 4 4 0) (fun M8 =>
                wp_X3_fixOn x1 x2 M8 (fun z6 M9 =>
                  Q z6 M9))) ∧
            (¬ x2 = (-1) →
              wp_X3_isFixedByOther x1 x2 M7 (fun z7 M10 =>
                (z7 = 0 →
                  wp_X1_forget (mset M10 4 4 0) (fun M11 =>
                    wp_X3_fixOn x1 x2 M11 (fun z8 M12 =>
                      Q z8 M12))) ∧
                (¬ z7 = 0 →
                  Q (-3) M10)))) ∧
          (z5 = 0 →
            Q (-2) M7)))))
def bc_X8_fix_L26 (x1 : Int) (x2 : Int) (Q : Int → Mm → Prop) (K63 : Mm → Prop) (R : Int → Mm → Prop) (x3 : Int) (M : Mm) : Prop :=
  (M 8 0 ≤ x3 →
    K63 M) ∧
  (¬ (M 8 0 ≤ x3) →
    (x3 = x1 →
      iR (x3 + 1) ∧ R (x3 + 1) M) ∧
    (¬ x3 = x1 →
      (x2 = (-1) →
        iR (x3 + 1) ∧ R (x3 + 1) M) ∧
      (¬ x2 = (-1) →
        (0 ≤ x3 ∧ x3 < 10) ∧ (¬ M 37 x3 = x2 →
          iR (x3 + 1) ∧ R (x3 + 1) M) ∧
        (M 37 x3 = x2 →
          Q (-3) M))))
def wp_X8_fix_L26 (x1 : Int) (x2 : Int) (Q : Int → Mm → Prop) (K63 : Mm → Prop) (x3 : Int) (M : Mm) : Prop := LP1 (bc_X8_fix_L26 x1 x2 Q K63) x3 M
def wp_X8_fix (x1 : Int) (x2 : Int) (M : Mm) (Q : Int → Mm → Prop) : Prop :=
  wp_X8_isLetter x1 M (fun z1 M1 =>
    (z1 = 0 →
      Q (-2) M1) ∧
    (¬ z1 = 0 →
      (x2 = (-1) →
        wp_X8_fix_L26 x1 x2 Q (fun M2 =>
          (0 ≤ x1 ∧ x1 < 10) ∧ (0 ≤ x1 ∧ x1 < 10) ∧ Q (M2 37 x1) (mset (mset (mset M2 37 x1 x2) 8 10 0) 8 12 0)) 0 M1) ∧
      (¬ x2 = (-1) →
        wp_X8_isKey x2 M1 (fun z2 M3 =>
          (¬ z2 = 0 →
            wp_X8_fix_L26 x1 x2 Q (fun M4 =>
              (0 ≤ x1 ∧ x1 < 10) ∧ (0 ≤ x1 ∧ x1 < 10) ∧ Q (M4 37 x1) (mset (mset (mset M4 37 x1 x2) 8 10 0) 8 12 0)) 0 M3) ∧
          (z2 = 0 →
            Q (-2) M3)))))
def wp_X7_tooFewKeys (M : Mm) (Q : Int → Mm → Prop) : Prop :=
  (M 1 0 ≤ M 3 0 →
    Q 0 M) ∧
  (¬ (M 1 0 ≤ M 3 0) →
    Q 1 M)
def wp_X3_isFixed (x1 : Int) (M : Mm) (Q : Int → Mm → Prop) : Prop :=
  (0 ≤ x1 ∧ x1 < 10) ∧ (M 9 x1 = (-1) →
    Q 0 M) ∧
  (¬ M 9 x1 = (-1) →
    Q 1 M)
def bc_X5_unfixedFrom_L2 (Q : Int → Mm → Prop) (R : Int → Mm → Prop) (x2 : Int) (M : Mm) : Prop :=
  iR ((M 3 0) - 1) ∧ ((M 3 0) - 1 ≤ x2 →
    Q x2 M) ∧
  (¬ ((M 3 0) - 1 ≤ x2) →
    (0 ≤ x2 ∧ x2 < 12) ∧ (M 10 x2 = (-1) →
      Q x2 M) ∧
    (¬ M 10 x2 = (-1) →
      iR (x2 + 1) ∧ R (x2 + 1) M))
def wp_X5_unfixedFrom_L2 (Q : Int → Mm → Prop) (x2 : Int) (M : Mm) : Prop := LP1 (bc_X5_unfixedFrom_L2 Q) x2 M
def wp_X5_unfixedFrom (x1 : Int) (M : Mm) (Q : Int → Mm → Prop) : Prop :=
  wp_X5_unfixedFrom_L2 Q x1 M
def bc_X5_becomeFirst_L4 (Q : Mm → Prop) (R : Int → Int → Mm → Prop) (x1 : Int) (x2 : Int) (M : Mm) : Prop :=
  (M 1 0 ≤ x2 →
    Q (mset M 4 4 1)) ∧
  (¬ (M 1 0 ≤ x2) →
    wp_X3_isFixed x2 M (fun z1 M1 =>
      (z1 = 0 →
        wp_X5_unfixedFrom x1 M1 (fun z2 M2 =>
          (0 ≤ x2 ∧ x2 < 10) ∧ iR (z2 + 1) ∧ iR (x2 + 1) ∧ R (z2 + 1) (x2 + 1) (mset M2 19 x2 z2))) ∧
      (¬ z1 = 0 →
        (0 ≤ x2 ∧ x2 < 10) ∧ (0 ≤ x2 ∧ x2 < 10) ∧ iR (x2 + 1) ∧ R x1 (x2 + 1) (mset M1 19 x2 (M1 9 x2)))))
def wp_X5_becomeFirst_L4 (Q : Mm → Prop) (x1 : Int) (x2 : Int) (M : Mm) : Prop := LP2 (bc_X5_becomeFirst_L4 Q) x1 x2 M
def wp_X5_becomeFirst (M : Mm) (Q : Mm → Prop) : Prop :=
  wp_X5_becomeFirst_L4 Q 0 0 M
def wp_X7_first (M : Mm) (Q : Int → Mm → Prop) : Prop :=
  wp_X7_tooFewKeys M (fun z1 M1 =>
    (z1 = 0 →
      wp_X5_becomeFirst M1 (fun M2 =>
        Q 1 M2)) ∧
    (¬ z1 = 0 →
      Q (-3) M1))
def bc_X8_mayBear_c38_L29 (x2 : Int) (x4 : Int) (Q : Int → Mm → Prop) (R : Int → Mm → Prop) (x5 : Int) (M : Mm) : Prop :=
  (M 8 0 ≤ x5 →
    Q 1 M) ∧
  (¬ (M 8 0 ≤ x5) →
    (0 ≤ x5 ∧ x5 < 10) ∧ (M 37 x5 = x2 →
      Q 0 M) ∧
    (¬ M 37 x5 = x2 →
      (x4 ≤ x5 →
        iR (x5 + 1) ∧ R (x5 + 1) M) ∧
      (¬ (x4 ≤ x5) →
        (0 ≤ x5 ∧ x5 < 10) ∧ (¬ M 38 x5 = x2 →
          iR (x5 + 1) ∧ R (x5 + 1) M) ∧
        (M 38 x5 = x2 →
          Q 0 M))))
def wp_X8_mayBear_c38_L29 (x2 : Int) (x4 : Int) (Q : Int → Mm → Prop) (x5 : Int) (M : Mm) : Prop := LP1 (bc_X8_mayBear_c38_L29 x2 x4 Q) x5 M
def wp_X8_mayBear_c38 (x1 : Int) (x2 : Int) (x4 : Int) (M : Mm) (Q : Int → Mm → Prop) : Prop :=
  (0 ≤ x1 ∧ x1 < 10) ∧ (M 37 x1 = (-1) →
    wp_X8_mayBear_c38_L29 x2 x4 Q 0 M) ∧
  (¬ M 37 x1 = (-1) →
    (0 ≤ x1 ∧ x1 < 10) ∧ (¬ M 37 x1 = x2 →
      Q 0 M) ∧
    (M 37 x1 = x2 →
      Q 1 M))
def bc_X8_first_L26 (x1 : Int) (Q : Int → Mm → Prop) (K46 : Int → Mm → Prop) (R : Int → Mm → Prop) (x2 : Int) (M : Mm) : Prop :=
  wp_X8_mayBear_c38 x1 x2 x1 M (fun z1 M1 =>
    (¬ z1 = 0 →
      K46 x2 M1) ∧
    (z1 = 0 →
      iR (x2 + 1) ∧ R (x2 + 1) M1))
def wp_X8_first_L26 (x1 : Int) (Q : Int → Mm → Prop) (K46 : Int → Mm → Prop) (x2 : Int) (M : Mm) : Prop := LP1 (bc_X8_first_L26 x1 Q K46) x2 M
def bc_X8_first_L16 (Q : Int → Mm → Prop) (R : Int → Mm → Prop) (x1 : Int) (M : Mm) : Prop :=
  (M 8 0 ≤ x1 →
    Q 1 (mset M 8 10 1)) ∧
  (¬ (M 8 0 ≤ x1) →
    wp_X8_first_L26 x1 Q (fun y2_1 M1 =>
      (0 ≤ x1 ∧ x1 < 10) ∧ iR (x1 + 1) ∧ R (x1 + 1) (mset M1 38 x1 y2_1)) 0 M)
def wp_X8_first_L16 (Q : Int → Mm → Prop) (x1 : Int) (M : Mm) : Prop := LP1 (bc_X8_first_L16 Q) x1 M
def wp_X8_first (M : Mm) (Q : Int → Mm → Prop) : Prop :=
  (M 8 0 ≤ M 8 5 →
    wp_X8_first_L16 Q 0 M) ∧
  (¬ (M 8 0 ≤ M 8 5) →
    Q (-3) M)
def bc_X5_letterOn_L2 (x1 : Int) (Q : Int → Mm → Prop) (R : Int → Mm → Prop) (x2 : Int) (M : Mm) : Prop :=
  (M 1 0 ≤ x2 →
    Q (-1) M) ∧
  (¬ (M 1 0 ≤ x2) →
    (0 ≤ x2 ∧ x2 < 10) ∧ (¬ M 19 x2 = x1 →
      iR (x2 + 1) ∧ R (x2 + 1) M) ∧
    (M 19 x2 = x1 →
      Q x2 M))
def wp_X5_letterOn_L2 (x1 : Int) (Q : Int → Mm → Prop) (x2 : Int) (M : Mm) : Prop := LP1 (bc_X5_letterOn_L2 x1 Q) x2 M
def wp_X5_letterOn (x1 : Int) (M : Mm) (Q : Int → Mm → Prop) : Prop :=
  wp_X5_letterOn_L2 x1 Q 0 M
def wp_X5_move (x1 : Int) (x2 : Int) (M : Mm) (Q : Mm → Prop) : Prop :=
  wp_X5_letterOn x2 M (fun z1 M1 =>
    (z1 = (-1) →
      (0 ≤ x1 ∧ x1 < 10) ∧ Q (mset M1 19 x1 x2)) ∧
    (¬ z1 = (-1) →
      (0 ≤ x1 ∧ x1 < 10) ∧ (0 ≤ z1 ∧ z1 < 10) ∧ (0 ≤ x1 ∧ x1 < 10) ∧ Q (mset (mset M1 19 z1 (M1 19 x1)) 19 x1 x2)))
def wp_X7_put (x1 : Int) (x2 : Int) (M : Mm) (Q : Int → Mm → Prop) : Prop :=
  wp_X3_has x1 M (fun z1 M1 =>
    (z1 = 0 →
      Q (-2) M1) ∧
    (¬ z1 = 0 →
      wp_X2_has x2 M1 (fun z2 M2 =>
        (¬ z2 = 0 →
          (M2 4 4 = 0 →
            Q (-3) M2) ∧
          (¬ M2 4 4 = 0 →
            wp_X3_isFixed x1 M2 (fun z3 M3 =>
              (¬ z3 = 0 →
                Q (-3) M3) ∧
              (z3 = 0 →
                (0 ≤ x2 ∧ x2 < 12) ∧ (M3 10 x2 = (-1) →
                  wp_X5_move x1 x2 M3 (fun M4 =>
                    Q 1 M4)) ∧
                (¬ M3 10 x2 = (-1) →
                  Q (-3) M3))))) ∧
        (z2 = 0 →
          Q (-2) M2))))
def bc_X8_borne_L2 (x1 : Int) (Q : Int → Mm → Prop) (R : Int → Mm → Prop) (x2 : Int) (M : Mm) : Prop :=
  (M 8 0 ≤ x2 →
    Q (-1) M) ∧
  (¬ (M 8 0 ≤ x2) →
    (0 ≤ x2 ∧ x2 < 10) ∧ (¬ M 38 x2 = x1 →
      iR (x2 + 1) ∧ R (x2 + 1) M) ∧
    (M 38 x2 = x1 →
      Q x2 M))
def wp_X8_borne_L2 (x1 : Int) (Q : Int → Mm → Prop) (x2 : Int) (M : Mm) : Prop := LP1 (bc_X8_borne_L2 x1 Q) x2 M
def wp_X8_borne (x1 : Int) (M : Mm) (Q : Int → Mm → Prop) : Prop :=
  wp_X8_borne_L2 x1 Q 0 M
def wp_X8_put (x1 : Int) (x2 : Int) (M : Mm) (Q : Int → Mm → Prop) : Prop :=
  wp_X8_isLetter x1 M (fun z1 M1 =>
    (z1 = 0 →
      Q (-2) M1) ∧
    (¬ z1 = 0 →
      wp_X8_isKey x2 M1 (fun z2 M2 =>
        (¬ z2 = 0 →
          (¬ M2 8 10 = 0 →
            wp_X8_borne x2 M2 (fun z3 M3 =>
              (0 ≤ x1 ∧ x1 < 10) ∧ (¬ M3 37 x1 = (-1) →
                Q (-3) M3) ∧
              (M3 37 x1 = (-1) →
                (z3 = (-1) →
                  (z3 = (-1) →
                    (0 ≤ x1 ∧ x1 < 10) ∧ Q 1 (mset M3 38 x1 x2)) ∧
                  (¬ z3 = (-1) →
                    (0 ≤ x1 ∧ x1 < 10) ∧ (0 ≤ z3 ∧ z3 < 10) ∧ (0 ≤ x1 ∧ x1 < 10) ∧ Q 1 (mset (mset M3 38 z3 (M3 38 x1)) 38 x1 x2))) ∧
                (¬ z3 = (-1) →
                  (0 ≤ z3 ∧ z3 < 10) ∧ (M3 37 z3 = (-1) →
                    (z3 = (-1) →
                      (0 ≤ x1 ∧ x1 < 10) ∧ Q 1 (mset M3 38 x1 x2)) ∧
                    (¬ z3 = (-1) →
                      (0 ≤ x1 ∧ x1 < 10) ∧ (0 ≤ z3 ∧ z3 < 10) ∧ (0 ≤ x1 ∧ x1 < 10) ∧ Q 1 (mset (mset M3 38 z3 (M3 38 x1)) 38 x1 x2))) ∧
                  (¬ M3 37 z3 = (-1) →
                    Q (-3) M3))))) ∧
          (M2 8 10 = 0 →
            Q (-3) M2)) ∧
        (z2 = 0 →
          Q (-2) M2))))
def wp_X7_at (x1 : Int) (M : Mm) (Q : Int → Mm → Prop) : Prop :=
  wp_X3_has x1 M (fun z1 M1 =>
    (¬ z1 = 0 →
      (M1 4 4 = 0 →
        Q (-3) M1) ∧
      (¬ M1 4 4 = 0 →
        (0 ≤ x1 ∧ x1 < 10) ∧ Q (M1 19 x1) M1)) ∧
    (z1 = 0 →
      Q (-2) M1))
def wp_X8_at (x1 : Int) (M : Mm) (Q : Int → Mm → Prop) : Prop :=
  wp_X8_isLetter x1 M (fun z1 M1 =>
    (¬ z1 = 0 →
      (M1 8 10 = 0 →
        Q (-3) M1) ∧
      (¬ M1 8 10 = 0 →
        (0 ≤ x1 ∧ x1 < 10) ∧ Q (M1 38 x1) M1)) ∧
    (z1 = 0 →
      Q (-2) M1))
def wp_X5_pairCost (x1 : Int) (x2 : Int) (M : Mm) (Q : Int → Mm → Prop) : Prop :=
  (0 ≤ x1 ∧ x1 < 10) ∧ (0 ≤ x2 ∧ x2 < 10) ∧ (0 ≤ x1 ∧ x1 < 10) ∧ (0 ≤ M 19 x1 ∧ M 19 x1 < 12) ∧ (0 ≤ x2 ∧ x2 < 10) ∧ (0 ≤ M 19 x2 ∧ M 19 x2 < 12) ∧ Q ((M 13 (10 * x1 + x2)) * (M 17 (12 * (M 19 x1) + (M 19 x2)))) M
def bc_X5_wholeCost_L18 (x3 : Int) (Q : Int → Mm → Prop) (K52 : Int → Mm → Prop) (R : Int → Int → Mm → Prop) (x1 : Int) (x4 : Int) (M : Mm) : Prop :=
  (M 1 0 ≤ x4 →
    K52 x1 M) ∧
  (¬ (M 1 0 ≤ x4) →
    (x3 = x4 →
      iR (x4 + 1) ∧ R x1 (x4 + 1) M) ∧
    (¬ x3 = x4 →
      wp_X5_pairCost x3 x4 M (fun z1 M1 =>
        iR (x4 + 1) ∧ R (x1 + z1) (x4 + 1) M1)))
def wp_X5_wholeCost_L18 (x3 : Int) (Q : Int → Mm → Prop) (K52 : Int → Mm → Prop) (x1 : Int) (x4 : Int) (M : Mm) : Prop := LP2 (bc_X5_wholeCost_L18 x3 Q K52) x1 x4 M
def bc_X5_wholeCost_L4 (Q : Int → Mm → Prop) (R : Int → Int → Mm → Prop) (x1 : Int) (x3 : Int) (M : Mm) : Prop :=
  (M 1 0 ≤ x3 →
    Q x1 M) ∧
  (¬ (M 1 0 ≤ x3) →
    wp_X5_wholeCost_L18 x3 Q (fun y1_1 M1 =>
      iR (x3 + 1) ∧ R y1_1 (x3 + 1) M1) x1 0 M)
def wp_X5_wholeCost_L4 (Q : Int → Mm → Prop) (x1 : Int) (x3 : Int) (M : Mm) : Prop := LP2 (bc_X5_wholeCost_L4 Q) x1 x3 M
def wp_X5_wholeCost (M : Mm) (Q : Int → Mm → Prop) : Prop :=
  wp_X5_wholeCost_L4 Q 0 0 M
def wp_X7_all (M : Mm) (Q : Int → Mm → Prop) : Prop :=
  (M 4 4 = 0 →
    Q (-3) M) ∧
  (¬ M 4 4 = 0 →
    wp_X5_wholeCost M (fun z1 M1 =>
      Q z1 M1))
def wp_X8_between (x1 : Int) (x2 : Int) (x3 : Int) (x4 : Int) (M : Mm) (Q : Int → Mm → Prop) : Prop :=
  (0 ≤ (10 * x1) + x2 ∧ (10 * x1) + x2 < 100) ∧ wp_X8_costOf x3 x4 M (fun z1 M1 =>
    Q ((M 33 ((10 * x1) + x2)) * z1) M1)
def bc_X8_costAll_L15 (x3 : Int) (Q : Int → Mm → Prop) (K63 : Int → Mm → Prop) (R : Int → Int → Mm → Prop) (x1 : Int) (x4 : Int) (M : Mm) : Prop :=
  (M 8 0 ≤ x4 →
    K63 x1 M) ∧
  (¬ (M 8 0 ≤ x4) →
    (¬ x3 = x4 →
      (0 ≤ x3 ∧ x3 < 10) ∧ (0 ≤ x4 ∧ x4 < 10) ∧ wp_X8_between x3 x4 (M 38 x3) (M 38 x4) M (fun z1 M1 =>
        iR (x4 + 1) ∧ R (x1 + z1) (x4 + 1) M1)) ∧
    (x3 = x4 →
      iR (x4 + 1) ∧ R (x1 + 0) (x4 + 1) M))
def wp_X8_costAll_L15 (x3 : Int) (Q : Int → Mm → Prop) (K63 : Int → Mm → Prop) (x1 : Int) (x4 : Int) (M : Mm) : Prop := LP2 (bc_X8_costAll_L15 x3 Q K63) x1 x4 M
def bc_X8_costAll_L4 (Q : Int → Mm → Prop) (R : Int → Int → Mm → Prop) (x1 : Int) (x3 : Int) (M : Mm) : Prop :=
  (M 8 0 ≤ x3 →
    Q x1 M) ∧
  (¬ (M 8 0 ≤ x3) →
    wp_X8_costAll_L15 x3 Q (fun y1_1 M1 =>
      iR (x3 + 1) ∧ R y1_1 (x3 + 1) M1) x1 0 M)
def wp_X8_costAll_L4 (Q : Int → Mm → Prop) (x1 : Int) (x3 : Int) (M : Mm) : Prop := LP2 (bc_X8_costAll_L4 Q) x1 x3 M
def wp_X8_costAll (M : Mm) (Q : Int → Mm → Prop) : Prop :=
  wp_X8_costAll_L4 Q 0 0 M
def wp_X8_all (M : Mm) (Q : Int → Mm → Prop) : Prop :=
  (M 8 10 = 0 →
    Q (-3) M) ∧
  (¬ M 8 10 = 0 →
    wp_X8_costAll M (fun z1 M1 =>
      Q z1 M1))
def bc_X5_shareOf_L18 (x1 : Int) (x2 : Int) (Q : Int → Mm → Prop) (R : Int → Int → Mm → Prop) (x3 : Int) (x5 : Int) (M : Mm) : Prop :=
  (M 1 0 ≤ x5 →
    Q x3 M) ∧
  (¬ (M 1 0 ≤ x5) →
    (x5 = x1 →
      iR (x5 + 1) ∧ R x3 (x5 + 1) M) ∧
    (¬ x5 = x1 →
      (x5 = x2 →
        iR (x5 + 1) ∧ R x3 (x5 + 1) M) ∧
      (¬ x5 = x2 →
        wp_X5_pairCost x1 x5 M (fun z1 M1 =>
          wp_X5_pairCost x5 x1 M1 (fun z2 M2 =>
            iR (x5 + 1) ∧ R (x3 + (z1 + z2)) (x5 + 1) M2)))))
def wp_X5_shareOf_L18 (x1 : Int) (x2 : Int) (Q : Int → Mm → Prop) (x3 : Int) (x5 : Int) (M : Mm) : Prop := LP2 (bc_X5_shareOf_L18 x1 x2 Q) x3 x5 M
def wp_X5_shareOf (x1 : Int) (x2 : Int) (M : Mm) (Q : Int → Mm → Prop) : Prop :=
  wp_X3_has x1 M (fun z1 M1 =>
    (¬ z1 = 0 →
      wp_X5_shareOf_L18 x1 x2 Q 0 0 M1) ∧
    (z1 = 0 →
      Q 0 M1))
def wp_X7_share (x1 : Int) (M : Mm) (Q : Int → Mm → Prop) : Prop :=
  wp_X3_has x1 M (fun z1 M1 =>
    (¬ z1 = 0 →
      (M1 4 4 = 0 →
        Q (-3) M1) ∧
      (¬ M1 4 4 = 0 →
        wp_X5_shareOf x1 (-1) M1 (fun z2 M2 =>
          Q z2 M2))) ∧
    (z1 = 0 →
      Q (-2) M1))
def bc_X8_share_L28 (x1 : Int) (Q : Int → Mm → Prop) (R : Int → Int → Mm → Prop) (x2 : Int) (x4 : Int) (M : Mm) : Prop :=
  (M 8 0 ≤ x4 →
    Q x2 M) ∧
  (¬ (M 8 0 ≤ x4) →
    (x4 = x1 →
      iR (x4 + 1) ∧ R x2 (x4 + 1) M) ∧
    (¬ x4 = x1 →
      (0 ≤ x1 ∧ x1 < 10) ∧ (0 ≤ x4 ∧ x4 < 10) ∧ wp_X8_between x1 x4 (M 38 x1) (M 38 x4) M (fun z1 M1 =>
        (0 ≤ x4 ∧ x4 < 10) ∧ (0 ≤ x1 ∧ x1 < 10) ∧ wp_X8_between x4 x1 (M1 38 x4) (M1 38 x1) M1 (fun z2 M2 =>
          iR (x4 + 1) ∧ R (x2 + (z1 + z2)) (x4 + 1) M2))))
def wp_X8_share_L28 (x1 : Int) (Q : Int → Mm → Prop) (x2 : Int) (x4 : Int) (M : Mm) : Prop := LP2 (bc_X8_share_L28 x1 Q) x2 x4 M
def wp_X8_share (x1 : Int) (M : Mm) (Q : Int → Mm → Prop) : Prop :=
  wp_X8_isLetter x1 M (fun z1 M1 =>
    (¬ z1 = 0 →
      (¬ M1 8 10 = 0 →
        wp_X8_share_L28 x1 Q 0 0 M1) ∧
      (M1 8 10 = 0 →
        Q (-3) M1)) ∧
    (z1 = 0 →
      Q (-2) M1))
def wp_X5_changeByMove (x1 : Int) (x2 : Int) (M : Mm) (Q : Int → Mm → Prop) : Prop :=
  wp_X5_letterOn x2 M (fun z1 M1 =>
    (0 ≤ x1 ∧ x1 < 10) ∧ wp_X5_shareOf x1 (-1) M1 (fun z2 M2 =>
      wp_X5_shareOf z1 x1 M2 (fun z3 M3 =>
        wp_X5_move x1 x2 M3 (fun M4 =>
          wp_X5_shareOf x1 (-1) M4 (fun z4 M5 =>
            wp_X5_shareOf z1 x1 M5 (fun z5 M6 =>
              wp_X5_move x1 (M1 19 x1) M6 (fun M7 =>
                Q ((z4 + z5) - (z2 + z3)) M7)))))))
def wp_X5_weigh (x1 : Int) (x2 : Int) (M : Mm) (Q : Mm → Prop) : Prop :=
  wp_X5_changeByMove x1 x2 M (fun z1 M1 =>
    ((lR z1 ∧ lR (M1 4 5)) ∨ z1 = M1 4 5) ∧ (M1 4 5 ≤ z1 →
      Q M1) ∧
    (¬ (M1 4 5 ≤ z1) →
      lR z1 ∧ Q (mset (mset (mset M1 4 5 z1) 4 6 x1) 4 7 x2)))
def bc_X5_weighExchanges_L16 (x1 : Int) (Q : Mm → Prop) (R : Int → Mm → Prop) (x2 : Int) (M : Mm) : Prop :=
  (M 1 0 ≤ x2 →
    Q M) ∧
  (¬ (M 1 0 ≤ x2) →
    wp_X3_isFixed x2 M (fun z1 M1 =>
      (¬ z1 = 0 →
        iR (x2 + 1) ∧ R (x2 + 1) M1) ∧
      (z1 = 0 →
        (0 ≤ x2 ∧ x2 < 10) ∧ wp_X5_weigh x1 (M1 19 x2) M1 (fun M2 =>
          iR (x2 + 1) ∧ R (x2 + 1) M2))))
def wp_X5_weighExchanges_L16 (x1 : Int) (Q : Mm → Prop) (x2 : Int) (M : Mm) : Prop := LP1 (bc_X5_weighExchanges_L16 x1 Q) x2 M
def wp_X5_weighExchanges (x1 : Int) (M : Mm) (Q : Mm → Prop) : Prop :=
  wp_X3_isFixed x1 M (fun z1 M1 =>
    (z1 = 0 →
      iR (x1 + 1) ∧ wp_X5_weighExchanges_L16 x1 Q (x1 + 1) M1) ∧
    (¬ z1 = 0 →
      Q M1))
def wp_X3_allow (x1 : Int) (x2 : Int) (M : Mm) (Q : Int → Mm → Prop) : Prop :=
  wp_X3_isFixed x1 M (fun z1 M1 =>
    (z1 = 0 →
      (0 ≤ x2 ∧ x2 < 12) ∧ (¬ M1 10 x2 = (-1) →
        Q 0 M1) ∧
      (M1 10 x2 = (-1) →
        Q 1 M1)) ∧
    (¬ z1 = 0 →
      (0 ≤ x1 ∧ x1 < 10) ∧ (¬ M1 9 x1 = x2 →
        Q 0 M1) ∧
      (M1 9 x1 = x2 →
        Q 1 M1)))
def bc_X5_weighGoings_L14 (x1 : Int) (Q : Mm → Prop) (R : Int → Mm → Prop) (x2 : Int) (M : Mm) : Prop :=
  (M 3 0 ≤ x2 →
    Q M) ∧
  (¬ (M 3 0 ≤ x2) →
    wp_X3_allow x1 x2 M (fun z1 M1 =>
      (z1 = 0 →
        iR (x2 + 1) ∧ R (x2 + 1) M1) ∧
      (¬ z1 = 0 →
        wp_X5_letterOn x2 M1 (fun z2 M2 =>
          (¬ z2 = (-1) →
            iR (x2 + 1) ∧ R (x2 + 1) M2) ∧
          (z2 = (-1) →
            wp_X5_weigh x1 x2 M2 (fun M3 =>
              iR (x2 + 1) ∧ R (x2 + 1) M3))))))
def wp_X5_weighGoings_L14 (x1 : Int) (Q : Mm → Prop) (x2 : Int) (M : Mm) : Prop := LP1 (bc_X5_weighGoings_L14 x1 Q) x2 M
def wp_X5_weighGoings (x1 : Int) (M : Mm) (Q : Mm → Prop) : Prop :=
  wp_X3_isFixed x1 M (fun z1 M1 =>
    (z1 = 0 →
      wp_X5_weighGoings_L14 x1 Q 0 M1) ∧
    (¬ z1 = 0 →
      Q M1))
def bc_X5_findBestChange_L7 (Q : Int → Mm → Prop) (K29 : Mm → Prop) (R : Int → Mm → Prop) (x1 : Int) (M : Mm) : Prop :=
  (M 1 0 ≤ x1 →
    K29 M) ∧
  (¬ (M 1 0 ≤ x1) →
    wp_X5_weighExchanges x1 M (fun M1 =>
      iR (x1 + 1) ∧ R (x1 + 1) M1))
def wp_X5_findBestChange_L7 (Q : Int → Mm → Prop) (K29 : Mm → Prop) (x1 : Int) (M : Mm) : Prop := LP1 (bc_X5_findBestChange_L7 Q K29) x1 M
def bc_X5_findBestChange_L31 (Q : Int → Mm → Prop) (R : Int → Mm → Prop) (x1 : Int) (M : Mm) : Prop :=
  (M 1 0 ≤ x1 →
    (0 ≤ M 4 5 →
      Q 0 M) ∧
    (¬ (0 ≤ M 4 5) →
      Q 1 M)) ∧
  (¬ (M 1 0 ≤ x1) →
    wp_X5_weighGoings x1 M (fun M1 =>
      iR (x1 + 1) ∧ R (x1 + 1) M1))
def wp_X5_findBestChange_L31 (Q : Int → Mm → Prop) (x1 : Int) (M : Mm) : Prop := LP1 (bc_X5_findBestChange_L31 Q) x1 M
def wp_X5_findBestChange (M : Mm) (Q : Int → Mm → Prop) : Prop :=
  wp_X5_findBestChange_L7 Q (fun M1 =>
    wp_X5_findBestChange_L31 Q 0 M1) 0 (mset M 4 5 0)
def bc_X5_betterToTheEnd_L2 (Q : Int → Mm → Prop) (R : Int → Mm → Prop) (x1 : Int) (M : Mm) : Prop :=
  (7176000 ≤ x1 →
    Q x1 M) ∧
  (¬ (7176000 ≤ x1) →
    wp_X5_findBestChange M (fun z1 M1 =>
      (z1 = 0 →
        Q x1 M1) ∧
      (¬ z1 = 0 →
        wp_X5_move (M1 4 6) (M1 4 7) M1 (fun M2 =>
          iR (x1 + 1) ∧ R (x1 + 1) M2))))
def wp_X5_betterToTheEnd_L2 (Q : Int → Mm → Prop) (x1 : Int) (M : Mm) : Prop := LP1 (bc_X5_betterToTheEnd_L2 Q) x1 M
def wp_X5_betterToTheEnd (M : Mm) (Q : Int → Mm → Prop) : Prop :=
  wp_X5_betterToTheEnd_L2 Q 0 M
def wp_X7_better (M : Mm) (Q : Int → Mm → Prop) : Prop :=
  (M 4 4 = 0 →
    Q (-3) M) ∧
  (¬ M 4 4 = 0 →
    wp_X5_betterToTheEnd M (fun z1 M1 =>
      Q z1 M1))
def wp_X8_exchange (x1 : Int) (x2 : Int) (M : Mm) (Q : Mm → Prop) : Prop :=
  (0 ≤ x1 ∧ x1 < 10) ∧ (0 ≤ x2 ∧ x2 < 10) ∧ (0 ≤ x1 ∧ x1 < 10) ∧ (0 ≤ x2 ∧ x2 < 10) ∧ Q (mset (mset M 38 x1 (M 38 x2)) 38 x2 (M 38 x1))
def bc_X8_better_L53 (x1 : Int) (x3 : Int) (x9 : Int) (x10 : Int) (Q : Int → Mm → Prop) (K132 : Int → Int → Int → Mm → Prop) (R : Int → Int → Int → Int → Mm → Prop) (x5 : Int) (x7 : Int) (x8 : Int) (x11 : Int) (M : Mm) : Prop :=
  (M 8 0 ≤ x11 →
    K132 x5 x7 x8 M) ∧
  (¬ (M 8 0 ≤ x11) →
    (0 ≤ x10 ∧ x10 < 10) ∧ (¬ M 37 x10 = (-1) →
      K132 x5 x7 x8 M) ∧
    (M 37 x10 = (-1) →
      (0 ≤ x11 ∧ x11 < 10) ∧ (¬ M 37 x11 = (-1) →
        iR (x11 + 1) ∧ R x5 x7 x8 (x11 + 1) M) ∧
      (M 37 x11 = (-1) →
        wp_X8_exchange x10 x11 M (fun M1 =>
          wp_X8_costAll M1 (fun z1 M2 =>
            wp_X8_exchange x10 x11 M2 (fun M3 =>
              ((lR z1 ∧ lR x5) ∨ z1 = x5) ∧ (x5 ≤ z1 →
                iR (x11 + 1) ∧ R x5 x7 x8 (x11 + 1) M3) ∧
              (¬ (x5 ≤ z1) →
                iR (x11 + 1) ∧ R z1 x10 x11 (x11 + 1) M3)))))))
def wp_X8_better_L53 (x1 : Int) (x3 : Int) (x9 : Int) (x10 : Int) (Q : Int → Mm → Prop) (K132 : Int → Int → Int → Mm → Prop) (x5 : Int) (x7 : Int) (x8 : Int) (x11 : Int) (M : Mm) : Prop := LP4 (bc_X8_better_L53 x1 x3 x9 x10 Q K132) x5 x7 x8 x11 M
def bc_X8_better_L38 (x1 : Int) (x3 : Int) (x9 : Int) (Q : Int → Mm → Prop) (K138 : Int → Int → Int → Mm → Prop) (R : Int → Int → Int → Int → Mm → Prop) (x5 : Int) (x7 : Int) (x8 : Int) (x10 : Int) (M : Mm) : Prop :=
  (M 8 0 ≤ x10 →
    K138 x5 x7 x8 M) ∧
  (¬ (M 8 0 ≤ x10) →
    iR (x10 + 1) ∧ wp_X8_better_L53 x1 x3 x9 x10 Q (fun y5_1 y7_1 y8_1 M1 =>
      iR (x10 + 1) ∧ R y5_1 y7_1 y8_1 (x10 + 1) M1) x5 x7 x8 (x10 + 1) M)
def wp_X8_better_L38 (x1 : Int) (x3 : Int) (x9 : Int) (Q : Int → Mm → Prop) (K138 : Int → Int → Int → Mm → Prop) (x5 : Int) (x7 : Int) (x8 : Int) (x10 : Int) (M : Mm) : Prop := LP4 (bc_X8_better_L38 x1 x3 x9 Q K138) x5 x7 x8 x10 M
def bc_X8_better_L153 (x1 : Int) (x3 : Int) (x10 : Int) (Q : Int → Mm → Prop) (K245 : Int → Int → Int → Int → Mm → Prop) (R : Int → Int → Int → Int → Int → Mm → Prop) (x5 : Int) (x7 : Int) (x8 : Int) (x9 : Int) (x11 : Int) (M : Mm) : Prop :=
  (M 8 5 ≤ x11 →
    K245 x5 x7 x8 x9 M) ∧
  (¬ (M 8 5 ≤ x11) →
    (0 ≤ x10 ∧ x10 < 10) ∧ (¬ M 37 x10 = (-1) →
      K245 x5 x7 x8 x9 M) ∧
    (M 37 x10 = (-1) →
      wp_X8_borne x11 M (fun z1 M1 =>
        (¬ z1 = (-1) →
          iR (x11 + 1) ∧ R x5 x7 x8 x9 (x11 + 1) M1) ∧
        (z1 = (-1) →
          (0 ≤ x10 ∧ x10 < 10) ∧ (0 ≤ x10 ∧ x10 < 10) ∧ wp_X8_costAll (mset M1 38 x10 x11) (fun z2 M2 =>
            (0 ≤ x10 ∧ x10 < 10) ∧ ((lR z2 ∧ lR x5) ∨ z2 = x5) ∧ (x5 ≤ z2 →
              iR (x11 + 1) ∧ R x5 x7 x8 x9 (x11 + 1) (mset M2 38 x10 (M1 38 x10))) ∧
            (¬ (x5 ≤ z2) →
              iR (x11 + 1) ∧ R z2 x10 x11 1 (x11 + 1) (mset M2 38 x10 (M1 38 x10))))))))
def wp_X8_better_L153 (x1 : Int) (x3 : Int) (x10 : Int) (Q : Int → Mm → Prop) (K245 : Int → Int → Int → Int → Mm → Prop) (x5 : Int) (x7 : Int) (x8 : Int) (x9 : Int) (x11 : Int) (M : Mm) : Prop := LP5 (bc_X8_better_L153 x1 x3 x10 Q K245) x5 x7 x8 x9 x11 M
def bc_X8_better_L141 (x1 : Int) (x3 : Int) (Q : Int → Mm → Prop) (K251 : Int → Int → Int → Int → Mm → Prop) (R : Int → Int → Int → Int → Int → Mm → Prop) (x5 : Int) (x7 : Int) (x8 : Int) (x9 : Int) (x10 : Int) (M : Mm) : Prop :=
  (M 8 0 ≤ x10 →
    K251 x5 x7 x8 x9 M) ∧
  (¬ (M 8 0 ≤ x10) →
    wp_X8_better_L153 x1 x3 x10 Q (fun y5_1 y7_1 y8_1 y9_1 M1 =>
      iR (x10 + 1) ∧ R y5_1 y7_1 y8_1 y9_1 (x10 + 1) M1) x5 x7 x8 x9 0 M)
def wp_X8_better_L141 (x1 : Int) (x3 : Int) (Q : Int → Mm → Prop) (K251 : Int → Int → Int → Int → Mm → Prop) (x5 : Int) (x7 : Int) (x8 : Int) (x9 : Int) (x10 : Int) (M : Mm) : Prop := LP5 (bc_X8_better_L141 x1 x3 Q K251) x5 x7 x8 x9 x10 M
def bc_X8_better_L14 (Q : Int → Mm → Prop) (R : Int → Int → Mm → Prop) (x1 : Int) (x2 : Int) (M : Mm) : Prop :=
  (x2 = 0 →
    Q x1 M) ∧
  (¬ x2 = 0 →
    wp_X8_costAll M (fun z1 M1 =>
      wp_X8_better_L38 x1 z1 0 Q (fun y5_1 y7_1 y8_1 M2 =>
        wp_X8_better_L141 x1 z1 Q (fun y5_2 y7_2 y8_2 y9_1 M3 =>
          ((lR y5_2 ∧ lR z1) ∨ y5_2 = z1) ∧ (z1 ≤ y5_2 →
            ((0 : Int) = 0 →
              R x1 0 M3) ∧
            (¬ (0 : Int) = 0 →
              (y9_1 = 0 →
                wp_X8_exchange y7_2 y8_2 M3 (fun M4 =>
                  iR (x1 + 1) ∧ R (x1 + 1) 0 M4)) ∧
              (¬ y9_1 = 0 →
                (0 ≤ y7_2 ∧ y7_2 < 10) ∧ iR (x1 + 1) ∧ R (x1 + 1) 0 (mset M3 38 y7_2 y8_2)))) ∧
          (¬ (z1 ≤ y5_2) →
            ((1 : Int) = 0 →
              R x1 1 M3) ∧
            (¬ (1 : Int) = 0 →
              (y9_1 = 0 →
                wp_X8_exchange y7_2 y8_2 M3 (fun M5 =>
                  iR (x1 + 1) ∧ R (x1 + 1) 1 M5)) ∧
              (¬ y9_1 = 0 →
                (0 ≤ y7_2 ∧ y7_2 < 10) ∧ iR (x1 + 1) ∧ R (x1 + 1) 1 (mset M3 38 y7_2 y8_2))))) y5_1 y7_1 y8_1 0 0 M2) z1 (-1) (-1) 0 M1))
def wp_X8_better_L14 (Q : Int → Mm → Prop) (x1 : Int) (x2 : Int) (M : Mm) : Prop := LP2 (bc_X8_better_L14 Q) x1 x2 M
def wp_X8_better (M : Mm) (Q : Int → Mm → Prop) : Prop :=
  (¬ M 8 10 = 0 →
    wp_X8_better_L14 Q 0 1 M) ∧
  (M 8 10 = 0 →
    Q (-3) M)
def wp_X7_change (x1 : Int) (x2 : Int) (M : Mm) (Q : Int → Mm → Prop) : Prop :=
  wp_X3_has x1 M (fun z1 M1 =>
    (z1 = 0 →
      Q 1000000000 M1) ∧
    (¬ z1 = 0 →
      wp_X3_has x2 M1 (fun z2 M2 =>
        (z2 = 0 →
          Q 1000000000 M2) ∧
        (¬ z2 = 0 →
          (¬ x1 = x2 →
            (M2 4 4 = 0 →
              Q 1000000001 M2) ∧
            (¬ M2 4 4 = 0 →
              wp_X3_isFixed x1 M2 (fun z3 M3 =>
                (¬ z3 = 0 →
                  Q 1000000001 M3) ∧
                (z3 = 0 →
                  wp_X3_isFixed x2 M3 (fun z4 M4 =>
                    (z4 = 0 →
                      (0 ≤ x2 ∧ x2 < 10) ∧ wp_X5_changeByMove x1 (M4 19 x2) M4 (fun z5 M5 =>
                        Q z5 M5)) ∧
                    (¬ z4 = 0 →
                      Q 1000000001 M4)))))) ∧
          (x1 = x2 →
            Q 1000000000 M2)))))
def wp_X8_change (x1 : Int) (x2 : Int) (M : Mm) (Q : Int → Mm → Prop) : Prop :=
  wp_X8_isLetter x1 M (fun z1 M1 =>
    (z1 = 0 →
      Q 1000000000 M1) ∧
    (¬ z1 = 0 →
      wp_X8_isLetter x2 M1 (fun z2 M2 =>
        (z2 = 0 →
          Q 1000000000 M2) ∧
        (¬ z2 = 0 →
          (¬ x1 = x2 →
            (M2 8 10 = 0 →
              Q 1000000001 M2) ∧
            (¬ M2 8 10 = 0 →
              (0 ≤ x1 ∧ x1 < 10) ∧ (¬ M2 37 x1 = (-1) →
                Q 1000000001 M2) ∧
              (M2 37 x1 = (-1) →
                (0 ≤ x2 ∧ x2 < 10) ∧ (M2 37 x2 = (-1) →
                  wp_X8_costAll M2 (fun z3 M3 =>
                    wp_X8_exchange x1 x2 M3 (fun M4 =>
                      wp_X8_costAll M4 (fun z4 M5 =>
                        wp_X8_exchange x1 x2 M5 (fun M6 =>
                          Q (z4 - z3) M6))))) ∧
                (¬ M2 37 x2 = (-1) →
                  Q 1000000001 M2)))) ∧
          (x1 = x2 →
            Q 1000000000 M2)))))
def bc_X1_costAddedBy_L12 (x1 : Int) (x2 : Int) (Q : Int → Mm → Prop) (R : Int → Int → Mm → Prop) (x3 : Int) (x5 : Int) (M : Mm) : Prop :=
  (x1 ≤ x5 →
    Q x3 M) ∧
  (¬ (x1 ≤ x5) →
    (0 ≤ x5 ∧ x5 < 10) ∧ (0 ≤ x1 ∧ x1 < 10) ∧ (0 ≤ x5 ∧ x5 < 10) ∧ (0 ≤ x2 ∧ x2 < 12) ∧ (0 ≤ M 20 x5 ∧ M 20 x5 < 12) ∧ (0 ≤ x5 ∧ x5 < 10) ∧ (0 ≤ x1 ∧ x1 < 10) ∧ (0 ≤ M 20 x5 ∧ M 20 x5 < 12) ∧ (0 ≤ x2 ∧ x2 < 12) ∧ iR (x5 + 1) ∧ R ((x3 + ((M 13 (10 * x1 + x5)) * (M 17 (12 * x2 + (M 20 x5))))) + ((M 13 (10 * x5 + x1)) * (M 17 (12 * (M 20 x5) + x2)))) (x5 + 1) M)
def wp_X1_costAddedBy_L12 (x1 : Int) (x2 : Int) (Q : Int → Mm → Prop) (x3 : Int) (x5 : Int) (M : Mm) : Prop := LP2 (bc_X1_costAddedBy_L12 x1 x2 Q) x3 x5 M
def wp_X1_costAddedBy (x1 : Int) (M : Mm) (Q : Int → Mm → Prop) : Prop :=
  (0 ≤ x1 ∧ x1 < 10) ∧ wp_X1_costAddedBy_L12 x1 (M 20 x1) Q 0 0 M
def bc_X1_keep_L2 (x1 : Int) (Q : Mm → Prop) (R : Int → Mm → Prop) (x3 : Int) (M : Mm) : Prop :=
  (M 1 0 ≤ x3 →
    lR x1 ∧ Q (mset (mset M 5 8 x1) 5 7 1)) ∧
  (¬ (M 1 0 ≤ x3) →
    (0 ≤ x3 ∧ x3 < 10) ∧ (0 ≤ x3 ∧ x3 < 10) ∧ iR (x3 + 1) ∧ R (x3 + 1) (mset M 22 x3 (M 20 x3)))
def wp_X1_keep_L2 (x1 : Int) (Q : Mm → Prop) (x3 : Int) (M : Mm) : Prop := LP1 (bc_X1_keep_L2 x1 Q) x3 M
def wp_X1_keep (x1 : Int) (M : Mm) (Q : Mm → Prop) : Prop :=
  wp_X1_keep_L2 x1 Q 0 M
def wp_X1_tryOn (PF : Int → Int → Mm → (Mm → Prop) → Prop) (x1 : Int) (x2 : Int) (x3 : Int) (M : Mm) (Q : Mm → Prop) : Prop :=
  (M 5 9 < 20000 →
    iR ((M 5 9) + 1) ∧ (0 ≤ x1 ∧ x1 < 10) ∧ wp_X1_costAddedBy x1 (mset (mset M 5 9 ((M 5 9) + 1)) 20 x1 x2) (fun z1 M1 =>
      (M1 5 7 = 0 →
        (0 ≤ x2 ∧ x2 < 12) ∧ iR (x1 + 1) ∧ PF (x1 + 1) (x3 + z1) (mset M1 21 x2 1) (fun M2 =>
          (0 ≤ x2 ∧ x2 < 12) ∧ Q (mset M2 21 x2 0))) ∧
      (¬ M1 5 7 = 0 →
        ((lR (x3 + z1) ∧ lR (M1 5 8)) ∨ x3 + z1 = M1 5 8) ∧ (x3 + z1 < M1 5 8 →
          (0 ≤ x2 ∧ x2 < 12) ∧ iR (x1 + 1) ∧ PF (x1 + 1) (x3 + z1) (mset M1 21 x2 1) (fun M3 =>
            (0 ≤ x2 ∧ x2 < 12) ∧ Q (mset M3 21 x2 0))) ∧
        (¬ (x3 + z1 < M1 5 8) →
          Q M1)))) ∧
  (¬ (M 5 9 < 20000) →
    Q (mset M 5 5 1))
def bc_X1_placeFrom_L20 (PF : Int → Int → Mm → (Mm → Prop) → Prop) (x1 : Int) (x2 : Int) (Q : Mm → Prop) (R : Int → Mm → Prop) (x4 : Int) (M : Mm) : Prop :=
  (M 3 0 ≤ x4 →
    Q M) ∧
  (¬ (M 3 0 ≤ x4) →
    (¬ M 5 5 = 0 →
      Q M) ∧
    (M 5 5 = 0 →
      (0 ≤ x4 ∧ x4 < 12) ∧ (¬ M 21 x4 = 0 →
        iR (x4 + 1) ∧ R (x4 + 1) M) ∧
      (M 21 x4 = 0 →
        wp_X3_allow x1 x4 M (fun z1 M1 =>
          (z1 = 0 →
            iR (x4 + 1) ∧ R (x4 + 1) M1) ∧
          (¬ z1 = 0 →
            wp_X1_tryOn PF x1 x4 x2 M1 (fun M2 =>
              iR (x4 + 1) ∧ R (x4 + 1) M2))))))
def wp_X1_placeFrom_L20 (PF : Int → Int → Mm → (Mm → Prop) → Prop) (x1 : Int) (x2 : Int) (Q : Mm → Prop) (x4 : Int) (M : Mm) : Prop := LP1 (bc_X1_placeFrom_L20 PF x1 x2 Q) x4 M
def wb_X1_placeFrom (PF : Int → Int → Mm → (Mm → Prop) → Prop) (x1 : Int) (x2 : Int) (M : Mm) (Q : Mm → Prop) : Prop :=
  (x1 < M 1 0 →
    wp_X1_placeFrom_L20 PF x1 x2 Q 0 M) ∧
  (¬ (x1 < M 1 0) →
    wp_X1_keep x2 M (fun M1 =>
      Q M1))
def wp_X1_placeFrom : Nat → Int → Int → Mm → (Mm → Prop) → Prop
  | 0 => fun _ _ _ _ => False
  | d + 1 => wb_X1_placeFrom (wp_X1_placeFrom d)
def wp_X1_findLeast (M : Mm) (Q : Int → Mm → Prop) : Prop :=
  wp_X1_forget M (fun M1 =>
    wp_X1_placeFrom 12 0 0 (mset (mset M1 5 9 0) 5 5 0) (fun M2 =>
      (¬ M2 5 5 = 0 →
        Q 0 M2) ∧
      (M2 5 5 = 0 →
        Q 1 M2)))
def wp_X7_search (M : Mm) (Q : Int → Mm → Prop) : Prop :=
  wp_X7_tooFewKeys M (fun z1 M1 =>
    (z1 = 0 →
      wp_X1_findLeast M1 (fun z2 M2 =>
        (z2 = 0 →
          Q (-5) M2) ∧
        (¬ z2 = 0 →
          Q 1 M2))) ∧
    (¬ z1 = 0 →
      Q (-3) M1))
def bc_X8_mayBear_c41_L29 (x2 : Int) (x4 : Int) (Q : Int → Mm → Prop) (R : Int → Mm → Prop) (x5 : Int) (M : Mm) : Prop :=
  (M 8 0 ≤ x5 →
    Q 1 M) ∧
  (¬ (M 8 0 ≤ x5) →
    (0 ≤ x5 ∧ x5 < 10) ∧ (M 37 x5 = x2 →
      Q 0 M) ∧
    (¬ M 37 x5 = x2 →
      (x4 ≤ x5 →
        iR (x5 + 1) ∧ R (x5 + 1) M) ∧
      (¬ (x4 ≤ x5) →
        (0 ≤ x5 ∧ x5 < 10) ∧ (¬ M 41 x5 = x2 →
          iR (x5 + 1) ∧ R (x5 + 1) M) ∧
        (M 41 x5 = x2 →
          Q 0 M))))
def wp_X8_mayBear_c41_L29 (x2 : Int) (x4 : Int) (Q : Int → Mm → Prop) (x5 : Int) (M : Mm) : Prop := LP1 (bc_X8_mayBear_c41_L29 x2 x4 Q) x5 M
def wp_X8_mayBear_c41 (x1 : Int) (x2 : Int) (x4 : Int) (M : Mm) (Q : Int → Mm → Prop) : Prop :=
  (0 ≤ x1 ∧ x1 < 10) ∧ (M 37 x1 = (-1) →
    wp_X8_mayBear_c41_L29 x2 x4 Q 0 M) ∧
  (¬ M 37 x1 = (-1) →
    (0 ≤ x1 ∧ x1 < 10) ∧ (¬ M 37 x1 = x2 →
      Q 0 M) ∧
    (M 37 x1 = x2 →
      Q 1 M))
def bc_X8_added_L5 (x1 : Int) (Q : Int → Mm → Prop) (R : Int → Int → Mm → Prop) (x2 : Int) (x4 : Int) (M : Mm) : Prop :=
  (x1 ≤ x4 →
    Q x2 M) ∧
  (¬ (x1 ≤ x4) →
    (0 ≤ x1 ∧ x1 < 10) ∧ (0 ≤ x4 ∧ x4 < 10) ∧ wp_X8_between x1 x4 (M 41 x1) (M 41 x4) M (fun z1 M1 =>
      (0 ≤ x4 ∧ x4 < 10) ∧ (0 ≤ x1 ∧ x1 < 10) ∧ wp_X8_between x4 x1 (M1 41 x4) (M1 41 x1) M1 (fun z2 M2 =>
        iR (x4 + 1) ∧ R (x2 + (z1 + z2)) (x4 + 1) M2)))
def wp_X8_added_L5 (x1 : Int) (Q : Int → Mm → Prop) (x2 : Int) (x4 : Int) (M : Mm) : Prop := LP2 (bc_X8_added_L5 x1 Q) x2 x4 M
def wp_X8_added (x1 : Int) (M : Mm) (Q : Int → Mm → Prop) : Prop :=
  wp_X8_added_L5 x1 Q 0 0 M
def bc_X8_search_L187 (x1 : Int) (Q : Int → Mm → Prop) (K213 : Mm → Prop) (R : Int → Mm → Prop) (x2 : Int) (M : Mm) : Prop :=
  (M 8 0 ≤ x2 →
    K213 M) ∧
  (¬ (M 8 0 ≤ x2) →
    (0 ≤ x2 ∧ x2 < 10) ∧ (0 ≤ x2 ∧ x2 < 10) ∧ iR (x2 + 1) ∧ R (x2 + 1) (mset M 39 x2 (M 41 x2)))
def wp_X8_search_L187 (x1 : Int) (Q : Int → Mm → Prop) (K213 : Mm → Prop) (x2 : Int) (M : Mm) : Prop := LP1 (bc_X8_search_L187 x1 Q K213) x2 M
def bc_X8_search_L40 (Q : Int → Mm → Prop) (R : Int → Mm → Prop) (x1 : Int) (M : Mm) : Prop :=
  (x1 < 0 →
    Q 1 M) ∧
  (¬ (x1 < 0) →
    (0 ≤ x1 ∧ x1 < 10) ∧ iR ((M 41 x1) + 1) ∧ (0 ≤ x1 ∧ x1 < 10) ∧ (0 ≤ x1 ∧ x1 < 10) ∧ (¬ (mset M 41 x1 ((M 41 x1) + 1)) 41 x1 = (mset M 41 x1 ((M 41 x1) + 1)) 8 5 →
      (0 ≤ x1 ∧ x1 < 10) ∧ wp_X8_mayBear_c41 x1 ((mset M 41 x1 ((M 41 x1) + 1)) 41 x1) x1 (mset M 41 x1 ((M 41 x1) + 1)) (fun z1 M1 =>
        (z1 = 0 →
          R x1 M1) ∧
        (¬ z1 = 0 →
          (¬ M1 8 15 = 20000 →
            iR ((M1 8 15) + 1) ∧ (0 ≤ x1 ∧ x1 < 11) ∧ wp_X8_added x1 (mset M1 8 15 ((M1 8 15) + 1)) (fun z2 M2 =>
              lR (((mset M1 8 15 ((M1 8 15) + 1)) 42 x1) + z2) ∧ (0 ≤ x1 + 1 ∧ x1 + 1 < 11) ∧ ((mset M2 42 (x1 + 1) (((mset M1 8 15 ((M1 8 15) + 1)) 42 x1) + z2)) 8 12 = 0 →
                iR (((mset M2 42 (x1 + 1) (((mset M1 8 15 ((M1 8 15) + 1)) 42 x1) + z2)) 8 0) - 1) ∧ (¬ x1 = ((mset M2 42 (x1 + 1) (((mset M1 8 15 ((M1 8 15) + 1)) 42 x1) + z2)) 8 0) - 1 →
                  (0 ≤ x1 + 1 ∧ x1 + 1 < 10) ∧ iR (x1 + 1) ∧ R (x1 + 1) (mset (mset M2 42 (x1 + 1) (((mset M1 8 15 ((M1 8 15) + 1)) 42 x1) + z2)) 41 (x1 + 1) (-1))) ∧
                (x1 = ((mset M2 42 (x1 + 1) (((mset M1 8 15 ((M1 8 15) + 1)) 42 x1) + z2)) 8 0) - 1 →
                  (0 ≤ x1 + 1 ∧ x1 + 1 < 11) ∧ wp_X8_search_L187 x1 Q (fun M3 =>
                    R x1 M3) 0 (mset (mset (mset M2 42 (x1 + 1) (((mset M1 8 15 ((M1 8 15) + 1)) 42 x1) + z2)) 8 12 1) 8 14 ((mset (mset M2 42 (x1 + 1) (((mset M1 8 15 ((M1 8 15) + 1)) 42 x1) + z2)) 8 12 1) 42 (x1 + 1))))) ∧
              (¬ (mset M2 42 (x1 + 1) (((mset M1 8 15 ((M1 8 15) + 1)) 42 x1) + z2)) 8 12 = 0 →
                (0 ≤ x1 + 1 ∧ x1 + 1 < 11) ∧ ((mset M2 42 (x1 + 1) (((mset M1 8 15 ((M1 8 15) + 1)) 42 x1) + z2)) 8 14 ≤ (mset M2 42 (x1 + 1) (((mset M1 8 15 ((M1 8 15) + 1)) 42 x1) + z2)) 42 (x1 + 1) →
                  R x1 (mset M2 42 (x1 + 1) (((mset M1 8 15 ((M1 8 15) + 1)) 42 x1) + z2))) ∧
                (¬ ((mset M2 42 (x1 + 1) (((mset M1 8 15 ((M1 8 15) + 1)) 42 x1) + z2)) 8 14 ≤ (mset M2 42 (x1 + 1) (((mset M1 8 15 ((M1 8 15) + 1)) 42 x1) + z2)) 42 (x1 + 1)) →
                  iR (((mset M2 42 (x1 + 1) (((mset M1 8 15 ((M1 8 15) + 1)) 42 x1) + z2)) 8 0) - 1) ∧ (¬ x1 = ((mset M2 42 (x1 + 1) (((mset M1 8 15 ((M1 8 15) + 1)) 42 x1) + z2)) 8 0) - 1 →
                    (0 ≤ x1 + 1 ∧ x1 + 1 < 10) ∧ iR (x1 + 1) ∧ R (x1 + 1) (mset (mset M2 42 (x1 + 1) (((mset M1 8 15 ((M1 8 15) + 1)) 42 x1) + z2)) 41 (x1 + 1) (-1))) ∧
                  (x1 = ((mset M2 42 (x1 + 1) (((mset M1 8 15 ((M1 8 15) + 1)) 42 x1) + z2)) 8 0) - 1 →
                    (0 ≤ x1 + 1 ∧ x1 + 1 < 11) ∧ wp_X8_search_L187 x1 Q (fun M4 =>
                      R x1 M4) 0 (mset (mset (mset M2 42 (x1 + 1) (((mset M1 8 15 ((M1 8 15) + 1)) 42 x1) + z2)) 8 12 1) 8 14 ((mset (mset M2 42 (x1 + 1) (((mset M1 8 15 ((M1 8 15) + 1)) 42 x1) + z2)) 8 12 1) 42 (x1 + 1)))))))) ∧
          (M1 8 15 = 20000 →
            Q (-5) M1)))) ∧
    ((mset M 41 x1 ((M 41 x1) + 1)) 41 x1 = (mset M 41 x1 ((M 41 x1) + 1)) 8 5 →
      iR (x1 + (-1)) ∧ R (x1 + (-1)) (mset M 41 x1 ((M 41 x1) + 1))))
def wp_X8_search_L40 (Q : Int → Mm → Prop) (x1 : Int) (M : Mm) : Prop := LP1 (bc_X8_search_L40 Q) x1 M
def wp_X8_search (M : Mm) (Q : Int → Mm → Prop) : Prop :=
  (M 8 0 ≤ M 8 5 →
    wp_X8_search_L40 Q 0 (mset (mset (mset (mset M 8 12 0) 8 15 0) 41 0 (-1)) 42 0 0)) ∧
  (¬ (M 8 0 ≤ M 8 5) →
    Q (-3) M)
def wp_X7_least (M : Mm) (Q : Int → Mm → Prop) : Prop :=
  (M 5 7 = 0 →
    Q (-1) M) ∧
  (¬ M 5 7 = 0 →
    Q (M 5 8) M)
def wp_X8_least (M : Mm) (Q : Int → Mm → Prop) : Prop :=
  (M 8 12 = 0 →
    Q (-1) M) ∧
  (¬ M 8 12 = 0 →
    Q (M 8 14) M)
def bc_X5_become_c22_L2 (Q : Mm → Prop) (R : Int → Mm → Prop) (x2 : Int) (M : Mm) : Prop :=
  (M 1 0 ≤ x2 →
    Q (mset M 4 4 1)) ∧
  (¬ (M 1 0 ≤ x2) →
    (0 ≤ x2 ∧ x2 < 10) ∧ (0 ≤ x2 ∧ x2 < 10) ∧ iR (x2 + 1) ∧ R (x2 + 1) (mset M 19 x2 (M 22 x2)))
def wp_X5_become_c22_L2 (Q : Mm → Prop) (x2 : Int) (M : Mm) : Prop := LP1 (bc_X5_become_c22_L2 Q) x2 M
def wp_X5_become_c22 (M : Mm) (Q : Mm → Prop) : Prop :=
  wp_X5_become_c22_L2 Q 0 M
def wp_X7_take (M : Mm) (Q : Int → Mm → Prop) : Prop :=
  (¬ M 5 7 = 0 →
    wp_X5_become_c22 M (fun M1 =>
      Q 1 M1)) ∧
  (M 5 7 = 0 →
    Q (-3) M)
def bc_X8_take_L12 (Q : Int → Mm → Prop) (R : Int → Mm → Prop) (x1 : Int) (M : Mm) : Prop :=
  (M 8 0 ≤ x1 →
    Q 1 (mset M 8 10 1)) ∧
  (¬ (M 8 0 ≤ x1) →
    (0 ≤ x1 ∧ x1 < 10) ∧ (0 ≤ x1 ∧ x1 < 10) ∧ iR (x1 + 1) ∧ R (x1 + 1) (mset M 38 x1 (M 39 x1)))
def wp_X8_take_L12 (Q : Int → Mm → Prop) (x1 : Int) (M : Mm) : Prop := LP1 (bc_X8_take_L12 Q) x1 M
def wp_X8_take (M : Mm) (Q : Int → Mm → Prop) : Prop :=
  (¬ M 8 12 = 0 →
    wp_X8_take_L12 Q 0 M) ∧
  (M 8 12 = 0 →
    Q (-3) M)
def wp_X7_tries (M : Mm) (Q : Int → Mm → Prop) : Prop :=
  Q (M 5 9) M
def wp_X8_tries (M : Mm) (Q : Int → Mm → Prop) : Prop :=
  Q (M 8 15) M
def bc_J7_fill_d0a16_c26_L6 (x1 : Int) (x4 : Int) (Q : Mm → Prop) (R : Int → Mm → Prop) (x3 : Int) (M : Mm) : Prop :=
  (x4 ≤ x3 →
    Q M) ∧
  (¬ (x4 ≤ x3) →
    lR x1 ∧ (0 ≤ x3 ∧ x3 < 1024) ∧ iR (x3 + 1) ∧ R (x3 + 1) (mset M 26 x3 x1))
def wp_J7_fill_d0a16_c26_L6 (x1 : Int) (x4 : Int) (Q : Mm → Prop) (x3 : Int) (M : Mm) : Prop := LP1 (bc_J7_fill_d0a16_c26_L6 x1 x4 Q) x3 M
def wp_J7_fill_d0a16_c26 (x1 : Int) (M : Mm) (Q : Mm → Prop) : Prop :=
  wp_J7_fill_d0a16_c26_L6 x1 1024 Q 0 M
def bc_X0_insert_c23_L2 (x2 : Int) (Q : Mm → Prop) (R : Int → Mm → Prop) (x3 : Int) (M : Mm) : Prop :=
  (x3 ≤ 0 →
    (0 ≤ x3 ∧ x3 < 10) ∧ Q (mset M 23 x3 x2)) ∧
  (¬ (x3 ≤ 0) →
    (0 ≤ x3 - 1 ∧ x3 - 1 < 10) ∧ (M 23 (x3 - 1) ≤ x2 →
      (0 ≤ x3 ∧ x3 < 10) ∧ Q (mset M 23 x3 x2)) ∧
    (¬ (M 23 (x3 - 1) ≤ x2) →
      (0 ≤ x3 - 1 ∧ x3 - 1 < 10) ∧ (0 ≤ x3 ∧ x3 < 10) ∧ iR (x3 + (-1)) ∧ R (x3 + (-1)) (mset M 23 x3 (M 23 (x3 - 1)))))
def wp_X0_insert_c23_L2 (x2 : Int) (Q : Mm → Prop) (x3 : Int) (M : Mm) : Prop := LP1 (bc_X0_insert_c23_L2 x2 Q) x3 M
def wp_X0_insert_c23 (x1 : Int) (x2 : Int) (M : Mm) (Q : Mm → Prop) : Prop :=
  wp_X0_insert_c23_L2 x2 Q x1 M
def bc_X0_gatherOftens_L4 (x1 : Int) (Q : Int → Mm → Prop) (R : Int → Int → Mm → Prop) (x2 : Int) (x3 : Int) (M : Mm) : Prop :=
  (M 1 0 ≤ x3 →
    Q x2 M) ∧
  (¬ (M 1 0 ≤ x3) →
    (x3 = x1 →
      iR (x3 + 1) ∧ R x2 (x3 + 1) M) ∧
    (¬ x3 = x1 →
      (0 ≤ x1 ∧ x1 < 10) ∧ (0 ≤ x3 ∧ x3 < 10) ∧ wp_X0_insert_c23 x2 (M 13 (10 * x1 + x3)) M (fun M1 =>
        iR (x2 + 1) ∧ iR (x3 + 1) ∧ R (x2 + 1) (x3 + 1) M1)))
def wp_X0_gatherOftens_L4 (x1 : Int) (Q : Int → Mm → Prop) (x2 : Int) (x3 : Int) (M : Mm) : Prop := LP2 (bc_X0_gatherOftens_L4 x1 Q) x2 x3 M
def wp_X0_gatherOftens (x1 : Int) (M : Mm) (Q : Int → Mm → Prop) : Prop :=
  wp_X0_gatherOftens_L4 x1 Q 0 0 M
def bc_X0_insert_c24_L2 (x2 : Int) (Q : Mm → Prop) (R : Int → Mm → Prop) (x3 : Int) (M : Mm) : Prop :=
  (x3 ≤ 0 →
    (0 ≤ x3 ∧ x3 < 12) ∧ Q (mset M 24 x3 x2)) ∧
  (¬ (x3 ≤ 0) →
    (0 ≤ x3 - 1 ∧ x3 - 1 < 12) ∧ (M 24 (x3 - 1) ≤ x2 →
      (0 ≤ x3 ∧ x3 < 12) ∧ Q (mset M 24 x3 x2)) ∧
    (¬ (M 24 (x3 - 1) ≤ x2) →
      (0 ≤ x3 - 1 ∧ x3 - 1 < 12) ∧ (0 ≤ x3 ∧ x3 < 12) ∧ iR (x3 + (-1)) ∧ R (x3 + (-1)) (mset M 24 x3 (M 24 (x3 - 1)))))
def wp_X0_insert_c24_L2 (x2 : Int) (Q : Mm → Prop) (x3 : Int) (M : Mm) : Prop := LP1 (bc_X0_insert_c24_L2 x2 Q) x3 M
def wp_X0_insert_c24 (x1 : Int) (x2 : Int) (M : Mm) (Q : Mm → Prop) : Prop :=
  wp_X0_insert_c24_L2 x2 Q x1 M
def bc_X0_gatherWays_L4 (x1 : Int) (Q : Int → Mm → Prop) (R : Int → Int → Mm → Prop) (x2 : Int) (x3 : Int) (M : Mm) : Prop :=
  (M 3 0 ≤ x3 →
    Q x2 M) ∧
  (¬ (M 3 0 ≤ x3) →
    (x3 = x1 →
      iR (x3 + 1) ∧ R x2 (x3 + 1) M) ∧
    (¬ x3 = x1 →
      (0 ≤ x1 ∧ x1 < 12) ∧ (0 ≤ x3 ∧ x3 < 12) ∧ wp_X0_insert_c24 x2 (M 17 (12 * x1 + x3)) M (fun M1 =>
        iR (x2 + 1) ∧ iR (x3 + 1) ∧ R (x2 + 1) (x3 + 1) M1)))
def wp_X0_gatherWays_L4 (x1 : Int) (Q : Int → Mm → Prop) (x2 : Int) (x3 : Int) (M : Mm) : Prop := LP2 (bc_X0_gatherWays_L4 x1 Q) x2 x3 M
def wp_X0_gatherWays (x1 : Int) (M : Mm) (Q : Int → Mm → Prop) : Prop :=
  wp_X0_gatherWays_L4 x1 Q 0 0 M
def bc_X0_priceOn_L19 (x3 : Int) (x4 : Int) (Q : Int → Mm → Prop) (R : Int → Int → Mm → Prop) (x5 : Int) (x7 : Int) (M : Mm) : Prop :=
  (x3 ≤ x7 →
    Q x5 M) ∧
  (¬ (x3 ≤ x7) →
    (x4 ≤ x7 →
      Q x5 M) ∧
    (¬ (x4 ≤ x7) →
      (0 ≤ (x3 - 1) - x7 ∧ (x3 - 1) - x7 < 10) ∧ (0 ≤ x7 ∧ x7 < 12) ∧ iR (x7 + 1) ∧ R (x5 + ((M 23 ((x3 - 1) - x7)) * (M 24 x7))) (x7 + 1) M))
def wp_X0_priceOn_L19 (x3 : Int) (x4 : Int) (Q : Int → Mm → Prop) (x5 : Int) (x7 : Int) (M : Mm) : Prop := LP2 (bc_X0_priceOn_L19 x3 x4 Q) x5 x7 M
def wp_X0_priceOn (x1 : Int) (x2 : Int) (M : Mm) (Q : Int → Mm → Prop) : Prop :=
  wp_X0_gatherOftens x1 M (fun z1 M1 =>
    wp_X0_gatherWays x2 M1 (fun z2 M2 =>
      wp_X0_priceOn_L19 z1 z2 Q 0 0 M2))
def bc_X0_leastWithLatestKey_L7 (x1 : Int) (Q : Int → Mm → Prop) (R : Int → Int → Mm → Prop) (x2 : Int) (x4 : Int) (M : Mm) : Prop :=
  (M 1 0 ≤ x4 →
    Q x2 M) ∧
  (¬ (M 1 0 ≤ x4) →
    (a_and32 x1 (a_shl32 1 x4) = 0 →
      iR (x4 + 1) ∧ R x2 (x4 + 1) M) ∧
    (¬ a_and32 x1 (a_shl32 1 x4) = 0 →
      (0 ≤ x1 - (a_shl32 1 x4) ∧ x1 - (a_shl32 1 x4) < 1024) ∧ (0 ≤ x4 ∧ x4 < 10) ∧ ((lR x2 ∧ lR ((M 26 (x1 - (a_shl32 1 x4))) + (M 25 x4))) ∨ x2 = (M 26 (x1 - (a_shl32 1 x4))) + (M 25 x4)) ∧ iR (x4 + 1) ∧ R (min x2 ((M 26 (x1 - (a_shl32 1 x4))) + (M 25 x4))) (x4 + 1) M))
def wp_X0_leastWithLatestKey_L7 (x1 : Int) (Q : Int → Mm → Prop) (x2 : Int) (x4 : Int) (M : Mm) : Prop := LP2 (bc_X0_leastWithLatestKey_L7 x1 Q) x2 x4 M
def wp_X0_leastWithLatestKey (x1 : Int) (M : Mm) (Q : Int → Mm → Prop) : Prop :=
  wp_X0_leastWithLatestKey_L7 x1 Q 1152921504606846976 0 M
def bc_X0_leastSum_L44 (x1 : Int) (x2 : Int) (Q : Int → Mm → Prop) (K91 : Mm → Prop) (R : Int → Mm → Prop) (x3 : Int) (M : Mm) : Prop :=
  (M 1 0 ≤ x3 →
    K91 M) ∧
  (¬ (M 1 0 ≤ x3) →
    wp_X3_allow x3 x2 M (fun z1 M1 =>
      (z1 = 0 →
        (0 ≤ x3 ∧ x3 < 10) ∧ iR (x3 + 1) ∧ R (x3 + 1) (mset M1 25 x3 1152921504606846976)) ∧
      (¬ z1 = 0 →
        wp_X0_priceOn x3 x2 M1 (fun z2 M2 =>
          lR z2 ∧ (0 ≤ x3 ∧ x3 < 10) ∧ iR (x3 + 1) ∧ R (x3 + 1) (mset M2 25 x3 z2)))))
def wp_X0_leastSum_L44 (x1 : Int) (x2 : Int) (Q : Int → Mm → Prop) (K91 : Mm → Prop) (x3 : Int) (M : Mm) : Prop := LP1 (bc_X0_leastSum_L44 x1 x2 Q K91) x3 M
def bc_X0_leastSum_L93 (x1 : Int) (x2 : Int) (Q : Int → Mm → Prop) (K123 : Mm → Prop) (R : Int → Mm → Prop) (x3 : Int) (M : Mm) : Prop :=
  (x3 ≤ 0 →
    K123 M) ∧
  (¬ (x3 ≤ 0) →
    (0 ≤ x3 ∧ x3 < 1024) ∧ wp_X0_leastWithLatestKey x3 M (fun z1 M1 =>
      ((lR (M 26 x3) ∧ lR z1) ∨ M 26 x3 = z1) ∧ lR (min (M 26 x3) z1) ∧ (0 ≤ x3 ∧ x3 < 1024) ∧ iR (x3 + (-1)) ∧ R (x3 + (-1)) (mset M1 26 x3 (min (M 26 x3) z1))))
def wp_X0_leastSum_L93 (x1 : Int) (x2 : Int) (Q : Int → Mm → Prop) (K123 : Mm → Prop) (x3 : Int) (M : Mm) : Prop := LP1 (bc_X0_leastSum_L93 x1 x2 Q K123) x3 M
def bc_X0_leastSum_L31 (x1 : Int) (Q : Int → Mm → Prop) (R : Int → Mm → Prop) (x2 : Int) (M : Mm) : Prop :=
  (M 3 0 ≤ x2 →
    (0 ≤ x1 ∧ x1 < 1024) ∧ Q (M 26 x1) M) ∧
  (¬ (M 3 0 ≤ x2) →
    wp_X0_leastSum_L44 x1 x2 Q (fun M1 =>
      wp_X0_leastSum_L93 x1 x2 Q (fun M2 =>
        iR (x2 + 1) ∧ R (x2 + 1) M2) x1 M1) 0 M)
def wp_X0_leastSum_L31 (x1 : Int) (Q : Int → Mm → Prop) (x2 : Int) (M : Mm) : Prop := LP1 (bc_X0_leastSum_L31 x1 Q) x2 M
def wp_X0_leastSum (M : Mm) (Q : Int → Mm → Prop) : Prop :=
  wp_J7_fill_d0a16_c26 1152921504606846976 M (fun M1 =>
    iR ((a_shl32 1 ((mset M1 26 0 0) 1 0)) - 1) ∧ wp_X0_leastSum_L31 ((a_shl32 1 ((mset M1 26 0 0) 1 0)) - 1) Q 0 (mset M1 26 0 0))
def wp_X7_bound (M : Mm) (Q : Int → Mm → Prop) : Prop :=
  wp_X7_tooFewKeys M (fun z1 M1 =>
    (z1 = 0 →
      wp_X0_leastSum M1 (fun z2 M2 =>
        Q z2 M2)) ∧
    (¬ z1 = 0 →
      Q (-3) M1))
def bc_X8_priceOf_L23 (x1 : Int) (x2 : Int) (x3 : Int) (x4 : Int) (Q : Int → Mm → Prop) (K74 : Int → Mm → Prop) (R : Int → Mm → Prop) (x5 : Int) (M : Mm) : Prop :=
  (x5 ≤ 0 →
    K74 x5 M) ∧
  (¬ (x5 ≤ 0) →
    (0 ≤ x5 - 1 ∧ x5 - 1 < 10) ∧ (0 ≤ (10 * x1) + x4 ∧ (10 * x1) + x4 < 100) ∧ (M 33 ((10 * x1) + x4) ≤ M 43 (x5 - 1) →
      K74 x5 M) ∧
    (¬ (M 33 ((10 * x1) + x4) ≤ M 43 (x5 - 1)) →
      (0 ≤ x5 - 1 ∧ x5 - 1 < 10) ∧ (0 ≤ x5 ∧ x5 < 10) ∧ iR (x5 + (-1)) ∧ R (x5 + (-1)) (mset M 43 x5 (M 43 (x5 - 1)))))
def wp_X8_priceOf_L23 (x1 : Int) (x2 : Int) (x3 : Int) (x4 : Int) (Q : Int → Mm → Prop) (K74 : Int → Mm → Prop) (x5 : Int) (M : Mm) : Prop := LP1 (bc_X8_priceOf_L23 x1 x2 x3 x4 Q K74) x5 M
def bc_X8_priceOf_L5 (x1 : Int) (x2 : Int) (Q : Int → Mm → Prop) (K102 : Int → Mm → Prop) (R : Int → Int → Mm → Prop) (x3 : Int) (x4 : Int) (M : Mm) : Prop :=
  (M 8 0 ≤ x4 →
    K102 x3 M) ∧
  (¬ (M 8 0 ≤ x4) →
    (x4 = x1 →
      iR (x4 + 1) ∧ R x3 (x4 + 1) M) ∧
    (¬ x4 = x1 →
      wp_X8_priceOf_L23 x1 x2 x3 x4 Q (fun y5_1 M1 =>
        (0 ≤ (10 * x1) + x4 ∧ (10 * x1) + x4 < 100) ∧ (0 ≤ y5_1 ∧ y5_1 < 10) ∧ iR (x3 + 1) ∧ iR (x4 + 1) ∧ R (x3 + 1) (x4 + 1) (mset M1 43 y5_1 (M1 33 ((10 * x1) + x4)))) x3 M))
def wp_X8_priceOf_L5 (x1 : Int) (x2 : Int) (Q : Int → Mm → Prop) (K102 : Int → Mm → Prop) (x3 : Int) (x4 : Int) (M : Mm) : Prop := LP2 (bc_X8_priceOf_L5 x1 x2 Q K102) x3 x4 M
def bc_X8_priceOf_L127 (x2 : Int) (x3 : Int) (x4 : Int) (x5 : Int) (Q : Int → Mm → Prop) (K173 : Int → Mm → Prop) (R : Int → Mm → Prop) (x6 : Int) (M : Mm) : Prop :=
  (x6 ≤ 0 →
    K173 x6 M) ∧
  (¬ (x6 ≤ 0) →
    (0 ≤ x6 - 1 ∧ x6 - 1 < 12) ∧ wp_X8_costOf x2 x5 M (fun z1 M1 =>
      (M 44 (x6 - 1) ≤ z1 →
        K173 x6 M1) ∧
      (¬ (M 44 (x6 - 1) ≤ z1) →
        (0 ≤ x6 - 1 ∧ x6 - 1 < 12) ∧ (0 ≤ x6 ∧ x6 < 12) ∧ iR (x6 + (-1)) ∧ R (x6 + (-1)) (mset M1 44 x6 (M1 44 (x6 - 1))))))
def wp_X8_priceOf_L127 (x2 : Int) (x3 : Int) (x4 : Int) (x5 : Int) (Q : Int → Mm → Prop) (K173 : Int → Mm → Prop) (x6 : Int) (M : Mm) : Prop := LP1 (bc_X8_priceOf_L127 x2 x3 x4 x5 Q K173) x6 M
def bc_X8_priceOf_L108 (x2 : Int) (x3 : Int) (Q : Int → Mm → Prop) (K196 : Mm → Prop) (R : Int → Int → Mm → Prop) (x4 : Int) (x5 : Int) (M : Mm) : Prop :=
  (M 8 5 ≤ x5 →
    K196 M) ∧
  (¬ (M 8 5 ≤ x5) →
    (x5 = x2 →
      iR (x5 + 1) ∧ R x4 (x5 + 1) M) ∧
    (¬ x5 = x2 →
      wp_X8_priceOf_L127 x2 x3 x4 x5 Q (fun y6_1 M1 =>
        wp_X8_costOf x2 x5 M1 (fun z1 M2 =>
          (0 ≤ y6_1 ∧ y6_1 < 12) ∧ iR (x4 + 1) ∧ iR (x5 + 1) ∧ R (x4 + 1) (x5 + 1) (mset M2 44 y6_1 z1))) x4 M))
def wp_X8_priceOf_L108 (x2 : Int) (x3 : Int) (Q : Int → Mm → Prop) (K196 : Mm → Prop) (x4 : Int) (x5 : Int) (M : Mm) : Prop := LP2 (bc_X8_priceOf_L108 x2 x3 Q K196) x4 x5 M
def bc_X8_priceOf_L202 (x3 : Int) (Q : Int → Mm → Prop) (R : Int → Int → Mm → Prop) (x5 : Int) (x7 : Int) (M : Mm) : Prop :=
  (x3 ≤ x7 →
    Q x5 M) ∧
  (¬ (x3 ≤ x7) →
    (0 ≤ x7 ∧ x7 < 10) ∧ (0 ≤ x7 ∧ x7 < 12) ∧ iR (x7 + 1) ∧ R (x5 + ((M 43 x7) * (M 44 x7))) (x7 + 1) M)
def wp_X8_priceOf_L202 (x3 : Int) (Q : Int → Mm → Prop) (x5 : Int) (x7 : Int) (M : Mm) : Prop := LP2 (bc_X8_priceOf_L202 x3 Q) x5 x7 M
def wp_X8_priceOf (x1 : Int) (x2 : Int) (M : Mm) (Q : Int → Mm → Prop) : Prop :=
  wp_X8_priceOf_L5 x1 x2 Q (fun y3_1 M1 =>
    wp_X8_priceOf_L108 x2 y3_1 Q (fun M2 =>
      wp_X8_priceOf_L202 y3_1 Q 0 0 M2) 0 0 M1) 0 0 M
def bc_X8_bound_L35 (x1 : Int) (Q : Int → Mm → Prop) (K78 : Mm → Prop) (R : Int → Mm → Prop) (x3 : Int) (M : Mm) : Prop :=
  (a_shl32 1 (M 8 5) ≤ x3 →
    K78 M) ∧
  (¬ (a_shl32 1 (M 8 5) ≤ x3) →
    (0 ≤ x3 ∧ x3 < 4096) ∧ (0 ≤ a_and32 x3 (x3 - 1) ∧ a_and32 x3 (x3 - 1) < 4096) ∧ iR (((mset M 45 x3 (-1)) 46 (a_and32 x3 (x3 - 1))) + 1) ∧ (0 ≤ x3 ∧ x3 < 4096) ∧ iR (x3 + 1) ∧ R (x3 + 1) (mset (mset M 45 x3 (-1)) 46 x3 (((mset M 45 x3 (-1)) 46 (a_and32 x3 (x3 - 1))) + 1)))
def wp_X8_bound_L35 (x1 : Int) (Q : Int → Mm → Prop) (K78 : Mm → Prop) (x3 : Int) (M : Mm) : Prop := LP1 (bc_X8_bound_L35 x1 Q K78) x3 M
def bc_X8_bound_L91 (x1 : Int) (x3 : Int) (Q : Int → Mm → Prop) (K125 : Mm → Prop) (R : Int → Mm → Prop) (x4 : Int) (M : Mm) : Prop :=
  (M 8 5 ≤ x4 →
    K125 M) ∧
  (¬ (M 8 5 ≤ x4) →
    wp_X8_priceOf x3 x4 M (fun z1 M1 =>
      lR z1 ∧ (0 ≤ (12 * x3) + x4 ∧ (12 * x3) + x4 < 120) ∧ iR (x4 + 1) ∧ R (x4 + 1) (mset M1 47 ((12 * x3) + x4) z1)))
def wp_X8_bound_L91 (x1 : Int) (x3 : Int) (Q : Int → Mm → Prop) (K125 : Mm → Prop) (x4 : Int) (M : Mm) : Prop := LP1 (bc_X8_bound_L91 x1 x3 Q K125) x4 M
def bc_X8_bound_L80 (x1 : Int) (Q : Int → Mm → Prop) (K131 : Mm → Prop) (R : Int → Mm → Prop) (x3 : Int) (M : Mm) : Prop :=
  (M 8 0 ≤ x3 →
    K131 M) ∧
  (¬ (M 8 0 ≤ x3) →
    wp_X8_bound_L91 x1 x3 Q (fun M1 =>
      iR (x3 + 1) ∧ R (x3 + 1) M1) 0 M)
def wp_X8_bound_L80 (x1 : Int) (Q : Int → Mm → Prop) (K131 : Mm → Prop) (x3 : Int) (M : Mm) : Prop := LP1 (bc_X8_bound_L80 x1 Q K131) x3 M
def bc_X8_bound_L202 (x1 : Int) (x3 : Int) (x4 : Int) (Q : Int → Mm → Prop) (K333 : Mm → Prop) (R : Int → Mm → Prop) (x5 : Int) (M : Mm) : Prop :=
  (M 8 5 ≤ x5 →
    K333 M) ∧
  (¬ (M 8 5 ≤ x5) →
    (M 8 0 ≤ x4 →
      K333 M) ∧
    (¬ (M 8 0 ≤ x4) →
      (0 ≤ x3 ∧ x3 < 4096) ∧ (M 45 x3 < 0 →
        K333 M) ∧
      (¬ (M 45 x3 < 0) →
        (a_or32 x3 (a_shl32 1 x5) = x3 →
          iR (x5 + 1) ∧ R (x5 + 1) M) ∧
        (¬ a_or32 x3 (a_shl32 1 x5) = x3 →
          wp_X8_mayBear_c41 x4 x5 0 M (fun z1 M1 =>
            (z1 = 0 →
              iR (x5 + 1) ∧ R (x5 + 1) M1) ∧
            (¬ z1 = 0 →
              (0 ≤ x3 ∧ x3 < 4096) ∧ (0 ≤ (12 * x4) + x5 ∧ (12 * x4) + x5 < 120) ∧ (0 ≤ a_or32 x3 (a_shl32 1 x5) ∧ a_or32 x3 (a_shl32 1 x5) < 4096) ∧ (M1 45 (a_or32 x3 (a_shl32 1 x5)) < 0 →
                lR ((M1 45 x3) + (M1 47 ((12 * x4) + x5))) ∧ (0 ≤ a_or32 x3 (a_shl32 1 x5) ∧ a_or32 x3 (a_shl32 1 x5) < 4096) ∧ iR (x5 + 1) ∧ R (x5 + 1) (mset M1 45 (a_or32 x3 (a_shl32 1 x5)) ((M1 45 x3) + (M1 47 ((12 * x4) + x5))))) ∧
              (¬ (M1 45 (a_or32 x3 (a_shl32 1 x5)) < 0) →
                (0 ≤ a_or32 x3 (a_shl32 1 x5) ∧ a_or32 x3 (a_shl32 1 x5) < 4096) ∧ ((lR ((M1 45 x3) + (M1 47 ((12 * x4) + x5))) ∧ lR (M1 45 (a_or32 x3 (a_shl32 1 x5)))) ∨ (M1 45 x3) + (M1 47 ((12 * x4) + x5)) = M1 45 (a_or32 x3 (a_shl32 1 x5))) ∧ (M1 45 (a_or32 x3 (a_shl32 1 x5)) ≤ (M1 45 x3) + (M1 47 ((12 * x4) + x5)) →
                  (0 ≤ a_or32 x3 (a_shl32 1 x5) ∧ a_or32 x3 (a_shl32 1 x5) < 4096) ∧ (0 ≤ a_or32 x3 (a_shl32 1 x5) ∧ a_or32 x3 (a_shl32 1 x5) < 4096) ∧ iR (x5 + 1) ∧ R (x5 + 1) (mset M1 45 (a_or32 x3 (a_shl32 1 x5)) (M1 45 (a_or32 x3 (a_shl32 1 x5))))) ∧
                (¬ (M1 45 (a_or32 x3 (a_shl32 1 x5)) ≤ (M1 45 x3) + (M1 47 ((12 * x4) + x5))) →
                  lR ((M1 45 x3) + (M1 47 ((12 * x4) + x5))) ∧ (0 ≤ a_or32 x3 (a_shl32 1 x5) ∧ a_or32 x3 (a_shl32 1 x5) < 4096) ∧ iR (x5 + 1) ∧ R (x5 + 1) (mset M1 45 (a_or32 x3 (a_shl32 1 x5)) ((M1 45 x3) + (M1 47 ((12 * x4) + x5))))))))))))
def wp_X8_bound_L202 (x1 : Int) (x3 : Int) (x4 : Int) (Q : Int → Mm → Prop) (K333 : Mm → Prop) (x5 : Int) (M : Mm) : Prop := LP1 (bc_X8_bound_L202 x1 x3 x4 Q K333) x5 M
def bc_X8_bound_L133 (Q : Int → Mm → Prop) (R : Int → Int → Mm → Prop) (x1 : Int) (x3 : Int) (M : Mm) : Prop :=
  (a_shl32 1 (M 8 5) ≤ x3 →
    Q x1 M) ∧
  (¬ (a_shl32 1 (M 8 5) ≤ x3) →
    (0 ≤ x3 ∧ x3 < 4096) ∧ (0 ≤ x3 ∧ x3 < 4096) ∧ (M 45 x3 < 0 →
      wp_X8_bound_L202 x1 x3 (M 46 x3) Q (fun M1 =>
        iR (x3 + 1) ∧ R x1 (x3 + 1) M1) 0 M) ∧
    (¬ (M 45 x3 < 0) →
      (¬ M 46 x3 = M 8 0 →
        wp_X8_bound_L202 x1 x3 (M 46 x3) Q (fun M2 =>
          iR (x3 + 1) ∧ R x1 (x3 + 1) M2) 0 M) ∧
      (M 46 x3 = M 8 0 →
        ((lR x1 ∧ lR 0) ∨ x1 = 0) ∧ (x1 < 0 →
          (0 ≤ x3 ∧ x3 < 4096) ∧ wp_X8_bound_L202 (M 45 x3) x3 (M 46 x3) Q (fun M3 =>
            iR (x3 + 1) ∧ R (M 45 x3) (x3 + 1) M3) 0 M) ∧
        (¬ (x1 < 0) →
          (0 ≤ x3 ∧ x3 < 4096) ∧ ((lR (M 45 x3) ∧ lR x1) ∨ M 45 x3 = x1) ∧ (x1 ≤ M 45 x3 →
            wp_X8_bound_L202 x1 x3 (M 46 x3) Q (fun M4 =>
              iR (x3 + 1) ∧ R x1 (x3 + 1) M4) 0 M) ∧
          (¬ (x1 ≤ M 45 x3) →
            (0 ≤ x3 ∧ x3 < 4096) ∧ wp_X8_bound_L202 (M 45 x3) x3 (M 46 x3) Q (fun M5 =>
              iR (x3 + 1) ∧ R (M 45 x3) (x3 + 1) M5) 0 M)))))
def wp_X8_bound_L133 (Q : Int → Mm → Prop) (x1 : Int) (x3 : Int) (M : Mm) : Prop := LP2 (bc_X8_bound_L133 Q) x1 x3 M
def wp_X8_bound (M : Mm) (Q : Int → Mm → Prop) : Prop :=
  (M 8 0 ≤ M 8 5 →
    wp_X8_bound_L35 (-1) Q (fun M1 =>
      wp_X8_bound_L80 (-1) Q (fun M2 =>
        wp_X8_bound_L133 Q (-1) 0 M2) 0 M1) 1 (mset (mset M 45 0 0) 46 0 0)) ∧
  (¬ (M 8 0 ≤ M 8 5) →
    Q (-3) M)
def wp_X7_price (x1 : Int) (x2 : Int) (M : Mm) (Q : Int → Mm → Prop) : Prop :=
  wp_X3_has x1 M (fun z1 M1 =>
    (z1 = 0 →
      Q (-2) M1) ∧
    (¬ z1 = 0 →
      wp_X2_has x2 M1 (fun z2 M2 =>
        (¬ z2 = 0 →
          wp_X7_tooFewKeys M2 (fun z3 M3 =>
            (z3 = 0 →
              wp_X0_priceOn x1 x2 M3 (fun z4 M4 =>
                Q z4 M4)) ∧
            (¬ z3 = 0 →
              Q (-3) M3))) ∧
        (z2 = 0 →
          Q (-2) M2))))
def wp_X8_price (x1 : Int) (x2 : Int) (M : Mm) (Q : Int → Mm → Prop) : Prop :=
  wp_X8_isLetter x1 M (fun z1 M1 =>
    (z1 = 0 →
      Q (-2) M1) ∧
    (¬ z1 = 0 →
      wp_X8_isKey x2 M1 (fun z2 M2 =>
        (¬ z2 = 0 →
          (M2 8 0 ≤ M2 8 5 →
            wp_X8_priceOf x1 x2 M2 (fun z3 M3 =>
              Q z3 M3)) ∧
          (¬ (M2 8 0 ≤ M2 8 5) →
            Q (-3) M2)) ∧
        (z2 = 0 →
          Q (-2) M2))))
def bc_J7_fill_53178_c28_L5 (x1 : Int) (x3 : Int) (Q : Mm → Prop) (R : Int → Mm → Prop) (x2 : Int) (M : Mm) : Prop :=
  (x3 ≤ x2 →
    Q M) ∧
  (¬ (x3 ≤ x2) →
    (0 ≤ x2 ∧ x2 < 7) ∧ iR (x2 + 1) ∧ R (x2 + 1) (mset M 28 x2 x1))
def wp_J7_fill_53178_c28_L5 (x1 : Int) (x3 : Int) (Q : Mm → Prop) (x2 : Int) (M : Mm) : Prop := LP1 (bc_J7_fill_53178_c28_L5 x1 x3 Q) x2 M
def wp_J7_fill_53178_c28 (x1 : Int) (M : Mm) (Q : Mm → Prop) : Prop :=
  wp_J7_fill_53178_c28_L5 x1 7 Q 0 M
def wp_X6_sameGoings (x1 : Int) (x2 : Int) (x3 : Int) (x4 : Int) (M : Mm) (Q : Int → Mm → Prop) : Prop :=
  (0 ≤ x1 ∧ x1 < 12) ∧ (0 ≤ x2 ∧ x2 < 12) ∧ (0 ≤ x3 ∧ x3 < 12) ∧ (0 ≤ x4 ∧ x4 < 12) ∧ (¬ M 16 (12 * x1 + x2) = M 16 (12 * x3 + x4) →
    Q 0 M) ∧
  (M 16 (12 * x1 + x2) = M 16 (12 * x3 + x4) →
    (0 ≤ x2 ∧ x2 < 12) ∧ (0 ≤ x1 ∧ x1 < 12) ∧ (0 ≤ x4 ∧ x4 < 12) ∧ (0 ≤ x3 ∧ x3 < 12) ∧ (¬ M 16 (12 * x2 + x1) = M 16 (12 * x4 + x3) →
      Q 0 M) ∧
    (M 16 (12 * x2 + x1) = M 16 (12 * x4 + x3) →
      Q 1 M))
def bc_X6_mayGo_L104 (x1 : Int) (x2 : Int) (Q : Int → Mm → Prop) (R : Int → Mm → Prop) (x3 : Int) (M : Mm) : Prop :=
  (x1 ≤ x3 →
    Q 1 M) ∧
  (¬ (x1 ≤ x3) →
    (0 ≤ x3 ∧ x3 < 7) ∧ wp_X6_sameGoings x1 x3 x2 (M 27 x3) M (fun z1 M1 =>
      (¬ z1 = 0 →
        iR (x3 + 1) ∧ R (x3 + 1) M1) ∧
      (z1 = 0 →
        Q 0 M1)))
def wp_X6_mayGo_L104 (x1 : Int) (x2 : Int) (Q : Int → Mm → Prop) (x3 : Int) (M : Mm) : Prop := LP1 (bc_X6_mayGo_L104 x1 x2 Q) x3 M
def wp_X6_mayGo (x1 : Int) (x2 : Int) (M : Mm) (Q : Int → Mm → Prop) : Prop :=
  (0 ≤ x2 ∧ x2 < 7) ∧ (¬ M 29 x2 = 0 →
    Q 0 M) ∧
  (M 29 x2 = 0 →
    (0 ≤ x1 ∧ x1 < 7) ∧ (M 28 x1 = (-1) →
      (0 ≤ x1 ∧ x1 < 12) ∧ (0 ≤ x2 ∧ x2 < 12) ∧ (¬ M 14 x1 = M 14 x2 →
        Q 0 M) ∧
      (M 14 x1 = M 14 x2 →
        (0 ≤ x1 ∧ x1 < 12) ∧ (0 ≤ x2 ∧ x2 < 12) ∧ (M 15 x1 = M 15 x2 →
          (0 ≤ x1 ∧ x1 < 12) ∧ (0 ≤ x1 ∧ x1 < 12) ∧ (0 ≤ x2 ∧ x2 < 12) ∧ (0 ≤ x2 ∧ x2 < 12) ∧ (M 16 (12 * x1 + x1) = M 16 (12 * x2 + x2) →
            wp_X6_mayGo_L104 x1 x2 Q 0 M) ∧
          (¬ M 16 (12 * x1 + x1) = M 16 (12 * x2 + x2) →
            Q 0 M)) ∧
        (¬ M 15 x1 = M 15 x2 →
          Q 0 M))) ∧
    (¬ M 28 x1 = (-1) →
      (0 ≤ x1 ∧ x1 < 7) ∧ (M 28 x1 = x2 →
        (0 ≤ x1 ∧ x1 < 12) ∧ (0 ≤ x2 ∧ x2 < 12) ∧ (¬ M 14 x1 = M 14 x2 →
          Q 0 M) ∧
        (M 14 x1 = M 14 x2 →
          (0 ≤ x1 ∧ x1 < 12) ∧ (0 ≤ x2 ∧ x2 < 12) ∧ (M 15 x1 = M 15 x2 →
            (0 ≤ x1 ∧ x1 < 12) ∧ (0 ≤ x1 ∧ x1 < 12) ∧ (0 ≤ x2 ∧ x2 < 12) ∧ (0 ≤ x2 ∧ x2 < 12) ∧ (M 16 (12 * x1 + x1) = M 16 (12 * x2 + x2) →
              wp_X6_mayGo_L104 x1 x2 Q 0 M) ∧
            (¬ M 16 (12 * x1 + x1) = M 16 (12 * x2 + x2) →
              Q 0 M)) ∧
          (¬ M 15 x1 = M 15 x2 →
            Q 0 M))) ∧
      (¬ M 28 x1 = x2 →
        Q 0 M)))
def wp_X6_turnsWith (PF : Int → Mm → (Int → Mm → Prop) → Prop) (x1 : Int) (x2 : Int) (M : Mm) (Q : Int → Mm → Prop) : Prop :=
  (0 ≤ x1 ∧ x1 < 7) ∧ (0 ≤ x2 ∧ x2 < 7) ∧ iR (x1 + 1) ∧ PF (x1 + 1) (mset (mset M 27 x1 x2) 29 x2 1) (fun z1 M1 =>
    (0 ≤ x2 ∧ x2 < 7) ∧ Q z1 (mset M1 29 x2 0))
def bc_X6_turnsFrom_L23 (PF : Int → Mm → (Int → Mm → Prop) → Prop) (x1 : Int) (Q : Int → Mm → Prop) (R : Int → Int → Mm → Prop) (x2 : Int) (x3 : Int) (M : Mm) : Prop :=
  (M 3 0 ≤ x3 →
    Q x2 M) ∧
  (¬ (M 3 0 ≤ x3) →
    (7 ≤ x3 →
      Q x2 M) ∧
    (¬ (7 ≤ x3) →
      wp_X6_mayGo x1 x3 M (fun z1 M1 =>
        (z1 = 0 →
          iR (x3 + 1) ∧ R x2 (x3 + 1) M1) ∧
        (¬ z1 = 0 →
          wp_X6_turnsWith PF x1 x3 M1 (fun z2 M2 =>
            iR (x2 + z2) ∧ iR (x3 + 1) ∧ R (x2 + z2) (x3 + 1) M2)))))
def wp_X6_turnsFrom_L23 (PF : Int → Mm → (Int → Mm → Prop) → Prop) (x1 : Int) (Q : Int → Mm → Prop) (x2 : Int) (x3 : Int) (M : Mm) : Prop := LP2 (bc_X6_turnsFrom_L23 PF x1 Q) x2 x3 M
def wb_X6_turnsFrom (PF : Int → Mm → (Int → Mm → Prop) → Prop) (x1 : Int) (M : Mm) (Q : Int → Mm → Prop) : Prop :=
  (M 3 0 ≤ x1 →
    Q 1 M) ∧
  (¬ (M 3 0 ≤ x1) →
    (x1 < 7 →
      wp_X6_turnsFrom_L23 PF x1 Q 0 0 M) ∧
    (¬ (x1 < 7) →
      Q 1 M))
def wp_X6_turnsFrom : Nat → Int → Mm → (Int → Mm → Prop) → Prop
  | 0 => fun _ _ _ => False
  | d + 1 => wb_X6_turnsFrom (wp_X6_turnsFrom d)
def wp_X6_countTurns (M : Mm) (Q : Int → Mm → Prop) : Prop :=
  wp_J7_fill_53178_c28 (-1) M (fun M1 =>
    wp_X6_turnsFrom 9 0 M1 (fun z1 M2 =>
      Q z1 M2))
def wp_X7_turns (M : Mm) (Q : Int → Mm → Prop) : Prop :=
  (M 3 0 < 1 →
    Q (-3) M) ∧
  (¬ (M 3 0 < 1) →
    (M 3 0 ≤ 7 →
      wp_X6_countTurns M (fun z1 M1 =>
        Q z1 M1)) ∧
    (¬ (M 3 0 ≤ 7) →
      Q (-3) M))
def bc_X8_isTurned_L41 (x1 : Int) (x2 : Int) (Q : Int → Mm → Prop) (R : Int → Mm → Prop) (x3 : Int) (M : Mm) : Prop :=
  (x1 < x3 →
    Q 1 M) ∧
  (¬ (x1 < x3) →
    (x1 ≤ x3 →
      (0 ≤ (12 * x1) + x3 ∧ (12 * x1) + x3 < 144) ∧ (0 ≤ x3 ∧ x3 < 7) ∧ (0 ≤ (12 * x2) + (M 48 x3) ∧ (12 * x2) + (M 48 x3) < 144) ∧ (¬ M 36 ((12 * x1) + x3) = M 36 ((12 * x2) + (M 48 x3)) →
        Q 0 M) ∧
      (M 36 ((12 * x1) + x3) = M 36 ((12 * x2) + (M 48 x3)) →
        (0 ≤ (12 * x3) + x1 ∧ (12 * x3) + x1 < 144) ∧ (0 ≤ x3 ∧ x3 < 7) ∧ (0 ≤ (12 * (M 48 x3)) + x2 ∧ (12 * (M 48 x3)) + x2 < 144) ∧ (M 36 ((12 * x3) + x1) = M 36 ((12 * (M 48 x3)) + x2) →
          iR (x3 + 1) ∧ R (x3 + 1) M) ∧
        (¬ M 36 ((12 * x3) + x1) = M 36 ((12 * (M 48 x3)) + x2) →
          Q 0 M))) ∧
    (¬ (x1 ≤ x3) →
      (0 ≤ x3 ∧ x3 < 7) ∧ (M 48 x3 = x2 →
        Q 0 M) ∧
      (¬ M 48 x3 = x2 →
        (0 ≤ (12 * x1) + x3 ∧ (12 * x1) + x3 < 144) ∧ (0 ≤ x3 ∧ x3 < 7) ∧ (0 ≤ (12 * x2) + (M 48 x3) ∧ (12 * x2) + (M 48 x3) < 144) ∧ (¬ M 36 ((12 * x1) + x3) = M 36 ((12 * x2) + (M 48 x3)) →
          Q 0 M) ∧
        (M 36 ((12 * x1) + x3) = M 36 ((12 * x2) + (M 48 x3)) →
          (0 ≤ (12 * x3) + x1 ∧ (12 * x3) + x1 < 144) ∧ (0 ≤ x3 ∧ x3 < 7) ∧ (0 ≤ (12 * (M 48 x3)) + x2 ∧ (12 * (M 48 x3)) + x2 < 144) ∧ (M 36 ((12 * x3) + x1) = M 36 ((12 * (M 48 x3)) + x2) →
            iR (x3 + 1) ∧ R (x3 + 1) M) ∧
          (¬ M 36 ((12 * x3) + x1) = M 36 ((12 * (M 48 x3)) + x2) →
            Q 0 M)))))
def wp_X8_isTurned_L41 (x1 : Int) (x2 : Int) (Q : Int → Mm → Prop) (x3 : Int) (M : Mm) : Prop := LP1 (bc_X8_isTurned_L41 x1 x2 Q) x3 M
def wp_X8_isTurned (x1 : Int) (M : Mm) (Q : Int → Mm → Prop) : Prop :=
  (0 ≤ x1 ∧ x1 < 7) ∧ (0 ≤ M 48 x1 ∧ M 48 x1 < 12) ∧ (0 ≤ x1 ∧ x1 < 12) ∧ (¬ M 34 (M 48 x1) = M 34 x1 →
    Q 0 M) ∧
  (M 34 (M 48 x1) = M 34 x1 →
    (0 ≤ M 48 x1 ∧ M 48 x1 < 12) ∧ (0 ≤ x1 ∧ x1 < 12) ∧ (M 35 (M 48 x1) = M 35 x1 →
      wp_X8_isTurned_L41 x1 (M 48 x1) Q 0 M) ∧
    (¬ M 35 (M 48 x1) = M 35 x1 →
      Q 0 M))
def bc_X8_leads_L2 (Q : Int → Mm → Prop) (R : Int → Mm → Prop) (x1 : Int) (M : Mm) : Prop :=
  (M 8 0 ≤ x1 →
    Q 1 M) ∧
  (¬ (M 8 0 ≤ x1) →
    (0 ≤ x1 ∧ x1 < 10) ∧ (0 ≤ M 38 x1 ∧ M 38 x1 < 7) ∧ (0 ≤ x1 ∧ x1 < 10) ∧ (M 48 (M 38 x1) = M 39 x1 →
      iR (x1 + 1) ∧ R (x1 + 1) M) ∧
    (¬ M 48 (M 38 x1) = M 39 x1 →
      Q 0 M))
def wp_X8_leads_L2 (Q : Int → Mm → Prop) (x1 : Int) (M : Mm) : Prop := LP1 (bc_X8_leads_L2 Q) x1 M
def wp_X8_leads (M : Mm) (Q : Int → Mm → Prop) : Prop :=
  wp_X8_leads_L2 Q 0 M
def bc_X8_turned_L11 (x1 : Int) (Q : Int → Mm → Prop) (R : Int → Int → Mm → Prop) (x2 : Int) (x3 : Int) (M : Mm) : Prop :=
  (x3 < 0 →
    Q x2 M) ∧
  (¬ (x3 < 0) →
    (0 ≤ x3 ∧ x3 < 7) ∧ iR ((M 48 x3) + 1) ∧ (0 ≤ x3 ∧ x3 < 7) ∧ (0 ≤ x3 ∧ x3 < 7) ∧ (¬ (mset M 48 x3 ((M 48 x3) + 1)) 48 x3 = (mset M 48 x3 ((M 48 x3) + 1)) 8 5 →
      wp_X8_isTurned x3 (mset M 48 x3 ((M 48 x3) + 1)) (fun z1 M1 =>
        (z1 = 0 →
          R x2 x3 M1) ∧
        (¬ z1 = 0 →
          iR ((M1 8 5) - 1) ∧ (¬ x3 = (M1 8 5) - 1 →
            (0 ≤ x3 + 1 ∧ x3 + 1 < 7) ∧ iR (x3 + 1) ∧ R x2 (x3 + 1) (mset M1 48 (x3 + 1) (-1))) ∧
          (x3 = (M1 8 5) - 1 →
            (x1 = 0 →
              iR (x2 + 1) ∧ R (x2 + 1) x3 M1) ∧
            (¬ x1 = 0 →
              wp_X8_leads M1 (fun z2 M2 =>
                (z2 = 0 →
                  iR (x2 + 0) ∧ R (x2 + 0) x3 M2) ∧
                (¬ z2 = 0 →
                  iR (x2 + 1) ∧ R (x2 + 1) x3 M2))))))) ∧
    ((mset M 48 x3 ((M 48 x3) + 1)) 48 x3 = (mset M 48 x3 ((M 48 x3) + 1)) 8 5 →
      iR (x3 + (-1)) ∧ R x2 (x3 + (-1)) (mset M 48 x3 ((M 48 x3) + 1))))
def wp_X8_turned_L11 (x1 : Int) (Q : Int → Mm → Prop) (x2 : Int) (x3 : Int) (M : Mm) : Prop := LP2 (bc_X8_turned_L11 x1 Q) x2 x3 M
def wp_X8_turned (x1 : Int) (M : Mm) (Q : Int → Mm → Prop) : Prop :=
  wp_X8_turned_L11 x1 Q 0 0 (mset M 48 0 (-1))
def wp_X8_turns (M : Mm) (Q : Int → Mm → Prop) : Prop :=
  (M 8 5 = 0 →
    Q (-3) M) ∧
  (¬ M 8 5 = 0 →
    (M 8 5 ≤ 7 →
      wp_X8_turned 0 M (fun z1 M1 =>
        Q z1 M1)) ∧
    (¬ (M 8 5 ≤ 7) →
      Q (-3) M))
def bc_X6_leads_c19_c22_L11 (x3 : Int) (Q : Int → Mm → Prop) (R : Int → Mm → Prop) (x4 : Int) (M : Mm) : Prop :=
  (x3 ≤ x4 →
    wp_X6_turnsFrom 9 0 M (fun z1 M1 =>
      (z1 ≤ 0 →
        Q 0 M1) ∧
      (¬ (z1 ≤ 0) →
        Q 1 M1))) ∧
  (¬ (x3 ≤ x4) →
    (0 ≤ x4 ∧ x4 < 10) ∧ (0 ≤ x4 ∧ x4 < 10) ∧ (0 ≤ M 19 x4 ∧ M 19 x4 < 7) ∧ iR (x4 + 1) ∧ R (x4 + 1) (mset M 28 (M 19 x4) (M 22 x4)))
def wp_X6_leads_c19_c22_L11 (x3 : Int) (Q : Int → Mm → Prop) (x4 : Int) (M : Mm) : Prop := LP1 (bc_X6_leads_c19_c22_L11 x3 Q) x4 M
def wp_X6_leads_c19_c22 (x3 : Int) (M : Mm) (Q : Int → Mm → Prop) : Prop :=
  wp_J7_fill_53178_c28 (-1) M (fun M1 =>
    wp_X6_leads_c19_c22_L11 x3 Q 0 M1)
def wp_X7_alike (M : Mm) (Q : Int → Mm → Prop) : Prop :=
  (M 4 4 = 0 →
    Q (-3) M) ∧
  (¬ M 4 4 = 0 →
    (M 5 7 = 0 →
      Q (-3) M) ∧
    (¬ M 5 7 = 0 →
      (M 3 0 ≤ 7 →
        wp_X6_leads_c19_c22 (M 1 0) M (fun z1 M1 =>
          (z1 = 0 →
            Q 0 M1) ∧
          (¬ z1 = 0 →
            Q 1 M1))) ∧
      (¬ (M 3 0 ≤ 7) →
        Q (-3) M)))
def wp_X8_alike (M : Mm) (Q : Int → Mm → Prop) : Prop :=
  (M 8 10 = 0 →
    Q (-3) M) ∧
  (¬ M 8 10 = 0 →
    (M 8 12 = 0 →
      Q (-3) M) ∧
    (¬ M 8 12 = 0 →
      (M 8 5 ≤ 7 →
        wp_X8_turned 1 M (fun z1 M1 =>
          (z1 ≤ 0 →
            Q 0 M1) ∧
          (¬ (z1 ≤ 0) →
            Q 1 M1))) ∧
      (¬ (M 8 5 ≤ 7) →
        Q (-3) M)))
def bc_X4_present_L13 (x3 : Int) (Q : Int → Mm → Prop) (R : Int → Int → Mm → Prop) (x1 : Int) (x4 : Int) (M : Mm) : Prop :=
  (x3 ≤ x4 →
    Q x1 M) ∧
  (¬ (x3 ≤ x4) →
    (0 ≤ x4 ∧ x4 < 6) ∧ (M 12 x4 ≤ 0 →
      iR (x4 + 1) ∧ R x1 (x4 + 1) M) ∧
    (¬ (M 12 x4 ≤ 0) →
      iR (x1 + 1) ∧ iR (x4 + 1) ∧ R (x1 + 1) (x4 + 1) M))
def wp_X4_present_L13 (x3 : Int) (Q : Int → Mm → Prop) (x1 : Int) (x4 : Int) (M : Mm) : Prop := LP2 (bc_X4_present_L13 x3 Q) x1 x4 M
def wp_X4_present (M : Mm) (Q : Int → Mm → Prop) : Prop :=
  wp_X4_present_L13 6 Q 0 0 M
def bc_X4_signsTogether_L13 (x3 : Int) (Q : Int → Mm → Prop) (R : Int → Int → Mm → Prop) (x1 : Int) (x4 : Int) (M : Mm) : Prop :=
  (x3 ≤ x4 →
    Q x1 M) ∧
  (¬ (x3 ≤ x4) →
    (0 ≤ x4 ∧ x4 < 6) ∧ iR (x1 + (M 12 x4)) ∧ iR (x4 + 1) ∧ R (x1 + (M 12 x4)) (x4 + 1) M)
def wp_X4_signsTogether_L13 (x3 : Int) (Q : Int → Mm → Prop) (x1 : Int) (x4 : Int) (M : Mm) : Prop := LP2 (bc_X4_signsTogether_L13 x3 Q) x1 x4 M
def wp_X4_signsTogether (M : Mm) (Q : Int → Mm → Prop) : Prop :=
  wp_X4_signsTogether_L13 6 Q 0 0 M
def bc_X4_pairsOf_L12 (x1 : Int) (x3 : Int) (Q : Int → Mm → Prop) (K36 : Int → Mm → Prop) (R : Int → Int → Mm → Prop) (x2 : Int) (x4 : Int) (M : Mm) : Prop :=
  (x1 ≤ x4 →
    K36 x2 M) ∧
  (¬ (x1 ≤ x4) →
    (0 ≤ x3 ∧ x3 < 10) ∧ (0 ≤ x4 ∧ x4 < 10) ∧ iR (x2 + (M 13 (10 * x3 + x4))) ∧ iR (x4 + 1) ∧ R (x2 + (M 13 (10 * x3 + x4))) (x4 + 1) M)
def wp_X4_pairsOf_L12 (x1 : Int) (x3 : Int) (Q : Int → Mm → Prop) (K36 : Int → Mm → Prop) (x2 : Int) (x4 : Int) (M : Mm) : Prop := LP2 (bc_X4_pairsOf_L12 x1 x3 Q K36) x2 x4 M
def bc_X4_pairsOf_L4 (x1 : Int) (Q : Int → Mm → Prop) (R : Int → Int → Mm → Prop) (x2 : Int) (x3 : Int) (M : Mm) : Prop :=
  (x1 ≤ x3 →
    Q x2 M) ∧
  (¬ (x1 ≤ x3) →
    wp_X4_pairsOf_L12 x1 x3 Q (fun y2_1 M1 =>
      iR (x3 + 1) ∧ R y2_1 (x3 + 1) M1) x2 0 M)
def wp_X4_pairsOf_L4 (x1 : Int) (Q : Int → Mm → Prop) (x2 : Int) (x3 : Int) (M : Mm) : Prop := LP2 (bc_X4_pairsOf_L4 x1 Q) x2 x3 M
def wp_X4_pairsOf (x1 : Int) (M : Mm) (Q : Int → Mm → Prop) : Prop :=
  wp_X4_pairsOf_L4 x1 Q 0 0 M
def bc_X3_fixedTogether_L4 (Q : Int → Mm → Prop) (R : Int → Int → Mm → Prop) (x1 : Int) (x2 : Int) (M : Mm) : Prop :=
  (M 1 0 ≤ x2 →
    Q x1 M) ∧
  (¬ (M 1 0 ≤ x2) →
    wp_X3_isFixed x2 M (fun z1 M1 =>
      (z1 = 0 →
        iR (x2 + 1) ∧ R x1 (x2 + 1) M1) ∧
      (¬ z1 = 0 →
        iR (x1 + 1) ∧ iR (x2 + 1) ∧ R (x1 + 1) (x2 + 1) M1)))
def wp_X3_fixedTogether_L4 (Q : Int → Mm → Prop) (x1 : Int) (x2 : Int) (M : Mm) : Prop := LP2 (bc_X3_fixedTogether_L4 Q) x1 x2 M
def wp_X3_fixedTogether (M : Mm) (Q : Int → Mm → Prop) : Prop :=
  wp_X3_fixedTogether_L4 Q 0 0 M
def wp_X7_count (x1 : Int) (M : Mm) (Q : Int → Mm → Prop) : Prop :=
  (x1 = 0 →
    Q (M 1 0) M) ∧
  (x1 = 1 →
    Q (M 3 0) M) ∧
  (x1 = 2 →
    wp_X4_present M (fun z1 M1 =>
      Q z1 M1)) ∧
  (x1 = 3 →
    wp_X4_signsTogether M (fun z2 M2 =>
      Q z2 M2)) ∧
  (x1 = 4 →
    wp_X4_pairsOf (M 1 0) M (fun z3 M3 =>
      Q z3 M3)) ∧
  (x1 = 5 →
    wp_X3_fixedTogether M (fun z4 M4 =>
      Q z4 M4)) ∧
  (x1 = 6 →
    (M 4 4 = 0 →
      Q 0 M) ∧
    (¬ M 4 4 = 0 →
      Q 1 M)) ∧
  ((x1 < 0 ∨ 6 < x1) →
    Q (-2) M)
def bc_X8_count_L56 (x1 : Int) (Q : Int → Mm → Prop) (R : Int → Int → Mm → Prop) (x2 : Int) (x3 : Int) (M : Mm) : Prop :=
  (6 ≤ x3 →
    Q x2 M) ∧
  (¬ (6 ≤ x3) →
    (0 ≤ x3 ∧ x3 < 6) ∧ (¬ M 30 x3 = 0 →
      (¬ x1 = 2 →
        (0 ≤ x3 ∧ x3 < 6) ∧ iR (x2 + (M 31 x3)) ∧ iR (x3 + 1) ∧ R (x2 + (M 31 x3)) (x3 + 1) M) ∧
      (x1 = 2 →
        iR (x2 + 1) ∧ iR (x3 + 1) ∧ R (x2 + 1) (x3 + 1) M)) ∧
    (M 30 x3 = 0 →
      iR (x2 + 0) ∧ iR (x3 + 1) ∧ R (x2 + 0) (x3 + 1) M))
def wp_X8_count_L56 (x1 : Int) (Q : Int → Mm → Prop) (x2 : Int) (x3 : Int) (M : Mm) : Prop := LP2 (bc_X8_count_L56 x1 Q) x2 x3 M
def bc_X8_count_L103 (Q : Int → Mm → Prop) (R : Int → Int → Mm → Prop) (x2 : Int) (x3 : Int) (M : Mm) : Prop :=
  (100 ≤ x3 →
    Q x2 M) ∧
  (¬ (100 ≤ x3) →
    (0 ≤ x3 ∧ x3 < 100) ∧ iR (x2 + (M 33 x3)) ∧ iR (x3 + 1) ∧ R (x2 + (M 33 x3)) (x3 + 1) M)
def wp_X8_count_L103 (Q : Int → Mm → Prop) (x2 : Int) (x3 : Int) (M : Mm) : Prop := LP2 (bc_X8_count_L103 Q) x2 x3 M
def bc_X8_count_L128 (Q : Int → Mm → Prop) (R : Int → Int → Mm → Prop) (x2 : Int) (x3 : Int) (M : Mm) : Prop :=
  (M 8 0 ≤ x3 →
    Q x2 M) ∧
  (¬ (M 8 0 ≤ x3) →
    (0 ≤ x3 ∧ x3 < 10) ∧ (¬ M 37 x3 = (-1) →
      iR (x2 + 1) ∧ iR (x3 + 1) ∧ R (x2 + 1) (x3 + 1) M) ∧
    (M 37 x3 = (-1) →
      iR (x2 + 0) ∧ iR (x3 + 1) ∧ R (x2 + 0) (x3 + 1) M))
def wp_X8_count_L128 (Q : Int → Mm → Prop) (x2 : Int) (x3 : Int) (M : Mm) : Prop := LP2 (bc_X8_count_L128 Q) x2 x3 M
def wp_X8_count (x1 : Int) (M : Mm) (Q : Int → Mm → Prop) : Prop :=
  (x1 = 0 →
    Q (M 8 0) M) ∧
  (x1 = 1 →
    Q (M 8 5) M) ∧
  (x1 = 2 →
    wp_X8_count_L56 x1 Q 0 0 M) ∧
  (x1 = 3 →
    wp_X8_count_L56 x1 Q 0 0 M) ∧
  (x1 = 4 →
    wp_X8_count_L103 Q 0 0 M) ∧
  (x1 = 5 →
    wp_X8_count_L128 Q 0 0 M) ∧
  (x1 = 6 →
    (M 8 10 = 0 →
      Q 0 M) ∧
    (¬ M 8 10 = 0 →
      Q 1 M)) ∧
  ((x1 < 0 ∨ 6 < x1) →
    Q (-2) M)
def bc_X7_mixSquare_c13_L15 (x3 : Int) (x6 : Int) (Q : Int → Mm → Prop) (K44 : Int → Mm → Prop) (R : Int → Int → Mm → Prop) (x4 : Int) (x7 : Int) (M : Mm) : Prop :=
  (x3 ≤ x7 →
    K44 x4 M) ∧
  (¬ (x3 ≤ x7) →
    (0 ≤ x6 ∧ x6 < 10) ∧ (0 ≤ x7 ∧ x7 < 10) ∧ iR (x7 + 1) ∧ R ((31 * x4) + (M 13 (10 * x6 + x7))) (x7 + 1) M)
def wp_X7_mixSquare_c13_L15 (x3 : Int) (x6 : Int) (Q : Int → Mm → Prop) (K44 : Int → Mm → Prop) (x4 : Int) (x7 : Int) (M : Mm) : Prop := LP2 (bc_X7_mixSquare_c13_L15 x3 x6 Q K44) x4 x7 M
def bc_X7_mixSquare_c13_L6 (x3 : Int) (Q : Int → Mm → Prop) (R : Int → Int → Mm → Prop) (x4 : Int) (x6 : Int) (M : Mm) : Prop :=
  (x3 ≤ x6 →
    Q x4 M) ∧
  (¬ (x3 ≤ x6) →
    wp_X7_mixSquare_c13_L15 x3 x6 Q (fun y4_1 M1 =>
      iR (x6 + 1) ∧ R y4_1 (x6 + 1) M1) x4 0 M)
def wp_X7_mixSquare_c13_L6 (x3 : Int) (Q : Int → Mm → Prop) (x4 : Int) (x6 : Int) (M : Mm) : Prop := LP2 (bc_X7_mixSquare_c13_L6 x3 Q) x4 x6 M
def wp_X7_mixSquare_c13 (x0 : Int) (x3 : Int) (M : Mm) (Q : Int → Mm → Prop) : Prop :=
  wp_X7_mixSquare_c13_L6 x3 Q x0 0 M
def bc_X7_mixSquare_c17_L15 (x3 : Int) (x6 : Int) (Q : Int → Mm → Prop) (K44 : Int → Mm → Prop) (R : Int → Int → Mm → Prop) (x4 : Int) (x7 : Int) (M : Mm) : Prop :=
  (x3 ≤ x7 →
    K44 x4 M) ∧
  (¬ (x3 ≤ x7) →
    (0 ≤ x6 ∧ x6 < 12) ∧ (0 ≤ x7 ∧ x7 < 12) ∧ iR (x7 + 1) ∧ R ((31 * x4) + (M 17 (12 * x6 + x7))) (x7 + 1) M)
def wp_X7_mixSquare_c17_L15 (x3 : Int) (x6 : Int) (Q : Int → Mm → Prop) (K44 : Int → Mm → Prop) (x4 : Int) (x7 : Int) (M : Mm) : Prop := LP2 (bc_X7_mixSquare_c17_L15 x3 x6 Q K44) x4 x7 M
def bc_X7_mixSquare_c17_L6 (x3 : Int) (Q : Int → Mm → Prop) (R : Int → Int → Mm → Prop) (x4 : Int) (x6 : Int) (M : Mm) : Prop :=
  (x3 ≤ x6 →
    Q x4 M) ∧
  (¬ (x3 ≤ x6) →
    wp_X7_mixSquare_c17_L15 x3 x6 Q (fun y4_1 M1 =>
      iR (x6 + 1) ∧ R y4_1 (x6 + 1) M1) x4 0 M)
def wp_X7_mixSquare_c17_L6 (x3 : Int) (Q : Int → Mm → Prop) (x4 : Int) (x6 : Int) (M : Mm) : Prop := LP2 (bc_X7_mixSquare_c17_L6 x3 Q) x4 x6 M
def wp_X7_mixSquare_c17 (x0 : Int) (x3 : Int) (M : Mm) (Q : Int → Mm → Prop) : Prop :=
  wp_X7_mixSquare_c17_L6 x3 Q x0 0 M
def bc_X7_digest_L6 (Q : Int → Mm → Prop) (K31 : Int → Mm → Prop) (R : Int → Int → Mm → Prop) (x1 : Int) (x3 : Int) (M : Mm) : Prop :=
  (7 ≤ x3 →
    K31 x1 M) ∧
  (¬ (7 ≤ x3) →
    wp_X7_count x3 M (fun z1 M1 =>
      iR (x3 + 1) ∧ R ((31 * x1) + z1) (x3 + 1) M1))
def wp_X7_digest_L6 (Q : Int → Mm → Prop) (K31 : Int → Mm → Prop) (x1 : Int) (x3 : Int) (M : Mm) : Prop := LP2 (bc_X7_digest_L6 Q K31) x1 x3 M
def bc_X7_digest_L81 (Q : Int → Mm → Prop) (R : Int → Int → Mm → Prop) (x1 : Int) (x3 : Int) (M : Mm) : Prop :=
  (M 1 0 ≤ x3 →
    wp_X7_least M (fun z1 M1 =>
      Q ((31 * x1) + z1) M1)) ∧
  (¬ (M 1 0 ≤ x3) →
    (0 ≤ x3 ∧ x3 < 10) ∧ iR (x3 + 1) ∧ R ((31 * x1) + (M 19 x3)) (x3 + 1) M)
def wp_X7_digest_L81 (Q : Int → Mm → Prop) (x1 : Int) (x3 : Int) (M : Mm) : Prop := LP2 (bc_X7_digest_L81 Q) x1 x3 M
def wp_X7_digest (M : Mm) (Q : Int → Mm → Prop) : Prop :=
  wp_X7_digest_L6 Q (fun y1_1 M1 =>
    wp_X7_mixSquare_c13 y1_1 (M1 1 0) M1 (fun z1 M2 =>
      wp_X7_mixSquare_c17 z1 (M2 3 0) M2 (fun z2 M3 =>
        (M3 4 4 = 0 →
          wp_X7_least M3 (fun z3 M4 =>
            Q ((31 * z2) + z3) M4)) ∧
        (¬ M3 4 4 = 0 →
          wp_X7_digest_L81 Q z2 0 M3)))) 59 0 M
def bc_X8_digest_L6 (Q : Int → Mm → Prop) (K31 : Int → Mm → Prop) (R : Int → Int → Mm → Prop) (x1 : Int) (x3 : Int) (M : Mm) : Prop :=
  (7 ≤ x3 →
    K31 x1 M) ∧
  (¬ (7 ≤ x3) →
    wp_X8_count x3 M (fun z1 M1 =>
      iR (x3 + 1) ∧ R ((31 * x1) + z1) (x3 + 1) M1))
def wp_X8_digest_L6 (Q : Int → Mm → Prop) (K31 : Int → Mm → Prop) (x1 : Int) (x3 : Int) (M : Mm) : Prop := LP2 (bc_X8_digest_L6 Q K31) x1 x3 M
def bc_X8_digest_L44 (x3 : Int) (Q : Int → Mm → Prop) (K79 : Int → Mm → Prop) (R : Int → Int → Mm → Prop) (x1 : Int) (x4 : Int) (M : Mm) : Prop :=
  (M 8 0 ≤ x4 →
    K79 x1 M) ∧
  (¬ (M 8 0 ≤ x4) →
    (0 ≤ (10 * x3) + x4 ∧ (10 * x3) + x4 < 100) ∧ iR (x4 + 1) ∧ R ((31 * x1) + (M 33 ((10 * x3) + x4))) (x4 + 1) M)
def wp_X8_digest_L44 (x3 : Int) (Q : Int → Mm → Prop) (K79 : Int → Mm → Prop) (x1 : Int) (x4 : Int) (M : Mm) : Prop := LP2 (bc_X8_digest_L44 x3 Q K79) x1 x4 M
def bc_X8_digest_L33 (Q : Int → Mm → Prop) (K85 : Int → Mm → Prop) (R : Int → Int → Mm → Prop) (x1 : Int) (x3 : Int) (M : Mm) : Prop :=
  (M 8 0 ≤ x3 →
    K85 x1 M) ∧
  (¬ (M 8 0 ≤ x3) →
    wp_X8_digest_L44 x3 Q (fun y1_1 M1 =>
      iR (x3 + 1) ∧ R y1_1 (x3 + 1) M1) x1 0 M)
def wp_X8_digest_L33 (Q : Int → Mm → Prop) (K85 : Int → Mm → Prop) (x1 : Int) (x3 : Int) (M : Mm) : Prop := LP2 (bc_X8_digest_L33 Q K85) x1 x3 M
def bc_X8_digest_L98 (x3 : Int) (Q : Int → Mm → Prop) (K128 : Int → Mm → Prop) (R : Int → Int → Mm → Prop) (x1 : Int) (x4 : Int) (M : Mm) : Prop :=
  (M 8 5 ≤ x4 →
    K128 x1 M) ∧
  (¬ (M 8 5 ≤ x4) →
    wp_X8_costOf x3 x4 M (fun z1 M1 =>
      iR (x4 + 1) ∧ R ((31 * x1) + z1) (x4 + 1) M1))
def wp_X8_digest_L98 (x3 : Int) (Q : Int → Mm → Prop) (K128 : Int → Mm → Prop) (x1 : Int) (x4 : Int) (M : Mm) : Prop := LP2 (bc_X8_digest_L98 x3 Q K128) x1 x4 M
def bc_X8_digest_L87 (Q : Int → Mm → Prop) (K134 : Int → Mm → Prop) (R : Int → Int → Mm → Prop) (x1 : Int) (x3 : Int) (M : Mm) : Prop :=
  (M 8 5 ≤ x3 →
    K134 x1 M) ∧
  (¬ (M 8 5 ≤ x3) →
    wp_X8_digest_L98 x3 Q (fun y1_1 M1 =>
      iR (x3 + 1) ∧ R y1_1 (x3 + 1) M1) x1 0 M)
def wp_X8_digest_L87 (Q : Int → Mm → Prop) (K134 : Int → Mm → Prop) (x1 : Int) (x3 : Int) (M : Mm) : Prop := LP2 (bc_X8_digest_L87 Q K134) x1 x3 M
def bc_X8_digest_L136 (Q : Int → Mm → Prop) (R : Int → Int → Mm → Prop) (x1 : Int) (x3 : Int) (M : Mm) : Prop :=
  (M 8 0 ≤ x3 →
    wp_X8_least M (fun z1 M1 =>
      Q ((31 * x1) + z1) M1)) ∧
  (¬ (M 8 0 ≤ x3) →
    (M 8 10 = 0 →
      wp_X8_least M (fun z2 M2 =>
        Q ((31 * x1) + z2) M2)) ∧
    (¬ M 8 10 = 0 →
      (0 ≤ x3 ∧ x3 < 10) ∧ iR (x3 + 1) ∧ R ((31 * x1) + (M 38 x3)) (x3 + 1) M))
def wp_X8_digest_L136 (Q : Int → Mm → Prop) (x1 : Int) (x3 : Int) (M : Mm) : Prop := LP2 (bc_X8_digest_L136 Q) x1 x3 M
def wp_X8_digest (M : Mm) (Q : Int → Mm → Prop) : Prop :=
  wp_X8_digest_L6 Q (fun y1_1 M1 =>
    wp_X8_digest_L33 Q (fun y1_2 M2 =>
      wp_X8_digest_L87 Q (fun y1_3 M3 =>
        wp_X8_digest_L136 Q y1_3 0 M3) y1_2 0 M2) y1_1 0 M1) 59 0 M
