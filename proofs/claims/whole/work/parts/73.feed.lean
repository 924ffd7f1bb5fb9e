theorem e_feed (x1 w n : Int) (M : Mm) (hI : Inv M) : Same (wp_X7_feed x1 w n) (wp_X8_feed x1 w n) M := by
  obtain ⟨hn, hk, hg, hc, hf, hs, hd, ht, hz, hb, hp, hq, ho⟩ := id hI
  obtain ⟨n1, n2, k1, k2, e1, e2⟩ := id hn
  by_cases hx : 0 ≤ x1 ∧ x1 < 6 ∧ 1 ≤ n ∧ n ≤ 8
  · obtain ⟨p1, p2, p3⟩ := hp x1 (by omega) (by omega)
    have hl : ∀ p, 0 ≤ p → p < 6 → 0 ≤ M 12 p ∧ M 12 p ≤ 300 := fun p p0 p1 => by have := hp p p0 p1; omega
    have hhad : (M 30 x1 = 0 ∧ M 12 x1 = 0) ∨ (M 30 x1 ≠ 0 ∧ M 31 x1 = M 12 x1) := by omega
    by_cases hfull : M 12 x1 + n ≤ 300
    · unfold Same wp_X7_feed wp_X7_isPage wp_X1_forget
      refine ⟨fun q => by omega, fun _ => ⟨fun q => by omega, fun _ => ⟨fun q => absurd q (by decide), fun _ => ⟨fun q => by omega, fun _ => ⟨fun _ => ⟨by omega, by omega, fun _ => ?_, fun q => absurd hfull q⟩, fun q => by omega⟩⟩⟩⟩⟩
      generalize hM1 : mset M 5 7 0 = M1
      have a1 : ∀ c, c ≠ 5 → M1 c = M c := fun c hc => by rw [← hM1]; simp only [mset_eq, fu_ap, hc, reduceIte]
      have a57 : M1 5 7 = 0 := by rw [← hM1]; simp only [mset_eq, fu_ap, reduceIte, Int.reduceEq, Nat.reduceEqDiff]
      have a5 : ∀ k, k ≠ 7 → M1 5 k = M 5 k := fun k hk => by rw [← hM1]; simp only [mset_eq, fu_ap, hk, reduceIte]
      have c12 := a1 12 (by decide)
      have c11 := a1 11 (by decide)
      have c13 := a1 13 (by decide)
      refine s_write x1 w n M1 _ (by omega) (by omega) (by rw [c12]; exact hl) (by rw [c12]; exact hfull) ?_ ?_ (fun M3 b1 b12 b11 b11b bO => ⟨by omega, ?_⟩)
      · rw [c12, c11]; intro i i0 i1; have := hq x1 i (by omega) (by omega) i0 i1; omega
      · rw [c12, c11, c13]; exact fun a b a0 a1 b0 b1 => (ho a b a0 a1 b0 b1).1
      · rw [c12] at b12 b11 b11b
        rw [c11] at b11
        have hr : M3 12 x1 = M 12 x1 + n := by rw [b12, fu_s]
        rw [hr]
        have d1 : ∀ c, c ≠ 11 → c ≠ 12 → c ≠ 13 → c ≠ 5 → M3 c = M c := fun c h1 h2 h3 h4 => (b1 c h1 h2 h3).trans (a1 c h4)
        have d30 := d1 30 (by decide) (by decide) (by decide) (by decide)
        have d31 := d1 31 (by decide) (by decide) (by decide) (by decide)
        have hfin : ∀ M4 : Mm, (∀ c, c ≠ 32 → M4 c = M3 c) → (∀ j, j < 300 * x1 + M 12 x1 ∨ 300 * x1 + M 12 x1 + n ≤ j → M4 32 j = M3 32 j) → (∀ j, 0 ≤ j → j < n → M4 32 (300 * x1 + M 12 x1 + j) = bt w n j) → wp_X8_counts (mset (mset (mset M4 30 x1 1) 31 x1 (M 12 x1 + n)) 8 12 0) (fun M5 => (0 ≤ x1 ∧ x1 < 6) ∧ (M 12 x1 + n = M5 31 x1 ∧ Inv M5)) := by
          intro M4 g1 g2 g3
          generalize hM6 : mset (mset (mset M4 30 x1 1) 31 x1 (M 12 x1 + n)) 8 12 0 = M6
          have i1 : ∀ c, c ≠ 30 → c ≠ 31 → c ≠ 8 → M6 c = M4 c := fun c h1 h2 h3 => by rw [← hM6]; simp only [mset_eq, fu_ap, h1, h2, h3, reduceIte]
          have i30 : M6 30 = fu (M 30) x1 1 := by rw [← hM6]; simp only [mset_eq, fu_ap, reduceIte, Int.reduceEq, Nat.reduceEqDiff]; rw [g1 30 (by decide), d30]
          have i31 : M6 31 = fu (M 31) x1 (M 12 x1 + n) := by rw [← hM6]; simp only [mset_eq, fu_ap, reduceIte, Int.reduceEq, Nat.reduceEqDiff]; rw [g1 31 (by decide), d31]
          have i812 : M6 8 12 = 0 := by rw [← hM6]; simp only [mset_eq, fu_ap, reduceIte, Int.reduceEq, Nat.reduceEqDiff]
          have i8 : ∀ k, k ≠ 12 → M6 8 k = M 8 k := fun k hk => by
            rw [← hM6]; simp only [mset_eq, fu_ap, hk, reduceIte, Nat.reduceEqDiff]; rw [g1 8 (by decide), d1 8 (by decide) (by decide) (by decide) (by decide)]
          have i32 : M6 32 = M4 32 := i1 32 (by decide) (by decide) (by decide)
          have m32 : M3 32 = M 32 := d1 32 (by decide) (by decide) (by decide) (by decide)
          have hp' : Jp (M3 12) (M6 30) (M6 31) := by
            rw [b12, i30, i31]
            intro p p0 p1
            simp only [fu_ap]
            by_cases e : p = x1
            · simp only [e, reduceIte]; exact ⟨by omega, by omega, Or.inr ⟨trivial, by omega, trivial⟩⟩
            · simp only [e, reduceIte]; exact hp p p0 p1
          have hq' : Jq (M3 12) (M3 11) (M6 32) := by
            intro pg i q0 q1 i0 i1'
            rw [i32]
            rw [b12] at i1'
            simp only [fu_ap] at i1'
            by_cases e : pg = x1
            · rw [if_pos e] at i1'
              subst e
              by_cases e2 : i < M 12 pg
              · rw [b11 _ (by omega), g2 _ (by omega), m32]
                exact hq pg i q0 q1 i0 e2
              · have h1 := b11b (i - M 12 pg) (by omega) (by omega)
                have h2 := g3 (i - M 12 pg) (by omega) (by omega)
                rw [show 300 * pg + M 12 pg + (i - M 12 pg) = 300 * pg + i by omega] at h1 h2
                rw [h1, h2]
                have h3 := byte_eq w (n - 1 - (i - M 12 pg)) (by omega) (by omega)
                exact ⟨h3.2.1, h3.2.2, rfl⟩
            · rw [if_neg e] at i1'
              have := hl pg q0 q1
              rw [b11 _ (by omega), g2 _ (by omega), m32]
              exact hq pg i q0 q1 i0 i1'
          refine s_recount M6 (M3 12) (M3 11) _ (by rw [i8 0 (by decide)]; omega) hp' hq' (fun M7 r1 r2 => ⟨by omega, ?_, ?_⟩)
          · rw [r1 31 (by decide), i31, fu_s]
          · have s1 : ∀ c, c ≠ 33 → c ≠ 30 → c ≠ 31 → c ≠ 8 → c ≠ 32 → c ≠ 11 → c ≠ 12 → c ≠ 13 → c ≠ 5 → M7 c = M c := fun c h1 h2 h3 h4 h5 h6 h7 h8 h9 => by rw [r1 c h1, i1 c h2 h3 h4, g1 c h5, d1 c h6 h7 h8 h9]
            have s3 : ∀ c, c ≠ 33 → c ≠ 30 → c ≠ 31 → c ≠ 8 → c ≠ 32 → M7 c = M3 c := fun c h1 h2 h3 h4 h5 => by rw [r1 c h1, i1 c h2 h3 h4, g1 c h5]
            have t8 : ∀ k, k ≠ 12 → M7 8 k = M 8 k := fun k hk => by rw [r1 8 (by decide)]; exact i8 k hk
            have t812 : M7 8 12 = 0 := by rw [r1 8 (by decide)]; exact i812
            have t57 : M7 5 7 = 0 := by rw [s3 5 (by decide) (by decide) (by decide) (by decide) (by decide), b1 5 (by decide) (by decide) (by decide)]; exact a57
            have t5 : ∀ k, k ≠ 7 → M7 5 k = M 5 k := fun k hk => by rw [s3 5 (by decide) (by decide) (by decide) (by decide) (by decide), b1 5 (by decide) (by decide) (by decide)]; exact a5 k hk
            have t12 := s3 12 (by decide) (by decide) (by decide) (by decide) (by decide)
            have t11 := s3 11 (by decide) (by decide) (by decide) (by decide) (by decide)
            have t13 := s3 13 (by decide) (by decide) (by decide) (by decide) (by decide)
            have t30 := r1 30 (by decide)
            have t31 := r1 31 (by decide)
            have t32 := r1 32 (by decide)
            unfold Inv
            simp only [s1, t8, t812, t57, t5, t12, t11, t13, t30, t31, t32, ne_eq, Nat.reduceEqDiff, Int.reduceEq, not_false_eq_true]
            refine ⟨hn, hk, hg, hc, hf, hs, Jd_0, ht, hz, hb, hp', hq', fun a b a0 a1 b0 b1 => ⟨bO a b a0 a1 b0 b1, ?_⟩⟩
            rw [r2 a b a0 a1 b0 b1, i8 0 (by decide), e1]
        unfold wp_X8_feed wp_X8_in
        refine ⟨fun q => by omega, fun _ => ⟨fun q => by omega, fun _ => ⟨fun q => absurd q (by decide), fun _ => ⟨fun q => by omega, fun _ => ⟨fun q => by omega, fun _ => ⟨fun _ => ⟨by omega, ?_, ?_⟩, fun q => absurd q (by decide)⟩⟩⟩⟩⟩⟩
        · intro q
          rw [d30] at q
          refine ⟨by omega, fun _ => ⟨by omega, ?_⟩, fun q2 => by omega⟩
          refine s_mwrite x1 w n 0 M3 _ _ (by omega) (by omega) (by omega) (fun M4 g1 g2 g3 => ⟨by omega, by omega, by omega, ?_⟩)
          have e0 : M 12 x1 = 0 := by omega
          rw [e0] at hfin
          rw [e0]
          exact hfin M4 g1 g2 g3
        · intro q
          rw [d30] at q
          have e0 : M 31 x1 = M 12 x1 := by omega
          rw [d31, e0]
          refine ⟨by omega, by omega, fun _ => ⟨by omega, ?_⟩, fun q2 => by omega⟩
          exact s_mwrite x1 w n (M 12 x1) M3 _ _ (by omega) (by omega) (by omega) (fun M4 g1 g2 g3 => ⟨by omega, by omega, by omega, hfin M4 g1 g2 g3⟩)
    · unfold Same wp_X7_feed wp_X7_isPage wp_X8_feed wp_X8_in
      repeat' (first | with_reducible (apply And.intro) | with_reducible (intro _))
      all_goals (try first | omega | exact absurd trivial (by assumption) | exact False.elim (by assumption))
      all_goals (try (exact hI))
      all_goals (exfalso; omega)
  · unfold Same wp_X7_feed wp_X7_isPage wp_X8_feed wp_X8_in
    repeat' (first | with_reducible (apply And.intro) | with_reducible (intro _))
    all_goals (try first | omega | exact absurd trivial (by assumption) | exact False.elim (by assumption))
    all_goals (try (exact hI))
    all_goals (exfalso; omega)
theorem e_tear (x1 : Int) (M : Mm) (hI : Inv M) : Same (wp_X7_tear x1) (wp_X8_tear x1) M := by
  obtain ⟨hn, hk, hg, hc, hf, hs, hd, ht, hz, hb, hp, hq, ho⟩ := id hI
  obtain ⟨n1, n2, k1, k2, e1, e2⟩ := id hn
  by_cases hx : 0 ≤ x1 ∧ x1 < 6
  · obtain ⟨p1, p2, p3⟩ := hp x1 (by omega) (by omega)
    have hl : ∀ p, 0 ≤ p → p < 6 → 0 ≤ M 12 p ∧ M 12 p ≤ 300 := fun p p0 p1 => by have := hp p p0 p1; omega
    by_cases hz0 : M 12 x1 = 0
    · unfold Same wp_X7_tear wp_X7_isPage wp_X8_tear wp_X8_in
      repeat' (first | with_reducible (apply And.intro) | with_reducible (intro _))
      all_goals (try first | omega | exact absurd trivial (by assumption) | exact False.elim (by assumption))
      all_goals (try (exact hI))
      all_goals (exfalso; omega)
    · unfold Same wp_X7_tear wp_X7_isPage wp_X1_forget
      refine ⟨fun q => by omega, fun _ => ⟨fun q => by omega, fun _ => ⟨fun _ => ⟨by omega, fun _ => ?_, fun q => absurd q hz0⟩, fun q => absurd q (by decide)⟩⟩⟩
      generalize hM1 : mset M 5 7 0 = M1
      have a1 : ∀ c, c ≠ 5 → M1 c = M c := fun c hc => by rw [← hM1]; simp only [mset_eq, fu_ap, hc, reduceIte]
      have a57 : M1 5 7 = 0 := by rw [← hM1]; simp only [mset_eq, fu_ap, reduceIte, Int.reduceEq, Nat.reduceEqDiff]
      have a5 : ∀ k, k ≠ 7 → M1 5 k = M 5 k := fun k hk => by rw [← hM1]; simp only [mset_eq, fu_ap, hk, reduceIte]
      have c12 := a1 12 (by decide)
      have c11 := a1 11 (by decide)
      have c13 := a1 13 (by decide)
      refine s_wipe x1 M1 _ (by omega) (by rw [c12]; exact hl) ?_ (by rw [c12]; omega) ?_ (fun M3 b1 b12 bO => ?_)
      · rw [c12, c11]; intro i i0 i1; have := hq x1 i (by omega) (by omega) i0 i1; omega
      · rw [c12, c11, c13]; exact fun a b a0 a1 b0 b1 => (ho a b a0 a1 b0 b1).1
      · rw [c12] at b12
        have d1 : ∀ c, c ≠ 12 → c ≠ 13 → c ≠ 5 → M3 c = M c := fun c h1 h2 h3 => (b1 c h1 h2).trans (a1 c h3)
        have d30 := d1 30 (by decide) (by decide) (by decide)
        show wp_X8_tear x1 M3 (fun r' M2 => M 12 x1 = r' ∧ Inv M2)
        unfold wp_X8_tear wp_X8_in
        refine ⟨fun q => by omega, fun _ => ⟨fun q => by omega, fun _ => ⟨fun _ => ⟨by omega, fun _ => ⟨by omega, ?_⟩, fun q => by rw [d30] at q; omega⟩, fun q => absurd q (by decide)⟩⟩⟩
        generalize hM6 : mset (mset M3 30 x1 0) 8 12 0 = M6
        have i1 : ∀ c, c ≠ 30 → c ≠ 8 → M6 c = M3 c := fun c h1 h2 => by rw [← hM6]; simp only [mset_eq, fu_ap, h1, h2, reduceIte]
        have i30 : M6 30 = fu (M 30) x1 0 := by rw [← hM6]; simp only [mset_eq, fu_ap, reduceIte, Int.reduceEq, Nat.reduceEqDiff]; rw [d30]
        have i31 : M6 31 = M 31 := (i1 31 (by decide) (by decide)).trans (d1 31 (by decide) (by decide) (by decide))
        have i32 : M6 32 = M 32 := (i1 32 (by decide) (by decide)).trans (d1 32 (by decide) (by decide) (by decide))
        have i812 : M6 8 12 = 0 := by rw [← hM6]; simp only [mset_eq, fu_ap, reduceIte, Int.reduceEq, Nat.reduceEqDiff]
        have i8 : ∀ k, k ≠ 12 → M6 8 k = M 8 k := fun k hk => by
          rw [← hM6]; simp only [mset_eq, fu_ap, hk, reduceIte, Nat.reduceEqDiff]; rw [d1 8 (by decide) (by decide) (by decide)]
        have j11 : M3 11 = M 11 := d1 11 (by decide) (by decide) (by decide)
        have hp' : Jp (M3 12) (M6 30) (M6 31) := by
          rw [b12, i30, i31]
          intro p p0 p1
          simp only [fu_ap]
          by_cases e : p = x1
          · simp only [e, reduceIte]; exact ⟨by omega, by omega, Or.inl ⟨trivial, trivial⟩⟩
          · simp only [e, reduceIte]; exact hp p p0 p1
        have hq' : Jq (M3 12) (M3 11) (M6 32) := by
          intro p i p0 p1 i0 i1'
          rw [i32, j11]
          rw [b12] at i1'
          simp only [fu_ap] at i1'
          by_cases e : p = x1
          · rw [if_pos e] at i1'; omega
          · rw [if_neg e] at i1'; exact hq p i p0 p1 i0 i1'
        refine s_recount M6 (M3 12) (M3 11) _ (by rw [i8 0 (by decide)]; omega) hp' hq' (fun M7 r1 r2 => ⟨by omega, ?_, ?_⟩)
        · rw [r1 31 (by decide), i31]; omega
        · have s1 : ∀ c, c ≠ 33 → c ≠ 30 → c ≠ 8 → c ≠ 12 → c ≠ 13 → c ≠ 5 → M7 c = M c := fun c h1 h2 h4 h7 h8 h9 => by rw [r1 c h1, i1 c h2 h4, d1 c h7 h8 h9]
          have s3 : ∀ c, c ≠ 33 → c ≠ 30 → c ≠ 8 → M7 c = M3 c := fun c h1 h2 h4 => by rw [r1 c h1, i1 c h2 h4]
          have t8 : ∀ k, k ≠ 12 → M7 8 k = M 8 k := fun k hk => by rw [r1 8 (by decide)]; exact i8 k hk
          have t812 : M7 8 12 = 0 := by rw [r1 8 (by decide)]; exact i812
          have t57 : M7 5 7 = 0 := by rw [s3 5 (by decide) (by decide) (by decide), b1 5 (by decide) (by decide)]; exact a57
          have t5 : ∀ k, k ≠ 7 → M7 5 k = M 5 k := fun k hk => by rw [s3 5 (by decide) (by decide) (by decide), b1 5 (by decide) (by decide)]; exact a5 k hk
          have t12 := s3 12 (by decide) (by decide) (by decide)
          have t13 := s3 13 (by decide) (by decide) (by decide)
          have t30 := r1 30 (by decide)
          rw [i31, i32] at *
          rw [j11] at hq' bO r2
          unfold Inv
          simp only [s1, t8, t812, t57, t5, t12, t13, t30, ne_eq, Nat.reduceEqDiff, Int.reduceEq, not_false_eq_true]
          refine ⟨hn, hk, hg, hc, hf, hs, Jd_0, ht, hz, hb, hp', hq', fun a b a0 a1 b0 b1 => ⟨bO a b a0 a1 b0 b1, ?_⟩⟩
          rw [r2 a b a0 a1 b0 b1, i8 0 (by decide), e1]
  · unfold Same wp_X7_tear wp_X7_isPage wp_X8_tear wp_X8_in
    repeat' (first | with_reducible (apply And.intro) | with_reducible (intro _))
    all_goals (try first | omega | exact absurd trivial (by assumption) | exact False.elim (by assumption))
    all_goals (try (exact hI))
    all_goals (exfalso; omega)
