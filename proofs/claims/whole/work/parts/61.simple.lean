theorem Jd_0 {n k fc mfc : Int} {fo fk mfk : Int → Int} : Jd n k 0 0 fc mfc fo fk mfk := ⟨rfl, Or.inl rfl, fun h => absurd rfl h⟩
theorem Js_0 {n k : Int} {fo st mst : Int → Int} : Js n k 0 0 fo st mst := ⟨rfl, Or.inl rfl, fun h => absurd rfl h⟩
theorem Jg_set {go mgo : Int → Int} {i x : Int} (h : Jg go mgo) (h0 : 0 ≤ x) (h1 : x ≤ 1000) : Jg (fu go i x) (fu mgo i x) := by
  intro j j0 j1
  simp only [fu_ap]
  split
  · exact ⟨h0, h1, rfl⟩
  · exact h j j0 j1
theorem e_often (x1 x2 : Int) (M : Mm) (hI : Inv M) : Same (wp_X7_often x1 x2) (wp_X8_often x1 x2) M := by
  obtain ⟨hn, hk, hg, hc, hf, hs, hd, ht, hz, hb, hp, hq, ho⟩ := id hI
  obtain ⟨n1, n2, k1, k2, e1, e2⟩ := id hn
  unfold Same wp_X7_often wp_X3_has wp_X8_often wp_X8_isLetter wp_X8_in
  repeat' (first | with_reducible (apply And.intro) | with_reducible (intro _))
  all_goals (try omega)
  all_goals (try (exact hI))
  obtain ⟨h1, h2⟩ := ho x1 x2 (by omega) (by omega) (by omega) (by omega)
  rw [h1, h2, if_pos ⟨by omega, by omega⟩]
theorem e_at (x1 : Int) (M : Mm) (hI : Inv M) : Same (wp_X7_at x1) (wp_X8_at x1) M := by
  obtain ⟨hn, hk, hg, hc, hf, hs, hd, ht, hz, hb, hp, hq, ho⟩ := id hI
  obtain ⟨n1, n2, k1, k2, e1, e2⟩ := id hn
  obtain ⟨s1, s2, s3⟩ := id hs
  unfold Same wp_X7_at wp_X3_has wp_X8_at wp_X8_isLetter wp_X8_in
  repeat' (first | with_reducible (apply And.intro) | with_reducible (intro _))
  all_goals (try omega)
  all_goals (try (exact hI))
  rw [(s3 (by assumption)).2 x1 (by omega) (by omega)]
theorem e_least (M : Mm) (hI : Inv M) : Same wp_X7_least wp_X8_least M := by
  obtain ⟨hn, hk, hg, hc, hf, hs, hd, ht, hz, hb, hp, hq, ho⟩ := id hI
  obtain ⟨n1, n2, k1, k2, e1, e2⟩ := id hn
  obtain ⟨s1, s2, s3⟩ := id hd
  unfold Same wp_X7_least wp_X8_least
  repeat' (first | with_reducible (apply And.intro) | with_reducible (intro _))
  all_goals (try omega)
  all_goals (try (exact hI))
theorem e_tries (M : Mm) (hI : Inv M) : Same wp_X7_tries wp_X8_tries M := by
  obtain ⟨hn, hk, hg, hc, hf, hs, hd, ht, hz, hb, hp, hq, ho⟩ := id hI
  obtain ⟨n1, n2, k1, k2, e1, e2⟩ := id hn
  exact ⟨ht.1.symm, hI⟩
theorem e_body (x1 : Int) (M : Mm) (hI : Inv M) : Same (wp_X7_body x1) (wp_X8_body x1) M := by
  obtain ⟨hn, hk, hg, hc, hf, hs, hd, ht, hz, hb, hp, hq, ho⟩ := id hI
  obtain ⟨n1, n2, k1, k2, e1, e2⟩ := id hn
  obtain ⟨s1, s2, s3, s4⟩ := id hb
  unfold Same wp_X7_body wp_X8_body wp_X8_in
  repeat' (first | with_reducible (apply And.intro) | with_reducible (intro _))
  all_goals (try omega)
  all_goals (try (exact hI))
  rw [s4 x1 (by omega) (by omega)]
theorem div2 {g : Int} (h0 : 0 ≤ g) (h1 : g ≤ 1000000) : a_div32 g 2 = g / 2 := by
  unfold a_div32
  rw [Int32.toInt_div, ka_ii ⟨by omega, by omega⟩, ka_ii (by decide), Int.tdiv_eq_ediv_of_nonneg h0, Int.bmod_eq_of_le]
  · have : (2 : Int) ^ 32 = 4294967296 := by decide
    simp; omega
  · simp; omega
theorem cst_b {kd ex go : Int → Int} {i k : Int} (h1 : 0 ≤ go (12 * i + k)) (h2 : go (12 * i + k) ≤ 1000) (h3 : 0 ≤ ex k) (h4 : ex k ≤ 1000) : 0 ≤ cst kd ex go i k ∧ cst kd ex go i k ≤ 4000 := by
  unfold cst
  split
  · omega
  · split
    · omega
    · split <;> omega
theorem s_reckon (x1 x2 : Int) (M : Mm) (Q : Int → Mm → Prop) (hx1 : 0 ≤ x1 ∧ x1 < 12) (hx2 : 0 ≤ x2 ∧ x2 < 12) (hkd : 0 ≤ M 14 x2 ∧ M 14 x2 ≤ 3) (hex : 0 ≤ M 15 x2 ∧ M 15 x2 ≤ 1000) (hgo : 0 ≤ M 16 (12 * x1 + x2) ∧ M 16 (12 * x1 + x2) ≤ 1000) (h : Q (cst (M 14) (M 15) (M 16) x1 x2) M) : wp_X2_reckonCost x1 x2 M Q := by
  unfold wp_X2_reckonCost
  unfold cst at h
  repeat' (first | with_reducible (apply And.intro) | with_reducible (intro _))
  all_goals (try omega)
  · rename_i q; rw [if_neg (by omega), if_pos q] at h; rw [div2 hgo.1 (by omega)]; exact h
  · rename_i q; rw [if_neg (by omega), if_neg (by omega), if_pos q] at h; exact h
  · rename_i q; rw [if_neg (by omega), if_neg (by omega), if_neg (by omega)] at h; exact h
  · rename_i q; rw [if_pos (by omega)] at h; exact h
theorem s_costOf (x1 x2 : Int) (M : Mm) (Q : Int → Mm → Prop) (hx1 : 0 ≤ x1 ∧ x1 < 12) (hx2 : 0 ≤ x2 ∧ x2 < 12) (hkd : 0 ≤ M 34 x2 ∧ M 34 x2 ≤ 3) (hex : 0 ≤ M 35 x2 ∧ M 35 x2 ≤ 1000) (hgo : 0 ≤ M 36 (12 * x1 + x2) ∧ M 36 (12 * x1 + x2) ≤ 1000) (h : Q (cst (M 34) (M 35) (M 36) x1 x2) M) : wp_X8_costOf x1 x2 M Q := by
  unfold wp_X8_costOf
  unfold cst at h
  repeat' (first | with_reducible (apply And.intro) | with_reducible (intro _))
  all_goals (try omega)
  · rename_i q; rw [if_pos q] at h; exact h
  · rename_i q; rw [if_neg (by omega), if_pos q] at h; rw [div2 hgo.1 (by omega)]; exact h
  · rename_i q; rw [if_neg (by omega), if_neg (by omega), if_pos q] at h; exact h
  · rename_i q; rw [if_neg (by omega), if_neg (by omega), if_neg (by omega)] at h; exact h
theorem cst_congr {kd ex go kd' ex' go' : Int → Int} {i k : Int} (h1 : kd' k = kd k) (h2 : ex' k = ex k) (h3 : go' (12 * i + k) = go (12 * i + k)) : cst kd' ex' go' i k = cst kd ex go i k := by
  unfold cst
  rw [h1, h2, h3]
theorem e_go (x1 x2 x3 : Int) (M : Mm) (hI : Inv M) : Same (wp_X7_go x1 x2 x3) (wp_X8_go x1 x2 x3) M := by
  obtain ⟨hn, hk, hg, hc, hf, hs, hd, ht, hz, hb, hp, hq, ho⟩ := id hI
  obtain ⟨n1, n2, k1, k2, e1, e2⟩ := id hn
  unfold Same wp_X7_go wp_X2_has wp_X1_forget wp_X2_setGoing wp_X8_go wp_X8_isKey wp_X8_in
  repeat' (first | with_reducible (apply And.intro) | with_reducible (intro _))
  all_goals (try omega)
  all_goals (try (exact hI))
  have a1 := hk x2 (by omega) (by omega)
  refine s_reckon x1 x2 _ _ (by omega) (by omega) ?_ ?_ ?_ ?_
  · simp only [mset_eq, fu_ap, reduceIte, Int.reduceEq, Nat.reduceEqDiff]; omega
  · simp only [mset_eq, fu_ap, reduceIte, Int.reduceEq, Nat.reduceEqDiff]; omega
  · simp only [mset_eq, fu_ap, reduceIte, Int.reduceEq, Nat.reduceEqDiff]; omega
  · simp only [mset_eq, fu_ap, reduceIte, Int.reduceEq, Nat.reduceEqDiff]
    repeat' (first | with_reducible (apply And.intro) | with_reducible (intro _))
    all_goals (try first | omega | exact absurd trivial (by assumption) | exact False.elim (by assumption))
    · exact (hg (12 * x1 + x2) (by omega) (by omega)).2.2.symm
    · unfold Inv
      simp only [mset_eq, fu_ap, reduceIte, Int.reduceEq, Nat.reduceEqDiff]
      refine ⟨hn, hk, Jg_set hg (by omega) (by omega), ?_, hf, hs, Jd_0, ht, hz, hb, hp, hq, ho⟩
      intro i j i0 i1 j0 j1
      simp only [fu_ap]
      by_cases e : 12 * i + j = 12 * x1 + x2
      · have ei : i = x1 := by omega
        have ej : j = x2 := by omega
        subst ei; subst ej
        rw [if_pos rfl]
      · rw [if_neg e, hc i j i0 i1 j0 j1]
        exact cst_congr rfl rfl (by simp only [fu_ap]; rw [if_neg e])
