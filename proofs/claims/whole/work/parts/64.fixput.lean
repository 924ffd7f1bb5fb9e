theorem s_fixL (x1 x2 : Int) (M : Mm) (Q : Int → Mm → Prop) (K : Mm → Prop) (hn : 0 ≤ M 8 0 ∧ M 8 0 ≤ 10) (h1 : ∀ a, 0 ≤ a → a < M 8 0 → a ≠ x1 → x2 ≠ -1 → M 37 a = x2 → Q (-3) M) (h0 : (∀ a, 0 ≤ a → a < M 8 0 → a ≠ x1 → x2 ≠ -1 → M 37 a ≠ x2) → K M) : wp_X8_fix_L26 x1 x2 Q K 0 M := by
  refine LP1.of (b := bc_X8_fix_L26 x1 x2 Q K) (fun x B => B = M ∧ 0 ≤ x ∧ x ≤ M 8 0 ∧ ∀ a, 0 ≤ a → a < x → a ≠ x1 → x2 ≠ -1 → M 37 a ≠ x2) (fun x _ => (M 8 0 - x).toNat) ?_ 0 M ⟨rfl, by omega, by omega, fun a a0 a1 => by omega⟩
  rintro R x B ⟨rfl, x0, x9, hx⟩ ih
  unfold bc_X8_fix_L26
  have go : (∀ a, 0 ≤ a → a < x + 1 → a ≠ x1 → x2 ≠ -1 → B 37 a ≠ x2) → x < B 8 0 → R (x + 1) B := fun hh q => ih _ _ ⟨rfl, by omega, by omega, hh⟩ (by omega)
  refine ⟨fun q => h0 (fun a a0 a1 => hx a a0 (by omega)), fun q => ⟨fun q1 => ⟨by omega, go (fun a a0 a1 a2 a3 => ?_) (by omega)⟩, fun q1 => ⟨fun q2 => ⟨by omega, go (fun a a0 a1 a2 a3 => ?_) (by omega)⟩, fun q2 => ⟨by omega, fun q3 => ⟨by omega, go (fun a a0 a1 a2 a3 => ?_) (by omega)⟩, fun q3 => h1 x x0 (by omega) q1 q2 q3⟩⟩⟩⟩
  · exact hx a a0 (by omega) a2 a3
  · exact absurd q2 a3
  · by_cases e : a = x
    · rw [e]; exact q3
    · exact hx a a0 (by omega) a2 a3
/-- a letter is fixed anew -/
theorem Jf_fix {n k a x : Int} {fo fb mf fb' : Int → Int} (h : Jf n k fo fb mf) (hn : n ≤ 10) (hk : k ≤ 12) (ha : 0 ≤ a ∧ a < n) (hx : x = -1 ∨ (0 ≤ x ∧ x < k ∧ (fb x = -1 ∨ fb x = a))) (hfb : ∀ j, 0 ≤ j → j < 12 → fb' j = if x ≠ -1 ∧ j = x then a else if fo a ≠ -1 ∧ j = fo a then -1 else fb j) : Jf n k (fu fo a x) fb' (fu mf a x) := by
  obtain ⟨h1, h2⟩ := h
  refine ⟨fun b b0 b1 => ?_, fun j j0 j1 => ?_⟩
  · simp only [fu_ap]
    by_cases e : b = a
    · rw [if_pos e, if_pos e]
      refine ⟨rfl, ?_⟩
      rcases hx with hx | ⟨x0, x1, x2⟩
      · exact Or.inl hx
      · refine Or.inr ⟨x0, x1, by omega, ?_⟩
        rw [hfb x x0 (by omega), if_pos ⟨by omega, rfl⟩, e]
    · rw [if_neg e, if_neg e]
      obtain ⟨g1, g2⟩ := h1 b b0 b1
      refine ⟨g1, ?_⟩
      rcases g2 with g2 | ⟨c0, c1, c2, c3⟩
      · exact Or.inl g2
      · refine Or.inr ⟨c0, c1, c2, ?_⟩
        rw [hfb _ c0 (by omega), if_neg, if_neg, c3]
        · rintro ⟨p1, p2⟩
          obtain ⟨-, g3⟩ := h1 a (by omega) (by omega)
          rcases g3 with g3 | ⟨-, -, -, g3⟩
          · exact p1 g3
          · rw [← p2, c3] at g3; exact e g3
        · rintro ⟨p1, p2⟩
          rcases hx with hx | ⟨x0, x1, x2⟩
          · exact p1 hx
          · rw [← p2, c3] at x2; omega
  · rw [hfb j j0 j1]
    by_cases e1 : x ≠ -1 ∧ j = x
    · rw [if_pos e1]
      refine Or.inr ⟨ha.1, ha.2, ?_⟩
      rw [fu_s, e1.2]
    · rw [if_neg e1]
      by_cases e2 : fo a ≠ -1 ∧ j = fo a
      · rw [if_pos e2]; exact Or.inl rfl
      · rw [if_neg e2]
        rcases h2 j j0 j1 with g | ⟨g1, g2, g3⟩
        · exact Or.inl g
        · refine Or.inr ⟨g1, g2, ?_⟩
          rw [fu_n, g3]
          intro p
          rw [p] at g3
          exact e2 ⟨by omega, g3.symm⟩
theorem e_fix_in (x1 x2 : Int) (M M1 : Mm) (r : Int) (hI : Inv M) (hx1 : 0 ≤ x1 ∧ x1 < M 1 0) (hx2 : x2 = -1 ∨ (0 ≤ x2 ∧ x2 < M 3 0 ∧ (M 10 x2 = -1 ∨ M 10 x2 = x1))) (hr : r = M 9 x1) (f1 : ∀ c, c ≠ 4 → c ≠ 5 → c ≠ 9 → c ≠ 10 → M1 c = M c) (f4 : M1 4 4 = 0) (f5 : M1 5 7 = 0) (f5' : ∀ k, k ≠ 7 → M1 5 k = M 5 k) (f9 : M1 9 = fu (M 9) x1 x2) (f10 : ∀ j, 0 ≤ j → j < 12 → M1 10 j = if x2 ≠ -1 ∧ j = x2 then x1 else if M 9 x1 ≠ -1 ∧ j = M 9 x1 then -1 else M 10 j) : wp_X8_fix x1 x2 M1 (fun r' M2 => r = r' ∧ Inv M2) := by
  obtain ⟨hn, hk, hg, hc, hf, hs, hd, ht, hz, hb, hp, hq, ho⟩ := id hI
  obtain ⟨n1, n2, k1, k2, e1, e2⟩ := id hn
  have c8 := f1 8 (by decide) (by decide) (by decide) (by decide)
  have c37 := f1 37 (by decide) (by decide) (by decide) (by decide)
  have hno : ∀ a, 0 ≤ a → a < M1 8 0 → a ≠ x1 → x2 ≠ -1 → M1 37 a = x2 → False := by
    intro a a0 a1 a2 a3 a4
    rw [c37] at a4
    rw [c8] at a1
    obtain ⟨g1, g2⟩ := hf.1 a a0 (by omega)
    rcases g2 with g2 | ⟨-, -, -, g2⟩
    · omega
    · rw [show M 9 a = x2 by omega] at g2
      omega
  have hfin : wp_X8_fix_L26 x1 x2 (fun r' M2 => r = r' ∧ Inv M2) (fun M2 => (0 ≤ x1 ∧ x1 < 10) ∧ (0 ≤ x1 ∧ x1 < 10) ∧ (r = M2 37 x1 ∧ Inv (mset (mset (mset M2 37 x1 x2) 8 10 0) 8 12 0))) 0 M1 := by
    refine s_fixL x1 x2 M1 _ _ (by rw [c8]; omega) (fun a a0 a1 a2 a3 a4 => (hno a a0 a1 a2 a3 a4).elim) (fun _ => ⟨by omega, by omega, ?_, ?_⟩)
    · rw [c37, hr, (hf.1 x1 (by omega) (by omega)).1]
    · unfold Inv
      simp only [mset_eq, fu_ap, reduceIte, Int.reduceEq, Nat.reduceEqDiff]
      simp only [f1, f4, f5, f5', f9, ne_eq, Nat.reduceEqDiff, Int.reduceEq, not_false_eq_true]
      exact ⟨hn, hk, hg, hc, Jf_fix hf n2 k2 hx1 hx2 f10, Js_0, Jd_0, ht, hz, hb, hp, hq, ho⟩
  unfold wp_X8_fix wp_X8_isLetter wp_X8_isKey wp_X8_in
  have c80 : M1 8 0 = M 8 0 := by rw [c8]
  have c85 : M1 8 5 = M 8 5 := by rw [c8]
  repeat' (first | with_reducible (apply And.intro) | with_reducible (intro _))
  all_goals (try first | omega | exact absurd trivial (by assumption) | exact False.elim (by assumption))
  all_goals first | (exact hfin) | (exfalso; omega)
theorem s_fixOn (x1 x2 : Int) (M : Mm) (Q : Int → Mm → Prop) (hx1 : 0 ≤ x1 ∧ x1 < 10) (hx2 : x2 = -1 ∨ (0 ≤ x2 ∧ x2 < 12)) (h9 : M 9 x1 = -1 ∨ (0 ≤ M 9 x1 ∧ M 9 x1 < 12)) (h : ∀ M' : Mm, (∀ c, c ≠ 9 → c ≠ 10 → M' c = M c) → M' 9 = fu (M 9) x1 x2 → (∀ j, 0 ≤ j → j < 12 → M' 10 j = if x2 ≠ -1 ∧ j = x2 then x1 else if M 9 x1 ≠ -1 ∧ j = M 9 x1 then -1 else M 10 j) → Q (M 9 x1) M') : wp_X3_fixOn x1 x2 M Q := by
  unfold wp_X3_fixOn
  repeat' (first | with_reducible (apply And.intro) | with_reducible (intro _))
  all_goals (try first | omega | exact absurd trivial (by assumption) | exact False.elim (by assumption))
  · rename_i q1 q2
    refine h _ (fun c h1 h2 => ?_) ?_ (fun j j0 j1 => ?_)
    · simp only [mset_eq, fu_ap, h1, reduceIte]
    · simp only [mset_eq, fu_ap, reduceIte, Int.reduceEq, Nat.reduceEqDiff]
    · simp only [mset_eq, fu_ap, reduceIte, Int.reduceEq, Nat.reduceEqDiff]; rw [if_neg (fun z => z.1 q2), if_neg (fun z => z.1 q1)]
  · rename_i q1 q2
    refine h _ (fun c h1 h2 => ?_) ?_ (fun j j0 j1 => ?_)
    · simp only [mset_eq, fu_ap, h1, h2, reduceIte]
    · simp only [mset_eq, fu_ap, reduceIte, Int.reduceEq, Nat.reduceEqDiff]
    · simp only [mset_eq, fu_ap, reduceIte, Int.reduceEq, Nat.reduceEqDiff]
      by_cases e : j = x2
      · rw [if_pos e, if_pos ⟨q2, e⟩]
      · rw [if_neg e, if_neg (fun z => e z.2), if_neg (fun z => z.1 q1)]
  · rename_i q1 q2
    refine h _ (fun c h1 h2 => ?_) ?_ (fun j j0 j1 => ?_)
    · simp only [mset_eq, fu_ap, h1, h2, reduceIte]
    · simp only [mset_eq, fu_ap, reduceIte, Int.reduceEq, Nat.reduceEqDiff]
    · simp only [mset_eq, fu_ap, reduceIte, Int.reduceEq, Nat.reduceEqDiff]
      by_cases e : j = M 9 x1
      · rw [if_pos e, if_neg (fun z => z.1 q2), if_pos ⟨q1, e⟩]
      · rw [if_neg e, if_neg (fun z => z.1 q2), if_neg (fun z => e z.2)]
  · rename_i q1 q2
    refine h _ (fun c h1 h2 => ?_) ?_ (fun j j0 j1 => ?_)
    · simp only [mset_eq, fu_ap, h1, h2, reduceIte]
    · simp only [mset_eq, fu_ap, reduceIte, Int.reduceEq, Nat.reduceEqDiff]
    · simp only [mset_eq, fu_ap, reduceIte, Int.reduceEq, Nat.reduceEqDiff]
      by_cases e : j = x2
      · rw [if_pos e, if_pos ⟨q2, e⟩]
      · by_cases e2 : j = M 9 x1
        · rw [if_neg e, if_pos e2, if_neg (fun z => e z.2), if_pos ⟨q1, e2⟩]
        · rw [if_neg e, if_neg e2, if_neg (fun z => e z.2), if_neg (fun z => e2 z.2)]
theorem e_fix (x1 x2 : Int) (M : Mm) (hI : Inv M) : Same (wp_X7_fix x1 x2) (wp_X8_fix x1 x2) M := by
  obtain ⟨hn, hk, hg, hc, hf, hs, hd, ht, hz, hb, hp, hq, ho⟩ := id hI
  obtain ⟨n1, n2, k1, k2, e1, e2⟩ := id hn
  by_cases hx1 : 0 ≤ x1 ∧ x1 < M 1 0
  · have h9 := (hf.1 x1 (by omega) (by omega)).2
    have hgo : (x2 = -1 ∨ (0 ≤ x2 ∧ x2 < M 3 0 ∧ (M 10 x2 = -1 ∨ M 10 x2 = x1))) → wp_X1_forget (mset M 4 4 0) (fun M2 => wp_X3_fixOn x1 x2 M2 (fun z2 M3 => wp_X8_fix x1 x2 M3 (fun r' M2 => z2 = r' ∧ Inv M2))) := by
      intro hx2
      unfold wp_X1_forget
      have c9 : mset (mset M 4 4 0) 5 7 0 9 = M 9 := by simp only [mset_eq, fu_ap, reduceIte, Int.reduceEq, Nat.reduceEqDiff]
      have c10 : mset (mset M 4 4 0) 5 7 0 10 = M 10 := by simp only [mset_eq, fu_ap, reduceIte, Int.reduceEq, Nat.reduceEqDiff]
      refine s_fixOn x1 x2 _ _ (by omega) (by omega) (by rw [c9]; omega) (fun M' g1 g2 g3 => ?_)
      rw [c9] at g2 g3
      rw [c10] at g3
      rw [c9]
      refine e_fix_in x1 x2 M M' _ hI hx1 hx2 rfl (fun c h1 h2 h3 h4 => ?_) ?_ ?_ (fun k hk7 => ?_) g2 g3
      · rw [g1 c h3 h4]; simp only [mset_eq, fu_ap, h1, h2, reduceIte]
      · rw [g1 4 (by decide) (by decide)]; simp only [mset_eq, fu_ap, reduceIte, Int.reduceEq, Nat.reduceEqDiff]
      · rw [g1 5 (by decide) (by decide)]; simp only [mset_eq, fu_ap, reduceIte, Int.reduceEq, Nat.reduceEqDiff]
      · rw [g1 5 (by decide) (by decide)]; simp only [mset_eq, fu_ap, hk7, reduceIte, Nat.reduceEqDiff]
    have hbad : x2 ≠ -1 → 0 ≤ x2 → x2 < M 3 0 → M 10 x2 ≠ -1 → M 10 x2 ≠ x1 → wp_X8_fix x1 x2 M (fun r' M2 => -3 = r' ∧ Inv M2) := by
      intro q1 q2 q3 q4 q5
      have hL : ∀ K : Mm → Prop, wp_X8_fix_L26 x1 x2 (fun r' M2 => -3 = r' ∧ Inv M2) K 0 M := by
        intro K
        refine s_fixL x1 x2 M _ _ (by omega) (fun _ _ _ _ _ _ => ⟨rfl, hI⟩) (fun hno => ?_)
        rcases hf.2 x2 (by omega) (by omega) with g | ⟨g1, g2, g3⟩
        · exact absurd g q4
        · exact absurd (by rw [(hf.1 (M 10 x2) g1 (by omega)).1]; exact g3) (hno (M 10 x2) g1 (by omega) q5 q1)
      unfold wp_X8_fix wp_X8_isLetter wp_X8_isKey wp_X8_in
      repeat' (first | with_reducible (apply And.intro) | with_reducible (intro _))
      all_goals (try first | omega | exact absurd trivial (by assumption) | exact False.elim (by assumption))
      all_goals exact hL _
    have hbad2 : x2 ≠ -1 → ¬ (0 ≤ x2 ∧ x2 < M 3 0) → wp_X8_fix x1 x2 M (fun r' M2 => -2 = r' ∧ Inv M2) := by
      intro q1 q2
      unfold wp_X8_fix wp_X8_isLetter wp_X8_isKey wp_X8_in
      repeat' (first | with_reducible (apply And.intro) | with_reducible (intro _))
      all_goals (try first | omega | exact absurd trivial (by assumption) | exact False.elim (by assumption))
      all_goals (try (exact hI))
      all_goals (exfalso; omega)
    unfold Same wp_X7_fix wp_X3_has wp_X2_has wp_X3_isFixedByOther
    repeat' (first | with_reducible (apply And.intro) | with_reducible (intro _))
    all_goals (try first | omega | exact absurd trivial (by assumption) | exact False.elim (by assumption))
    all_goals first | (exact hgo (by omega)) | (exact hbad (by omega) (by omega) (by omega) (by assumption) (by assumption)) | (exact hbad2 (by omega) (by omega))
  · unfold Same wp_X7_fix wp_X3_has wp_X8_fix wp_X8_isLetter wp_X8_in
    repeat' (first | with_reducible (apply And.intro) | with_reducible (intro _))
    all_goals (try first | omega | exact absurd trivial (by assumption) | exact False.elim (by assumption))
    all_goals (try (exact hI))
    all_goals (exfalso; omega)
