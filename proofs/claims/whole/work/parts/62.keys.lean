theorem s_append (x1 x2 : Int) (M : Mm) (Q : Int → Mm → Prop) (hk : 0 ≤ M 3 0 ∧ M 3 0 < 12) (hx1 : 0 ≤ x1 ∧ x1 ≤ 3) (hx2 : 0 ≤ x2 ∧ x2 ≤ 1000) (hr : ∀ j, 0 ≤ j → j < M 3 0 → 0 ≤ M 14 j ∧ M 14 j ≤ 3 ∧ 0 ≤ M 15 j ∧ M 15 j ≤ 1000) (hgo : ∀ j, 0 ≤ j → j < 144 → 0 ≤ M 16 j ∧ M 16 j ≤ 1000) (hc : Jc (M 3 0) (M 14) (M 15) (M 16) (M 17))
    (h : ∀ f : Int → Int, Jc (M 3 0 + 1) (fu (M 14) (M 3 0) x1) (fu (M 15) (M 3 0) x2) (M 16) f → Q (M 3 0) (fu (mset (mset (mset M 14 (M 3 0) x1) 15 (M 3 0) x2) 3 0 (M 3 0 + 1)) 17 f)) : wp_X2_append x1 x2 M Q := by
  unfold wp_X2_append
  refine ⟨hk, hk, ?_, ?_⟩
  · simp only [mset_eq, fu_ap, reduceIte, Int.reduceEq, Nat.reduceEqDiff]; omega
  have e : (mset (mset M 14 (M 3 0) x1) 15 (M 3 0) x2) 3 0 = M 3 0 := by simp only [mset_eq, fu_ap, reduceIte, Int.reduceEq, Nat.reduceEqDiff]
  rw [e]
  generalize hA : mset (mset (mset M 14 (M 3 0) x1) 15 (M 3 0) x2) 3 0 (M 3 0 + 1) = A at h ⊢
  have a14 : A 14 = fu (M 14) (M 3 0) x1 := by rw [← hA]; simp only [mset_eq, fu_ap, reduceIte, Int.reduceEq, Nat.reduceEqDiff]
  have a15 : A 15 = fu (M 15) (M 3 0) x2 := by rw [← hA]; simp only [mset_eq, fu_ap, reduceIte, Int.reduceEq, Nat.reduceEqDiff]
  have a16 : A 16 = M 16 := by rw [← hA]; simp only [mset_eq, fu_ap, reduceIte, Int.reduceEq, Nat.reduceEqDiff]
  have a17 : A 17 = M 17 := by rw [← hA]; simp only [mset_eq, fu_ap, reduceIte, Int.reduceEq, Nat.reduceEqDiff]
  have a3 : A 3 0 = M 3 0 + 1 := by rw [← hA]; simp only [mset_eq, fu_ap, reduceIte, Int.reduceEq, Nat.reduceEqDiff]
  have hr' : ∀ j, 0 ≤ j → j < M 3 0 + 1 → 0 ≤ A 14 j ∧ A 14 j ≤ 3 ∧ 0 ≤ A 15 j ∧ A 15 j ≤ 1000 := by
    intro j j0 j1
    rw [a14, a15]
    simp only [fu_ap]
    split
    · omega
    · exact hr j j0 (by omega)
  have key := LP1.of (b := bc_X2_append_L32 (M 3 0) Q) (fun x B => ∃ f : Int → Int, B = fu A 17 f ∧ 0 ≤ x ∧ x ≤ M 3 0 + 1 ∧ (∀ i, 0 ≤ i → i < x → f (12 * M 3 0 + i) = cst (A 14) (A 15) (A 16) (M 3 0) i ∧ f (12 * i + M 3 0) = cst (A 14) (A 15) (A 16) i (M 3 0)) ∧ (∀ i j, 0 ≤ i → i < M 3 0 → 0 ≤ j → j < M 3 0 → f (12 * i + j) = M 17 (12 * i + j))) (fun x _ => (M 3 0 + 1 - x).toNat) ?_ 0 A ⟨M 17, ?_, by omega, by omega, fun i i0 i1 => by omega, fun _ _ _ _ _ _ => rfl⟩
  · exact key
  · rintro R x B ⟨f, rfl, x0, x1', hdone, hold⟩ ih
    unfold bc_X2_append_L32
    have b3 : fu A 17 f 3 0 = M 3 0 + 1 := by simp only [fu_ap, reduceIte, Nat.reduceEqDiff, a3]
    rw [b3]
    refine ⟨fun q => ?_, fun q => ⟨hk, ?_⟩⟩
    · apply h
      intro i j i0 i1 j0 j1
      rw [← a14, ← a15, ← a16]
      by_cases hi : i = M 3 0
      · rw [hi]; exact (hdone j j0 (by omega)).1
      · by_cases hj : j = M 3 0
        · rw [hj]; exact (hdone i i0 (by omega)).2
        · rw [hold i j i0 (by omega) j0 (by omega), hc i j i0 (by omega) j0 (by omega)]
          refine (cst_congr ?_ ?_ ?_).symm
          · rw [a14]; simp only [fu_ap]; rw [if_neg hj]
          · rw [a15]; simp only [fu_ap]; rw [if_neg hj]
          · rw [a16]
    · have c14 : fu A 17 f 14 = A 14 := by simp only [fu_ap, reduceIte, Nat.reduceEqDiff]
      have c15 : fu A 17 f 15 = A 15 := by simp only [fu_ap, reduceIte, Nat.reduceEqDiff]
      have c16 : fu A 17 f 16 = A 16 := by simp only [fu_ap, reduceIte, Nat.reduceEqDiff]
      have g1 := hr' x x0 (by omega)
      have g2 := hr' (M 3 0) (by omega) (by omega)
      refine s_reckon (M 3 0) x _ _ hk (by omega) (by rw [c14]; omega) (by rw [c15]; omega) (by rw [c16, a16]; exact hgo _ (by omega) (by omega)) ?_
      refine ⟨by omega, by omega, ?_⟩
      have d14 : ∀ u v, mset (fu A 17 f) 17 u v 14 = A 14 := fun u v => by simp only [mset_eq, fu_ap, reduceIte, Int.reduceEq, Nat.reduceEqDiff]
      have d15 : ∀ u v, mset (fu A 17 f) 17 u v 15 = A 15 := fun u v => by simp only [mset_eq, fu_ap, reduceIte, Int.reduceEq, Nat.reduceEqDiff]
      have d16 : ∀ u v, mset (fu A 17 f) 17 u v 16 = A 16 := fun u v => by simp only [mset_eq, fu_ap, reduceIte, Int.reduceEq, Nat.reduceEqDiff]
      refine s_reckon x (M 3 0) _ _ (by omega) hk (by rw [d14]; omega) (by rw [d15]; omega) (by rw [d16, a16]; exact hgo _ (by omega) (by omega)) ?_
      refine ⟨hk, by omega, ih _ _ ⟨fu (fu f (12 * M 3 0 + x) (cst (A 14) (A 15) (A 16) (M 3 0) x)) (12 * x + M 3 0) (cst (A 14) (A 15) (A 16) x (M 3 0)), ?_, by omega, by omega, ?_, ?_⟩ (by omega)⟩
      · rw [c14, c15, c16, d14, d15, d16]
        funext c
        simp only [mset_eq, fu_ap]
        by_cases hc17 : c = 17
        · subst hc17
          simp only [reduceIte]
        · simp only [hc17, reduceIte]
      · intro i i0 i1
        simp only [fu_ap]
        by_cases hix : i = x
        · subst hix
          refine ⟨?_, by rw [if_pos rfl]⟩
          by_cases hkk : 12 * M 3 0 + i = 12 * i + M 3 0
          · have : i = M 3 0 := by omega
            rw [if_pos hkk, this]
          · rw [if_neg hkk, if_pos rfl]
        · rw [if_neg (by omega), if_neg (by omega), if_neg (by omega), if_neg (by omega)]
          exact hdone i i0 (by omega)
      · intro i j i0 i1 j0 j1
        simp only [fu_ap]
        rw [if_neg (by omega), if_neg (by omega)]
        exact hold i j i0 i1 j0 j1
  · funext c
    simp only [fu_ap]
    by_cases hc17 : c = 17
    · subst hc17; rw [if_pos rfl, a17]
    · rw [if_neg hc17]
theorem Jk_set {k x1 x2 : Int} {kd ex mkd mex : Int → Int} (h : Jk k kd ex mkd mex) (h1 : 0 ≤ x1 ∧ x1 ≤ 3) (h2 : 0 ≤ x2 ∧ x2 ≤ 1000) : Jk (k + 1) (fu kd k x1) (fu ex k x2) (fu mkd k x1) (fu mex k x2) := by
  intro j j0 j1
  simp only [fu_ap]
  by_cases e : j = k
  · simp only [e, reduceIte]; exact ⟨h1.1, h1.2, trivial, h2.1, h2.2, trivial⟩
  · simp only [e, reduceIte]; exact h j j0 (by omega)
theorem Jf_k {n k k' : Int} {fo fb mf : Int → Int} (h : Jf n k fo fb mf) (hk : k ≤ k') : Jf n k' fo fb mf := by
  refine ⟨fun a a0 a1 => ?_, h.2⟩
  obtain ⟨e1, e2⟩ := h.1 a a0 a1
  refine ⟨e1, ?_⟩
  rcases e2 with e2 | ⟨b1, b2, b3, b4⟩
  · exact Or.inl e2
  · exact Or.inr ⟨b1, by omega, b3, b4⟩
theorem Sok_k {n k k' : Int} {fo f : Int → Int} (h : Sok n k fo f) (hk : k ≤ k') : Sok n k' fo f := by
  refine ⟨by have := h.1; omega, fun a a0 a1 => ?_, h.2.2⟩
  obtain ⟨b1, b2, b3⟩ := h.2.1 a a0 a1
  exact ⟨b1, by omega, b3⟩
theorem Js_k {n k k' pr mpr : Int} {fo st mst : Int → Int} (h : Js n k pr mpr fo st mst) (hk : k ≤ k') : Js n k' pr mpr fo st mst := ⟨h.1, h.2.1, fun q => ⟨Sok_k (h.2.2 q).1 hk, (h.2.2 q).2⟩⟩
theorem e_key (x1 x2 : Int) (M : Mm) (hI : Inv M) : Same (wp_X7_key x1 x2) (wp_X8_key x1 x2) M := by
  obtain ⟨hn, hk, hg, hc, hf, hs, hd, ht, hz, hb, hp, hq, ho⟩ := id hI
  obtain ⟨n1, n2, k1, k2, e1, e2⟩ := id hn
  unfold Same wp_X7_key wp_X1_forget
  by_cases hb1 : 0 ≤ x1 ∧ x1 ≤ 3 ∧ 0 ≤ x2 ∧ x2 ≤ 1000
  · by_cases hb2 : M 3 0 < 12
    · refine ⟨fun q => by omega, fun _ => ⟨fun q => by omega, fun _ => ⟨fun q => by omega, fun _ => ⟨fun _ => ⟨fun _ => ?_, fun q => by omega⟩, fun q => by omega⟩⟩⟩⟩
      have c3 : mset M 5 7 0 3 = M 3 := by simp only [mset_eq, fu_ap, reduceIte, Int.reduceEq, Nat.reduceEqDiff]
      have c14 : mset M 5 7 0 14 = M 14 := by simp only [mset_eq, fu_ap, reduceIte, Int.reduceEq, Nat.reduceEqDiff]
      have c15 : mset M 5 7 0 15 = M 15 := by simp only [mset_eq, fu_ap, reduceIte, Int.reduceEq, Nat.reduceEqDiff]
      have c16 : mset M 5 7 0 16 = M 16 := by simp only [mset_eq, fu_ap, reduceIte, Int.reduceEq, Nat.reduceEqDiff]
      have c17 : mset M 5 7 0 17 = M 17 := by simp only [mset_eq, fu_ap, reduceIte, Int.reduceEq, Nat.reduceEqDiff]
      refine s_append x1 x2 _ _ (by rw [c3]; omega) (by omega) (by omega) ?_ ?_ (by rw [c3, c14, c15, c16, c17]; exact hc) ?_
      · rw [c3, c14, c15]; intro j j0 j1; have := hk j j0 j1; omega
      · rw [c16]; intro j j0 j1; have := hg j j0 j1; omega
      · rw [c3, c14, c15, c16]
        intro f hcf
        unfold wp_X8_key wp_X8_in
        simp only [mset_eq, fu_ap, reduceIte, Int.reduceEq, Nat.reduceEqDiff]
        repeat' (first | with_reducible (apply And.intro) | with_reducible (intro _))
        all_goals (try first | omega | exact absurd trivial (by assumption) | exact False.elim (by assumption))
        unfold Inv
        simp only [mset_eq, fu_ap, reduceIte, Int.reduceEq, Nat.reduceEqDiff]
        refine ⟨⟨n1, n2, by omega, by omega, e1, by omega⟩, ?_, hg, hcf, Jf_k hf (by omega), Js_k hs (by omega), Jd_0, ht, hz, hb, hp, hq, ho⟩
        rw [e2]
        exact Jk_set hk (by omega) (by omega)
    · unfold wp_X8_key wp_X8_in
      repeat' (first | with_reducible (apply And.intro) | with_reducible (intro _))
      all_goals (try first | omega | exact absurd trivial (by assumption) | exact False.elim (by assumption))
      all_goals (try (exact hI))
  · unfold wp_X8_key wp_X8_in
    repeat' (first | with_reducible (apply And.intro) | with_reducible (intro _))
    all_goals (try first | omega | exact absurd trivial (by assumption) | exact False.elim (by assumption))
    all_goals (try (exact hI))
    all_goals (exfalso; omega)
