theorem s_fill9 (v : Int) (M : Mm) (Q : Mm → Prop) (h : ∀ M' : Mm, (∀ c, c ≠ 9 → M' c = M c) → (∀ j, 0 ≤ j → j < 10 → M' 9 j = v) → Q M') : wp_J7_fill_53178_c9 v M Q := by
  refine LP1.of (b := bc_J7_fill_53178_c9_L5 v 10 Q) (fun x B => 0 ≤ x ∧ x ≤ 10 ∧ (∀ c, c ≠ 9 → B c = M c) ∧ ∀ j, 0 ≤ j → j < x → B 9 j = v) (fun x _ => (10 - x).toNat) ?_ 0 M ⟨by omega, by omega, fun _ _ => rfl, fun j j0 j1 => by omega⟩
  rintro R x B ⟨x0, x9, f1, hB⟩ ih
  unfold bc_J7_fill_53178_c9_L5
  refine ⟨fun q => h B f1 (fun j j0 j1 => hB j j0 (by omega)), fun q => ⟨by omega, by omega, ih _ _ ⟨by omega, by omega, fun c hc => ?_, fun j j0 j1 => ?_⟩ (by omega)⟩⟩
  · simp only [mset_eq, fu_ap, hc, reduceIte]; exact f1 c hc
  · simp only [mset_eq, fu_ap, reduceIte]
    by_cases e : j = x
    · rw [if_pos e]
    · rw [if_neg e]; exact hB j j0 (by omega)
theorem s_fill10 (v : Int) (M : Mm) (Q : Mm → Prop) (h : ∀ M' : Mm, (∀ c, c ≠ 10 → M' c = M c) → (∀ j, 0 ≤ j → j < 12 → M' 10 j = v) → Q M') : wp_J7_fill_53178_c10 v M Q := by
  refine LP1.of (b := bc_J7_fill_53178_c10_L5 v 12 Q) (fun x B => 0 ≤ x ∧ x ≤ 12 ∧ (∀ c, c ≠ 10 → B c = M c) ∧ ∀ j, 0 ≤ j → j < x → B 10 j = v) (fun x _ => (12 - x).toNat) ?_ 0 M ⟨by omega, by omega, fun _ _ => rfl, fun j j0 j1 => by omega⟩
  rintro R x B ⟨x0, x9, f1, hB⟩ ih
  unfold bc_J7_fill_53178_c10_L5
  refine ⟨fun q => h B f1 (fun j j0 j1 => hB j j0 (by omega)), fun q => ⟨by omega, by omega, ih _ _ ⟨by omega, by omega, fun c hc => ?_, fun j j0 j1 => ?_⟩ (by omega)⟩⟩
  · simp only [mset_eq, fu_ap, hc, reduceIte]; exact f1 c hc
  · simp only [mset_eq, fu_ap, reduceIte]
    by_cases e : j = x
    · rw [if_pos e]
    · rw [if_neg e]; exact hB j j0 (by omega)
theorem s_unfix (M : Mm) (Q : Mm → Prop) (h : ∀ M' : Mm, (∀ c, c ≠ 37 → M' c = M c) → (∀ j, 0 ≤ j → j < 10 → M' 37 j = -1) → Q M') : wp_X8_unfix M Q := by
  refine LP1.of (b := bc_X8_unfix_L2 Q) (fun x B => 0 ≤ x ∧ x ≤ 10 ∧ (∀ c, c ≠ 37 → B c = M c) ∧ ∀ j, 0 ≤ j → j < x → B 37 j = -1) (fun x _ => (10 - x).toNat) ?_ 0 M ⟨by omega, by omega, fun _ _ => rfl, fun j j0 j1 => by omega⟩
  rintro R x B ⟨x0, x9, f1, hB⟩ ih
  unfold bc_X8_unfix_L2
  refine ⟨fun q => h B f1 (fun j j0 j1 => hB j j0 (by omega)), fun q => ⟨by omega, by omega, ih _ _ ⟨by omega, by omega, fun c hc => ?_, fun j j0 j1 => ?_⟩ (by omega)⟩⟩
  · simp only [mset_eq, fu_ap, hc, reduceIte]; exact f1 c hc
  · simp only [mset_eq, fu_ap, reduceIte]
    by_cases e : j = x
    · rw [if_pos e]
    · rw [if_neg e]; exact hB j j0 (by omega)
/-- the reference's pages are the class's -/
theorem lnM_eq {M : Mm} {ln : Int → Int} (hp : Jp ln (M 30) (M 31)) : ∀ p, 0 ≤ p → p < 6 → lnM M p = ln p := by
  intro p p0 p1
  obtain ⟨a1, a2, a3⟩ := hp p p0 p1
  unfold lnM
  rcases a3 with ⟨b1, b2⟩ | ⟨b1, b2, b3⟩
  · rw [if_pos b1, b2]
  · rw [if_neg (by omega), b3]
/-- the reference counts anew -/
theorem s_recount (M : Mm) (ln sg : Int → Int) (Q : Mm → Prop) (hn : 1 ≤ M 8 0 ∧ M 8 0 ≤ 10) (hp : Jp ln (M 30) (M 31)) (hq : Jq ln sg (M 32)) (h : ∀ M' : Mm, (∀ c, c ≠ 33 → M' c = M c) → (∀ a b, 0 ≤ a → a < 10 → 0 ≤ b → b < 10 → M' 33 (10 * a + b) = if a < M 8 0 ∧ b < M 8 0 then cnt ln sg a b else 0) → Q M') : wp_X8_counts M Q := by
  have he := lnM_eq hp
  refine s_counts M Q hn (fun p p0 p1 => ?_) (fun p i p0 p1 i0 i1 => ?_) (fun M' f1 f2 => h M' f1 (fun a b a0 a1 b0 b1 => ?_))
  · rw [he p p0 p1]; have := hp p p0 p1; omega
  · rw [he p p0 p1] at i1
    have := hq p i p0 p1 i0 i1
    omega
  · rw [f2 a b a0 a1 b0 b1]
    have ec : cnt (lnM M) (M 32) a b = cnt ln sg a b := cnt_congr he (fun p i p0 p1 i0 i1 => (hq p i p0 p1 i0 i1).2.2)
    rw [ec]
theorem e_letters (x1 : Int) (M : Mm) (hI : Inv M) : Same (wp_X7_letters x1) (wp_X8_letters x1) M := by
  obtain ⟨hn, hk, hg, hc, hf, hs, hd, ht, hz, hb, hp, hq, ho⟩ := id hI
  obtain ⟨n1, n2, k1, k2, e1, e2⟩ := id hn
  by_cases hx : 1 ≤ x1 ∧ x1 ≤ 10
  · unfold Same wp_X7_letters wp_X3_startAnew wp_X1_forget
    refine ⟨fun q => by omega, fun _ => ⟨fun _ => ?_, fun q => by omega⟩⟩
    refine s_fill9 _ _ _ (fun M1 f1 f2 => ?_)
    refine s_fill10 _ _ _ (fun M2 g1 g2 => ?_)
    show wp_X8_letters x1 (mset (mset M2 4 4 0) 5 7 0) (fun r' M2 => M 1 0 = r' ∧ Inv M2)
    have hc2 : ∀ c, c ≠ 10 → c ≠ 9 → c ≠ 1 → M2 c = M c := fun c h1 h2 h3 => by
      rw [g1 c h1, f1 c h2]; simp only [mset_eq, fu_ap, h3, reduceIte]
    have h1k : ∀ k, k ≠ 0 → M2 1 k = M 1 k := fun k hk => by
      rw [g1 1 (by decide), f1 1 (by decide)]; simp only [mset_eq, fu_ap, hk, reduceIte]
    have h10 : M2 1 0 = x1 := by
      rw [g1 1 (by decide), f1 1 (by decide)]; simp only [mset_eq, fu_ap, reduceIte]
    have h9 : ∀ j, 0 ≤ j → j < 10 → M2 9 j = -1 := fun j j0 j1 => by rw [g1 9 (by decide)]; exact f2 j j0 j1
    generalize hM3 : mset (mset M2 4 4 0) 5 7 0 = M3
    have k1 : ∀ c, c ≠ 10 → c ≠ 9 → c ≠ 1 → c ≠ 4 → c ≠ 5 → M3 c = M c := fun c a1 a2 a3 a4 a5 => by
      rw [← hM3]; simp only [mset_eq, fu_ap, a4, a5, reduceIte]; exact hc2 c a1 a2 a3
    have k10 : M3 1 0 = x1 := by rw [← hM3]; simp only [mset_eq, fu_ap, reduceIte, Int.reduceEq, Nat.reduceEqDiff]; exact h10
    have k4 : M3 4 4 = 0 := by rw [← hM3]; simp only [mset_eq, fu_ap, reduceIte, Int.reduceEq, Nat.reduceEqDiff]
    have k5 : M3 5 7 = 0 := by rw [← hM3]; simp only [mset_eq, fu_ap, reduceIte, Int.reduceEq, Nat.reduceEqDiff]
    have k5' : ∀ k, k ≠ 7 → M3 5 k = M 5 k := fun k hk => by
      rw [← hM3]; simp only [mset_eq, fu_ap, hk, reduceIte, Nat.reduceEqDiff]; rw [hc2 5 (by decide) (by decide) (by decide)]
    have k9 : ∀ j, 0 ≤ j → j < 10 → M3 9 j = -1 := fun j j0 j1 => by rw [← hM3]; simp only [mset_eq, fu_ap, reduceIte, Int.reduceEq, Nat.reduceEqDiff]; exact h9 j j0 j1
    have k10' : ∀ j, 0 ≤ j → j < 12 → M3 10 j = -1 := fun j j0 j1 => by rw [← hM3]; simp only [mset_eq, fu_ap, reduceIte, Int.reduceEq, Nat.reduceEqDiff]; exact g2 j j0 j1
    have c8 := k1 8 (by decide) (by decide) (by decide) (by decide) (by decide)
    unfold wp_X8_letters wp_X8_in
    refine ⟨fun q => by omega, fun _ => ⟨fun q => by omega, fun _ => ⟨fun _ => ?_, fun q => absurd q (by decide)⟩⟩⟩
    refine s_unfix _ _ (fun M4 m1 m2 => ?_)
    generalize hM5 : mset (mset (mset M3 8 0 x1) 8 10 0) 8 12 0 = M5 at m1
    have n1' : ∀ c, c ≠ 8 → M5 c = M3 c := fun c hc => by rw [← hM5]; simp only [mset_eq, fu_ap, hc, reduceIte]
    have n80 : M5 8 0 = x1 := by rw [← hM5]; simp only [mset_eq, fu_ap, reduceIte, Int.reduceEq, Nat.reduceEqDiff]
    have n810 : M5 8 10 = 0 := by rw [← hM5]; simp only [mset_eq, fu_ap, reduceIte, Int.reduceEq, Nat.reduceEqDiff]
    have n812 : M5 8 12 = 0 := by rw [← hM5]; simp only [mset_eq, fu_ap, reduceIte, Int.reduceEq, Nat.reduceEqDiff]
    have n8 : ∀ k, k ≠ 0 → k ≠ 10 → k ≠ 12 → M5 8 k = M 8 k := fun k a1 a2 a3 => by
      rw [← hM5]; simp only [mset_eq, fu_ap, a1, a2, a3, reduceIte]; rw [c8]
    have p4 : ∀ c, c ≠ 37 → c ≠ 8 → c ≠ 10 → c ≠ 9 → c ≠ 1 → c ≠ 4 → c ≠ 5 → M4 c = M c := fun c a1 a2 a3 a4 a5 a6 a7 => by
      rw [m1 c a1, n1' c a2, k1 c a3 a4 a5 a6 a7]
    refine s_recount M4 (M 12) (M 11) _ ?_ ?_ ?_ (fun M6 r1 r2 => ⟨?_, ?_⟩)
    · rw [m1 8 (by decide), n80]; omega
    · rw [p4 30 (by decide) (by decide) (by decide) (by decide) (by decide) (by decide) (by decide), p4 31 (by decide) (by decide) (by decide) (by decide) (by decide) (by decide) (by decide)]; exact hp
    · rw [p4 32 (by decide) (by decide) (by decide) (by decide) (by decide) (by decide) (by decide)]; exact hq
    · rw [c8]; omega
    · have s6 : ∀ c, c ≠ 33 → c ≠ 37 → c ≠ 8 → c ≠ 10 → c ≠ 9 → c ≠ 1 → c ≠ 4 → c ≠ 5 → M6 c = M c := fun c a0 a1 a2 a3 a4 a5 a6 a7 => (r1 c a0).trans (p4 c a1 a2 a3 a4 a5 a6 a7)
      have s8 : ∀ k, M6 8 k = M5 8 k := fun k => by rw [r1 8 (by decide), m1 8 (by decide)]
      have s3 : ∀ c, c ≠ 33 → c ≠ 37 → c ≠ 8 → M6 c = M3 c := fun c a0 a1 a2 => by rw [r1 c a0, m1 c a1, n1' c a2]
      have t1 : M6 1 0 = x1 := by rw [s3 1 (by decide) (by decide) (by decide)]; exact k10
      have t80 : M6 8 0 = x1 := (s8 0).trans n80
      have t85 : M6 8 5 = M 8 5 := (s8 5).trans (n8 5 (by decide) (by decide) (by decide))
      have t810 : M6 8 10 = 0 := (s8 10).trans n810
      have t812 : M6 8 12 = 0 := (s8 12).trans n812
      have t814 : M6 8 14 = M 8 14 := (s8 14).trans (n8 14 (by decide) (by decide) (by decide))
      have t815 : M6 8 15 = M 8 15 := (s8 15).trans (n8 15 (by decide) (by decide) (by decide))
      have t816 : M6 8 16 = M 8 16 := (s8 16).trans (n8 16 (by decide) (by decide) (by decide))
      have t44 : M6 4 4 = 0 := by rw [s3 4 (by decide) (by decide) (by decide)]; exact k4
      have t57 : M6 5 7 = 0 := by rw [s3 5 (by decide) (by decide) (by decide)]; exact k5
      have t59 : M6 5 9 = M 5 9 := by rw [s3 5 (by decide) (by decide) (by decide)]; exact k5' 9 (by decide)
      have t9 : ∀ j, 0 ≤ j → j < 10 → M6 9 j = -1 := fun j j0 j1 => by rw [s3 9 (by decide) (by decide) (by decide)]; exact k9 j j0 j1
      have t10 : ∀ j, 0 ≤ j → j < 12 → M6 10 j = -1 := fun j j0 j1 => by rw [s3 10 (by decide) (by decide) (by decide)]; exact k10' j j0 j1
      have t37 : ∀ j, 0 ≤ j → j < 10 → M6 37 j = -1 := fun j j0 j1 => by rw [r1 37 (by decide)]; exact m2 j j0 j1
      unfold Inv
      simp only [s6, t1, t80, t85, t810, t812, t814, t815, t816, t44, t57, t59, ne_eq, Nat.reduceEqDiff, not_false_eq_true]
      refine ⟨⟨by omega, by omega, by omega, by omega, rfl, e2⟩, hk, hg, hc, ⟨fun a a0 a1 => ?_, fun j j0 j1 => Or.inl (t10 j j0 j1)⟩, Js_0, Jd_0, ht, hz, hb, hp, hq, fun a b a0 a1 b0 b1 => ⟨(ho a b a0 a1 b0 b1).1, ?_⟩⟩
      · rw [t37 a a0 a1, t9 a a0 a1]; exact ⟨rfl, Or.inl rfl⟩
      · rw [r2 a b a0 a1 b0 b1, m1 8 (by decide), n80]
  · unfold Same wp_X7_letters wp_X8_letters wp_X8_in
    repeat' (first | with_reducible (apply And.intro) | with_reducible (intro _))
    all_goals (try first | omega | exact absurd trivial (by assumption) | exact False.elim (by assumption))
    all_goals (try (exact hI))
    all_goals (exfalso; omega)
