theorem s_wb (x : Int) (M : Mm) (Q : Mm → Prop) (h : 0 ≤ M 3 6 ∧ M 3 6 < 3) (hq : Q (fu (fu M 18 (fu (M 18) (M 3 6) x)) 3 (fu (M 3) 6 (M 3 6 + 1)))) : wp_X2_writeBody x M Q := by
  unfold wp_X2_writeBody
  simp only [mset_eq, fu_ap, reduceIte, Int.reduceEq, Nat.reduceEqDiff]
  exact ⟨fun q => by omega, fun _ => ⟨h, by omega, hq⟩⟩
/-- what was asked of a kind -/
def bdn (kd : Int) : Int := if kd = 0 then 1 else if kd = 3 then 3 else 2
def bdf (kd j : Int) : Int := if kd = 0 then 1 else if kd = 1 then (if j = 0 then 2 else 1) else if kd = 2 then (if j = 0 then 3 else 1) else (if j = 0 then 4 else if j = 1 then 3 else 1)
theorem s_wbs (x : Int) (M : Mm) (Q : Mm → Prop) (hx : 0 ≤ x ∧ x < 12) (hk : 0 ≤ M 14 x ∧ M 14 x ≤ 3) (hq : ∀ M' : Mm, (∀ c, c ≠ 18 → c ≠ 3 → M' c = M c) → (∀ k, k ≠ 6 → M' 3 k = M 3 k) → M' 3 6 = bdn (M 14 x) → (∀ j, 0 ≤ j → j < bdn (M 14 x) → M' 18 j = bdf (M 14 x) j) → Q M') : wp_X2_writeBodies x M Q := by
  unfold wp_X2_writeBodies
  have e : (mset M 3 6 0) 14 x = M 14 x := by simp only [mset_eq, fu_ap, reduceIte, Int.reduceEq, Nat.reduceEqDiff]
  rw [e]
  rcases (show M 14 x = 0 ∨ M 14 x = 1 ∨ M 14 x = 2 ∨ M 14 x = 3 by omega) with k | k | k | k
  all_goals rw [k] at hq
  all_goals rw [k]
  all_goals refine ⟨hx, ?_⟩
  · refine ⟨fun _ => ⟨fun _ => ⟨fun q => absurd q (by decide), fun _ => ⟨fun _ => ?_, fun q => absurd q (by decide)⟩⟩, fun q => absurd q (by decide)⟩, fun q => absurd q (by decide)⟩
    refine s_wb 1 _ _ (by simp only [mset_eq, fu_ap, reduceIte, Int.reduceEq, Nat.reduceEqDiff]; omega) ?_
    refine hq _ (fun c h1 h2 => ?_) (fun c h1 => ?_) ?_ (fun j j0 j1 => ?_)
    · simp only [mset_eq, fu_ap, h1, h2, reduceIte]
    · simp only [mset_eq, fu_ap, h1, reduceIte]
    · simp only [mset_eq, fu_ap, reduceIte, Nat.reduceEqDiff]; rfl
    · have : bdn 0 = 1 := rfl
      rcases (show j = 0 by omega) with rfl
      rfl
  · refine ⟨fun q => absurd rfl q, fun _ => ?_⟩
    refine s_wb 2 _ _ (by simp only [mset_eq, fu_ap, reduceIte, Int.reduceEq, Nat.reduceEqDiff]; omega) ?_
    refine ⟨fun _ => ⟨fun q => absurd q (by decide), fun _ => ⟨fun _ => ?_, fun q => absurd q (by decide)⟩⟩, fun q => absurd q (by decide)⟩
    refine s_wb 1 _ _ (by simp only [mset_eq, fu_ap, reduceIte, Int.reduceEq, Nat.reduceEqDiff]; omega) ?_
    refine hq _ (fun c h1 h2 => ?_) (fun c h1 => ?_) ?_ (fun j j0 j1 => ?_)
    · simp only [mset_eq, fu_ap, h1, h2, reduceIte]
    · simp only [mset_eq, fu_ap, h1, reduceIte]
    · simp only [mset_eq, fu_ap, reduceIte, Nat.reduceEqDiff]; rfl
    · have : bdn 1 = 2 := rfl
      rcases (show j = 0 ∨ j = 1 by omega) with rfl | rfl <;> rfl
  · refine ⟨fun _ => ⟨fun _ => ⟨fun q => absurd q (by decide), fun _ => ⟨fun q => absurd rfl q, fun _ => ?_⟩⟩, fun q => absurd q (by decide)⟩, fun q => absurd q (by decide)⟩
    refine s_wb 3 _ _ (by simp only [mset_eq, fu_ap, reduceIte, Int.reduceEq, Nat.reduceEqDiff]; omega) ?_
    refine s_wb 1 _ _ (by simp only [mset_eq, fu_ap, reduceIte, Int.reduceEq, Nat.reduceEqDiff]; omega) ?_
    refine hq _ (fun c h1 h2 => ?_) (fun c h1 => ?_) ?_ (fun j j0 j1 => ?_)
    · simp only [mset_eq, fu_ap, h1, h2, reduceIte]
    · simp only [mset_eq, fu_ap, h1, reduceIte]
    · simp only [mset_eq, fu_ap, reduceIte, Nat.reduceEqDiff]; rfl
    · have : bdn 2 = 2 := rfl
      rcases (show j = 0 ∨ j = 1 by omega) with rfl | rfl <;> rfl
  · refine ⟨fun _ => ⟨fun q => absurd rfl q, fun _ => ?_⟩, fun q => absurd q (by decide)⟩
    refine s_wb 4 _ _ (by simp only [mset_eq, fu_ap, reduceIte, Int.reduceEq, Nat.reduceEqDiff]; omega) ?_
    refine ⟨fun _ => ?_, fun q => absurd rfl q⟩
    refine s_wb 3 _ _ (by simp only [mset_eq, fu_ap, reduceIte, Int.reduceEq, Nat.reduceEqDiff]; omega) ?_
    refine s_wb 1 _ _ (by simp only [mset_eq, fu_ap, reduceIte, Int.reduceEq, Nat.reduceEqDiff]; omega) ?_
    refine hq _ (fun c h1 h2 => ?_) (fun c h1 => ?_) ?_ (fun j j0 j1 => ?_)
    · simp only [mset_eq, fu_ap, h1, h2, reduceIte]
    · simp only [mset_eq, fu_ap, h1, reduceIte]
    · simp only [mset_eq, fu_ap, reduceIte, Nat.reduceEqDiff]; rfl
    · have : bdn 3 = 3 := rfl
      rcases (show j = 0 ∨ j = 1 ∨ j = 2 by omega) with rfl | rfl | rfl <;> rfl
theorem e_cost (x1 x2 : Int) (M : Mm) (hI : Inv M) : Same (wp_X7_cost x1 x2) (wp_X8_cost x1 x2) M := by
  obtain ⟨hn, hk, hg, hc, hf, hs, hd, ht, hz, hb, hp, hq, ho⟩ := id hI
  obtain ⟨n1, n2, k1, k2, e1, e2⟩ := id hn
  unfold Same wp_X7_cost wp_X2_has
  by_cases hb1 : 0 ≤ x1 ∧ x1 < M 3 0 ∧ 0 ≤ x2 ∧ x2 < M 3 0
  · refine ⟨fun q => by omega, fun _ => ⟨fun q => by omega, fun _ => ⟨fun q => absurd q (by decide), fun _ => ⟨fun q => by omega, fun _ => ⟨fun q => by omega, fun _ => ⟨fun _ => ?_, fun q => absurd q (by decide)⟩⟩⟩⟩⟩⟩
    have a1 := hk x2 (by omega) (by omega)
    refine s_wbs x2 M _ (by omega) (by omega) (fun M' f1 f2 f3 f4 => ⟨by omega, by omega, ?_⟩)
    have c17 := f1 17 (by decide) (by decide)
    have c8 := f1 8 (by decide) (by decide)
    have c34 := f1 34 (by decide) (by decide)
    have c35 := f1 35 (by decide) (by decide)
    have c36 := f1 36 (by decide) (by decide)
    have g1 := hg (12 * x1 + x2) (by omega) (by omega)
    have hfin : ∀ (M2 : Mm), (∀ c, c ≠ 40 → c ≠ 8 → M2 c = M' c) → (∀ k, k ≠ 16 → M2 8 k = M' 8 k) → M2 8 16 = bdn (M 14 x2) → (∀ j, 0 ≤ j → j < bdn (M 14 x2) → M2 40 j = bdf (M 14 x2) j) → wp_X8_costOf x1 x2 M2 (fun z M3 => M' 17 (12 * x1 + x2) = z ∧ Inv M3) := by
      intro M2 p1 p2 p3 p4
      have q34 := (p1 34 (by decide) (by decide)).trans c34
      have q35 := (p1 35 (by decide) (by decide)).trans c35
      have q36 := (p1 36 (by decide) (by decide)).trans c36
      refine s_costOf x1 x2 _ _ (by omega) (by omega) (by rw [q34]; omega) (by rw [q35]; omega) (by rw [q36]; omega) ⟨?_, ?_⟩
      · rw [c17, hc x1 x2 (by omega) (by omega) (by omega) (by omega), q34, q35, q36]
        exact (cst_congr (by omega) (by omega) (by omega)).symm
      · have hh : ∀ c, c ≠ 40 → c ≠ 8 → c ≠ 18 → c ≠ 3 → M2 c = M c := fun c h1 h2 h3 h4 => (p1 c h1 h2).trans (f1 c h3 h4)
        have h8 : ∀ k, k ≠ 16 → M2 8 k = M 8 k := fun k h1 => (p2 k h1).trans (by rw [c8])
        have h3 : ∀ k, k ≠ 6 → M2 3 k = M 3 k := fun k h1 => by rw [p1 3 (by decide) (by decide)]; exact f2 k h1
        have h36 : M2 3 6 = bdn (M 14 x2) := by rw [p1 3 (by decide) (by decide)]; exact f3
        have h18 : M2 18 = M' 18 := p1 18 (by decide) (by decide)
        unfold Inv
        simp only [hh, h8, h3, h36, p3, h18, ne_eq, Nat.reduceEqDiff, Int.reduceEq, not_false_eq_true]
        refine ⟨hn, hk, hg, hc, hf, hs, hd, ht, hz, ⟨rfl, ?_, ?_, fun j j0 j1 => by rw [p4 j j0 j1, f4 j j0 j1]⟩, hp, hq, ho⟩
        · unfold bdn; split
          · omega
          · split <;> omega
        · unfold bdn; split
          · omega
          · split <;> omega
    unfold wp_X8_cost wp_X8_isKey wp_X8_in
    simp only [mset_eq, fu_ap, reduceIte, Int.reduceEq, Nat.reduceEqDiff, c8, c34]
    repeat' (first | with_reducible (apply And.intro) | with_reducible (intro _))
    all_goals (try first | omega | exact absurd trivial (by assumption) | exact False.elim (by assumption))
    · have kd : M 14 x2 = 0 := by omega
      refine hfin _ (fun c h1 h2 => ?_) (fun k h1 => ?_) ?_ (fun j j0 j1 => ?_)
      · simp only [fu_ap, h1, h2, reduceIte]
      · simp only [fu_ap, h1, reduceIte, c8]
      · rw [kd]; rfl
      · rw [kd] at j1 ⊢
        have : bdn 0 = 1 := rfl
        rcases (show j = 0 by omega) with rfl
        rfl
    · have kd : M 14 x2 = 1 ∨ M 14 x2 = 2 := by omega
      refine hfin _ (fun c h1 h2 => ?_) (fun k h1 => ?_) ?_ (fun j j0 j1 => ?_)
      · simp only [fu_ap, h1, h2, reduceIte]
      · simp only [fu_ap, h1, reduceIte, c8]
      · rcases kd with kd | kd <;> rw [kd] <;> rfl
      · rcases kd with kd | kd
        · rw [kd] at j1 ⊢
          have e34 : M 34 x2 = 1 := by omega
          have : bdn 1 = 2 := rfl
          rcases (show j = 0 ∨ j = 1 by omega) with rfl | rfl
          · show M 34 x2 + 1 = 2; omega
          · rfl
        · rw [kd] at j1 ⊢
          have : bdn 2 = 2 := rfl
          rcases (show j = 0 ∨ j = 1 by omega) with rfl | rfl
          · show M 34 x2 + 1 = 3; omega
          · rfl
    · have kd : M 14 x2 = 3 := by omega
      refine hfin _ (fun c h1 h2 => ?_) (fun k h1 => ?_) ?_ (fun j j0 j1 => ?_)
      · simp only [fu_ap, h1, h2, reduceIte]
      · simp only [fu_ap, h1, reduceIte, c8]
      · rw [kd]; rfl
      · rw [kd] at j1 ⊢
        have : bdn 3 = 3 := rfl
        rcases (show j = 0 ∨ j = 1 ∨ j = 2 by omega) with rfl | rfl | rfl <;> rfl
  · unfold wp_X8_cost wp_X8_isKey wp_X8_in
    repeat' (first | with_reducible (apply And.intro) | with_reducible (intro _))
    all_goals (try first | omega | exact absurd trivial (by assumption) | exact False.elim (by assumption))
    all_goals (try (exact hI))
    all_goals (exfalso; omega)
