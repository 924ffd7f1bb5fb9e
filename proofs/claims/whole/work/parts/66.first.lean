theorem Sok_congr {n k : Int} {fo f g : Int → Int} (h : Sok n k fo f) (hg : ∀ a, 0 ≤ a → a < n → g a = f a) : Sok n k fo g := by
  refine ⟨h.1, fun a a0 a1 => by rw [hg a a0 a1]; exact h.2.1 a a0 a1, fun a b a0 a1 b0 b1 e => ?_⟩
  rw [hg a a0 a1, hg b b0 b1] at e
  exact h.2.2 a b a0 a1 b0 b1 e
theorem s_become (M : Mm) (Q : Mm → Prop) (hn : 0 ≤ M 1 0 ∧ M 1 0 ≤ 10) (h : ∀ M' : Mm, (∀ c, c ≠ 19 → c ≠ 4 → M' c = M c) → (∀ k, k ≠ 4 → M' 4 k = M 4 k) → M' 4 4 = 1 → (∀ a, 0 ≤ a → a < M 1 0 → M' 19 a = M 22 a) → Q M') : wp_X5_become_c22 M Q := by
  refine LP1.of (b := bc_X5_become_c22_L2 Q) (fun i B => (∀ c, c ≠ 19 → B c = M c) ∧ 0 ≤ i ∧ i ≤ M 1 0 ∧ ∀ a, 0 ≤ a → a < i → B 19 a = M 22 a) (fun i _ => (M 1 0 - i).toNat) ?_ 0 M ⟨fun _ _ => rfl, by omega, by omega, fun a a0 a1 => by omega⟩
  rintro R i B ⟨f1, i0, i1, hi⟩ ih
  unfold bc_X5_become_c22_L2
  have c1 := f1 1 (by decide)
  have c22 := f1 22 (by decide)
  rw [c1]
  refine ⟨fun q => h _ (fun c h1 h2 => ?_) (fun k hk => ?_) ?_ (fun a a0 a1 => ?_), fun q => ⟨by omega, by omega, by omega, ih _ _ ⟨fun c hc => ?_, by omega, by omega, fun a a0 a1 => ?_⟩ (by omega)⟩⟩
  · simp only [mset_eq, fu_ap, h2, reduceIte]; exact f1 c h1
  · simp only [mset_eq, fu_ap, hk, reduceIte]; rw [f1 4 (by decide)]
  · simp only [mset_eq, fu_ap, reduceIte]
  · simp only [mset_eq, fu_ap, reduceIte, Nat.reduceEqDiff]; exact hi a a0 (by omega)
  · simp only [mset_eq, fu_ap, hc, reduceIte]; exact f1 c hc
  · simp only [mset_eq, fu_ap, reduceIte, c22]
    by_cases e : a = i
    · rw [if_pos e, e]
    · rw [if_neg e]; exact hi a a0 (by omega)
theorem s_mtake (M : Mm) (Q : Int → Mm → Prop) (hn : 0 ≤ M 8 0 ∧ M 8 0 ≤ 10) (h : ∀ M' : Mm, (∀ c, c ≠ 38 → c ≠ 8 → M' c = M c) → (∀ k, k ≠ 10 → M' 8 k = M 8 k) → M' 8 10 = 1 → (∀ a, 0 ≤ a → a < M 8 0 → M' 38 a = M 39 a) → Q 1 M') : wp_X8_take_L12 Q 0 M := by
  refine LP1.of (b := bc_X8_take_L12 Q) (fun i B => (∀ c, c ≠ 38 → B c = M c) ∧ 0 ≤ i ∧ i ≤ M 8 0 ∧ ∀ a, 0 ≤ a → a < i → B 38 a = M 39 a) (fun i _ => (M 8 0 - i).toNat) ?_ 0 M ⟨fun _ _ => rfl, by omega, by omega, fun a a0 a1 => by omega⟩
  rintro R i B ⟨f1, i0, i1, hi⟩ ih
  unfold bc_X8_take_L12
  have c1 := f1 8 (by decide)
  have c22 := f1 39 (by decide)
  rw [c1]
  refine ⟨fun q => h _ (fun c h1 h2 => ?_) (fun k hk => ?_) ?_ (fun a a0 a1 => ?_), fun q => ⟨by omega, by omega, by omega, ih _ _ ⟨fun c hc => ?_, by omega, by omega, fun a a0 a1 => ?_⟩ (by omega)⟩⟩
  · simp only [mset_eq, fu_ap, h2, reduceIte]; exact f1 c h1
  · simp only [mset_eq, fu_ap, hk, reduceIte]; rw [c1]
  · simp only [mset_eq, fu_ap, reduceIte]
  · simp only [mset_eq, fu_ap, reduceIte, Nat.reduceEqDiff]; exact hi a a0 (by omega)
  · simp only [mset_eq, fu_ap, hc, reduceIte]; exact f1 c hc
  · simp only [mset_eq, fu_ap, reduceIte, c22]
    by_cases e : a = i
    · rw [if_pos e, e]
    · rw [if_neg e]; exact hi a a0 (by omega)
/-- both have a new setting -/
theorem Inv_set {M M2 : Mm} (hI : Inv M) (f1 : ∀ c, c ≠ 19 → c ≠ 4 → c ≠ 38 → c ≠ 8 → M2 c = M c) (f8 : ∀ k, k ≠ 10 → M2 8 k = M 8 k) (p1 : M2 4 4 = 1) (p2 : M2 8 10 = 1) (hk : Sok (M 1 0) (M 3 0) (M 9) (M2 19)) (hm : ∀ a, 0 ≤ a → a < M 1 0 → M2 38 a = M2 19 a) : Inv M2 := by
  obtain ⟨hn, hk', hg, hc, hf, hs, hd, ht, hz, hb, hp, hq, ho⟩ := id hI
  unfold Inv
  simp only [f1, f8, p1, p2, ne_eq, Nat.reduceEqDiff, Int.reduceEq, not_false_eq_true]
  exact ⟨hn, hk', hg, hc, hf, ⟨rfl, Or.inr rfl, fun _ => ⟨hk, hm⟩⟩, hd, ht, hz, hb, hp, hq, ho⟩
theorem e_take (M : Mm) (hI : Inv M) : Same wp_X7_take wp_X8_take M := by
  obtain ⟨hn, hk, hg, hc, hf, hs, hd, ht, hz, hb, hp, hq, ho⟩ := id hI
  obtain ⟨n1, n2, k1, k2, e1, e2⟩ := id hn
  obtain ⟨s1, s2, s3⟩ := id hd
  unfold Same wp_X7_take
  refine ⟨fun q => ?_, fun q => ?_⟩
  · obtain ⟨t1, t2, t3⟩ := s3 q
    refine s_become M _ (by omega) (fun M' f1 f2 f3 f4 => ?_)
    show wp_X8_take M' (fun r' M2 => 1 = r' ∧ Inv M2)
    unfold wp_X8_take
    have c8 := f1 8 (by decide) (by decide)
    rw [c8]
    refine ⟨fun q2 => s_mtake M' _ (by rw [c8]; omega) (fun M2 g1 g2 g3 g4 => ⟨rfl, ?_⟩), fun q2 => absurd (by omega) q⟩
    rw [c8] at g2 g4
    refine Inv_set hI (fun c h1 h2 h3 h4 => (g1 c h3 h4).trans (f1 c h1 h2)) (fun k hk => g2 k hk) ?_ g3 ?_ ?_
    · rw [g1 4 (by decide) (by decide)]; exact f3
    · rw [g1 19 (by decide) (by decide)]
      exact Sok_congr t1 f4
    · intro a a0 a1
      rw [g4 a a0 (by omega), g1 19 (by decide) (by decide), f4 a a0 a1, f1 39 (by decide) (by decide)]
      exact t2 a a0 a1
  · unfold wp_X8_take
    exact ⟨fun q2 => absurd (by omega) q2, fun _ => ⟨rfl, hI⟩⟩
theorem s_unfixed (x : Int) (M : Mm) (Q : Int → Mm → Prop) (hk : M 3 0 ≤ 12) (hx : 0 ≤ x) (z : Int) (hz : x ≤ z ∧ z < M 3 0) (hfz : M 10 z = -1) (hlt : ∀ j, x ≤ j → j < z → M 10 j ≠ -1) (h : Q z M) : wp_X5_unfixedFrom x M Q := by
  unfold wp_X5_unfixedFrom
  refine LP1.of (b := bc_X5_unfixedFrom_L2 Q) (fun i B => B = M ∧ x ≤ i ∧ i ≤ z) (fun i _ => (z - i).toNat) ?_ x M ⟨rfl, by omega, by omega⟩
  rintro R i B ⟨rfl, i0, i1⟩ ih
  unfold bc_X5_unfixedFrom_L2
  refine ⟨by omega, fun q => ?_, fun q => ⟨by omega, fun q1 => ?_, fun q1 => ⟨by omega, ih _ _ ⟨rfl, by omega, ?_⟩ ?_⟩⟩⟩
  · rw [show i = z by omega]; exact h
  · by_cases e : i = z
    · rw [e]; exact h
    · exact absurd q1 (hlt i (by omega) (by omega))
  · by_cases e : i = z
    · rw [e] at q1; exact absurd hfz q1
    · omega
  · by_cases e : i = z
    · rw [e] at q1; exact absurd hfz q1
    · omega
/-- may a letter be put on a key, with those below p placed in row -/
def mayB (n : Int) (mf row : Int → Int) (a k p : Int) : Prop := if mf a = -1 then ∀ b, 0 ≤ b → b < n → mf b ≠ k ∧ (b < p → row b ≠ k) else mf a = k
theorem s_mayBear38 (x1 x2 x4 : Int) (M : Mm) (Q : Int → Mm → Prop) (hn : 0 ≤ M 8 0 ∧ M 8 0 ≤ 10) (hx : 0 ≤ x1 ∧ x1 < 10) (h1 : mayB (M 8 0) (M 37) (M 38) x1 x2 x4 → Q 1 M) (h0 : ¬ mayB (M 8 0) (M 37) (M 38) x1 x2 x4 → Q 0 M) : wp_X8_mayBear_c38 x1 x2 x4 M Q := by
  unfold wp_X8_mayBear_c38
  unfold mayB at h1 h0
  refine ⟨hx, fun q => ?_, fun q => ⟨hx, fun q1 => ?_, fun q1 => ?_⟩⟩
  · rw [if_pos q] at h1 h0
    refine LP1.of (b := bc_X8_mayBear_c38_L29 x2 x4 Q) (fun i B => B = M ∧ 0 ≤ i ∧ i ≤ M 8 0 ∧ ∀ b, 0 ≤ b → b < i → M 37 b ≠ x2 ∧ (b < x4 → M 38 b ≠ x2)) (fun i _ => (M 8 0 - i).toNat) ?_ 0 M ⟨rfl, by omega, by omega, fun a a0 a1 => by omega⟩
    rintro R i B ⟨rfl, i0, i1, hi⟩ ih
    unfold bc_X8_mayBear_c38_L29
    have go : (B 37 i ≠ x2 ∧ (i < x4 → B 38 i ≠ x2)) → i < B 8 0 → R (i + 1) B := fun hh hl => ih _ _ ⟨rfl, by omega, by omega, fun b b0 b1 => by
      by_cases e : b = i
      · rw [e]; exact hh
      · exact hi b b0 (by omega)⟩ (by omega)
    refine ⟨fun q => h1 (fun b b0 b1 => hi b b0 (by omega)), fun q => ⟨by omega, fun q1 => h0 (fun hh => (hh i i0 (by omega)).1 q1), fun q1 => ⟨fun q2 => ⟨by omega, go ⟨q1, fun z => by omega⟩ (by omega)⟩, fun q2 => ⟨by omega, fun q3 => ⟨by omega, go ⟨q1, fun _ => q3⟩ (by omega)⟩, fun q3 => h0 (fun hh => (hh i i0 (by omega)).2 (by omega) q3)⟩⟩⟩⟩
  · rw [if_neg q] at h1 h0; exact h0 q1
  · rw [if_neg q] at h1 h0; exact h1 q1
theorem s_mayBear41 (x1 x2 x4 : Int) (M : Mm) (Q : Int → Mm → Prop) (hn : 0 ≤ M 8 0 ∧ M 8 0 ≤ 10) (hx : 0 ≤ x1 ∧ x1 < 10) (h1 : mayB (M 8 0) (M 37) (M 41) x1 x2 x4 → Q 1 M) (h0 : ¬ mayB (M 8 0) (M 37) (M 41) x1 x2 x4 → Q 0 M) : wp_X8_mayBear_c41 x1 x2 x4 M Q := by
  unfold wp_X8_mayBear_c41
  unfold mayB at h1 h0
  refine ⟨hx, fun q => ?_, fun q => ⟨hx, fun q1 => ?_, fun q1 => ?_⟩⟩
  · rw [if_pos q] at h1 h0
    refine LP1.of (b := bc_X8_mayBear_c41_L29 x2 x4 Q) (fun i B => B = M ∧ 0 ≤ i ∧ i ≤ M 8 0 ∧ ∀ b, 0 ≤ b → b < i → M 37 b ≠ x2 ∧ (b < x4 → M 41 b ≠ x2)) (fun i _ => (M 8 0 - i).toNat) ?_ 0 M ⟨rfl, by omega, by omega, fun a a0 a1 => by omega⟩
    rintro R i B ⟨rfl, i0, i1, hi⟩ ih
    unfold bc_X8_mayBear_c41_L29
    have go : (B 37 i ≠ x2 ∧ (i < x4 → B 41 i ≠ x2)) → i < B 8 0 → R (i + 1) B := fun hh hl => ih _ _ ⟨rfl, by omega, by omega, fun b b0 b1 => by
      by_cases e : b = i
      · rw [e]; exact hh
      · exact hi b b0 (by omega)⟩ (by omega)
    refine ⟨fun q => h1 (fun b b0 b1 => hi b b0 (by omega)), fun q => ⟨by omega, fun q1 => h0 (fun hh => (hh i i0 (by omega)).1 q1), fun q1 => ⟨fun q2 => ⟨by omega, go ⟨q1, fun z => by omega⟩ (by omega)⟩, fun q2 => ⟨by omega, fun q3 => ⟨by omega, go ⟨q1, fun _ => q3⟩ (by omega)⟩, fun q3 => h0 (fun hh => (hh i i0 (by omega)).2 (by omega) q3)⟩⟩⟩⟩
  · rw [if_neg q] at h1 h0; exact h0 q1
  · rw [if_neg q] at h1 h0; exact h1 q1
