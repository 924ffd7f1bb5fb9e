def ltr (n s : Int) : Int := if 97 ≤ s ∧ s - 97 < n then s - 97 else -1
theorem s_letterAt (p i : Int) (M : Mm) (Q : Int → Mm → Prop) (hi : 0 ≤ 300 * p + i ∧ 300 * p + i < 1800) (hs : 0 ≤ M 32 (300 * p + i) ∧ M 32 (300 * p + i) ≤ 255) (hn : 1 ≤ M 8 0 ∧ M 8 0 ≤ 10) (h : Q (ltr (M 8 0) (M 32 (300 * p + i))) M) : wp_X8_letterAt p i M Q := by
  unfold ltr at h
  unfold wp_X8_letterAt wp_X8_isLetter wp_X8_in
  repeat' (first | with_reducible (apply And.intro) | with_reducible (intro _))
  all_goals (try first | omega | exact absurd trivial (by assumption) | exact False.elim (by assumption))
  · rw [if_neg (by omega)] at h; exact h
  · rw [if_neg (by omega)] at h; exact h
  · rw [if_pos ⟨by omega, by omega⟩] at h; exact h
/-- how long a page is for the reference -/
def lnM (M : Mm) (p : Int) : Int := if M 30 p = 0 then 0 else M 31 p
theorem s_cin (p : Int) (M B : Mm) (Q : Mm → Prop) (K : Mm → Prop) (hp : 0 ≤ p ∧ p < 6) (hn : 1 ≤ M 8 0 ∧ M 8 0 ≤ 10) (hl : 0 ≤ lnM M p ∧ lnM M p ≤ 300) (hs : ∀ i, 0 ≤ i → i < lnM M p → 0 ≤ M 32 (300 * p + i) ∧ M 32 (300 * p + i) ≤ 255) (hB : ∀ c, c ≠ 33 → B c = M c) (hV : ∀ j, 0 ≤ j → j < 100 → 0 ≤ B 33 j ∧ B 33 j ≤ 1000000) (h : ∀ B' : Mm, (∀ c, c ≠ 33 → B' c = M c) → (∀ a b, 0 ≤ a → a < 10 → 0 ≤ b → b < 10 → B' 33 (10 * a + b) = B 33 (10 * a + b) + (if a < M 8 0 ∧ b < M 8 0 then cnp (M 32) a b p (lnM M p) else 0)) → K B') : wp_X8_counts_L31 p Q K 1 B := by
  refine LP1.of (b := bc_X8_counts_L31 p Q K) (fun x C => 1 ≤ x ∧ (x ≤ lnM M p ∨ x = 1) ∧ (∀ c, c ≠ 33 → C c = M c) ∧ (∀ a b, 0 ≤ a → a < 10 → 0 ≤ b → b < 10 → C 33 (10 * a + b) = B 33 (10 * a + b) + (if a < M 8 0 ∧ b < M 8 0 then sm (x - 1).toNat (fun i => pr2 (M 32) a b (300 * p + i)) else 0))) (fun x _ => (lnM M p + 1 - x).toNat) ?_ 1 B ⟨by omega, Or.inr rfl, hB, fun a b a0 a1 b0 b1 => by show _ = _ + (if _ then (0 : Int) else 0); split <;> omega⟩
  rintro R x C ⟨x0, x9, f1, hC⟩ ih
  unfold bc_X8_counts_L31
  have c31 := f1 31 (by decide)
  have c30 := f1 30 (by decide)
  have c32 := f1 32 (by decide)
  have c8 := f1 8 (by decide)
  have hfin : lnM M p ≤ x → K C := by
    intro q
    refine h C f1 (fun a b a0 a1 b0 b1 => ?_)
    rw [hC a b a0 a1 b0 b1]
    unfold cnp
    rw [show (x - 1).toNat = (lnM M p - 1).toNat by omega]
  rw [c31, c30]
  refine ⟨hp, fun q => hfin ?_, fun q => ⟨hp, fun q1 => hfin ?_, fun q1 => ⟨by omega, ?_⟩⟩⟩
  · unfold lnM; split
    · omega
    · exact q
  · unfold lnM; rw [if_pos q1]; omega
  · have el : lnM M p = M 31 p := by unfold lnM; rw [if_neg q1]
    have s1 := hs (x - 1) (by omega) (by omega)
    have s2 := hs x (by omega) (by omega)
    refine s_letterAt p (x - 1) C _ (by omega) (by rw [c32]; exact s1) (by rw [c8]; exact hn) ?_
    refine s_letterAt p x C _ (by omega) (by rw [c32]; exact s2) (by rw [c8]; exact hn) ?_
    rw [c8, c32]
    have hpr : ∀ a b, pr2 (M 32) a b (300 * p + (x - 1)) = if M 32 (300 * p + (x - 1)) = 97 + a ∧ M 32 (300 * p + x) = 97 + b then 1 else 0 := by
      intro a b
      unfold pr2
      rw [show 300 * p + (x - 1) + 1 = 300 * p + x by omega]
    have hstep : ∀ a b, sm (x + 1 - 1).toNat (fun i => pr2 (M 32) a b (300 * p + i)) = sm (x - 1).toNat (fun i => pr2 (M 32) a b (300 * p + i)) + (if M 32 (300 * p + (x - 1)) = 97 + a ∧ M 32 (300 * p + x) = 97 + b then 1 else 0) := by
      intro a b
      rw [show (x + 1 - 1).toNat = (x - 1).toNat + 1 by omega]
      show sm (x - 1).toNat _ + pr2 (M 32) a b (300 * p + ((x - 1).toNat : Int)) = _
      rw [show ((x - 1).toNat : Int) = x - 1 by omega, hpr]
    have hskip : ¬ (97 ≤ M 32 (300 * p + (x - 1)) ∧ M 32 (300 * p + (x - 1)) - 97 < M 8 0 ∧ 97 ≤ M 32 (300 * p + x) ∧ M 32 (300 * p + x) - 97 < M 8 0) → R (x + 1) C := by
      intro hno
      refine ih _ _ ⟨by omega, by omega, f1, fun a b a0 a1 b0 b1 => ?_⟩ (by omega)
      rw [hC a b a0 a1 b0 b1, hstep a b]
      by_cases e : a < M 8 0 ∧ b < M 8 0
      · rw [if_pos e, if_pos e, if_neg (fun z => by omega)]; omega
      · rw [if_neg e, if_neg e]
    unfold ltr
    by_cases g1 : 97 ≤ M 32 (300 * p + (x - 1)) ∧ M 32 (300 * p + (x - 1)) - 97 < M 8 0
    · rw [if_pos g1]
      by_cases g2 : 97 ≤ M 32 (300 * p + x) ∧ M 32 (300 * p + x) - 97 < M 8 0
      · rw [if_pos g2]
        have hb : 0 ≤ C 33 (10 * (M 32 (300 * p + (x - 1)) - 97) + (M 32 (300 * p + x) - 97)) ∧ C 33 (10 * (M 32 (300 * p + (x - 1)) - 97) + (M 32 (300 * p + x) - 97)) ≤ 1000300 := by
          rw [hC _ _ (by omega) (by omega) (by omega) (by omega), if_pos ⟨by omega, by omega⟩]
          have b1 := hV (10 * (M 32 (300 * p + (x - 1)) - 97) + (M 32 (300 * p + x) - 97)) (by omega) (by omega)
          have b2 := sm_nn (n := (x - 1).toNat) (f := fun i => pr2 (M 32) (M 32 (300 * p + (x - 1)) - 97) (M 32 (300 * p + x) - 97) (300 * p + i)) (fun i _ _ => (pr2_b _ _ _ _).1)
          have b3 := sm_le (n := (x - 1).toNat) (f := fun i => pr2 (M 32) (M 32 (300 * p + (x - 1)) - 97) (M 32 (300 * p + x) - 97) (300 * p + i)) (g := fun _ => 1) (fun i _ _ => (pr2_b _ _ _ _).2)
          rw [sm_const] at b3
          omega
        refine ⟨fun q => by omega, fun _ => ⟨fun q => by omega, fun _ => ⟨by omega, by omega, by omega, by omega, ih _ _ ⟨by omega, by omega, fun c hc => ?_, fun a b a0 a1 b0 b1 => ?_⟩ (by omega)⟩⟩⟩
        · simp only [mset_eq, fu_ap, hc, reduceIte]; exact f1 c hc
        · simp only [mset_eq, fu_ap, reduceIte]
          rw [hstep a b]
          by_cases e : 10 * a + b = 10 * (M 32 (300 * p + (x - 1)) - 97) + (M 32 (300 * p + x) - 97)
          · have ea : a = M 32 (300 * p + (x - 1)) - 97 := by omega
            have eb : b = M 32 (300 * p + x) - 97 := by omega
            rw [if_pos e, if_pos ⟨by omega, by omega⟩, if_pos ⟨by omega, by omega⟩, ← ea, ← eb, hC a b a0 a1 b0 b1, if_pos ⟨by omega, by omega⟩]
            omega
          · by_cases e2 : a < M 8 0 ∧ b < M 8 0
            · rw [if_neg e, hC a b a0 a1 b0 b1, if_pos e2, if_pos e2, if_neg (fun z => e (by omega))]; omega
            · rw [if_neg e, hC a b a0 a1 b0 b1, if_neg e2, if_neg e2]
      · rw [if_neg g2]
        exact ⟨fun q => by omega, fun _ => ⟨fun _ => ⟨by omega, hskip (by omega)⟩, fun q => absurd rfl q⟩⟩
    · rw [if_neg g1]
      exact ⟨fun _ => ⟨by omega, hskip (by omega)⟩, fun q => absurd rfl q⟩
theorem s_counts (M : Mm) (Q : Mm → Prop) (hn : 1 ≤ M 8 0 ∧ M 8 0 ≤ 10) (hl : ∀ p, 0 ≤ p → p < 6 → 0 ≤ lnM M p ∧ lnM M p ≤ 300) (hs : ∀ p i, 0 ≤ p → p < 6 → 0 ≤ i → i < lnM M p → 0 ≤ M 32 (300 * p + i) ∧ M 32 (300 * p + i) ≤ 255) (h : ∀ M' : Mm, (∀ c, c ≠ 33 → M' c = M c) → (∀ a b, 0 ≤ a → a < 10 → 0 ≤ b → b < 10 → M' 33 (10 * a + b) = if a < M 8 0 ∧ b < M 8 0 then cnt (lnM M) (M 32) a b else 0) → Q M') : wp_X8_counts M Q := by
  unfold wp_X8_counts
  refine LP1.of (b := bc_X8_counts_L2 Q (fun M1 => wp_X8_counts_L23 Q 0 M1)) (fun x B => 0 ≤ x ∧ x ≤ 100 ∧ (∀ c, c ≠ 33 → B c = M c) ∧ ∀ j, 0 ≤ j → j < x → B 33 j = 0) (fun x _ => (100 - x).toNat) ?_ 0 M ⟨by omega, by omega, fun _ _ => rfl, fun j j0 j1 => by omega⟩
  rintro R x B ⟨x0, x9, f1, hB⟩ ih
  unfold bc_X8_counts_L2
  refine ⟨fun q => ?_, fun q => ⟨by omega, by omega, ih _ _ ⟨by omega, by omega, fun c hc => ?_, fun j j0 j1 => ?_⟩ (by omega)⟩⟩
  · -- the pages
    refine LP1.of (b := bc_X8_counts_L23 Q) (fun p C => 0 ≤ p ∧ p ≤ 6 ∧ (∀ c, c ≠ 33 → C c = M c) ∧ ∀ a b, 0 ≤ a → a < 10 → 0 ≤ b → b < 10 → C 33 (10 * a + b) = if a < M 8 0 ∧ b < M 8 0 then sm p.toNat (fun p => cnp (M 32) a b p (lnM M p)) else 0) (fun p _ => (6 - p).toNat) ?_ 0 B ⟨by omega, by omega, f1, fun a b a0 a1 b0 b1 => by rw [hB _ (by omega) (by omega)]; show (0 : Int) = if _ then (0 : Int) else 0; split <;> rfl⟩
    rintro R2 p C ⟨p0, p9, g1, hC⟩ ih2
    unfold bc_X8_counts_L23
    refine ⟨fun q => h C g1 (fun a b a0 a1 b0 b1 => ?_), fun q => ?_⟩
    · rw [hC a b a0 a1 b0 b1, show p = 6 by omega]; rfl
    · refine s_cin p M C Q _ (by omega) hn (hl p p0 (by omega)) (fun i i0 i1 => hs p i p0 (by omega) i0 i1) g1 (fun j j0 j1 => ?_) (fun B' k1 k2 => ⟨by omega, ih2 _ _ ⟨by omega, by omega, k1, fun a b a0 a1 b0 b1 => ?_⟩ (by omega)⟩)
      · have h1 := hC (j / 10) (j % 10) (by omega) (by omega) (by omega) (by omega)
        rw [show 10 * (j / 10) + j % 10 = j by omega] at h1
        rw [h1]
        split
        · have b2 := sm_nn (n := p.toNat) (f := fun p => cnp (M 32) (j / 10) (j % 10) p (lnM M p)) (fun i i0 i1 => (cnp_b (hl i i0 (by omega))).1)
          have b3 := sm_le (n := p.toNat) (f := fun p => cnp (M 32) (j / 10) (j % 10) p (lnM M p)) (g := fun _ => 299) (fun i i0 i1 => (cnp_b (hl i i0 (by omega))).2)
          rw [sm_const] at b3
          omega
        · omega
      · rw [k2 a b a0 a1 b0 b1, hC a b a0 a1 b0 b1, show (p + 1).toNat = p.toNat + 1 by omega]
        by_cases e : a < M 8 0 ∧ b < M 8 0
        · rw [if_pos e, if_pos e, if_pos e]
          show _ = sm p.toNat _ + cnp (M 32) a b (p.toNat : Int) (lnM M (p.toNat : Int))
          rw [show ((p.toNat : Nat) : Int) = p by omega]
        · rw [if_neg e, if_neg e, if_neg e]; rfl
  · simp only [mset_eq, fu_ap, hc, reduceIte]; exact f1 c hc
  · simp only [mset_eq, fu_ap, reduceIte]
    by_cases e : j = x
    · rw [if_pos e]
    · rw [if_neg e]; exact hB j j0 (by omega)
