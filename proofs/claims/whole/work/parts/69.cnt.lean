theorem pr2_b (sg : Int → Int) (a b j : Int) : 0 ≤ pr2 sg a b j ∧ pr2 sg a b j ≤ 1 := by
  unfold pr2; split <;> decide
theorem cnp_b {sg : Int → Int} {a b p len : Int} (h : 0 ≤ len ∧ len ≤ 300) : 0 ≤ cnp sg a b p len ∧ cnp sg a b p len ≤ 299 := by
  unfold cnp
  refine ⟨sm_nn (fun i _ _ => (pr2_b _ _ _ _).1), ?_⟩
  have h1 := sm_le (n := (len - 1).toNat) (f := fun i => pr2 sg a b (300 * p + i)) (g := fun _ => 1) (fun i _ _ => (pr2_b _ _ _ _).2)
  rw [sm_const] at h1
  omega
theorem cnt_b {ln sg : Int → Int} {a b : Int} (h : ∀ p, 0 ≤ p → p < 6 → 0 ≤ ln p ∧ ln p ≤ 300) : 0 ≤ cnt ln sg a b ∧ cnt ln sg a b ≤ 1794 := by
  unfold cnt
  refine ⟨sm_nn (fun p p0 p1 => (cnp_b (h p p0 (by omega))).1), ?_⟩
  have h1 := sm_le (n := 6) (f := fun p => cnp sg a b p (ln p)) (g := fun _ => 299) (fun p p0 p1 => (cnp_b (h p p0 (by omega))).2)
  rw [sm_const] at h1
  omega
/-- two functions that differ at one place alone -/
theorem sm_diff {n : Nat} {f g : Int → Int} {t : Int} (h0 : 0 ≤ t) (h1 : t < n) (h : ∀ i : Int, 0 ≤ i → i < n → i ≠ t → f i = g i) : sm n f = sm n g + (f t - g t) := by
  have e := sm_one (n := n) (f := fun i => f i + (-1) * g i) h0 h1 (fun i i0 i1 i2 => by show f i + (-1) * g i = 0; rw [h i i0 i1 i2]; omega)
  rw [sm_add, sm_mul] at e
  omega
theorem cnp_congr {sg sg' : Int → Int} {a b p len : Int} (h : ∀ i, 0 ≤ i → i < len → sg' (300 * p + i) = sg (300 * p + i)) : cnp sg' a b p len = cnp sg a b p len := by
  unfold cnp
  apply sm_congr
  intro i i0 i1
  unfold pr2
  have h1 := h i i0 (by omega)
  have h2 := h (i + 1) (by omega) (by omega)
  rw [← Int.add_assoc] at h2
  rw [h1, h2]
theorem cnt_congr {ln sg ln' sg' : Int → Int} {a b : Int} (hl : ∀ p, 0 ≤ p → p < 6 → ln' p = ln p) (h : ∀ p i, 0 ≤ p → p < 6 → 0 ≤ i → i < ln p → sg' (300 * p + i) = sg (300 * p + i)) : cnt ln' sg' a b = cnt ln sg a b := by
  unfold cnt
  apply sm_congr
  intro p p0 p1
  show cnp sg' a b p (ln' p) = cnp sg a b p (ln p)
  rw [hl p p0 (by omega)]
  exact cnp_congr (fun i i0 i1 => h p i p0 (by omega) i0 i1)
/-- a sign comes to a page -/
theorem cnt_app {ln sg : Int → Int} {a b p s : Int} (hl : ∀ p, 0 ≤ p → p < 6 → 0 ≤ ln p ∧ ln p ≤ 300) (hp : 0 ≤ p ∧ p < 6) (hlt : ln p < 300) : cnt (fu ln p (ln p + 1)) (fu sg (300 * p + ln p) s) a b = cnt ln sg a b + (if 0 < ln p ∧ sg (300 * p + (ln p - 1)) = 97 + a ∧ s = 97 + b then 1 else 0) := by
  have hlp := hl p hp.1 hp.2
  unfold cnt
  rw [sm_diff (n := 6) (g := fun p => cnp sg a b p (ln p)) hp.1 (show p < (6 : Nat) by omega)]
  · show _ + (cnp _ a b p (fu ln p (ln p + 1) p) - cnp sg a b p (ln p)) = _
    rw [fu_s]
    congr 1
    unfold cnp
    by_cases e : 0 < ln p
    · rw [show (ln p + 1 - 1).toNat = (ln p - 1).toNat + 1 by omega]
      show sm (ln p - 1).toNat _ + pr2 _ a b (300 * p + ((ln p - 1).toNat : Int)) - _ = _
      have e1 : sm (ln p - 1).toNat (fun i => pr2 (fu sg (300 * p + ln p) s) a b (300 * p + i)) = sm (ln p - 1).toNat (fun i => pr2 sg a b (300 * p + i)) := by
        apply sm_congr
        intro i i0 i1
        unfold pr2
        rw [fu_n _ _ (by omega), fu_n _ _ (by omega)]
      rw [e1, show ((ln p - 1).toNat : Int) = ln p - 1 by omega]
      have e2 : pr2 (fu sg (300 * p + ln p) s) a b (300 * p + (ln p - 1)) = if 0 < ln p ∧ sg (300 * p + (ln p - 1)) = 97 + a ∧ s = 97 + b then 1 else 0 := by
        unfold pr2
        rw [fu_n _ _ (by omega), show 300 * p + (ln p - 1) + 1 = 300 * p + ln p by omega, fu_s]
        by_cases q : sg (300 * p + (ln p - 1)) = 97 + a ∧ s = 97 + b
        · rw [if_pos q, if_pos ⟨e, q⟩]
        · rw [if_neg q, if_neg (fun z => q z.2)]
      rw [e2]; omega
    · rw [if_neg (fun q => e q.1), show (ln p + 1 - 1).toNat = 0 by omega, show (ln p - 1).toNat = 0 by omega]
      rfl
  · intro q q0 q1 q2
    show cnp _ a b q (fu ln p (ln p + 1) q) = cnp sg a b q (ln q)
    rw [fu_n _ _ q2]
    refine cnp_congr (fun i i0 i1 => fu_n _ _ ?_)
    have := hl q q0 (by omega)
    omega
theorem cnt_wipe {ln sg : Int → Int} {a b p : Int} (hp : 0 ≤ p ∧ p < 6) : cnt (fu ln p 0) sg a b = cnt ln sg a b - cnp sg a b p (ln p) := by
  unfold cnt
  rw [sm_diff (n := 6) (g := fun p => cnp sg a b p (ln p)) hp.1 (show p < (6 : Nat) by omega)]
  · show _ + (cnp sg a b p (fu ln p 0 p) - cnp sg a b p (ln p)) = _
    rw [fu_s]
    have : cnp sg a b p 0 = 0 := rfl
    omega
  · intro q q0 q1 q2
    show cnp sg a b q (fu ln p 0 q) = _
    rw [fu_n _ _ q2]
theorem s_countPair (x1 x2 x3 : Int) (M : Mm) (Q : Mm → Prop) (h1 : 0 ≤ x1 ∧ x1 ≤ 255) (h2 : 0 ≤ x2 ∧ x2 ≤ 255) (h3 : -1 ≤ x3 ∧ x3 ≤ 1) (hb : ∀ j, 0 ≤ j → j < 100 → -10000 ≤ M 13 j ∧ M 13 j ≤ 10000) (h : ∀ M' : Mm, (∀ c, c ≠ 13 → M' c = M c) → (∀ a b, 0 ≤ a → a < 10 → 0 ≤ b → b < 10 → M' 13 (10 * a + b) = M 13 (10 * a + b) + (if x1 = 97 + a ∧ x2 = 97 + b then x3 else 0)) → Q M') : wp_X4_countPair x1 x2 x3 M Q := by
  have hno : ¬ (97 ≤ x1 ∧ x1 < 107 ∧ 97 ≤ x2 ∧ x2 < 107) → Q M := fun q => h M (fun _ _ => rfl) (fun a b a0 a1 b0 b1 => by rw [if_neg (fun z => by omega)]; omega)
  unfold wp_X4_countPair
  repeat' (first | with_reducible (apply And.intro) | with_reducible (intro _))
  all_goals (try first | omega | exact absurd trivial (by assumption) | exact False.elim (by assumption))
  all_goals (try (exact hno (by omega)))
  · have := hb (10 * (x1 - 97) + (x2 - 97)) (by omega) (by omega); omega
  · have := hb (10 * (x1 - 97) + (x2 - 97)) (by omega) (by omega); omega
  · refine h _ (fun c hc => ?_) (fun a b a0 a1 b0 b1 => ?_)
    · simp only [mset_eq, fu_ap, hc, reduceIte]
    · simp only [mset_eq, fu_ap, reduceIte]
      by_cases e : 10 * a + b = 10 * (x1 - 97) + (x2 - 97)
      · rw [if_pos e, if_pos ⟨by omega, by omega⟩, e]
      · rw [if_neg e, if_neg (fun z => by omega)]; omega
/-- the class counts rightly -/
def Oc (ln sg oc : Int → Int) : Prop := ∀ a b, 0 ≤ a → a < 10 → 0 ≤ b → b < 10 → oc (10 * a + b) = cnt ln sg a b
theorem Oc_b {ln sg oc : Int → Int} (h : Oc ln sg oc) (hl : ∀ p, 0 ≤ p → p < 6 → 0 ≤ ln p ∧ ln p ≤ 300) : ∀ j, 0 ≤ j → j < 100 → 0 ≤ oc j ∧ oc j ≤ 1794 := by
  intro j j0 j1
  have h1 := h (j / 10) (j % 10) (by omega) (by omega) (by omega) (by omega)
  rw [show 10 * (j / 10) + j % 10 = j by omega] at h1
  rw [h1]
  exact cnt_b hl
theorem s_append4 (x1 x2 : Int) (M : Mm) (Q : Mm → Prop) (hx : 0 ≤ x1 ∧ x1 < 6) (h2 : 0 ≤ x2 ∧ x2 ≤ 255) (hl : ∀ p, 0 ≤ p → p < 6 → 0 ≤ M 12 p ∧ M 12 p ≤ 300) (hlt : M 12 x1 < 300) (hsg : ∀ i, 0 ≤ i → i < M 12 x1 → 0 ≤ M 11 (300 * x1 + i) ∧ M 11 (300 * x1 + i) ≤ 255) (ho : Oc (M 12) (M 11) (M 13)) (h : ∀ M' : Mm, (∀ c, c ≠ 11 → c ≠ 12 → c ≠ 13 → M' c = M c) → M' 12 = fu (M 12) x1 (M 12 x1 + 1) → M' 11 = fu (M 11) (300 * x1 + M 12 x1) x2 → Oc (M' 12) (M' 11) (M' 13) → Q M') : wp_X4_append x1 x2 M Q := by
  have hx1 := hl x1 hx.1 hx.2
  have hfin : ∀ M1 : Mm, (∀ c, c ≠ 13 → M1 c = M c) → (∀ a b, 0 ≤ a → a < 10 → 0 ≤ b → b < 10 → M1 13 (10 * a + b) = M 13 (10 * a + b) + (if 0 < M 12 x1 ∧ M 11 (300 * x1 + (M 12 x1 - 1)) = 97 + a ∧ x2 = 97 + b then 1 else 0)) → Q (mset (mset M1 11 (300 * x1 + (M 12 x1)) x2) 12 x1 ((M 12 x1) + 1)) := by
    intro M1 f1 f2
    have e12 : mset (mset M1 11 (300 * x1 + (M 12 x1)) x2) 12 x1 ((M 12 x1) + 1) 12 = fu (M 12) x1 (M 12 x1 + 1) := by
      simp only [mset_eq, fu_ap, reduceIte, Nat.reduceEqDiff]; rw [f1 12 (by decide)]
    have e11 : mset (mset M1 11 (300 * x1 + (M 12 x1)) x2) 12 x1 ((M 12 x1) + 1) 11 = fu (M 11) (300 * x1 + M 12 x1) x2 := by
      simp only [mset_eq, fu_ap, reduceIte, Nat.reduceEqDiff]; rw [f1 11 (by decide)]
    refine h _ (fun c c1 c2 c3 => ?_) e12 e11 ?_
    · simp only [mset_eq, fu_ap, c1, c2, reduceIte]; exact f1 c c3
    · rw [e12, e11]
      intro a b a0 a1 b0 b1
      rw [cnt_app hl hx hlt, ← ho a b a0 a1 b0 b1]
      simp only [mset_eq, fu_ap, reduceIte, Nat.reduceEqDiff]
      exact f2 a b a0 a1 b0 b1
  unfold wp_X4_append
  refine ⟨hx, fun _ => ⟨fun q => ⟨hx, by omega, by omega, hx, hfin M (fun _ _ => rfl) (fun a b a0 a1 b0 b1 => ?_)⟩, fun q => ⟨hx, by omega, ?_⟩⟩, fun q => absurd hlt q⟩
  · rw [if_neg (fun z => by omega)]; omega
  · refine s_countPair _ x2 1 M _ (hsg _ (by omega) (by omega)) h2 (by omega) (fun j j0 j1 => by have := Oc_b ho hl j j0 j1; omega) (fun M1 f1 f2 => ⟨hx, by omega, by omega, hx, hfin M1 f1 (fun a b a0 a1 b0 b1 => ?_)⟩)
    rw [f2 a b a0 a1 b0 b1]
    by_cases e : M 11 (300 * x1 + (M 12 x1 - 1)) = 97 + a ∧ x2 = 97 + b
    · rw [if_pos e, if_pos ⟨by omega, e⟩]
    · rw [if_neg e, if_neg (fun z => e z.2)]
theorem s_wipe (x1 : Int) (M : Mm) (Q : Mm → Prop) (hx : 0 ≤ x1 ∧ x1 < 6) (hl : ∀ p, 0 ≤ p → p < 6 → 0 ≤ M 12 p ∧ M 12 p ≤ 300) (hsg : ∀ i, 0 ≤ i → i < M 12 x1 → 0 ≤ M 11 (300 * x1 + i) ∧ M 11 (300 * x1 + i) ≤ 255) (hpos : 1 ≤ M 12 x1) (ho : Oc (M 12) (M 11) (M 13)) (h : ∀ M' : Mm, (∀ c, c ≠ 12 → c ≠ 13 → M' c = M c) → M' 12 = fu (M 12) x1 0 → Oc (M' 12) (M' 11) (M' 13) → Q M') : wp_X4_wipe x1 M Q := by
  unfold wp_X4_wipe
  have hx1 := hl x1 hx.1 hx.2
  have hbd : ∀ (a b : Int) (k : Nat), 0 ≤ sm k (fun i => pr2 (M 11) a b (300 * x1 + i)) ∧ sm k (fun i => pr2 (M 11) a b (300 * x1 + i)) ≤ k := by
    intro a b k
    refine ⟨sm_nn (fun i _ _ => (pr2_b _ _ _ _).1), ?_⟩
    have h1 := sm_le (n := k) (f := fun i => pr2 (M 11) a b (300 * x1 + i)) (g := fun _ => 1) (fun i _ _ => (pr2_b _ _ _ _).2)
    rw [sm_const] at h1
    omega
  refine LP1.of (b := bc_X4_wipe_L2 x1 Q) (fun x B => (∀ c, c ≠ 13 → B c = M c) ∧ 1 ≤ x ∧ x ≤ M 12 x1 ∧ ∀ a b, 0 ≤ a → a < 10 → 0 ≤ b → b < 10 → B 13 (10 * a + b) = M 13 (10 * a + b) - sm (x - 1).toNat (fun i => pr2 (M 11) a b (300 * x1 + i))) (fun x _ => (M 12 x1 - x).toNat) ?_ 1 M ⟨fun _ _ => rfl, by omega, by omega, fun a b a0 a1 b0 b1 => by show _ = _ - (0 : Int); omega⟩
  rintro R x B ⟨f1, x0, x9, hB⟩ ih
  unfold bc_X4_wipe_L2
  have c12 := f1 12 (by decide)
  have c11 := f1 11 (by decide)
  rw [c12, c11]
  refine ⟨hx, fun q => ⟨hx, ?_⟩, fun q => ⟨hx, by omega, hx, by omega, ?_⟩⟩
  · have e12 : mset B 12 x1 0 12 = fu (M 12) x1 0 := by simp only [mset_eq, fu_ap, reduceIte]; rw [c12]
    refine h _ (fun c h1 h2 => ?_) e12 ?_
    · simp only [mset_eq, fu_ap, h1, reduceIte]; exact f1 c h2
    · rw [e12]
      intro a b a0 a1 b0 b1
      simp only [mset_eq, fu_ap, reduceIte, Nat.reduceEqDiff]
      rw [c11, cnt_wipe hx, ← ho a b a0 a1 b0 b1, hB a b a0 a1 b0 b1, show x = M 12 x1 by omega]
      rfl
  · refine s_countPair _ _ (-1) B _ (hsg _ (by omega) (by omega)) (hsg _ (by omega) (by omega)) (by omega) (fun j j0 j1 => ?_) (fun M1 g1 g2 => ⟨by omega, ih _ _ ⟨fun c hc => (g1 c hc).trans (f1 c hc), by omega, by omega, fun a b a0 a1 b0 b1 => ?_⟩ (by omega)⟩)
    · have h1 := hB (j / 10) (j % 10) (by omega) (by omega) (by omega) (by omega)
      rw [show 10 * (j / 10) + j % 10 = j by omega] at h1
      have h2 := Oc_b ho hl j j0 j1
      have h3 := hbd (j / 10) (j % 10) (x - 1).toNat
      omega
    · rw [g2 a b a0 a1 b0 b1, hB a b a0 a1 b0 b1, show (x + 1 - 1).toNat = (x - 1).toNat + 1 by omega]
      show _ = _ - (sm (x - 1).toNat _ + pr2 (M 11) a b (300 * x1 + ((x - 1).toNat : Int)))
      rw [show ((x - 1).toNat : Int) = x - 1 by omega]
      have e2 : pr2 (M 11) a b (300 * x1 + (x - 1)) = if M 11 (300 * x1 + (x - 1)) = 97 + a ∧ M 11 (300 * x1 + x) = 97 + b then 1 else 0 := by
        unfold pr2
        rw [show 300 * x1 + (x - 1) + 1 = 300 * x1 + x by omega]
      rw [e2]
      by_cases e : M 11 (300 * x1 + (x - 1)) = 97 + a ∧ M 11 (300 * x1 + x) = 97 + b
      · rw [if_pos e, if_pos e]; omega
      · rw [if_neg e, if_neg e]; omega
