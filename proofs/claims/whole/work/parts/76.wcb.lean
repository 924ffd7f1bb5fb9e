theorem sm_ind (n : Nat) (v : Int) : sm n (fun b => if v = 97 + b then 1 else 0) = if 97 ≤ v ∧ v < 97 + n then 1 else 0 := by
  induction n with
  | zero => rw [if_neg (by omega)]; rfl
  | succ n ih =>
    show sm n _ + (if v = 97 + (n : Int) then 1 else 0) = _
    rw [ih]
    by_cases e : v = 97 + (n : Int)
    · rw [if_pos e, if_neg (by omega), if_pos (by push_cast; omega)]; rfl
    · rw [if_neg e]
      by_cases e2 : 97 ≤ v ∧ v < 97 + n
      · rw [if_pos e2, if_pos (by push_cast; omega)]; rfl
      · rw [if_neg e2, if_neg (by push_cast; omega)]; rfl
theorem sm_pr2 (n : Nat) (sg : Int → Int) (j : Int) : sm n (fun a => sm n (fun b => pr2 sg a b j)) ≤ 1 := by
  have h1 := sm_le (n := n) (f := fun a => sm n (fun b => pr2 sg a b j)) (g := fun a => if sg j = 97 + a then 1 else 0) (fun a a0 a1 => by
    show sm n (fun b => pr2 sg a b j) ≤ if sg j = 97 + a then 1 else 0
    by_cases e : sg j = 97 + a
    · rw [if_pos e]
      have e2 : sm n (fun b => pr2 sg a b j) = sm n (fun b => if sg (j + 1) = 97 + b then 1 else 0) := sm_congr (fun b b0 b1 => by
        unfold pr2
        by_cases e3 : sg (j + 1) = 97 + b
        · rw [if_pos ⟨e, e3⟩, if_pos e3]
        · rw [if_neg (fun q => e3 q.2), if_neg e3])
      rw [e2, sm_ind]
      split <;> omega
    · rw [if_neg e, sm_z (fun b b0 b1 => by unfold pr2; exact if_neg (fun q => e q.1))]
      exact Int.le_refl _)
  rw [sm_ind] at h1
  refine Int.le_trans h1 ?_
  split <;> omega
theorem sm_rot (n m : Nat) (X : Int → Int → Int → Int) : sm n (fun a => sm n (fun b => sm m (fun p => X a b p))) = sm m (fun p => sm n (fun a => sm n (fun b => X a b p))) := by
  rw [← sm_swap n m (fun a p => sm n (fun b => X a b p))]
  exact sm_congr (fun a a0 a1 => sm_swap n m (fun b p => X a b p))
theorem sm_cnt {ln sg : Int → Int} (n : Nat) (h : ∀ p, 0 ≤ p → p < 6 → 0 ≤ ln p ∧ ln p ≤ 300) : sm n (fun a => sm n (fun b => cnt ln sg a b)) ≤ 1794 := by
  unfold cnt
  rw [sm_rot n 6 (fun a b p => cnp sg a b p (ln p))]
  have h1 := sm_le (n := 6) (f := fun p => sm n (fun a => sm n (fun b => cnp sg a b p (ln p)))) (g := fun _ => 299) (fun p p0 p1 => by
    show sm n (fun a => sm n (fun b => cnp sg a b p (ln p))) ≤ 299
    unfold cnp
    rw [sm_rot n (ln p - 1).toNat (fun a b i => pr2 sg a b (300 * p + i))]
    have h2 := sm_le (n := (ln p - 1).toNat) (f := fun i => sm n (fun a => sm n (fun b => pr2 sg a b (300 * p + i)))) (g := fun _ => 1) (fun i i0 i1 => sm_pr2 n sg (300 * p + i))
    rw [sm_const] at h2
    have := h p p0 (by omega)
    omega)
  rw [sm_const] at h1
  omega
theorem wc_b {O G : Int → Int → Int} {n : Nat} {f : Int → Int} (hO : ∀ a b : Int, 0 ≤ a → a < n → 0 ≤ b → b < n → 0 ≤ O a b) (hG : ∀ a b : Int, 0 ≤ a → a < n → 0 ≤ b → b < n → 0 ≤ G (f a) (f b) ∧ G (f a) (f b) ≤ 4000) (hT : sm n (fun a => sm n (fun b => O a b)) ≤ 1794) : 0 ≤ wc O G n f ∧ wc O G n f ≤ 7176000 := by
  have ht : ∀ a b : Int, 0 ≤ a → a < n → 0 ≤ b → b < n → 0 ≤ tm O G f a b ∧ tm O G f a b ≤ 4000 * O a b := by
    intro a b a0 a1 b0 b1
    have o1 := hO a b a0 a1 b0 b1
    have g1 := hG a b a0 a1 b0 b1
    unfold tm
    split
    · omega
    · refine ⟨Int.mul_nonneg o1 g1.1, ?_⟩
      have := Int.mul_le_mul_of_nonneg_left g1.2 o1
      rw [Int.mul_comm 4000]
      exact this
  unfold wc
  refine ⟨sm_nn (fun a a0 a1 => sm_nn (fun b b0 b1 => (ht a b a0 a1 b0 b1).1)), ?_⟩
  have h1 := sm_le (n := n) (f := fun a => sm n (fun b => tm O G f a b)) (g := fun a => 4000 * sm n (fun b => O a b)) (fun a a0 a1 => by
    show sm n (fun b => tm O G f a b) ≤ 4000 * sm n (fun b => O a b)
    rw [← sm_mul]
    exact sm_le (fun b b0 b1 => (ht a b a0 a1 b0 b1).2))
  rw [sm_mul] at h1
  omega
/-- the costs of the class keep below what a cost can be -/
theorem Inv_wc {M : Mm} (hI : Inv M) : ∀ f, Kin (M 1 0) (M 3 0) f → 0 ≤ wc (Oc1 M) (Gc1 M) (M 1 0).toNat f ∧ wc (Oc1 M) (Gc1 M) (M 1 0).toNat f ≤ 7176000 := by
  obtain ⟨hn, hk, hg, hc, hf, hs, hd, ht, hz, hb, hp, hq, ho⟩ := id hI
  obtain ⟨n1, n2, k1, k2, e1, e2⟩ := id hn
  intro f hf
  have hl : ∀ p, 0 ≤ p → p < 6 → 0 ≤ M 12 p ∧ M 12 p ≤ 300 := fun p p0 p1 => by have := hp p p0 p1; omega
  have hO : ∀ a b, 0 ≤ a → a < M 1 0 → 0 ≤ b → b < M 1 0 → Oc1 M a b = cnt (M 12) (M 11) a b := fun a b a0 a1 b0 b1 => (ho a b a0 (by omega) b0 (by omega)).1
  refine wc_b (fun a b a0 a1 b0 b1 => ?_) (fun a b a0 a1 b0 b1 => ?_) ?_
  · rw [hO a b a0 (by omega) b0 (by omega)]; exact (cnt_b hl).1
  · have fa := hf a a0 (by omega)
    have fb := hf b b0 (by omega)
    show 0 ≤ M 17 (12 * f a + f b) ∧ M 17 (12 * f a + f b) ≤ 4000
    rw [hc _ _ fa.1 fa.2 fb.1 fb.2]
    have g1 := hg (12 * f a + f b) (by omega) (by omega)
    have g2 := hk (f b) fb.1 fb.2
    exact cst_b (by omega) (by omega) (by omega) (by omega)
  · rw [sm_congr (g := fun a => sm (M 1 0).toNat (fun b => cnt (M 12) (M 11) a b)) (fun a a0 a1 => sm_congr (fun b b0 b1 => hO a b a0 (by omega) b0 (by omega)))]
    exact sm_cnt _ hl
