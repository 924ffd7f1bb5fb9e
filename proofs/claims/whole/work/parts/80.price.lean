/-- where a value comes into a rising row of m -/
def insA (m : Int) (A : Int → Int) (v : Int) (j : Int) : Int := if j < m ∧ A j ≤ v then A j else if 0 < j ∧ v < A (j - 1) then A (j - 1) else v
def Srt (m : Int) (A : Int → Int) : Prop := ∀ i j, 0 ≤ i → i ≤ j → j < m → A i ≤ A j
theorem Srt_ins {m v : Int} {A : Int → Int} (h : Srt m A) : Srt (m + 1) (insA m A v) := by
  intro i j i0 ij jm
  have h1 := h i j i0 ij
  have h2 := h (i - 1) (j - 1)
  have h3 := h i (j - 1) i0
  have h4 := h (i - 1) j
  by_cases e : i = j
  · subst e; exact Int.le_refl _
  · unfold insA
    split <;> split <;> (try split) <;> (try split) <;> omega
/-- a row with a hole at p, all beyond it one further -/
def Hole (A B : Int → Int) (p m : Int) : Prop := (∀ j, 0 ≤ j → j < p → B j = A j) ∧ (∀ j, p < j → j ≤ m → B j = A (j - 1))
theorem Hole_step {A B : Int → Int} {p m : Int} (h : Hole A B p m) (h0 : 0 < p) : Hole A (fu B p (B (p - 1))) (p + (-1)) m := by
  refine ⟨fun j j0 j1 => ?_, fun j j0 j1 => ?_⟩
  · rw [fu_n _ _ (by omega)]; exact h.1 j j0 (by omega)
  · by_cases e : j = p
    · subst e
      simp only [fu_ap, reduceIte]
      exact h.1 _ (by omega) (by omega)
    · rw [fu_n _ _ e]; exact h.2 j (by omega) j1
theorem Hole_done {A B : Int → Int} {p m v : Int} (h : Hole A B p m) (h0 : 0 ≤ p) (h1 : p ≤ m) (hs : Srt m A) (hg : ∀ j, p ≤ j → j < m → v < A j) (hl : p ≤ 0 ∨ A (p - 1) ≤ v) : ∀ j, 0 ≤ j → j ≤ m → fu B p v j = insA m A v j := by
  intro j j0 j1
  unfold insA
  rw [fu_ap]
  by_cases e : j = p
  · subst e
    rw [if_pos rfl, if_neg (fun q => by have := hg j (by omega) q.1; omega), if_neg (fun q => by omega)]
  · rw [if_neg e]
    by_cases e2 : j < p
    · have := hs j (p - 1) j0 (by omega) (by omega)
      rw [if_pos ⟨by omega, by omega⟩]
      exact h.1 j j0 e2
    · have := hg (j - 1) (by omega) (by omega)
      rw [if_neg (fun q => by have := hg j (by omega) q.1; omega), if_pos ⟨by omega, this⟩]
      exact h.2 j (by omega) j1
/-- how many others there are below b -/
def szo (x b : Int) : Int := if x < b then b - 1 else b
theorem szo_x {x : Int} : szo x (x + 1) = szo x x := by
  unfold szo; rw [if_pos (by omega), if_neg (by omega)]; omega
theorem szo_n {x b : Int} (h : b ≠ x) : szo x (b + 1) = szo x b + 1 := by
  unfold szo
  by_cases e : x < b
  · rw [if_pos (by omega), if_pos e]; omega
  · rw [if_neg (by omega), if_neg e]
theorem szo_b {x b : Int} (h : 0 ≤ b) (hx : 0 ≤ x) : 0 ≤ szo x b ∧ szo x b ≤ b := by
  unfold szo; split <;> omega
/-- the others' values, rising -/
def As (v : Int → Int) (x : Int) : Nat → Int → Int
  | 0, _ => 0
  | b + 1, j => if (b : Int) = x then As v x b j else insA (szo x b) (As v x b) (v b) j
theorem As_x {v : Int → Int} {x : Int} (h : 0 ≤ x) : As v x (x + 1).toNat = As v x x.toNat := by
  funext j
  rw [show (x + 1).toNat = x.toNat + 1 by omega]
  show (if ((x.toNat : Nat) : Int) = x then _ else _) = _
  rw [if_pos (by omega)]
theorem As_n {v : Int → Int} {x b : Int} (h : 0 ≤ b) (hb : b ≠ x) (j : Int) : As v x (b + 1).toNat j = insA (szo x b) (As v x b.toNat) (v b) j := by
  rw [show (b + 1).toNat = b.toNat + 1 by omega]
  show (if ((b.toNat : Nat) : Int) = x then _ else _) = _
  rw [if_neg (by omega), show ((b.toNat : Nat) : Int) = b by omega]
theorem Srt_0 {m : Int} {A : Int → Int} (h : m ≤ 0) : Srt m A := fun i j i0 ij jm => by omega
theorem As_srt (v : Int → Int) (x : Int) (hx : 0 ≤ x) (b : Nat) : Srt (szo x b) (As v x b) := by
  induction b with
  | zero => exact Srt_0 (szo_b (Int.le_refl 0) hx).2
  | succ b ih =>
    by_cases e : (b : Int) = x
    · rw [show ((b + 1 : Nat) : Int) = x + 1 by push_cast; omega, szo_x, ← e]
      have : As v (b : Int) (b + 1) = As v (b : Int) b := by
        funext j; exact if_pos rfl
      rw [e]
      rw [e] at this
      rw [this, ← e]
      rw [← e] at ih
      exact ih
    · rw [show ((b + 1 : Nat) : Int) = (b : Int) + 1 by push_cast; rfl, szo_n e]
      have : As v x (b + 1) = insA (szo x b) (As v x b) (v b) := by
        funext j; exact if_neg e
      rw [this]
      exact Srt_ins ih
theorem As_congr {v w : Int → Int} {x : Int} {b : Nat} (h : ∀ j : Int, 0 ≤ j → j < b → v j = w j) : As v x b = As w x b := by
  induction b with
  | zero => rfl
  | succ b ih =>
    have e := ih (fun j j0 j1 => h j j0 (by omega))
    funext j
    show (if (b : Int) = x then As v x b j else insA (szo x b) (As v x b) (v b) j) = (if (b : Int) = x then As w x b j else insA (szo x b) (As w x b) (w b) j)
    rw [e, h b (by omega) (by omega)]
theorem As_b {v : Int → Int} {x L H : Int} {b : Nat} (hx : 0 ≤ x) (h : ∀ j : Int, 0 ≤ j → j < b → L ≤ v j ∧ v j ≤ H) : ∀ j, 0 ≤ j → j < szo x b → L ≤ As v x b j ∧ As v x b j ≤ H := by
  induction b with
  | zero => intro j j0 j1; have := szo_b (x := x) (Int.le_refl 0) hx; simp only [Int.natCast_zero] at j1; omega
  | succ b ih =>
    intro j j0 j1
    have ih' := ih (fun j j0 j1 => h j j0 (by omega))
    show L ≤ (if (b : Int) = x then As v x b j else insA (szo x b) (As v x b) (v b) j) ∧ (if (b : Int) = x then As v x b j else insA (szo x b) (As v x b) (v b) j) ≤ H
    rw [show ((b + 1 : Nat) : Int) = (b : Int) + 1 by push_cast; rfl] at j1
    by_cases e : (b : Int) = x
    · rw [if_pos e]
      rw [e, szo_x, ← e] at j1
      refine ih' j j0 ?_
      rw [← e]; exact j1
    · rw [if_neg e]
      rw [szo_n e] at j1
      unfold insA
      have h1 := ih' j j0
      have h2 := ih' (j - 1)
      have h3 := h b (by omega) (by omega)
      split
      · omega
      · split <;> omega
/-- falling is rising from the other end -/
theorem As_neg (v : Int → Int) (x : Int) (hx : 0 ≤ x) (b : Nat) : ∀ j, 0 ≤ j → j < szo x b → - As (fun i => - v i) x b j = As v x b (szo x b - 1 - j) := by
  induction b with
  | zero => intro j j0 j1; have := szo_b (x := x) (Int.le_refl 0) hx; simp only [Int.natCast_zero] at j1; omega
  | succ b ih =>
    intro j j0 j1
    rw [show ((b + 1 : Nat) : Int) = (b : Int) + 1 by push_cast; rfl] at j1 ⊢
    show - (if (b : Int) = x then As (fun i => - v i) x b j else insA (szo x b) (As (fun i => - v i) x b) (- v b) j) = (if (b : Int) = x then As v x b (szo x ((b : Int) + 1) - 1 - j) else insA (szo x b) (As v x b) (v b) (szo x ((b : Int) + 1) - 1 - j))
    by_cases e : (b : Int) = x
    · have e2 : szo x ((b : Int) + 1) = szo x b := by rw [e]; exact szo_x
      rw [if_pos e, if_pos e, e2]
      rw [e2] at j1
      exact ih j j0 j1
    · rw [if_neg e, if_neg e, szo_n e]
      rw [szo_n e] at j1
      have hs := As_srt v x hx b
      have i1 := ih j j0
      have i2 := ih (j - 1)
      have s1 := hs (szo x b - 1 - j) (szo x b - j)
      rw [show szo x ↑b - 1 - (j - 1) = szo x b - j by omega] at i2
      rw [show szo x ↑b + 1 - 1 - j = szo x b - j by omega]
      unfold insA
      rw [show szo x ↑b - j - 1 = szo x b - 1 - j by omega]
      generalize As (fun i => - v i) x b j = a1 at *
      generalize As (fun i => - v i) x b (j - 1) = a2 at *
      generalize As v x b (szo x ↑b - j) = a3 at *
      generalize As v x b (szo x ↑b - 1 - j) = a4 at *
      generalize szo x ↑b = z at *
      split <;> split <;> (try split) <;> (try split) <;> omega
theorem fu_same {M : Mm} {c : Nat} {g : Int → Int} : fu M c g c = g := by simp only [fu_ap, reduceIte]
theorem s_ins23 (m v : Int) (M : Mm) (Q : Mm → Prop) (A : Int → Int) (hm : 0 ≤ m ∧ m < 10) (hA : ∀ j, 0 ≤ j → j < m → M 23 j = A j) (hs : Srt m A) (h : ∀ M' : Mm, (∀ c, c ≠ 23 → M' c = M c) → (∀ j, 0 ≤ j → j ≤ m → M' 23 j = insA m A v j) → Q M') : wp_X0_insert_c23 m v M Q := by
  refine LP1.of (b := bc_X0_insert_c23_L2 v Q) (fun p B => (∀ c, c ≠ 23 → B c = M c) ∧ 0 ≤ p ∧ p ≤ m ∧ Hole A (B 23) p m ∧ ∀ j, p ≤ j → j < m → v < A j) (fun p _ => p.toNat) ?_ m M ⟨fun _ _ => rfl, by omega, by omega, ⟨hA, fun j j0 j1 => by omega⟩, fun j j0 j1 => by omega⟩
  rintro R p B ⟨f1, p0, p1, hh, hg⟩ ih
  unfold bc_X0_insert_c23_L2
  have fin : (p ≤ 0 ∨ A (p - 1) ≤ v) → Q (mset B 23 p v) := fun hl => h _ (fun c hc => by simp only [mset_eq, fu_ap, hc, reduceIte]; exact f1 c hc) (fun j j0 j1 => by
    simp only [mset_eq]
    rw [fu_same]
    exact Hole_done hh p0 p1 hs hg hl j j0 j1)
  refine ⟨fun q => ⟨by omega, fin (Or.inl q)⟩, fun q => ⟨by omega, ?_, ?_⟩⟩
  · intro q1
    rw [hh.1 (p - 1) (by omega) (by omega)] at q1
    exact ⟨by omega, fin (Or.inr q1)⟩
  · intro q1
    rw [hh.1 (p - 1) (by omega) (by omega)] at q1
    refine ⟨by omega, by omega, by omega, ih _ _ ⟨fun c hc => ?_, by omega, by omega, ?_, fun j j0 j1 => ?_⟩ (by omega)⟩
    · simp only [mset_eq, fu_ap, hc, reduceIte]; exact f1 c hc
    · simp only [mset_eq]
      rw [fu_same]
      exact Hole_step hh (by omega)
    · by_cases e : j = p - 1
      · rw [e]; omega
      · exact hg j (by omega) j1
theorem s_ins24 (m v : Int) (M : Mm) (Q : Mm → Prop) (A : Int → Int) (hm : 0 ≤ m ∧ m < 12) (hA : ∀ j, 0 ≤ j → j < m → M 24 j = A j) (hs : Srt m A) (h : ∀ M' : Mm, (∀ c, c ≠ 24 → M' c = M c) → (∀ j, 0 ≤ j → j ≤ m → M' 24 j = insA m A v j) → Q M') : wp_X0_insert_c24 m v M Q := by
  refine LP1.of (b := bc_X0_insert_c24_L2 v Q) (fun p B => (∀ c, c ≠ 24 → B c = M c) ∧ 0 ≤ p ∧ p ≤ m ∧ Hole A (B 24) p m ∧ ∀ j, p ≤ j → j < m → v < A j) (fun p _ => p.toNat) ?_ m M ⟨fun _ _ => rfl, by omega, by omega, ⟨hA, fun j j0 j1 => by omega⟩, fun j j0 j1 => by omega⟩
  rintro R p B ⟨f1, p0, p1, hh, hg⟩ ih
  unfold bc_X0_insert_c24_L2
  have fin : (p ≤ 0 ∨ A (p - 1) ≤ v) → Q (mset B 24 p v) := fun hl => h _ (fun c hc => by simp only [mset_eq, fu_ap, hc, reduceIte]; exact f1 c hc) (fun j j0 j1 => by
    simp only [mset_eq]
    rw [fu_same]
    exact Hole_done hh p0 p1 hs hg hl j j0 j1)
  refine ⟨fun q => ⟨by omega, fin (Or.inl q)⟩, fun q => ⟨by omega, ?_, ?_⟩⟩
  · intro q1
    rw [hh.1 (p - 1) (by omega) (by omega)] at q1
    exact ⟨by omega, fin (Or.inr q1)⟩
  · intro q1
    rw [hh.1 (p - 1) (by omega) (by omega)] at q1
    refine ⟨by omega, by omega, by omega, ih _ _ ⟨fun c hc => ?_, by omega, by omega, ?_, fun j j0 j1 => ?_⟩ (by omega)⟩
    · simp only [mset_eq, fu_ap, hc, reduceIte]; exact f1 c hc
    · simp only [mset_eq]
      rw [fu_same]
      exact Hole_step hh (by omega)
    · by_cases e : j = p - 1
      · rw [e]; omega
      · exact hg j (by omega) j1
theorem s_gatherOftens (x : Int) (M : Mm) (Q : Int → Mm → Prop) (hn : 1 ≤ M 1 0 ∧ M 1 0 ≤ 10) (hx : 0 ≤ x ∧ x < M 1 0) (h : ∀ M' : Mm, (∀ c, c ≠ 23 → M' c = M c) → (∀ j, 0 ≤ j → j < M 1 0 - 1 → M' 23 j = As (Oc1 M x) x (M 1 0).toNat j) → Q (M 1 0 - 1) M') : wp_X0_gatherOftens x M Q := by
  refine LP2.of (b := bc_X0_gatherOftens_L4 x Q) (fun z b B => (∀ c, c ≠ 23 → B c = M c) ∧ 0 ≤ b ∧ b ≤ M 1 0 ∧ z = szo x b ∧ ∀ j, 0 ≤ j → j < szo x b → B 23 j = As (Oc1 M x) x b.toNat j) (fun _ b _ => (M 1 0 - b).toNat) ?_ 0 0 M ⟨fun _ _ => rfl, by omega, by omega, by unfold szo; rw [if_neg (by omega)], fun j j0 j1 => by unfold szo at j1; rw [if_neg (by omega)] at j1; omega⟩
  rintro R z b B ⟨f1, b0, b1, rfl, hB⟩ ih
  unfold bc_X0_gatherOftens_L4
  rw [f1 1 (by decide)]
  have hzb := szo_b (x := x) b0 hx.1
  refine ⟨fun q => ?_, fun q => ⟨fun q1 => ⟨by omega, ih _ _ _ ⟨f1, by omega, by omega, ?_, ?_⟩ (by omega)⟩, fun q1 => ⟨by omega, by omega, ?_⟩⟩⟩
  · have e1 : b = M 1 0 := by omega
    subst e1
    have e2 : szo x (M 1 0) = M 1 0 - 1 := if_pos hx.2
    rw [e2] at hB ⊢
    exact h B f1 hB
  · rw [q1, szo_x]
  · subst q1
    rw [szo_x, As_x b0]
    exact hB
  · have hlt : szo x b < 10 := by omega
    refine s_ins23 (szo x b) _ B _ (As (Oc1 M x) x b.toNat) ⟨hzb.1, hlt⟩ hB (by have := As_srt (Oc1 M x) x hx.1 b.toNat; rw [show ((b.toNat : Nat) : Int) = b by omega] at this; exact this) (fun M' g1 g2 => ⟨by omega, by omega, ih _ _ _ ⟨fun c hc => (g1 c hc).trans (f1 c hc), by omega, by omega, (szo_n q1).symm, fun j j0 j1 => ?_⟩ (by omega)⟩)
    rw [szo_n q1] at j1
    rw [g2 j j0 (by omega), As_n b0 q1, f1 13 (by decide)]
theorem s_gatherWays (x : Int) (M : Mm) (Q : Int → Mm → Prop) (hn : 1 ≤ M 3 0 ∧ M 3 0 ≤ 12) (hx : 0 ≤ x ∧ x < M 3 0) (h : ∀ M' : Mm, (∀ c, c ≠ 24 → M' c = M c) → (∀ j, 0 ≤ j → j < M 3 0 - 1 → M' 24 j = As (Gc1 M x) x (M 3 0).toNat j) → Q (M 3 0 - 1) M') : wp_X0_gatherWays x M Q := by
  refine LP2.of (b := bc_X0_gatherWays_L4 x Q) (fun z b B => (∀ c, c ≠ 24 → B c = M c) ∧ 0 ≤ b ∧ b ≤ M 3 0 ∧ z = szo x b ∧ ∀ j, 0 ≤ j → j < szo x b → B 24 j = As (Gc1 M x) x b.toNat j) (fun _ b _ => (M 3 0 - b).toNat) ?_ 0 0 M ⟨fun _ _ => rfl, by omega, by omega, by unfold szo; rw [if_neg (by omega)], fun j j0 j1 => by unfold szo at j1; rw [if_neg (by omega)] at j1; omega⟩
  rintro R z b B ⟨f1, b0, b1, rfl, hB⟩ ih
  unfold bc_X0_gatherWays_L4
  rw [f1 3 (by decide)]
  have hzb := szo_b (x := x) b0 hx.1
  refine ⟨fun q => ?_, fun q => ⟨fun q1 => ⟨by omega, ih _ _ _ ⟨f1, by omega, by omega, ?_, ?_⟩ (by omega)⟩, fun q1 => ⟨by omega, by omega, ?_⟩⟩⟩
  · have e1 : b = M 3 0 := by omega
    subst e1
    have e2 : szo x (M 3 0) = M 3 0 - 1 := if_pos hx.2
    rw [e2] at hB ⊢
    exact h B f1 hB
  · rw [q1, szo_x]
  · subst q1
    rw [szo_x, As_x b0]
    exact hB
  · have hlt : szo x b < 12 := by omega
    refine s_ins24 (szo x b) _ B _ (As (Gc1 M x) x b.toNat) ⟨hzb.1, hlt⟩ hB (by have := As_srt (Gc1 M x) x hx.1 b.toNat; rw [show ((b.toNat : Nat) : Int) = b by omega] at this; exact this) (fun M' g1 g2 => ⟨by omega, by omega, ih _ _ _ ⟨fun c hc => (g1 c hc).trans (f1 c hc), by omega, by omega, (szo_n q1).symm, fun j j0 j1 => ?_⟩ (by omega)⟩)
    rw [szo_n q1] at j1
    rw [g2 j j0 (by omega), As_n b0 q1, f1 17 (by decide)]
/-- a price -/
def prc (O G : Int → Int → Int) (n k a y : Int) : Int := sm (n - 1).toNat (fun i => As (O a) a n.toNat (n - 2 - i) * As (G y) y k.toNat i)
theorem s_priceOn (x y : Int) (M : Mm) (Q : Int → Mm → Prop) (hn : 1 ≤ M 1 0 ∧ M 1 0 ≤ 10) (hk : M 1 0 ≤ M 3 0 ∧ M 3 0 ≤ 12) (hx : 0 ≤ x ∧ x < M 1 0) (hy : 0 ≤ y ∧ y < M 3 0) (h : ∀ M' : Mm, (∀ c, c ≠ 23 → c ≠ 24 → M' c = M c) → Q (prc (Oc1 M) (Gc1 M) (M 1 0) (M 3 0) x y) M') : wp_X0_priceOn x y M Q := by
  refine s_gatherOftens x M _ hn hx (fun M1 f1 f2 => ?_)
  have c1 : M1 3 0 = M 3 0 := by rw [f1 3 (by decide)]
  refine s_gatherWays y M1 _ (by omega) (by omega) (fun M2 g1 g2 => ?_)
  rw [c1] at g2 ⊢
  have eG : Gc1 M1 = Gc1 M := by unfold Gc1; rw [f1 17 (by decide)]
  rw [eG] at g2
  unfold wp_X0_priceOn_L19
  refine LP2.of (b := bc_X0_priceOn_L19 (M 1 0 - 1) (M 3 0 - 1) Q) (fun s i B => B = M2 ∧ 0 ≤ i ∧ i ≤ M 1 0 - 1 ∧ s = sm i.toNat (fun i => As (Oc1 M x) x (M 1 0).toNat (M 1 0 - 2 - i) * As (Gc1 M y) y (M 3 0).toNat i)) (fun _ i _ => (M 1 0 - i).toNat) ?_ 0 0 M2 ⟨rfl, by omega, by omega, rfl⟩
  rintro R s i B ⟨rfl, i0, i1, hs⟩ ih
  unfold bc_X0_priceOn_L19
  have fin : M 1 0 - 1 ≤ i → Q s B := by
    intro q
    have e : i = M 1 0 - 1 := by omega
    rw [hs, e]
    exact h B (fun c h1 h2 => (g1 c h2).trans (f1 c h1))
  refine ⟨fin, fun q => ⟨fun q1 => absurd q1 (by omega), fun q1 => ⟨by omega, by omega, by omega, ih _ _ _ ⟨rfl, by omega, by omega, ?_⟩ (by omega)⟩⟩⟩
  rw [sm_step i0, hs, g1 23 (by decide), f2 _ (by omega) (by omega), g2 _ (by omega) (by omega), show M 1 0 - 1 - 1 - i = M 1 0 - 2 - i by omega]
theorem fu_neg {B : Int → Int} {p v : Int} : (fun j => - fu B p v j) = fu (fun j => - B j) p (- v) := by
  funext j
  simp only [fu_ap]
  split <;> rfl
theorem s_insm43 (x1 x2 m x4 : Int) (M : Mm) (Q : Int → Mm → Prop) (K : Int → Mm → Prop) (A : Int → Int) (hx : 0 ≤ 10 * x1 + x4 ∧ 10 * x1 + x4 < 100) (hm : 0 ≤ m ∧ m < 10) (hA : ∀ j, 0 ≤ j → j < m → - M 43 j = A j) (hs : Srt m A) (h : ∀ p (M' : Mm), 0 ≤ p → p ≤ m → (∀ c, c ≠ 43 → M' c = M c) → (∀ v, v = M 33 (10 * x1 + x4) → ∀ j, 0 ≤ j → j ≤ m → - (fu (M' 43) p v j) = insA m A (- v) j) → K p M') : wp_X8_priceOf_L23 x1 x2 m x4 Q K m M := by
  refine LP1.of (b := bc_X8_priceOf_L23 x1 x2 m x4 Q K) (fun p B => (∀ c, c ≠ 43 → B c = M c) ∧ 0 ≤ p ∧ p ≤ m ∧ Hole A (fun j => - B 43 j) p m ∧ ∀ j, p ≤ j → j < m → - M 33 (10 * x1 + x4) < A j) (fun p _ => p.toNat) ?_ m M ⟨fun _ _ => rfl, by omega, by omega, ⟨hA, fun j j0 j1 => by omega⟩, fun j j0 j1 => by omega⟩
  rintro R p B ⟨f1, p0, p1, hh, hg⟩ ih
  unfold bc_X8_priceOf_L23
  rw [f1 33 (by decide)]
  have fin : (p ≤ 0 ∨ A (p - 1) ≤ - M 33 (10 * x1 + x4)) → K p B := fun hl => h p B p0 p1 f1 (fun v hv j j0 j1 => by
    have := Hole_done hh p0 p1 hs hg hl j j0 j1
    rw [← fu_neg, ← hv] at this
    exact this)
  have hp : 0 < p → - B 43 (p - 1) = A (p - 1) := fun q => hh.1 (p - 1) (by omega) (by omega)
  refine ⟨fun q => fin (Or.inl q), fun q => ⟨by omega, hx, fun q1 => fin (Or.inr (by have := hp (by omega); omega)), fun q1 => ⟨by omega, by omega, by omega, ih _ _ ⟨fun c hc => ?_, by omega, by omega, ?_, fun j j0 j1 => ?_⟩ (by omega)⟩⟩⟩
  · simp only [mset_eq, fu_ap, hc, reduceIte]; exact f1 c hc
  · simp only [mset_eq]
    rw [fu_same, fu_neg]
    exact Hole_step hh (by omega)
  · by_cases e : j = p - 1
    · rw [e]
      have := hp (by omega)
      omega
    · exact hg j (by omega) j1
theorem s_insm44 (y x3 m x5 : Int) (M : Mm) (Q : Int → Mm → Prop) (K : Int → Mm → Prop) {n k : Int} {O G : Int → Int → Int} (hM : Md M n k O G) (A : Int → Int) (hy : 0 ≤ y ∧ y < k) (hx : 0 ≤ x5 ∧ x5 < k) (hm : 0 ≤ m ∧ m < 12) (hA : ∀ j, 0 ≤ j → j < m → M 44 j = A j) (hs : Srt m A) (h : ∀ p (M' : Mm), 0 ≤ p → p ≤ m → (∀ c, c ≠ 44 → M' c = M c) → (∀ j, 0 ≤ j → j ≤ m → fu (M' 44) p (G y x5) j = insA m A (G y x5) j) → K p M') : wp_X8_priceOf_L127 y x3 m x5 Q K m M := by
  refine LP1.of (b := bc_X8_priceOf_L127 y x3 m x5 Q K) (fun p B => (∀ c, c ≠ 44 → B c = M c) ∧ 0 ≤ p ∧ p ≤ m ∧ Hole A (B 44) p m ∧ ∀ j, p ≤ j → j < m → G y x5 < A j) (fun p _ => p.toNat) ?_ m M ⟨fun _ _ => rfl, by omega, by omega, ⟨hA, fun j j0 j1 => by omega⟩, fun j j0 j1 => by omega⟩
  rintro R p B ⟨f1, p0, p1, hh, hg⟩ ih
  unfold bc_X8_priceOf_L127
  have hB : Md B n k O G := Md_fr hM (by rw [f1 8 (by decide)]) (by rw [f1 8 (by decide)]) (f1 33 (by decide)) (f1 34 (by decide)) (f1 35 (by decide)) (f1 36 (by decide))
  obtain ⟨m1, m2, m3, m4, m5, m6, m7, m8, m9, m10⟩ := id hB
  have fin : (p ≤ 0 ∨ A (p - 1) ≤ G y x5) → K p B := fun hl => h p B p0 p1 f1 (fun j j0 j1 => Hole_done hh p0 p1 hs hg hl j j0 j1)
  have hp : 0 < p → B 44 (p - 1) = A (p - 1) := fun q => hh.1 (p - 1) (by omega) (by omega)
  refine ⟨fun q => fin (Or.inl q), fun q => ⟨by omega, ?_⟩⟩
  have a1 := m8 x5 hx.1 hx.2
  refine s_costOf y x5 B _ (by omega) (by omega) (by omega) (by omega) (m9 _ (by omega) (by omega)) ?_
  rw [m10 y x5 hy.1 hy.2 hx.1 hx.2]
  refine ⟨fun q1 => fin (Or.inr (by have := hp (by omega); omega)), fun q1 => ⟨by omega, by omega, by omega, ih _ _ ⟨fun c hc => ?_, by omega, by omega, ?_, fun j j0 j1 => ?_⟩ (by omega)⟩⟩
  · simp only [mset_eq, fu_ap, hc, reduceIte]; exact f1 c hc
  · simp only [mset_eq]
    rw [fu_same]
    exact Hole_step hh (by omega)
  · by_cases e : j = p - 1
    · rw [e]
      have := hp (by omega)
      omega
    · exact hg j (by omega) j1
theorem As_srtI (v : Int → Int) (x b : Int) (hx : 0 ≤ x) (hb : 0 ≤ b) : Srt (szo x b) (As v x b.toNat) := by
  have := As_srt v x hx b.toNat
  rw [show ((b.toNat : Nat) : Int) = b by omega] at this
  exact this
theorem s_priceOf (x y : Int) (M : Mm) (Q : Int → Mm → Prop) {n k : Int} {O G : Int → Int → Int} (hM : Md M n k O G) (hnk : n ≤ k) (hx : 0 ≤ x ∧ x < n) (hy : 0 ≤ y ∧ y < k) (h : ∀ M' : Mm, (∀ c, c ≠ 43 → c ≠ 44 → M' c = M c) → Q (prc O G n k x y) M') : wp_X8_priceOf x y M Q := by
  obtain ⟨m1, m2, m3, m4, m5, m6, m7, m8, m9, m10⟩ := id hM
  unfold wp_X8_priceOf wp_X8_priceOf_L5
  refine LP2.of (b := bc_X8_priceOf_L5 x y Q _) (fun z b B => (∀ c, c ≠ 43 → B c = M c) ∧ 0 ≤ b ∧ b ≤ n ∧ z = szo x b ∧ ∀ j, 0 ≤ j → j < szo x b → - B 43 j = As (fun i => - O x i) x b.toNat j) (fun _ b _ => (n - b).toNat) ?_ 0 0 M ⟨fun _ _ => rfl, by omega, by omega, by unfold szo; rw [if_neg (by omega)], fun j j0 j1 => by unfold szo at j1; rw [if_neg (by omega)] at j1; omega⟩
  rintro R z b B ⟨f1, b0, b1, rfl, hB⟩ ih
  unfold bc_X8_priceOf_L5
  rw [f1 8 (by decide), m1]
  have hzb := szo_b (x := x) b0 hx.1
  refine ⟨fun q => ?_, fun q => ⟨fun q1 => ⟨by omega, ih _ _ _ ⟨f1, by omega, by omega, ?_, ?_⟩ (by omega)⟩, fun q1 => ?_⟩⟩
  · have e1 : b = n := by omega
    subst e1
    have e2 : szo x b = b - 1 := if_pos hx.2
    have hBm : Md B b k O G := Md_fr hM (by rw [f1 8 (by decide)]) (by rw [f1 8 (by decide)]) (f1 33 (by decide)) (f1 34 (by decide)) (f1 35 (by decide)) (f1 36 (by decide))
    have hneg : ∀ j, 0 ≤ j → j < b - 1 → B 43 j = As (O x) x b.toNat (b - 2 - j) := by
      intro j j0 j1
      have h1 := hB j j0 (by omega)
      have h2 := As_neg (O x) x hx.1 b.toNat j j0
      rw [show ((b.toNat : Nat) : Int) = b by omega, e2] at h2
      have h3 := h2 (by omega)
      rw [← h1] at h3
      rw [show b - 2 - j = b - 1 - 1 - j by omega, ← h3]
      omega
    rw [e2]
    unfold wp_X8_priceOf_L108
    refine LP2.of (b := bc_X8_priceOf_L108 y (b - 1) Q _) (fun z d C => (∀ c, c ≠ 44 → C c = B c) ∧ 0 ≤ d ∧ d ≤ k ∧ z = szo y d ∧ ∀ j, 0 ≤ j → j < szo y d → C 44 j = As (G y) y d.toNat j) (fun _ d _ => (k - d).toNat) ?_ 0 0 B ⟨fun _ _ => rfl, by omega, by omega, by unfold szo; rw [if_neg (by omega)], fun j j0 j1 => by unfold szo at j1; rw [if_neg (by omega)] at j1; omega⟩
    rintro R2 z d C ⟨g1, d0, d1, rfl, hC⟩ ih2
    unfold bc_X8_priceOf_L108
    have hCm : Md C b k O G := Md_fr hBm (by rw [g1 8 (by decide)]) (by rw [g1 8 (by decide)]) (g1 33 (by decide)) (g1 34 (by decide)) (g1 35 (by decide)) (g1 36 (by decide))
    rw [hCm.2.1]
    have hzd := szo_b (x := y) d0 hy.1
    refine ⟨fun q2 => ?_, fun q2 => ⟨fun q3 => ⟨by omega, ih2 _ _ _ ⟨g1, by omega, by omega, ?_, ?_⟩ (by omega)⟩, fun q3 => ?_⟩⟩
    · have e3 : d = k := by omega
      subst e3
      have e4 : szo y d = d - 1 := if_pos hy.2
      unfold wp_X8_priceOf_L202
      refine LP2.of (b := bc_X8_priceOf_L202 (b - 1) Q) (fun s i D => D = C ∧ 0 ≤ i ∧ i ≤ b - 1 ∧ s = sm i.toNat (fun i => As (O x) x b.toNat (b - 2 - i) * As (G y) y d.toNat i)) (fun _ i _ => (b - i).toNat) ?_ 0 0 C ⟨rfl, by omega, by omega, rfl⟩
      rintro R3 s i D ⟨rfl, i0, i1, hs⟩ ih3
      unfold bc_X8_priceOf_L202
      refine ⟨fun q3 => ?_, fun q3 => ⟨by omega, by omega, by omega, ih3 _ _ _ ⟨rfl, by omega, by omega, ?_⟩ (by omega)⟩⟩
      · rw [hs, show i = b - 1 by omega]
        exact h D (fun c h1 h2 => (g1 c h2).trans (f1 c h1))
      · rw [sm_step i0, hs, g1 43 (by decide), hneg i i0 (by omega), hC i i0 (by omega)]
    · rw [q3, szo_x]
    · subst q3
      rw [szo_x, As_x d0]
      exact hC
    · refine s_insm44 y (b - 1) (szo y d) d C Q _ hCm (As (G y) y d.toNat) hy (by omega) (by omega) hC (As_srtI _ _ _ hy.1 d0) (fun p M' p0 p1 u1 u2 => ?_)
      have hM' : Md M' b k O G := Md_fr hCm (by rw [u1 8 (by decide)]) (by rw [u1 8 (by decide)]) (u1 33 (by decide)) (u1 34 (by decide)) (u1 35 (by decide)) (u1 36 (by decide))
      obtain ⟨w1, w2, w3, w4, w5, w6, w7, w8, w9, w10⟩ := id hM'
      have a1 := w8 d d0 (by omega)
      refine s_costOf y d M' _ (by omega) (by omega) (by omega) (by omega) (w9 _ (by omega) (by omega)) ⟨by omega, by omega, by omega, ih2 _ _ _ ⟨fun c hc => ?_, by omega, by omega, (szo_n q3).symm, fun j j0 j1 => ?_⟩ (by omega)⟩
      · simp only [mset_eq, fu_ap, hc, reduceIte]; exact (u1 c hc).trans (g1 c hc)
      · rw [szo_n q3] at j1
        simp only [mset_eq]
        rw [fu_same, w10 y d hy.1 hy.2 d0 (by omega), u2 j j0 (by omega), As_n d0 q3]
  · rw [q1, szo_x]
  · subst q1
    rw [szo_x, As_x b0]
    exact hB
  · refine s_insm43 x y (szo x b) b B Q _ (As (fun i => - O x i) x b.toNat) (by omega) (by omega) hB (As_srtI _ _ _ hx.1 b0) (fun p M' p0 p1 u1 u2 => ⟨by omega, by omega, by omega, by omega, ih _ _ _ ⟨fun c hc => ?_, by omega, by omega, (szo_n q1).symm, fun j j0 j1 => ?_⟩ (by omega)⟩)
    · simp only [mset_eq, fu_ap, hc, reduceIte]; exact (u1 c hc).trans (f1 c hc)
    · rw [szo_n q1] at j1
      simp only [mset_eq]
      have e9 : M' 33 (10 * x + b) = B 33 (10 * x + b) := by rw [u1 33 (by decide)]
      rw [fu_same, u2 _ e9 j j0 (by omega), As_n b0 q1, e9, f1 33 (by decide), m7 x b hx.1 hx.2 b0 (by omega)]
/-- rows that nobody reads again -/
theorem Inv_fr {M M2 : Mm} (hI : Inv M) (f1 : ∀ c, c ≠ 4 → c ≠ 5 → c ≠ 23 → c ≠ 24 → c ≠ 25 → c ≠ 26 → c ≠ 27 → c ≠ 28 → c ≠ 41 → c ≠ 42 → c ≠ 43 → c ≠ 44 → c ≠ 45 → c ≠ 46 → c ≠ 47 → c ≠ 48 → M2 c = M c) (f4 : M2 4 4 = M 4 4) (f5 : M2 5 7 = M 5 7) (f6 : M2 5 8 = M 5 8) (f7 : M2 5 9 = M 5 9) : Inv M2 := by
  obtain ⟨hn, hk', hg, hc, hf, hs, hd, ht, hz, hb, hp, hq, ho⟩ := id hI
  unfold Inv
  simp only [f1, f4, f5, f6, f7, ne_eq, Nat.reduceEqDiff, Int.reduceEq, not_false_eq_true]
  exact ⟨hn, hk', hg, hc, hf, hs, hd, ht, hz, hb, hp, hq, ho⟩
theorem e_price (x y : Int) (M : Mm) (hI : Inv M) : Same (wp_X7_price x y) (wp_X8_price x y) M := by
  obtain ⟨hn, hk, hg, hc, hf, hs, hd, ht, hz, hb, hp, hq, ho⟩ := id hI
  obtain ⟨n1, n2, k1, k2, e1, e2⟩ := id hn
  by_cases hx : 0 ≤ x ∧ x < M 1 0 ∧ 0 ≤ y ∧ y < M 3 0 ∧ M 1 0 ≤ M 3 0
  · unfold Same wp_X7_price wp_X3_has wp_X2_has wp_X7_tooFewKeys
    repeat' (first | with_reducible (apply And.intro) | with_reducible (intro _))
    all_goals (try first | omega | exact absurd trivial (by assumption) | exact False.elim (by assumption))
    refine s_priceOn x y M _ (by omega) (by omega) (by omega) (by omega) (fun M' f1 => ?_)
    show wp_X8_price x y M' (fun r' M2 => _ = r' ∧ Inv M2)
    have hM' : Md M' (M 1 0) (M 3 0) (Oc1 M) (Gc1 M) := Md_fr (Inv_Md hI) (by rw [f1 8 (by decide) (by decide)]) (by rw [f1 8 (by decide) (by decide)]) (f1 33 (by decide) (by decide)) (f1 34 (by decide) (by decide)) (f1 35 (by decide) (by decide)) (f1 36 (by decide) (by decide))
    have g1 := hM'.1
    have g2 := hM'.2.1
    unfold wp_X8_price wp_X8_isLetter wp_X8_isKey wp_X8_in
    repeat' (first | with_reducible (apply And.intro) | with_reducible (intro _))
    all_goals (try first | omega | exact absurd trivial (by assumption) | exact False.elim (by assumption))
    refine s_priceOf x y M' _ hM' (by omega) (by omega) (by omega) (fun M2 h1 => ⟨rfl, ?_⟩)
    have h2 : ∀ c, c ≠ 23 → c ≠ 24 → c ≠ 43 → c ≠ 44 → M2 c = M c := fun c c1 c2 c3 c4 => (h1 c c3 c4).trans (f1 c c1 c2)
    refine Inv_fr hI (fun c _ _ c1 c2 _ _ _ _ _ _ c3 c4 _ _ _ _ => h2 c c1 c2 c3 c4) ?_ ?_ ?_ ?_
    · rw [h2 4 (by decide) (by decide) (by decide) (by decide)]
    · rw [h2 5 (by decide) (by decide) (by decide) (by decide)]
    · rw [h2 5 (by decide) (by decide) (by decide) (by decide)]
    · rw [h2 5 (by decide) (by decide) (by decide) (by decide)]
  · unfold Same wp_X7_price wp_X3_has wp_X2_has wp_X7_tooFewKeys wp_X8_price wp_X8_isLetter wp_X8_isKey wp_X8_in
    repeat' (first | with_reducible (apply And.intro) | with_reducible (intro _))
    all_goals (try first | omega | exact absurd trivial (by assumption) | exact False.elim (by assumption))
    all_goals (try (exact hI))
    all_goals (exfalso; omega)
