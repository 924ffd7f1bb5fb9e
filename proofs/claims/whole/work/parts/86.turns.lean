/-! TURNS -/
def Pt (kd ex go row : Int → Int) (i y : Int) : Prop := kd i = kd y ∧ ex i = ex y ∧ go (12 * i + i) = go (12 * y + y) ∧ ∀ j, 0 ≤ j → j < i → row j ≠ y ∧ go (12 * i + j) = go (12 * y + row j) ∧ go (12 * j + i) = go (12 * row j + y)
def fs (f : Int → Int) : Nat → Int → Int
  | 0, _ => 0
  | m + 1, y => f y + fs f m (y + 1)
theorem fs_step {f : Int → Int} {N i : Int} (h : i < N) : fs f (N - i).toNat i = f i + fs f (N - (i + 1)).toNat (i + 1) := by
  rw [show (N - i).toNat = (N - (i + 1)).toNat + 1 by omega]; rfl
theorem fs_end {f : Int → Int} {N i : Int} (h : N ≤ i) : fs f (N - i).toNat i = 0 := by
  rw [show (N - i).toNat = 0 by omega]; rfl
theorem fs_congr {f g : Int → Int} {m : Nat} : ∀ {i : Int}, (∀ j, i ≤ j → j < i + m → f j = g j) → fs f m i = fs g m i := by
  induction m with
  | zero => intro i _; rfl
  | succ m ih =>
    intro i h
    show f i + fs f m (i + 1) = g i + fs g m (i + 1)
    rw [h i (by omega) (by omega), ih (fun j j0 j1 => h j (by omega) (by omega))]
theorem fs_b {f : Int → Int} {B : Int} {m : Nat} : ∀ {i : Int}, (∀ j, 0 ≤ f j ∧ f j ≤ B) → 0 ≤ fs f m i ∧ fs f m i ≤ m * B := by
  induction m with
  | zero => intro i h; show (0 : Int) ≤ 0 ∧ (0 : Int) ≤ (0 : Nat) * B; simp
  | succ m ih =>
    intro i h
    have h1 := h i
    have h2 := ih (i := i + 1) h
    show 0 ≤ f i + fs f m (i + 1) ∧ f i + fs f m (i + 1) ≤ _
    push_cast
    rw [Int.add_mul, Int.one_mul]
    omega
theorem fs_z {f : Int → Int} {m : Nat} : ∀ {i : Int}, (∀ j, f j = 0) → fs f m i = 0 := by
  induction m with
  | zero => intro i _; rfl
  | succ m ih =>
    intro i h
    show f i + fs f m (i + 1) = 0
    rw [h i, ih h]; rfl
noncomputable def tb (P : (Int → Int) → Int → Int → Prop) (T : (Int → Int) → Int → Int) (row : Int → Int) (i y : Int) : Int := @ite Int (P row i y) (Classical.propDecidable (P row i y)) (T (fu row i y) (i + 1)) 0
noncomputable def tn (P : (Int → Int) → Int → Int → Prop) (L : (Int → Int) → Int) (k : Int) : Nat → (Int → Int) → Int → Int
  | 0 => fun row _ => L row
  | d + 1 => fun row i => fs (tb P (tn P L k d) row i) (k - 0).toNat 0
theorem tb_pos {P : (Int → Int) → Int → Int → Prop} {T : (Int → Int) → Int → Int} {row : Int → Int} {i y : Int} (h : P row i y) : tb P T row i y = T (fu row i y) (i + 1) := if_pos h
theorem tb_neg {P : (Int → Int) → Int → Int → Prop} {T : (Int → Int) → Int → Int} {row : Int → Int} {i y : Int} (h : ¬ P row i y) : tb P T row i y = 0 := if_neg h
def PCg (P : (Int → Int) → Int → Int → Prop) : Prop := ∀ row row' i y, (∀ j, 0 ≤ j → j < i → row j = row' j) → P row i y = P row' i y
def LCg (L : (Int → Int) → Int) (k : Int) : Prop := (∀ row row', (∀ j, 0 ≤ j → j < k → row j = row' j) → L row = L row') ∧ ∀ row, L row = 0 ∨ L row = 1
theorem Pt_cg (kd ex go : Int → Int) : PCg (Pt kd ex go) := by
  intro row row' i y h
  unfold Pt
  apply propext
  constructor
  · rintro ⟨h1, h2, h3, h4⟩
    exact ⟨h1, h2, h3, fun j j0 j1 => by rw [← h j j0 j1]; exact h4 j j0 j1⟩
  · rintro ⟨h1, h2, h3, h4⟩
    exact ⟨h1, h2, h3, fun j j0 j1 => by rw [h j j0 j1]; exact h4 j j0 j1⟩
theorem tb_congr {P : (Int → Int) → Int → Int → Prop} {T : (Int → Int) → Int → Int} {row row' : Int → Int} {i y : Int} (hP : PCg P) (h : ∀ j, 0 ≤ j → j < i → row j = row' j) (hT : T (fu row i y) (i + 1) = T (fu row' i y) (i + 1)) : tb P T row i y = tb P T row' i y := by
  unfold tb
  rw [hP row row' i y h, hT]
theorem tn_congr {P : (Int → Int) → Int → Int → Prop} {L : (Int → Int) → Int} {k : Int} (hP : PCg P) (hL : LCg L k) (d : Nat) : ∀ (row row' : Int → Int) (i : Int), i + d = k → (∀ j, 0 ≤ j → j < i → row j = row' j) → tn P L k d row i = tn P L k d row' i := by
  induction d with
  | zero => intro row row' i hi h; exact hL.1 _ _ (fun j j0 j1 => h j j0 (by omega))
  | succ d ih =>
    intro row row' i hi h
    exact fs_congr (fun y _ _ => tb_congr hP h (ih _ _ _ (by omega) (fu_agree h)))
theorem tn_b {P : (Int → Int) → Int → Int → Prop} {L : (Int → Int) → Int} {k : Int} (hk : k ≤ 7) (hL : LCg L k) (d : Nat) : ∀ (row : Int → Int) (i : Int), 0 ≤ tn P L k d row i ∧ tn P L k d row i ≤ ((7 ^ d : Nat) : Int) := by
  induction d with
  | zero => intro row i; have := hL.2 row; show 0 ≤ L row ∧ L row ≤ ((7 ^ 0 : Nat) : Int); simp; omega
  | succ d ih =>
    intro row i
    have h7 : (0 : Int) ≤ ((7 ^ d : Nat) : Int) := Int.natCast_nonneg _
    have h := fs_b (f := tb P (tn P L k d) row i) (B := ((7 ^ d : Nat) : Int)) (m := (k - 0).toNat) (i := 0) (fun y => by
      by_cases q : P row i y
      · rw [tb_pos q]; exact ih _ _
      · rw [tb_neg q]; exact ⟨Int.le_refl _, h7⟩)
    have h2 : (((k - 0).toNat : Nat) : Int) * ((7 ^ d : Nat) : Int) ≤ 7 * ((7 ^ d : Nat) : Int) := Int.mul_le_mul_of_nonneg_right (by omega) h7
    refine ⟨h.1, Int.le_trans h.2 (Int.le_trans h2 ?_)⟩
    rw [Nat.pow_succ]; push_cast; omega
theorem tb_b {P : (Int → Int) → Int → Int → Prop} {L : (Int → Int) → Int} {k : Int} (hk : k ≤ 7) (hL : LCg L k) (d : Nat) (row : Int → Int) (i y : Int) : 0 ≤ tb P (tn P L k d) row i y := by
  by_cases q : P row i y
  · rw [tb_pos q]; exact (tn_b hk hL d _ _).1
  · rw [tb_neg q]; omega
theorem fs_nn {f : Int → Int} {m : Nat} : ∀ {i : Int}, (∀ j, 0 ≤ f j) → 0 ≤ fs f m i := by
  induction m with
  | zero => intro i h; exact Int.le_refl _
  | succ m ih =>
    intro i h
    have h1 := h i
    have h2 := ih (i := i + 1) h
    show 0 ≤ f i + fs f m (i + 1)
    omega
theorem tn_max {P : (Int → Int) → Int → Int → Prop} {L : (Int → Int) → Int} {k : Int} (hk : k ≤ 7) (hL : LCg L k) (d : Nat) (hd : d ≤ 7) (row : Int → Int) (i : Int) : 0 ≤ tn P L k d row i ∧ tn P L k d row i ≤ 823543 := by
  have h := tn_b (P := P) hk hL d row i
  have : 7 ^ d ≤ 7 ^ 7 := Nat.pow_le_pow_right (by decide) hd
  have e : (7 : Nat) ^ 7 = 823543 := by decide
  omega
theorem L1_cg (k : Int) : LCg (fun _ => 1) k := ⟨fun _ _ _ => rfl, fun _ => Or.inr rfl⟩
/-! the class's turns -/
def Pc (mu kd ex go row : Int → Int) (i y : Int) : Prop := (mu i = -1 ∨ mu i = y) ∧ Pt kd ex go row i y
def CT (Mi M : Mm) (row : Int → Int) (i : Int) : Prop := (∀ c, c ≠ 27 → c ≠ 29 → M c = Mi c) ∧ (∀ j, 0 ≤ j → j < i → M 27 j = row j) ∧ (∀ y, 0 ≤ y → y < 7 → (M 29 y = 0 ↔ ∀ j, 0 ≤ j → j < i → row j ≠ y))
theorem s_mayGo {Mi : Mm} (i y : Int) (M : Mm) (row : Int → Int) (Q : Int → Mm → Prop) (hC : CT Mi M row i) (hi : 0 ≤ i ∧ i < 7) (hy : 0 ≤ y ∧ y < 7) (hr : ∀ j, 0 ≤ j → j < i → 0 ≤ row j ∧ row j < 7) (h1 : Pc (Mi 28) (Mi 14) (Mi 15) (Mi 16) row i y → Q 1 M) (h0 : ¬ Pc (Mi 28) (Mi 14) (Mi 15) (Mi 16) row i y → Q 0 M) : wp_X6_mayGo i y M Q := by
  obtain ⟨c1, c2, c3⟩ := hC
  have m28 := c1 28 (by decide) (by decide)
  have m14 := c1 14 (by decide) (by decide)
  have m15 := c1 15 (by decide) (by decide)
  have m16 := c1 16 (by decide) (by decide)
  unfold wp_X6_mayGo
  rw [m28, m14, m15, m16]
  refine ⟨hy, fun q => h0 (fun hp => q ((c3 y hy.1 hy.2).mpr (fun j j0 j1 => (hp.2.2.2.2 j j0 j1).1))), fun q => ⟨hi, ?_⟩⟩
  have hd := (c3 y hy.1 hy.2).mp q
  have hloop : (Mi 28 i = -1 ∨ Mi 28 i = y) → Mi 14 i = Mi 14 y → Mi 15 i = Mi 15 y → Mi 16 (12 * i + i) = Mi 16 (12 * y + y) → wp_X6_mayGo_L104 i y Q 0 M := by
    intro a1 a2 a3 a4
    refine LP1.of (b := bc_X6_mayGo_L104 i y Q) (fun x B => B = M ∧ 0 ≤ x ∧ x ≤ i ∧ ∀ j, 0 ≤ j → j < x → Mi 16 (12 * i + j) = Mi 16 (12 * y + row j) ∧ Mi 16 (12 * j + i) = Mi 16 (12 * row j + y)) (fun x _ => (i - x).toNat) ?_ 0 M ⟨rfl, by omega, by omega, fun j j0 j1 => by omega⟩
    rintro R x B ⟨rfl, x0, x1, hx⟩ ih
    unfold bc_X6_mayGo_L104 wp_X6_sameGoings
    refine ⟨fun q1 => h1 ⟨a1, a2, a3, a4, fun j j0 j1 => ⟨hd j j0 j1, hx j j0 (by omega)⟩⟩, fun q1 => ?_⟩
    have e27 := c2 x x0 (by omega)
    have hrx := hr x x0 (by omega)
    rw [e27, m16]
    refine ⟨by omega, by omega, by omega, by omega, by omega, fun q2 => ⟨fun z => absurd rfl z, fun _ => h0 (fun hp => q2 (hp.2.2.2.2 x x0 (by omega)).2.1)⟩, fun q2 => ⟨by omega, by omega, by omega, by omega, fun q3 => ⟨fun z => absurd rfl z, fun _ => h0 (fun hp => q3 (hp.2.2.2.2 x x0 (by omega)).2.2)⟩, fun q3 => ⟨fun _ => ⟨by omega, ih _ _ ⟨rfl, by omega, by omega, fun j j0 j1 => ?_⟩ (by omega)⟩, fun z => absurd z (by decide)⟩⟩⟩
    by_cases e : j = x
    · rw [e]; exact ⟨q2, q3⟩
    · exact hx j j0 (by omega)
  have hA : (Mi 28 i = -1 ∨ Mi 28 i = y) → (0 ≤ i ∧ i < 12) ∧ (0 ≤ y ∧ y < 12) ∧ (¬ Mi 14 i = Mi 14 y → Q 0 M) ∧ (Mi 14 i = Mi 14 y → (0 ≤ i ∧ i < 12) ∧ (0 ≤ y ∧ y < 12) ∧ (Mi 15 i = Mi 15 y → (0 ≤ i ∧ i < 12) ∧ (0 ≤ i ∧ i < 12) ∧ (0 ≤ y ∧ y < 12) ∧ (0 ≤ y ∧ y < 12) ∧ (Mi 16 (12 * i + i) = Mi 16 (12 * y + y) → wp_X6_mayGo_L104 i y Q 0 M) ∧ (¬ Mi 16 (12 * i + i) = Mi 16 (12 * y + y) → Q 0 M)) ∧ (¬ Mi 15 i = Mi 15 y → Q 0 M)) := fun a1 => ⟨by omega, by omega, fun q1 => h0 (fun hp => q1 hp.2.1), fun q1 => ⟨by omega, by omega, fun q2 => ⟨by omega, by omega, by omega, by omega, fun q3 => hloop a1 q1 q2 q3, fun q3 => h0 (fun hp => q3 hp.2.2.2.1)⟩, fun q2 => h0 (fun hp => q2 hp.2.2.1)⟩⟩
  exact ⟨fun q1 => hA (Or.inl q1), fun q1 => ⟨hi, fun q2 => hA (Or.inr q2), fun q2 => h0 (fun hp => by have := hp.1; omega)⟩⟩
theorem CT_put {Mi M : Mm} {row : Int → Int} {i y : Int} (h : CT Mi M row i) (i0 : 0 ≤ i) : CT Mi (mset (mset M 27 i y) 29 y 1) (fu row i y) (i + 1) := by
  obtain ⟨h1, h2, h3⟩ := h
  refine ⟨fun c c1 c2 => ?_, fun j j0 j1 => ?_, fun z z0 z1 => ?_⟩
  · simp only [mset_eq, fu_ap, c1, c2, reduceIte]; exact h1 c c1 c2
  · show fu (M 27) i y j = fu row i y j
    exact fu_agree h2 j j0 j1
  · show fu (M 29) y 1 z = 0 ↔ _
    simp only [fu_ap]
    by_cases e : z = y
    · rw [if_pos e]
      exact ⟨fun q => absurd q (by decide), fun q => absurd (by rw [if_pos rfl]; exact e.symm) (q i i0 (by omega))⟩
    · rw [if_neg e, h3 z z0 z1]
      constructor
      · intro hh b b0 b1
        by_cases eb : b = i
        · rw [if_pos eb]; exact fun q => e q.symm
        · rw [if_neg eb]; exact hh b b0 (by omega)
      · intro hh b b0 b1
        have := hh b b0 (by omega)
        rw [if_neg (by omega)] at this
        exact this
theorem CT_back {Mi M : Mm} {row : Int → Int} {i y : Int} (h : CT Mi M (fu row i y) (i + 1)) (hd : ∀ b, 0 ≤ b → b < i → row b ≠ y) : CT Mi (mset M 29 y 0) row i := by
  obtain ⟨h1, h2, h3⟩ := h
  refine ⟨fun c c1 c2 => ?_, fun b b0 b1 => ?_, fun z z0 z1 => ?_⟩
  · simp only [mset_eq, fu_ap, c2, reduceIte]; exact h1 c c1 c2
  · show M 27 b = row b
    rw [h2 b b0 (by omega)]
    exact fu_n _ _ (by omega)
  · show fu (M 29) y 0 z = 0 ↔ _
    simp only [fu_ap]
    by_cases e : z = y
    · rw [if_pos e, e]
      exact ⟨fun _ => hd, fun _ => rfl⟩
    · rw [if_neg e, h3 z z0 z1]
      constructor
      · intro hh b b0 b1
        have := hh b b0 (by omega)
        rw [fu_n _ _ (by omega)] at this
        exact this
      · intro hh b b0 b1
        simp only [fu_ap]
        by_cases eb : b = i
        · rw [if_pos eb]; exact fun q => e q.symm
        · rw [if_neg eb]; exact hh b b0 (by omega)
theorem s_turnsFrom {Mi : Mm} (hk : 0 ≤ Mi 3 0 ∧ Mi 3 0 ≤ 7) (d : Nat) : ∀ (D : Nat) (row : Int → Int) (i : Int) (M : Mm) (Q : Int → Mm → Prop), d < D → i + d = Mi 3 0 → 0 ≤ i → (∀ j, 0 ≤ j → j < i → 0 ≤ row j ∧ row j < Mi 3 0) → CT Mi M row i → (∀ M', CT Mi M' row i → Q (tn (Pc (Mi 28) (Mi 14) (Mi 15) (Mi 16)) (fun _ => 1) (Mi 3 0) d row i) M') → wp_X6_turnsFrom D i M Q := by
  induction d with
  | zero =>
    intro D row i M Q hD hi i0 hr hC h
    cases D with
    | zero => omega
    | succ D =>
      have m3 := hC.1 3 (by decide) (by decide)
      refine ⟨fun _ => h M hC, fun q => absurd (by rw [m3]; omega) q⟩
  | succ d ih =>
    intro D row i M Q hD hi i0 hr hC h
    cases D with
    | zero => omega
    | succ D =>
      have m3 := hC.1 3 (by decide) (by decide)
      refine ⟨fun q => by rw [m3] at q; omega, fun _ => ⟨fun _ => ?_, fun q => absurd (by omega) q⟩⟩
      have hmax := tn_max (P := Pc (Mi 28) (Mi 14) (Mi 15) (Mi 16)) hk.2 (L1_cg (Mi 3 0)) (d + 1) (by omega) row i
      refine LP2.of (b := bc_X6_turnsFrom_L23 (wp_X6_turnsFrom D) i Q) (fun s y B => 0 ≤ y ∧ y ≤ Mi 3 0 ∧ 0 ≤ s ∧ CT Mi B row i ∧ s + fs (tb (Pc (Mi 28) (Mi 14) (Mi 15) (Mi 16)) (tn (Pc (Mi 28) (Mi 14) (Mi 15) (Mi 16)) (fun _ => 1) (Mi 3 0) d) row i) (Mi 3 0 - y).toNat y = tn (Pc (Mi 28) (Mi 14) (Mi 15) (Mi 16)) (fun _ => 1) (Mi 3 0) (d + 1) row i) (fun _ y _ => (Mi 3 0 - y).toNat) ?_ 0 0 M ⟨by omega, by omega, by omega, hC, by rw [Int.zero_add]; rfl⟩
      rintro R s y B ⟨y0, y1, s0, hB, hs⟩ ihR
      have m3 := hB.1 3 (by decide) (by decide)
      unfold bc_X6_turnsFrom_L23
      rw [m3]
      refine ⟨fun q => ?_, fun q => ⟨fun q1 => by omega, fun q1 => ?_⟩⟩
      · rw [fs_end q, Int.add_zero] at hs
        rw [hs]; exact h B hB
      rw [fs_step (by omega)] at hs
      have hrest := fs_nn (f := tb (Pc (Mi 28) (Mi 14) (Mi 15) (Mi 16)) (tn (Pc (Mi 28) (Mi 14) (Mi 15) (Mi 16)) (fun _ => 1) (Mi 3 0) d) row i) (m := (Mi 3 0 - (y + 1)).toNat) (i := y + 1) (fun z => tb_b hk.2 (L1_cg (Mi 3 0)) d row i z)
      refine s_mayGo i y B row _ hB (by omega) (by omega) (fun j j0 j1 => by have := hr j j0 j1; omega) (fun hp => ⟨fun z => absurd z (by decide), fun _ => ?_⟩) (fun hp => ⟨fun _ => ⟨by omega, ihR _ _ _ ⟨by omega, by omega, s0, hB, ?_⟩ (by omega)⟩, fun z => absurd rfl z⟩)
      · rw [tb_pos hp] at hs
        have hnn := (tn_b (P := Pc (Mi 28) (Mi 14) (Mi 15) (Mi 16)) hk.2 (L1_cg (Mi 3 0)) d (fu row i y) (i + 1)).1
        refine ⟨by omega, by omega, by omega, ih D (fu row i y) (i + 1) _ _ (by omega) (by omega) (by omega) (fun j j0 j1 => ?_) (CT_put hB i0) (fun M' hM' => ⟨by omega, by omega, by omega, ihR _ _ _ ⟨by omega, by omega, by omega, CT_back hM' (fun j j0 j1 => (hp.2.2.2.2 j j0 j1).1), by omega⟩ (by omega)⟩)⟩
        simp only [fu_ap]
        split
        · omega
        · exact hr j j0 (by omega)
      · rw [tb_neg hp] at hs; omega
