theorem sm_add (n : Nat) (f g : Int → Int) : sm n (fun i => f i + g i) = sm n f + sm n g := by
  induction n with
  | zero => rfl
  | succ n ih => show sm n _ + (f n + g n) = sm n f + f n + (sm n g + g n); rw [ih]; omega
theorem sm_zero (n : Nat) : sm n (fun _ => 0) = 0 := by
  induction n with
  | zero => rfl
  | succ n ih => show sm n _ + 0 = 0; rw [ih]; rfl
theorem sm_z {n : Nat} {f : Int → Int} (h : ∀ i : Int, 0 ≤ i → i < n → f i = 0) : sm n f = 0 := (sm_congr h).trans (sm_zero n)
theorem sm_swap (n m : Nat) (g : Int → Int → Int) : sm n (fun i => sm m (fun j => g i j)) = sm m (fun j => sm n (fun i => g i j)) := by
  induction n with
  | zero => exact (sm_zero m).symm
  | succ n ih =>
    show sm n _ + sm m (fun j => g n j) = sm m (fun j => sm n (fun i => g i j) + g n j)
    rw [ih, sm_add]
theorem sm_le {n : Nat} {f g : Int → Int} (h : ∀ i : Int, 0 ≤ i → i < n → f i ≤ g i) : sm n f ≤ sm n g := by
  induction n with
  | zero => exact Int.le_refl _
  | succ n ih =>
    show sm n f + f n ≤ sm n g + g n
    have h1 := ih (fun i h0 h1 => h i h0 (by omega))
    have h2 := h n (by omega) (by omega)
    omega
theorem sm_nn {n : Nat} {f : Int → Int} (h : ∀ i : Int, 0 ≤ i → i < n → 0 ≤ f i) : 0 ≤ sm n f := by
  have := sm_le (n := n) (f := fun _ => 0) (g := f) h
  rw [sm_zero] at this
  exact this
theorem sm_const (n : Nat) (v : Int) : sm n (fun _ => v) = n * v := by
  induction n with
  | zero => show (0 : Int) = (0 : Nat) * v; simp
  | succ n ih => show sm n _ + v = _; rw [ih]; push_cast; rw [Int.add_mul, Int.one_mul]
theorem sm_mul (n : Nat) (f : Int → Int) (c : Int) : sm n (fun i => c * f i) = c * sm n f := by
  induction n with
  | zero => show (0 : Int) = c * 0; simp
  | succ n ih => show sm n _ + c * f n = c * (sm n f + f n); rw [ih, Int.mul_add]
theorem sm_ge1 {n : Nat} {f : Int → Int} (h : ∀ i : Int, 0 ≤ i → i < n → 0 ≤ f i) {i : Int} (h0 : 0 ≤ i) (h1 : i < n) : f i ≤ sm n f := by
  induction n with
  | zero => omega
  | succ n ih =>
    show f i ≤ sm n f + f n
    by_cases e : i = n
    · rw [e]
      have := sm_nn (n := n) (f := f) (fun i h0 h1 => h i h0 (by omega))
      omega
    · have := ih (fun i h0 h1 => h i h0 (by omega)) (by omega)
      have := h n (by omega) (by omega)
      omega
/-- one place alone has a value -/
theorem sm_one {n : Nat} {f : Int → Int} {t : Int} (h0 : 0 ≤ t) (h1 : t < n) (h : ∀ i : Int, 0 ≤ i → i < n → i ≠ t → f i = 0) : sm n f = f t := by
  induction n with
  | zero => omega
  | succ n ih =>
    show sm n f + f n = f t
    by_cases e : t = n
    · rw [sm_z (fun i i0 i1 => h i i0 (by omega) (by omega)), e]; omega
    · rw [ih (by omega) (fun i i0 i1 i2 => h i i0 (by omega) i2), h n (by omega) (by omega) (by omega)]; omega
theorem sm_app (n m : Nat) (f : Int → Int) : sm (n + m) f = sm n f + sm m (fun i => f (n + i)) := by
  induction m with
  | zero => show sm n f = sm n f + 0; omega
  | succ m ih =>
    show sm (n + m) f + f ((n + m : Nat) : Int) = sm n f + (sm m _ + f (n + m))
    rw [ih]
    push_cast
    omega
/-- as many keys are fixed as letters -/
theorem fixed_eq {n k : Int} {fo fb mf : Int → Int} (h : Jf n k fo fb mf) (hn : n ≤ 10) (hk : k ≤ 12) : sm 12 (fun j => if fb j = -1 then 0 else 1) = sm 10 (fun a => if fo a = -1 then 0 else 1) := by
  obtain ⟨h1, h2⟩ := h
  have e1 : sm 12 (fun j => if fb j = -1 then 0 else 1) = sm 12 (fun j => sm 10 (fun a => if fb j = a ∧ fo a = j then 1 else 0)) := by
    apply sm_congr
    intro j j0 j1
    rcases h2 j j0 (by omega) with g | ⟨g1, g2, g3⟩
    · rw [if_pos g, sm_z]
      intro a a0 a1
      exact if_neg (fun q => by omega)
    · rw [if_neg (by omega), sm_one g1 (show fb j < (10 : Nat) by omega) (fun a a0 a1 a2 => if_neg (fun q => a2 q.1.symm)), if_pos ⟨rfl, g3⟩]
  have e2 : sm 10 (fun a => if fo a = -1 then 0 else 1) = sm 10 (fun a => sm 12 (fun j => if fb j = a ∧ fo a = j then 1 else 0)) := by
    apply sm_congr
    intro a a0 a1
    rcases (h1 a a0 (by omega)).2 with g | ⟨g1, g2, g3, g4⟩
    · rw [if_pos g, sm_z]
      intro j j0 j1
      exact if_neg (fun q => by omega)
    · rw [if_neg (by omega), sm_one g1 (show fo a < (12 : Nat) by omega) (fun j j0 j1 j2 => if_neg (fun q => j2 q.2.symm)), if_pos ⟨g4, rfl⟩]
  rw [e1, e2, sm_swap]
theorem sm_compl (n : Nat) (p : Int → Int) : sm n (fun j => if p j = -1 then 1 else 0) = n - sm n (fun j => if p j = -1 then 0 else 1) := by
  induction n with
  | zero => rfl
  | succ n ih =>
    show sm n _ + (if p n = -1 then 1 else 0) = _ - (sm n _ + (if p n = -1 then 0 else 1))
    rw [ih]
    by_cases e : p n = -1
    · rw [if_pos e, if_pos e]; push_cast; omega
    · rw [if_neg e, if_neg e]; push_cast; omega
/-- there are no fewer free keys than free letters -/
theorem free_le {n k : Int} {fo fb mf : Int → Int} (h : Jf n k fo fb mf) (h0 : 0 ≤ n) (hn : n ≤ 10) (hk : k ≤ 12) (hnk : n ≤ k) : sm n.toNat (fun a => if fo a = -1 then 1 else 0) ≤ sm k.toNat (fun j => if fb j = -1 then 1 else 0) := by
  have e := fixed_eq h hn hk
  have e1 : sm 12 (fun j => if fb j = -1 then 0 else 1) = sm k.toNat (fun j => if fb j = -1 then 0 else 1) := by
    have : (12 : Nat) = k.toNat + (12 - k.toNat) := by omega
    rw [this, sm_app, sm_z (n := 12 - k.toNat)]
    · omega
    · intro i i0 i1
      rcases h.2 (k.toNat + i) (by omega) (by omega) with g | ⟨g1, g2, g3⟩
      · exact if_pos g
      · rcases (h.1 _ g1 (by omega)).2 with g4 | ⟨g4, g5, -⟩
        · omega
        · omega
  have e2 : sm 10 (fun a => if fo a = -1 then 0 else 1) = sm n.toNat (fun a => if fo a = -1 then 0 else 1) := by
    have : (10 : Nat) = n.toNat + (10 - n.toNat) := by omega
    rw [this, sm_app, sm_z (n := 10 - n.toNat)]
    · omega
    · intro i i0 i1
      rcases (h.1 (n.toNat + i) (by omega) (by omega)).2 with g | ⟨g1, g2, g3, g4⟩
      · exact if_pos g
      · omega
  rw [sm_compl, sm_compl, ← e1, ← e2, e]
  omega
