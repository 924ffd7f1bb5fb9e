/-! SETS AS BITS -/
def ckr (p : Nat → Bool) : Nat → Nat → Bool
  | 0, lo => p lo
  | m + 1, lo => ckr p m lo && ckr p m (lo + 2 ^ m)
theorem ckr_ok {p : Nat → Bool} : ∀ (m lo : Nat), ckr p m lo = true → ∀ x, lo ≤ x → x < lo + 2 ^ m → p x = true := by
  intro m
  induction m with
  | zero =>
    intro lo h x x0 x1
    have e : x = lo := by
      have : (2 : Nat) ^ 0 = 1 := rfl
      omega
    rw [e]; exact h
  | succ m ih =>
    intro lo h x x0 x1
    have h2 : (ckr p m lo && ckr p m (lo + 2 ^ m)) = true := h
    have h3 := Bool.and_eq_true_iff.mp h2
    have e : 2 ^ (m + 1) = 2 ^ m + 2 ^ m := by rw [Nat.pow_succ]; omega
    by_cases q : x < lo + 2 ^ m
    · exact ih lo h3.1 x x0 q
    · exact ih _ h3.2 x (by omega) (by omega)
def ckb (s j : Nat) : Bool := (Nat.beq (s &&& 2 ^ j) (if s.testBit j then 2 ^ j else 0) && Nat.beq (s ||| 2 ^ j) (if s.testBit j then s else s + 2 ^ j)) && (if s.testBit j then Nat.ble (2 ^ j) s && !((s - 2 ^ j).testBit j) else true)
theorem ckb_all : ckr (fun s => ckr (fun j => ckb s j) 4 0) 12 0 = true := by decide +kernel
def ckl (s : Nat) : Bool := Nat.beq s 0 || (List.range 12).any (fun j => s.testBit j && Nat.beq (s &&& (s - 1)) (s - 2 ^ j))
theorem ckl_all : ckr ckl 12 0 = true := by decide +kernel
theorem b_all {s j : Nat} (hs : s < 4096) (hj : j < 12) : ckb s j = true := by
  have h1 := ckr_ok 12 0 ckb_all s (by omega) (by have : (2 : Nat) ^ 12 = 4096 := rfl; omega)
  exact ckr_ok 4 0 h1 j (by omega) (by have : (2 : Nat) ^ 4 = 16 := rfl; omega)
theorem b_and {s j : Nat} (hs : s < 4096) (hj : j < 12) : s &&& 2 ^ j = if s.testBit j then 2 ^ j else 0 := by
  have h := b_all hs hj
  unfold ckb at h
  exact Nat.eq_of_beq_eq_true (Bool.and_eq_true_iff.mp (Bool.and_eq_true_iff.mp h).1).1
theorem b_or {s j : Nat} (hs : s < 4096) (hj : j < 12) : s ||| 2 ^ j = if s.testBit j then s else s + 2 ^ j := by
  have h := b_all hs hj
  unfold ckb at h
  exact Nat.eq_of_beq_eq_true (Bool.and_eq_true_iff.mp (Bool.and_eq_true_iff.mp h).1).2
theorem b_sub {s j : Nat} (hs : s < 4096) (hj : j < 12) (hb : s.testBit j = true) : 2 ^ j ≤ s ∧ (s - 2 ^ j).testBit j = false := by
  have h := b_all hs hj
  unfold ckb at h
  have h2 := (Bool.and_eq_true_iff.mp h).2
  rw [if_pos hb] at h2
  have h3 := Bool.and_eq_true_iff.mp h2
  refine ⟨Nat.le_of_ble_eq_true h3.1, ?_⟩
  have h4 := h3.2
  cases hq : (s - 2 ^ j).testBit j with
  | false => rfl
  | true => rw [hq] at h4; exact absurd h4 (by decide)
theorem b_ins {s j : Nat} (hs : s < 4096) (hj : j < 12) (hb : s.testBit j = false) (i : Nat) : (s + 2 ^ j).testBit i = (s.testBit i || decide (j = i)) := by
  have h := b_or hs hj
  rw [if_neg (by rw [hb]; decide)] at h
  rw [← h, Nat.testBit_or, Nat.testBit_two_pow]
theorem b_del {s j : Nat} (hs : s < 4096) (hj : j < 12) (hb : s.testBit j = true) (i : Nat) (hi : i ≠ j) : (s - 2 ^ j).testBit i = s.testBit i := by
  obtain ⟨h1, h2⟩ := b_sub hs hj hb
  have h3 := b_ins (s := s - 2 ^ j) (Nat.lt_of_le_of_lt (Nat.sub_le _ _) hs) hj h2 i
  rw [show s - 2 ^ j + 2 ^ j = s by omega] at h3
  rw [h3, decide_eq_false (fun e => hi e.symm), Bool.or_false]
/-- how many there are -/
def pc (s : Nat) : Int := sm 12 (fun j => if s.testBit j.toNat then 1 else 0)
theorem pc_del {s j : Nat} (hs : s < 4096) (hj : j < 12) (hb : s.testBit j = true) : pc s = pc (s - 2 ^ j) + 1 := by
  unfold pc
  rw [sm_diff (n := 12) (t := (j : Int)) (g := fun i => if (s - 2 ^ j).testBit i.toNat then 1 else 0) (by omega) (by omega)]
  · show _ + ((if s.testBit ((j : Int)).toNat then (1 : Int) else 0) - (if (s - 2 ^ j).testBit ((j : Int)).toNat then 1 else 0)) = _
    rw [show ((j : Int)).toNat = j by omega, if_pos hb, if_neg (by rw [(b_sub hs hj hb).2]; decide)]
    omega
  · intro i i0 i1 i2
    show (if s.testBit i.toNat then (1 : Int) else 0) = if (s - 2 ^ j).testBit i.toNat then 1 else 0
    rw [b_del hs hj hb i.toNat (by omega)]
theorem pc_ins {s j : Nat} (hs : s + 2 ^ j < 4096) (hj : j < 12) (hb : s.testBit j = false) : pc (s + 2 ^ j) = pc s + 1 := by
  have h1 : (s + 2 ^ j).testBit j = true := by
    rw [b_ins (Nat.lt_of_le_of_lt (Nat.le_add_right _ _) hs) hj hb]; simp
  rw [pc_del hs hj h1, show s + 2 ^ j - 2 ^ j = s by omega]
theorem pc_0 : pc 0 = 0 := by
  unfold pc
  exact sm_z (fun i i0 i1 => by rw [Nat.zero_testBit]; rfl)
theorem pc_b (s : Nat) : 0 ≤ pc s ∧ pc s ≤ 12 := by
  unfold pc
  refine ⟨sm_nn (fun i i0 i1 => by split <;> omega), ?_⟩
  have := sm_le (n := 12) (f := fun j => if s.testBit j.toNat then 1 else 0) (g := fun _ => 1) (fun i i0 i1 => by
    show (if s.testBit i.toNat then (1 : Int) else 0) ≤ 1
    split <;> omega)
  rw [sm_const] at this
  omega
theorem pc_low {s : Nat} (hs : s < 4096) (h1 : 1 ≤ s) : pc (s &&& (s - 1)) + 1 = pc s ∧ s &&& (s - 1) < s := by
  have h := ckr_ok 12 0 ckl_all s (by omega) (by have : (2 : Nat) ^ 12 = 4096 := rfl; omega)
  unfold ckl at h
  rcases Bool.or_eq_true_iff.mp h with h2 | h2
  · have := Nat.eq_of_beq_eq_true h2; omega
  · obtain ⟨j, hj, h3⟩ := List.any_eq_true.mp h2
    have h4 := Bool.and_eq_true_iff.mp h3
    have h5 := Nat.eq_of_beq_eq_true h4.2
    have hj2 : j < 12 := List.mem_range.mp hj
    have h6 := b_sub hs hj2 h4.1
    have h7 : 0 < 2 ^ j := Nat.two_pow_pos j
    rw [h5]
    exact ⟨(pc_del hs hj2 h4.1).symm, by omega⟩
theorem bv32 (x : Nat) : (Int32.ofInt (x : Int)).toBitVec = BitVec.ofNat 32 x := BitVec.ofInt_natCast 32 x
theorem and32 {x y : Nat} (hx : x < 2147483648) (hy : y < 2147483648) : a_and32 (x : Int) (y : Int) = ((x &&& y : Nat) : Int) := by
  unfold a_and32
  show (Int32.ofInt (x : Int) &&& Int32.ofInt (y : Int)).toBitVec.toInt = _
  have hl : x &&& y < 2147483648 := Nat.lt_of_le_of_lt Nat.and_le_left hx
  have e : (Int32.ofInt (x : Int) &&& Int32.ofInt (y : Int)).toBitVec.toNat = x &&& y := by
    rw [Int32.toBitVec_and, bv32, bv32, BitVec.toNat_and, BitVec.toNat_ofNat, BitVec.toNat_ofNat, Nat.mod_eq_of_lt (by omega), Nat.mod_eq_of_lt (by omega)]
  rw [BitVec.toInt_eq_toNat_of_lt, e]
  rw [e]; omega
theorem or32 {x y : Nat} (hx : x < 2147483648) (hy : y < 2147483648) : a_or32 (x : Int) (y : Int) = ((x ||| y : Nat) : Int) := by
  unfold a_or32
  show (Int32.ofInt (x : Int) ||| Int32.ofInt (y : Int)).toBitVec.toInt = _
  have hl : x ||| y < 2 ^ 31 := Nat.or_lt_two_pow (by omega) (by omega)
  have e : (Int32.ofInt (x : Int) ||| Int32.ofInt (y : Int)).toBitVec.toNat = x ||| y := by
    rw [Int32.toBitVec_or, bv32, bv32, BitVec.toNat_or, BitVec.toNat_ofNat, BitVec.toNat_ofNat, Nat.mod_eq_of_lt (by omega), Nat.mod_eq_of_lt (by omega)]
  rw [BitVec.toInt_eq_toNat_of_lt, e]
  rw [e]; omega
theorem shl32 {j : Int} (h0 : 0 ≤ j) (h1 : j ≤ 12) : a_shl32 1 j = ((2 ^ j.toNat : Nat) : Int) := by
  rcases (show j = 0 ∨ j = 1 ∨ j = 2 ∨ j = 3 ∨ j = 4 ∨ j = 5 ∨ j = 6 ∨ j = 7 ∨ j = 8 ∨ j = 9 ∨ j = 10 ∨ j = 11 ∨ j = 12 by omega) with rfl | rfl | rfl | rfl | rfl | rfl | rfl | rfl | rfl | rfl | rfl | rfl | rfl <;> decide
theorem p2_le {j k : Nat} (h : j ≤ k) : 2 ^ j ≤ 2 ^ k := Nat.pow_le_pow_right (by decide) h
theorem p2_12 {j : Nat} (h : j ≤ 12) : 2 ^ j ≤ 4096 := p2_le h
/-- the letter's bit in a set -/
theorem and_bit {s : Nat} {j : Int} (hs : s < 4096) (h0 : 0 ≤ j) (h1 : j < 12) : a_and32 (s : Int) (a_shl32 1 j) = 0 ↔ s.testBit j.toNat = false := by
  have := p2_12 (j := j.toNat) (by omega)
  have hp := Nat.two_pow_pos j.toNat
  rw [shl32 h0 (by omega), and32 (by omega) (by omega), b_and hs (by omega)]
  cases hq : s.testBit j.toNat with
  | false => simp
  | true =>
    rw [if_pos rfl]
    constructor
    · intro h; omega
    · intro h; exact absurd h (by decide)
theorem sub_bit {s : Nat} {j : Int} (hs : s < 4096) (h0 : 0 ≤ j) (h1 : j < 12) (hb : s.testBit j.toNat = true) : (s : Int) - a_shl32 1 j = ((s - 2 ^ j.toNat : Nat) : Int) := by
  have := (b_sub hs (show j.toNat < 12 by omega) hb).1
  rw [shl32 h0 (by omega)]
  omega
theorem or_bit {s : Nat} {j : Int} (hs : s < 4096) (h0 : 0 ≤ j) (h1 : j < 12) : a_or32 (s : Int) (a_shl32 1 j) = if s.testBit j.toNat then (s : Int) else ((s + 2 ^ j.toNat : Nat) : Int) := by
  have := p2_12 (j := j.toNat) (by omega)
  rw [shl32 h0 (by omega), or32 (by omega) (by omega), b_or hs (by omega)]
  cases hq : s.testBit j.toNat with
  | false => simp
  | true => simp
theorem and_low {s : Nat} (hs : s < 4096) (h1 : 1 ≤ s) : a_and32 (s : Int) ((s : Int) - 1) = ((s &&& (s - 1) : Nat) : Int) := by
  rw [show (s : Int) - 1 = ((s - 1 : Nat) : Int) by omega, and32 (by omega) (by omega)]
