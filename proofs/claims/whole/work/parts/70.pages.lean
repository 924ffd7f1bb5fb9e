theorem byteA (x : Int64) (c : UInt64) (n : Nat) (hc : (c.toBitVec % 64).toNat = n) : ((x.toUInt64 >>> c).toInt64 &&& Int64.ofInt 255).toInt = (((x.toBitVec.toNat >>> n) % 256 : Nat) : Int) := by
  have h : ((x.toUInt64 >>> c).toInt64 &&& Int64.ofInt 255).toBitVec = (x.toBitVec >>> (c.toBitVec % 64)) &&& 255#64 := rfl
  have h2 : ((x.toBitVec >>> (c.toBitVec % 64)) &&& 255#64).toNat = (x.toBitVec.toNat >>> n) % 256 := by
    rw [BitVec.toNat_and]
    show (x.toBitVec >>> (c.toBitVec % 64).toNat).toNat &&& 255 = _
    rw [BitVec.toNat_ushiftRight, hc]
    exact Nat.and_two_pow_sub_one_eq_mod _ 8
  show ((x.toUInt64 >>> c).toInt64 &&& Int64.ofInt 255).toBitVec.toInt = _
  rw [h, BitVec.toInt_eq_toNat_of_lt, h2]
  rw [h2]
  have : (x.toBitVec.toNat >>> n) % 256 < 256 := Nat.mod_lt _ (by decide)
  omega
theorem byteB (x c : Int64) (n : Nat) (hc : (c.toBitVec.smod 64).toNat = n) (hn : n + 8 ≤ 64) : ((x >>> c).toInt32 &&& Int32.ofInt 255).toInt = (((x.toBitVec.toNat >>> n) % 256 : Nat) : Int) := by
  have h : ((x >>> c).toInt32 &&& Int32.ofInt 255).toBitVec = ((x.toBitVec.sshiftRight (c.toBitVec.smod 64).toNat).signExtend 32) &&& 255#32 := rfl
  have h2 : (((x.toBitVec.sshiftRight (c.toBitVec.smod 64).toNat).signExtend 32) &&& 255#32).toNat = (x.toBitVec.toNat >>> n) % 256 := by
    rw [hc, BitVec.signExtend_eq_setWidth_of_le _ (by decide), BitVec.toNat_and, BitVec.toNat_setWidth]
    show _ % 2 ^ 32 &&& (2 ^ 8 - 1) = _ % 2 ^ 8
    rw [Nat.and_two_pow_sub_one_eq_mod, Nat.mod_mod_of_dvd _ (by decide)]
    apply Nat.eq_of_testBit_eq
    intro i
    rw [Nat.testBit_mod_two_pow, Nat.testBit_mod_two_pow]
    by_cases hi : i < 8
    · have e1 : (x.toBitVec.sshiftRight n).toNat.testBit i = (x.toBitVec.sshiftRight n).getLsbD i := rfl
      rw [e1, BitVec.getLsbD_sshiftRight, Nat.testBit_shiftRight]
      have h1 : ¬ 64 ≤ i := by omega
      have h3 : n + i < 64 := by omega
      simp only [h1, decide_false, Bool.not_false, Bool.true_and, h3, reduceIte]
      rfl
    · simp [hi]
  show ((x >>> c).toInt32 &&& Int32.ofInt 255).toBitVec.toInt = _
  rw [h, BitVec.toInt_eq_toNat_of_lt, h2]
  rw [h2]
  have : (x.toBitVec.toNat >>> n) % 256 < 256 := Nat.mod_lt _ (by decide)
  omega
theorem byte_eq (w k : Int) (h0 : 0 ≤ k) (h7 : k ≤ 7) : a_and64 (a_ushr64 w (8 * k)) 255 = a_and32 (a_shr64 w (8 * k)) 255 ∧ 0 ≤ a_and64 (a_ushr64 w (8 * k)) 255 ∧ a_and64 (a_ushr64 w (8 * k)) 255 ≤ 255 := by
  have key : ∀ n : Nat, n + 8 ≤ 64 → (((Int32.ofInt (8 * k)).toInt64.toUInt64 &&& Int64.toUInt64 63).toBitVec % 64).toNat = n → (((Int32.ofInt (8 * k)).toInt64 &&& 63).toBitVec.smod 64).toNat = n → a_and64 (a_ushr64 w (8 * k)) 255 = a_and32 (a_shr64 w (8 * k)) 255 ∧ 0 ≤ a_and64 (a_ushr64 w (8 * k)) 255 ∧ a_and64 (a_ushr64 w (8 * k)) 255 ≤ 255 := by
    intro n hn h1 h2
    have e1 : a_and64 (a_ushr64 w (8 * k)) 255 = ((((Int64.ofInt w).toBitVec.toNat >>> n) % 256 : Nat) : Int) := by
      unfold a_and64 a_ushr64
      rw [Int64.ofInt_toInt]
      exact byteA _ _ n h1
    have e2 : a_and32 (a_shr64 w (8 * k)) 255 = ((((Int64.ofInt w).toBitVec.toNat >>> n) % 256 : Nat) : Int) := by
      unfold a_and32 a_shr64
      have e3 : ∀ y : Int64, Int32.ofInt y.toInt = y.toInt32 := fun y => by rw [← Int64.toInt32_ofInt, Int64.ofInt_toInt]
      rw [e3]
      exact byteB _ _ n h2 hn
    have : ((Int64.ofInt w).toBitVec.toNat >>> n) % 256 < 256 := Nat.mod_lt _ (by decide)
    rw [e1, e2]
    omega
  rcases (show k = 0 ∨ k = 1 ∨ k = 2 ∨ k = 3 ∨ k = 4 ∨ k = 5 ∨ k = 6 ∨ k = 7 by omega) with rfl | rfl | rfl | rfl | rfl | rfl | rfl | rfl
  · exact key 0 (by decide) (by decide) (by decide)
  · exact key 8 (by decide) (by decide) (by decide)
  · exact key 16 (by decide) (by decide) (by decide)
  · exact key 24 (by decide) (by decide) (by decide)
  · exact key 32 (by decide) (by decide) (by decide)
  · exact key 40 (by decide) (by decide) (by decide)
  · exact key 48 (by decide) (by decide) (by decide)
  · exact key 56 (by decide) (by decide) (by decide)
/-- the j-th of n signs -/
def bt (w n j : Int) : Int := a_and64 (a_ushr64 w (8 * (n - 1 - j))) 255
theorem s_write (x1 w n : Int) (M : Mm) (Q : Mm → Prop) (hx : 0 ≤ x1 ∧ x1 < 6) (hn : 1 ≤ n ∧ n ≤ 8) (hl : ∀ p, 0 ≤ p → p < 6 → 0 ≤ M 12 p ∧ M 12 p ≤ 300) (hle : M 12 x1 + n ≤ 300) (hsg : ∀ i, 0 ≤ i → i < M 12 x1 → 0 ≤ M 11 (300 * x1 + i) ∧ M 11 (300 * x1 + i) ≤ 255) (ho : Oc (M 12) (M 11) (M 13)) (h : ∀ M' : Mm, (∀ c, c ≠ 11 → c ≠ 12 → c ≠ 13 → M' c = M c) → M' 12 = fu (M 12) x1 (M 12 x1 + n) → (∀ j, j < 300 * x1 + M 12 x1 ∨ 300 * x1 + M 12 x1 + n ≤ j → M' 11 j = M 11 j) → (∀ j, 0 ≤ j → j < n → M' 11 (300 * x1 + M 12 x1 + j) = bt w n j) → Oc (M' 12) (M' 11) (M' 13) → Q M') : wp_X4_write x1 w n M Q := by
  unfold wp_X4_write
  refine ⟨by omega, ?_⟩
  have hx1 := hl x1 hx.1 hx.2
  refine LP1.of (b := bc_X4_write_L6 x1 w Q) (fun x B => -1 ≤ x ∧ x ≤ n - 1 ∧ (∀ c, c ≠ 11 → c ≠ 12 → c ≠ 13 → B c = M c) ∧ B 12 = fu (M 12) x1 (M 12 x1 + (n - 1 - x)) ∧ (∀ j, j < 300 * x1 + M 12 x1 ∨ 300 * x1 + M 12 x1 + (n - 1 - x) ≤ j → B 11 j = M 11 j) ∧ (∀ j, 0 ≤ j → j < n - 1 - x → B 11 (300 * x1 + M 12 x1 + j) = bt w n j) ∧ Oc (B 12) (B 11) (B 13)) (fun x _ => (x + 1).toNat) ?_ (n - 1) M ⟨by omega, by omega, fun _ _ _ _ => rfl, ?_, fun _ _ => rfl, fun j j0 j1 => by omega, ho⟩
  · rintro R x B ⟨x0, x9, f1, f12, f11, f11b, hO⟩ ih
    unfold bc_X4_write_L6
    refine ⟨fun q => h B f1 (by rw [f12, show n - 1 - x = n by omega]) (by rw [show n - 1 - x = n by omega] at f11; exact f11) (by rw [show n - 1 - x = n by omega] at f11b; exact f11b) hO, fun q => ?_⟩
    obtain ⟨-, hb1, hb2⟩ := byte_eq w x (by omega) (by omega)
    have hB12 : B 12 x1 = M 12 x1 + (n - 1 - x) := by rw [f12, fu_s]
    refine ⟨by omega, s_append4 x1 _ B _ hx ⟨hb1, hb2⟩ ?_ (by omega) ?_ hO (fun M' g1 g12 g11 gO => ⟨by omega, ih _ _ ⟨by omega, by omega, fun c h1 h2 h3 => (g1 c h1 h2 h3).trans (f1 c h1 h2 h3), ?_, ?_, ?_, gO⟩ (by omega)⟩)⟩
    · intro p p0 p1
      rw [f12]
      simp only [fu_ap]
      split
      · omega
      · exact hl p p0 p1
    · rw [hB12]
      intro i i0 i1
      by_cases e : i < M 12 x1
      · rw [f11 _ (by omega)]; exact hsg i i0 e
      · have h1 := f11b (i - M 12 x1) (by omega) (by omega)
        rw [show 300 * x1 + M 12 x1 + (i - M 12 x1) = 300 * x1 + i by omega] at h1
        rw [h1]
        have h2 := byte_eq w (n - 1 - (i - M 12 x1)) (by omega) (by omega)
        exact h2.2
    · rw [g12, hB12, f12]
      funext j
      simp only [fu_ap]
      split
      · omega
      · rfl
    · intro j hj
      rw [g11, fu_n _ _ (by omega), f11 j (by omega)]
    · intro j j0 j1
      rw [g11, hB12]
      by_cases e : j = n - 1 - x
      · rw [e, show 300 * x1 + M 12 x1 + (n - 1 - x) = 300 * x1 + (M 12 x1 + (n - 1 - x)) by omega, fu_s]
        unfold bt
        rw [show n - 1 - (n - 1 - x) = x by omega]
      · rw [fu_n _ _ (by omega)]
        exact f11b j j0 (by omega)
  · funext j
    simp only [fu_ap]
    split
    · rename_i e; rw [e]; omega
    · rfl
theorem s_mwrite (x1 w n had : Int) (M : Mm) (Q : Int → Mm → Prop) (K : Mm → Prop) (hx : 0 ≤ x1 ∧ x1 < 6) (hn : 1 ≤ n ∧ n ≤ 8) (hh : 0 ≤ had ∧ had + n ≤ 300) (h : ∀ M' : Mm, (∀ c, c ≠ 32 → M' c = M c) → (∀ j, j < 300 * x1 + had ∨ 300 * x1 + had + n ≤ j → M' 32 j = M 32 j) → (∀ j, 0 ≤ j → j < n → M' 32 (300 * x1 + had + j) = bt w n j) → K M') : wp_X8_feed_L64 x1 w n had Q K (n - 1) M := by
  refine LP1.of (b := bc_X8_feed_L64 x1 w n had Q K) (fun x B => -1 ≤ x ∧ x ≤ n - 1 ∧ (∀ c, c ≠ 32 → B c = M c) ∧ (∀ j, j < 300 * x1 + had ∨ 300 * x1 + had + n ≤ j → B 32 j = M 32 j) ∧ (∀ j, 0 ≤ j → j < n - 1 - x → B 32 (300 * x1 + had + j) = bt w n j)) (fun x _ => (x + 1).toNat) ?_ (n - 1) M ⟨by omega, by omega, fun _ _ => rfl, fun _ _ => rfl, fun j j0 j1 => by omega⟩
  rintro R x B ⟨x0, x9, f1, f11, f11b⟩ ih
  unfold bc_X8_feed_L64
  refine ⟨fun q => h B f1 f11 (by rw [show n - 1 - x = n by omega] at f11b; exact f11b), fun q => ⟨by omega, by omega, ih _ _ ⟨by omega, by omega, fun c hc => ?_, fun j hj => ?_, fun j j0 j1 => ?_⟩ (by omega)⟩⟩
  · simp only [mset_eq, fu_ap, hc, reduceIte]; exact f1 c hc
  · simp only [mset_eq, fu_ap, reduceIte]
    rw [if_neg (by omega)]; exact f11 j hj
  · simp only [mset_eq, fu_ap, reduceIte]
    by_cases e : j = n - 1 - x
    · rw [if_pos (by omega), e]
      unfold bt
      rw [show n - 1 - (n - 1 - x) = x by omega]
      exact (byte_eq w x (by omega) (by omega)).1.symm
    · rw [if_neg (by omega)]
      exact f11b j j0 (by omega)
