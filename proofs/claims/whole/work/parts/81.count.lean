/-- a loop from i on, m times -/
def lq {α : Type} (g : Int → α → α) : Nat → Int → α → α
  | 0, _, s => s
  | m + 1, i, s => lq g m (i + 1) (g i s)
theorem lq_step {α : Type} {g : Int → α → α} {N i : Int} {s : α} (h : i < N) : lq g (N - i).toNat i s = lq g (N - (i + 1)).toNat (i + 1) (g i s) := by
  rw [show (N - i).toNat = (N - (i + 1)).toNat + 1 by omega]; rfl
theorem lq_end {α : Type} {g : Int → α → α} {N i : Int} {s : α} (h : N ≤ i) : lq g (N - i).toNat i s = s := by
  rw [show (N - i).toNat = 0 by omega]; rfl
theorem lq_pres {α : Type} {g : Int → α → α} {P : α → Prop} {m : Nat} : ∀ {i : Int} {s : α}, (∀ j s, i ≤ j → j < i + m → P s → P (g j s)) → P s → P (lq g m i s) := by
  induction m with
  | zero => intro i s _ h; exact h
  | succ m ih =>
    intro i s hg h
    exact ih (fun j s h0 h1 => hg j s (by omega) (by omega)) (hg i s (by omega) (by omega) h)
theorem lq_congr {α : Type} {g g' : Int → α → α} {m : Nat} : ∀ {i : Int} {s : α}, (∀ j s, i ≤ j → j < i + m → g j s = g' j s) → lq g m i s = lq g' m i s := by
  induction m with
  | zero => intro i s _; rfl
  | succ m ih =>
    intro i s hg
    show lq g m (i + 1) (g i s) = lq g' m (i + 1) (g' i s)
    rw [hg i s (by omega) (by omega)]
    exact ih (fun j s h0 h1 => hg j s (by omega) (by omega))
theorem sm_blk (m w : Nat) (g : Int → Int) : sm (m * w) g = sm m (fun a => sm w (fun b => g (w * a + b))) := by
  induction m with
  | zero => rw [Nat.zero_mul]; rfl
  | succ m ih =>
    rw [Nat.succ_mul, sm_app, ih]
    show _ = sm m _ + sm w (fun b => g (w * (m : Int) + b))
    congr 1
    apply sm_congr
    intro i i0 i1
    push_cast
    rw [Int.mul_comm]
theorem sm_cut {N : Nat} {n : Int} {g : Int → Int} (h0 : 0 ≤ n) (h : n ≤ N) : sm N (fun a => if a < n then g a else 0) = sm n.toNat g := by
  rw [show N = n.toNat + (N - n.toNat) by omega, sm_app, sm_z (n := N - n.toNat) (fun i i0 i1 => if_neg (by omega)), sm_congr (g := g) (fun i i0 i1 => if_pos (by omega))]
  omega
/-- the answers of count -/
def cv (M : Mm) (x : Int) : Int := if x = 0 then M 1 0 else if x = 1 then M 3 0 else if x = 2 then sm 6 (fun p => if M 12 p ≤ 0 then 0 else 1) else if x = 3 then sm 6 (fun p => M 12 p) else if x = 4 then sm (M 1 0).toNat (fun a => sm (M 1 0).toNat (fun b => M 13 (10 * a + b))) else if x = 5 then sm (M 1 0).toNat (fun a => if M 9 a = -1 then 0 else 1) else if x = 6 then (if M 4 4 = 0 then 0 else 1) else -2
theorem s_present (M : Mm) (Q : Int → Mm → Prop) (h : Q (sm 6 (fun p => if M 12 p ≤ 0 then 0 else 1)) M) : wp_X4_present M Q := by
  refine LP2.of (b := bc_X4_present_L13 6 Q) (fun s i B => B = M ∧ 0 ≤ i ∧ i ≤ 6 ∧ 0 ≤ s ∧ s ≤ i ∧ s = sm i.toNat (fun p => if M 12 p ≤ 0 then 0 else 1)) (fun _ i _ => (6 - i).toNat) ?_ 0 0 M ⟨rfl, by omega, by omega, by omega, by omega, rfl⟩
  rintro R s i B ⟨rfl, i0, i1, s0, s1, hs⟩ ih
  unfold bc_X4_present_L13
  refine ⟨fun q => ?_, fun q => ⟨by omega, fun q1 => ⟨by omega, ih _ _ _ ⟨rfl, by omega, by omega, by omega, by omega, ?_⟩ (by omega)⟩, fun q1 => ⟨by omega, by omega, ih _ _ _ ⟨rfl, by omega, by omega, by omega, by omega, ?_⟩ (by omega)⟩⟩⟩
  · rw [hs, show i = 6 by omega]; exact h
  · rw [sm_step i0, ← hs, if_pos q1]; omega
  · rw [sm_step i0, ← hs, if_neg q1]
theorem s_signs (M : Mm) (Q : Int → Mm → Prop) (hl : ∀ p, 0 ≤ p → p < 6 → 0 ≤ M 12 p ∧ M 12 p ≤ 300) (h : Q (sm 6 (fun p => M 12 p)) M) : wp_X4_signsTogether M Q := by
  refine LP2.of (b := bc_X4_signsTogether_L13 6 Q) (fun s i B => B = M ∧ 0 ≤ i ∧ i ≤ 6 ∧ 0 ≤ s ∧ s ≤ 300 * i ∧ s = sm i.toNat (fun p => M 12 p)) (fun _ i _ => (6 - i).toNat) ?_ 0 0 M ⟨rfl, by omega, by omega, by omega, by omega, rfl⟩
  rintro R s i B ⟨rfl, i0, i1, s0, s1, hs⟩ ih
  unfold bc_X4_signsTogether_L13
  refine ⟨fun q => ?_, fun q => ?_⟩
  · rw [hs, show i = 6 by omega]; exact h
  · have := hl i i0 (by omega)
    refine ⟨by omega, by omega, by omega, ih _ _ _ ⟨rfl, by omega, by omega, by omega, by omega, ?_⟩ (by omega)⟩
    rw [sm_step i0, ← hs]
theorem s_pairsOf (n : Int) (M : Mm) (Q : Int → Mm → Prop) (hn : 0 ≤ n ∧ n ≤ 10) (hl : ∀ a b, 0 ≤ a → a < 10 → 0 ≤ b → b < 10 → 0 ≤ M 13 (10 * a + b) ∧ M 13 (10 * a + b) ≤ 1794) (h : Q (sm n.toNat (fun a => sm n.toNat (fun b => M 13 (10 * a + b)))) M) : wp_X4_pairsOf n M Q := by
  refine LP2.of (b := bc_X4_pairsOf_L4 n Q) (fun s a B => B = M ∧ 0 ≤ a ∧ a ≤ n ∧ 0 ≤ s ∧ s ≤ 17940 * a ∧ s = sm a.toNat (fun a => sm n.toNat (fun b => M 13 (10 * a + b)))) (fun _ a _ => (n - a).toNat) ?_ 0 0 M ⟨rfl, by omega, by omega, by omega, by omega, rfl⟩
  rintro R s a B ⟨rfl, a0, a1, s0, s1, hs⟩ ih
  unfold bc_X4_pairsOf_L4
  refine ⟨fun q => ?_, fun q => ?_⟩
  · rw [hs, show a = n by omega]; exact h
  · refine LP2.of (b := bc_X4_pairsOf_L12 n a Q _) (fun t b C => C = B ∧ 0 ≤ b ∧ b ≤ n ∧ s ≤ t ∧ t ≤ s + 1794 * b ∧ t = s + sm b.toNat (fun b => B 13 (10 * a + b))) (fun _ b _ => (n - b).toNat) ?_ s 0 B ⟨rfl, by omega, by omega, by omega, by omega, by show s = s + (0 : Int); omega⟩
    rintro R2 t b C ⟨rfl, b0, b1, t0, t1, ht⟩ ih2
    unfold bc_X4_pairsOf_L12
    refine ⟨fun q2 => ⟨by omega, ih _ _ _ ⟨rfl, by omega, by omega, by omega, by omega, ?_⟩ (by omega)⟩, fun q2 => ?_⟩
    · rw [ht, hs, sm_step a0, show b = n by omega]
    · have := hl a b a0 (by omega) b0 (by omega)
      refine ⟨by omega, by omega, by omega, by omega, ih2 _ _ _ ⟨rfl, by omega, by omega, by omega, by omega, ?_⟩ (by omega)⟩
      rw [ht, sm_step b0]; omega
theorem s_fixedTogether (M : Mm) (Q : Int → Mm → Prop) (hn : 0 ≤ M 1 0 ∧ M 1 0 ≤ 10) (h : Q (sm (M 1 0).toNat (fun a => if M 9 a = -1 then 0 else 1)) M) : wp_X3_fixedTogether M Q := by
  refine LP2.of (b := bc_X3_fixedTogether_L4 Q) (fun s i B => B = M ∧ 0 ≤ i ∧ i ≤ M 1 0 ∧ 0 ≤ s ∧ s ≤ i ∧ s = sm i.toNat (fun a => if M 9 a = -1 then 0 else 1)) (fun _ i _ => (M 1 0 - i).toNat) ?_ 0 0 M ⟨rfl, by omega, by omega, by omega, by omega, rfl⟩
  rintro R s i B ⟨rfl, i0, i1, s0, s1, hs⟩ ih
  unfold bc_X3_fixedTogether_L4 wp_X3_isFixed
  refine ⟨fun q => ?_, fun q => ⟨by omega, fun q1 => ⟨fun _ => ⟨by omega, ih _ _ _ ⟨rfl, by omega, by omega, by omega, by omega, ?_⟩ (by omega)⟩, fun q2 => absurd rfl q2⟩, fun q1 => ⟨fun q2 => absurd q2 (by decide), fun _ => ⟨by omega, by omega, ih _ _ _ ⟨rfl, by omega, by omega, by omega, by omega, ?_⟩ (by omega)⟩⟩⟩⟩
  · rw [hs, show i = B 1 0 by omega]; exact h
  · rw [sm_step i0, ← hs, if_pos q1]; omega
  · rw [sm_step i0, ← hs, if_neg q1]
theorem Inv_o {M : Mm} (hI : Inv M) : ∀ a b, 0 ≤ a → a < 10 → 0 ≤ b → b < 10 → (0 ≤ M 13 (10 * a + b) ∧ M 13 (10 * a + b) ≤ 1794) ∧ M 33 (10 * a + b) = if a < M 1 0 ∧ b < M 1 0 then M 13 (10 * a + b) else 0 := by
  obtain ⟨hn, hk, hg, hc, hf, hs, hd, ht, hz, hb, hp, hq, ho⟩ := id hI
  obtain ⟨n1, n2, k1, k2, e1, e2⟩ := id hn
  intro a b a0 a1 b0 b1
  have hl : ∀ p, 0 ≤ p → p < 6 → 0 ≤ M 12 p ∧ M 12 p ≤ 300 := fun p p0 p1 => by have := hp p p0 p1; omega
  obtain ⟨h1, h2⟩ := ho a b a0 a1 b0 b1
  rw [h1, h2]
  exact ⟨cnt_b hl, rfl⟩
theorem s_count7 (x : Int) (M : Mm) (hI : Inv M) (Q : Int → Mm → Prop) (h : Q (cv M x) M) : wp_X7_count x M Q := by
  obtain ⟨hn, hk, hg, hc, hf, hs, hd, ht, hz, hb, hp, hq, ho⟩ := id hI
  obtain ⟨n1, n2, k1, k2, e1, e2⟩ := id hn
  unfold wp_X7_count
  unfold cv at h
  refine ⟨fun q => ?_, fun q => ?_, fun q => ?_, fun q => ?_, fun q => ?_, fun q => ?_, fun q => ⟨fun q1 => ?_, fun q1 => ?_⟩, fun q => ?_⟩
  · rw [if_pos q] at h; exact h
  · rw [if_neg (by omega), if_pos q] at h; exact h
  · rw [if_neg (by omega), if_neg (by omega), if_pos q] at h; exact s_present M _ h
  · rw [if_neg (by omega), if_neg (by omega), if_neg (by omega), if_pos q] at h; exact s_signs M _ (fun p p0 p1 => by have := hp p p0 p1; omega) h
  · rw [if_neg (by omega), if_neg (by omega), if_neg (by omega), if_neg (by omega), if_pos q] at h; exact s_pairsOf _ M _ (by omega) (fun a b a0 a1 b0 b1 => (Inv_o hI a b a0 a1 b0 b1).1) h
  · rw [if_neg (by omega), if_neg (by omega), if_neg (by omega), if_neg (by omega), if_neg (by omega), if_pos q] at h; exact s_fixedTogether M _ (by omega) h
  · rw [if_neg (by omega), if_neg (by omega), if_neg (by omega), if_neg (by omega), if_neg (by omega), if_neg (by omega), if_pos q, if_pos q1] at h; exact h
  · rw [if_neg (by omega), if_neg (by omega), if_neg (by omega), if_neg (by omega), if_neg (by omega), if_neg (by omega), if_pos q, if_neg q1] at h; exact h
  · rw [if_neg (by omega), if_neg (by omega), if_neg (by omega), if_neg (by omega), if_neg (by omega), if_neg (by omega), if_neg (by omega)] at h; exact h
theorem s_count8 (x : Int) (M : Mm) (hI : Inv M) (Q : Int → Mm → Prop) (h : Q (cv M x) M) : wp_X8_count x M Q := by
  obtain ⟨hn, hk, hg, hc, hf, hs, hd, ht, hz, hb, hp, hq, ho⟩ := id hI
  obtain ⟨n1, n2, k1, k2, e1, e2⟩ := id hn
  unfold wp_X8_count
  unfold cv at h
  have hpg : ∀ p, 0 ≤ p → p < 6 → 0 ≤ M 12 p ∧ M 12 p ≤ 300 ∧ (M 30 p = 0 ∧ M 12 p = 0 ∨ M 30 p = 1 ∧ 1 ≤ M 12 p ∧ M 31 p = M 12 p) := hp
  refine ⟨fun q => ?_, fun q => ?_, fun q => ?_, fun q => ?_, fun q => ?_, fun q => ?_, fun q => ⟨fun q1 => ?_, fun q1 => ?_⟩, fun q => ?_⟩
  · rw [if_pos q] at h; rw [e1]; exact h
  · rw [if_neg (by omega), if_pos q] at h; rw [e2]; exact h
  · rw [if_neg (by omega), if_neg (by omega), if_pos q] at h
    refine LP2.of (b := bc_X8_count_L56 x Q) (fun s i B => B = M ∧ 0 ≤ i ∧ i ≤ 6 ∧ 0 ≤ s ∧ s ≤ i ∧ s = sm i.toNat (fun p => if M 12 p ≤ 0 then 0 else 1)) (fun _ i _ => (6 - i).toNat) ?_ 0 0 M ⟨rfl, by omega, by omega, by omega, by omega, rfl⟩
    rintro R s i B ⟨rfl, i0, i1, s0, s1, hs'⟩ ih
    unfold bc_X8_count_L56
    refine ⟨fun q2 => ?_, fun q2 => ⟨by omega, fun q3 => ⟨fun q4 => absurd q q4, fun _ => ⟨by omega, by omega, ih _ _ _ ⟨rfl, by omega, by omega, by omega, by omega, ?_⟩ (by omega)⟩⟩, fun q3 => ⟨by omega, by omega, ih _ _ _ ⟨rfl, by omega, by omega, by omega, by omega, ?_⟩ (by omega)⟩⟩⟩
    · rw [hs', show i = 6 by omega]; exact h
    · have := hpg i i0 (by omega)
      rw [sm_step i0, ← hs', if_neg (by omega)]
    · have := hpg i i0 (by omega)
      rw [sm_step i0, ← hs', if_pos (by omega)]
  · rw [if_neg (by omega), if_neg (by omega), if_neg (by omega), if_pos q] at h
    refine LP2.of (b := bc_X8_count_L56 x Q) (fun s i B => B = M ∧ 0 ≤ i ∧ i ≤ 6 ∧ 0 ≤ s ∧ s ≤ 300 * i ∧ s = sm i.toNat (fun p => M 12 p)) (fun _ i _ => (6 - i).toNat) ?_ 0 0 M ⟨rfl, by omega, by omega, by omega, by omega, rfl⟩
    rintro R s i B ⟨rfl, i0, i1, s0, s1, hs'⟩ ih
    unfold bc_X8_count_L56
    refine ⟨fun q2 => ?_, fun q2 => ?_⟩
    · rw [hs', show i = 6 by omega]; exact h
    · have := hpg i i0 (by omega)
      refine ⟨by omega, fun q3 => ⟨fun q4 => ⟨by omega, by omega, by omega, ih _ _ _ ⟨rfl, by omega, by omega, by omega, by omega, ?_⟩ (by omega)⟩, fun q4 => by omega⟩, fun q3 => ⟨by omega, by omega, ih _ _ _ ⟨rfl, by omega, by omega, by omega, by omega, ?_⟩ (by omega)⟩⟩
      · rw [sm_step i0, ← hs']; omega
      · rw [sm_step i0, ← hs']; omega
  · rw [if_neg (by omega), if_neg (by omega), if_neg (by omega), if_neg (by omega), if_pos q] at h
    have ho2 := Inv_o hI
    have hb : ∀ j, 0 ≤ j → j < 100 → 0 ≤ M 33 j ∧ M 33 j ≤ 1794 := by
      intro j j0 j1
      obtain ⟨g1, g2⟩ := ho2 (j / 10) (j % 10) (by omega) (by omega) (by omega) (by omega)
      rw [show 10 * (j / 10) + j % 10 = j by omega] at g1 g2
      rw [g2]
      split <;> omega
    refine LP2.of (b := bc_X8_count_L103 Q) (fun s i B => B = M ∧ 0 ≤ i ∧ i ≤ 100 ∧ 0 ≤ s ∧ s ≤ 1794 * i ∧ s = sm i.toNat (fun p => M 33 p)) (fun _ i _ => (100 - i).toNat) ?_ 0 0 M ⟨rfl, by omega, by omega, by omega, by omega, rfl⟩
    rintro R s i B ⟨rfl, i0, i1, s0, s1, hs'⟩ ih
    unfold bc_X8_count_L103
    refine ⟨fun q2 => ?_, fun q2 => ?_⟩
    · have e : sm 100 (fun p => B 33 p) = sm (B 1 0).toNat (fun a => sm (B 1 0).toNat (fun b => B 13 (10 * a + b))) := by
        rw [show (100 : Nat) = 10 * 10 from rfl, sm_blk, ← sm_cut (N := 10) (n := B 1 0) (by omega) (by omega)]
        apply sm_congr
        intro a a0 a1
        by_cases ea : a < B 1 0
        · rw [if_pos ea, ← sm_cut (N := 10) (n := B 1 0) (by omega) (by omega)]
          apply sm_congr
          intro b b0 b1
          have := (ho2 a b a0 (by omega) b0 (by omega)).2
          show B 33 (((10 : Nat) : Int) * a + b) = _
          rw [show ((10 : Nat) : Int) = 10 from rfl, this]
          by_cases eb : b < B 1 0
          · rw [if_pos ⟨ea, eb⟩, if_pos eb]
          · rw [if_neg (fun z => eb z.2), if_neg eb]
        · rw [if_neg ea]
          apply sm_z
          intro b b0 b1
          have := (ho2 a b a0 (by omega) b0 (by omega)).2
          show B 33 (((10 : Nat) : Int) * a + b) = _
          rw [show ((10 : Nat) : Int) = 10 from rfl, this, if_neg (fun z => ea z.1)]
      rw [hs', show i = 100 by omega]
      show Q (sm 100 (fun p => B 33 p)) B
      rw [e]; exact h
    · have := hb i i0 (by omega)
      refine ⟨by omega, by omega, by omega, ih _ _ _ ⟨rfl, by omega, by omega, by omega, by omega, ?_⟩ (by omega)⟩
      rw [sm_step i0, ← hs']
  · rw [if_neg (by omega), if_neg (by omega), if_neg (by omega), if_neg (by omega), if_neg (by omega), if_pos q] at h
    refine LP2.of (b := bc_X8_count_L128 Q) (fun s i B => B = M ∧ 0 ≤ i ∧ i ≤ M 1 0 ∧ 0 ≤ s ∧ s ≤ i ∧ s = sm i.toNat (fun a => if M 9 a = -1 then 0 else 1)) (fun _ i _ => (M 1 0 - i).toNat) ?_ 0 0 M ⟨rfl, by omega, by omega, by omega, by omega, rfl⟩
    rintro R s i B ⟨rfl, i0, i1, s0, s1, hs'⟩ ih
    unfold bc_X8_count_L128
    refine ⟨fun q2 => ?_, fun q2 => ?_⟩
    · rw [hs', show i = B 1 0 by omega]; exact h
    · have := (hf.1 i i0 (by omega)).1
      refine ⟨by omega, fun q3 => ⟨by omega, by omega, ih _ _ _ ⟨rfl, by omega, by omega, by omega, by omega, ?_⟩ (by omega)⟩, fun q3 => ⟨by omega, by omega, ih _ _ _ ⟨rfl, by omega, by omega, by omega, by omega, ?_⟩ (by omega)⟩⟩
      · rw [sm_step i0, ← hs', if_neg (by omega)]
      · rw [sm_step i0, ← hs', if_pos (by omega)]
  · rw [if_neg (by omega), if_neg (by omega), if_neg (by omega), if_neg (by omega), if_neg (by omega), if_neg (by omega), if_pos q, if_pos (by have := hs.1; omega)] at h; exact h
  · rw [if_neg (by omega), if_neg (by omega), if_neg (by omega), if_neg (by omega), if_neg (by omega), if_neg (by omega), if_pos q, if_neg (by have := hs.1; omega)] at h; exact h
  · rw [if_neg (by omega), if_neg (by omega), if_neg (by omega), if_neg (by omega), if_neg (by omega), if_neg (by omega), if_neg (by omega)] at h; exact h
theorem e_count (x : Int) (M : Mm) (hI : Inv M) : Same (wp_X7_count x) (wp_X8_count x) M := s_count7 x M hI _ (s_count8 x M hI _ ⟨rfl, hI⟩)
