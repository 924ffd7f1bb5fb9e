/-! THE BOUND: the class -/
/-- the letters of a set on keys below y -/
def PlC (al : Int → Int → Prop) (n : Int) (s : Nat) (y : Int) (f : Int → Int) : Prop := (∀ a, 0 ≤ a → a < n → s.testBit a.toNat = true → 0 ≤ f a ∧ f a < y ∧ al a (f a)) ∧ (∀ a b, 0 ≤ a → a < n → 0 ≤ b → b < n → s.testBit a.toNat = true → s.testBit b.toNat = true → f a = f b → a = b)
def vs (P : Int → Int → Int) (n : Int) (s : Nat) (f : Int → Int) : Int := sm n.toNat (fun a => if s.testBit a.toNat then P a (f a) else 0)
theorem vs_del {P : Int → Int → Int} {n : Int} {s : Nat} {f : Int → Int} {a : Int} (hs : s < 4096) (hn : n ≤ 10) (a0 : 0 ≤ a) (a1 : a < n) (hb : s.testBit a.toNat = true) : vs P n s f = vs P n (s - 2 ^ a.toNat) f + P a (f a) := by
  unfold vs
  rw [sm_diff (n := n.toNat) (t := a) (g := fun b => if (s - 2 ^ a.toNat).testBit b.toNat then P b (f b) else 0) a0 (by omega)]
  · show _ + ((if s.testBit a.toNat then P a (f a) else 0) - (if (s - 2 ^ a.toNat).testBit a.toNat then P a (f a) else 0)) = _
    rw [if_pos hb, if_neg (by rw [(b_sub hs (by omega) hb).2]; decide)]
    omega
  · intro b b0 b1 b2
    show (if s.testBit b.toNat then P b (f b) else 0) = if (s - 2 ^ a.toNat).testBit b.toNat then P b (f b) else 0
    rw [b_del hs (by omega) hb b.toNat (by omega)]
theorem vs_congr {P : Int → Int → Int} {n : Int} {s : Nat} {f g : Int → Int} (h : ∀ a, 0 ≤ a → a < n → s.testBit a.toNat = true → f a = g a) : vs P n s f = vs P n s g := by
  unfold vs
  apply sm_congr
  intro a a0 a1
  by_cases q : s.testBit a.toNat = true
  · rw [if_pos q, if_pos q, h a a0 (by omega) q]
  · rw [if_neg q, if_neg q]
def Ci (al : Int → Int → Prop) (P : Int → Int → Int) (n y : Int) (s : Nat) (w : Int) : Prop := 0 ≤ w ∧ w ≤ 1152921504606846976 ∧ (∀ f, PlC al n s y f → w ≤ vs P n s f) ∧ (w = 1152921504606846976 ∨ ∃ f, PlC al n s y f ∧ w = vs P n s f)
theorem PlC_up {al : Int → Int → Prop} {n : Int} {s : Nat} {y : Int} {f : Int → Int} (h : PlC al n s y f) : PlC al n s (y + 1) f := by
  refine ⟨fun a a0 a1 a2 => ?_, h.2⟩
  obtain ⟨h1, h2, h3⟩ := h.1 a a0 a1 a2
  exact ⟨h1, by omega, h3⟩
/-- the least with the latest key -/
def Lw (n : Int) (s : Nat) (u : Nat → Int) (p : Int → Int) (L : Int) (m : Int) : Prop := 0 ≤ L ∧ L ≤ 1152921504606846976 ∧ (∀ a, 0 ≤ a → a < m → s.testBit a.toNat = true → L ≤ u (s - 2 ^ a.toNat) + p a) ∧ (L = 1152921504606846976 ∨ ∃ a, 0 ≤ a ∧ a < m ∧ s.testBit a.toNat = true ∧ L = u (s - 2 ^ a.toNat) + p a)
theorem Ci_step {al : Int → Int → Prop} {P : Int → Int → Int} {n y : Int} {s : Nat} {u : Nat → Int} {p : Int → Int} {L : Int} (hs : s < 4096) (hn : n ≤ 10) (y0 : 0 ≤ y) (hu : ∀ t, t ≤ s → Ci al P n y t (u t)) (hp0 : ∀ a, 0 ≤ a → a < n → 0 ≤ P a y ∧ P a y ≤ 1000000000) (hp1 : ∀ a, 0 ≤ a → a < n → al a y → p a = P a y) (hp2 : ∀ a, 0 ≤ a → a < n → ¬ al a y → p a = 1152921504606846976) (hL : Lw n s u p L n) : Ci al P n (y + 1) s (min (u s) L) := by
  obtain ⟨l1, l2, l3, l4⟩ := hL
  obtain ⟨u1, u2, u3, u4⟩ := hu s (Nat.le_refl s)
  refine ⟨by omega, by omega, fun f hf => ?_, ?_⟩
  · by_cases e : ∃ a, 0 ≤ a ∧ a < n ∧ s.testBit a.toNat = true ∧ f a = y
    · obtain ⟨a, a0, a1, a2, a3⟩ := e
      have hsub := b_sub hs (show a.toNat < 12 by omega) a2
      have h1 := l3 a a0 a1 a2
      obtain ⟨-, -, g3⟩ := hf.1 a a0 a1 a2
      rw [a3] at g3
      rw [hp1 a a0 a1 g3] at h1
      obtain ⟨-, -, c3, -⟩ := hu (s - 2 ^ a.toNat) (Nat.sub_le _ _)
      have h2 := c3 f ⟨fun b b0 b1 b2 => ?_, fun b c b0 b1 c0 c1 b2 c2 e => ?_⟩
      · rw [vs_del hs hn a0 a1 a2, a3]
        omega
      · by_cases eb : b = a
        · rw [eb, hsub.2] at b2; exact absurd b2 (by decide)
        · rw [b_del hs (by omega) a2 b.toNat (by omega)] at b2
          obtain ⟨k1, k2, k3⟩ := hf.1 b b0 b1 b2
          refine ⟨k1, ?_, k3⟩
          by_cases e2 : f b = y
          · exact absurd (hf.2 b a b0 b1 a0 a1 b2 a2 (e2.trans a3.symm)) eb
          · omega
      · by_cases eb : b = a
        · rw [eb, hsub.2] at b2; exact absurd b2 (by decide)
        · by_cases ec : c = a
          · rw [ec, hsub.2] at c2; exact absurd c2 (by decide)
          · rw [b_del hs (by omega) a2 b.toNat (by omega)] at b2
            rw [b_del hs (by omega) a2 c.toNat (by omega)] at c2
            exact hf.2 b c b0 b1 c0 c1 b2 c2 e
    · have := u3 f ⟨fun b b0 b1 b2 => ?_, hf.2⟩
      · omega
      · obtain ⟨k1, k2, k3⟩ := hf.1 b b0 b1 b2
        refine ⟨k1, ?_, k3⟩
        by_cases e2 : f b = y
        · exact absurd ⟨b, b0, b1, b2, e2⟩ e
        · omega
  · by_cases hle : u s ≤ L
    · rw [show min (u s) L = u s by omega]
      rcases u4 with u4 | ⟨f, f1, f2⟩
      · exact Or.inl u4
      · exact Or.inr ⟨f, PlC_up f1, f2⟩
    · rw [show min (u s) L = L by omega]
      rcases l4 with l4 | ⟨a, a0, a1, a2, a3⟩
      · exact Or.inl l4
      · have hsub := b_sub hs (show a.toNat < 12 by omega) a2
        obtain ⟨c1, c2, c3, c4⟩ := hu (s - 2 ^ a.toNat) (Nat.sub_le _ _)
        have hal : al a y := by
          apply Classical.byContradiction
          intro hh
          have := hp2 a a0 a1 hh
          omega
        have hpp := hp1 a a0 a1 hal
        have hpb := hp0 a a0 a1
        rcases c4 with c4 | ⟨f, f1, f2⟩
        · omega
        · right
          refine ⟨fu f a y, ⟨fun b b0 b1 b2 => ?_, fun b c b0 b1 cc0 cc1 b2 cc2 e => ?_⟩, ?_⟩
          · by_cases eb : b = a
            · rw [eb, fu_s]; exact ⟨y0, by omega, hal⟩
            · rw [fu_n _ _ eb]
              obtain ⟨k1, k2, k3⟩ := f1.1 b b0 b1 (by rw [b_del hs (by omega) a2 b.toNat (by omega)]; exact b2)
              exact ⟨k1, by omega, k3⟩
          · by_cases eb : b = a
            · by_cases ec : c = a
              · omega
              · rw [eb, fu_s, fu_n _ _ ec] at e
                have := f1.1 c cc0 cc1 (by rw [b_del hs (by omega) a2 c.toNat (by omega)]; exact cc2)
                omega
            · by_cases ec : c = a
              · rw [ec, fu_s, fu_n _ _ eb] at e
                have := f1.1 b b0 b1 (by rw [b_del hs (by omega) a2 b.toNat (by omega)]; exact b2)
                omega
              · rw [fu_n _ _ eb, fu_n _ _ ec] at e
                exact f1.2 b c b0 b1 cc0 cc1 (by rw [b_del hs (by omega) a2 b.toNat (by omega)]; exact b2) (by rw [b_del hs (by omega) a2 c.toNat (by omega)]; exact cc2) e
          · rw [vs_del hs hn a0 a1 a2, fu_s, a3, f2, hpp]
            congr 1
            apply vs_congr
            intro b b0 b1 b2
            by_cases eb : b = a
            · rw [eb, hsub.2] at b2; exact absurd b2 (by decide)
            · rw [fu_n _ _ eb]
theorem vs_0 {P : Int → Int → Int} {n : Int} {f : Int → Int} : vs P n 0 f = 0 := by
  unfold vs
  exact sm_z (fun a a0 a1 => by rw [Nat.zero_testBit]; rfl)
theorem Ci_0 {al : Int → Int → Prop} {P : Int → Int → Int} {n y : Int} : Ci al P n y 0 0 := by
  refine ⟨by decide, by decide, fun f _ => by rw [vs_0]; exact Int.le_refl _, Or.inr ⟨fun _ => 0, ⟨fun a _ _ h => ?_, fun a b _ _ _ _ h => ?_⟩, vs_0.symm⟩⟩
  · rw [Nat.zero_testBit] at h; exact absurd h (by decide)
  · rw [Nat.zero_testBit] at h; exact absurd h (by decide)
/-- a set that has a letter of these -/
theorem set_has {n : Nat} {s : Nat} (h1 : 1 ≤ s) (h2 : s < 2 ^ n) : ∃ i, i < n ∧ s.testBit i = true := by
  apply Classical.byContradiction
  intro hh
  have : s = 0 := by
    apply Nat.eq_of_testBit_eq
    intro i
    rw [Nat.zero_testBit]
    by_cases q : i < n
    · cases hq : s.testBit i with
      | false => rfl
      | true => exact absurd ⟨i, q, hq⟩ hh
    · exact Nat.testBit_lt_two_pow (Nat.lt_of_lt_of_le h2 (p2_le (by omega)))
  omega
theorem Ci_first {al : Int → Int → Prop} {P : Int → Int → Int} {n : Int} {s : Nat} (h0 : 0 ≤ n) (h1 : 1 ≤ s) (h2 : s < 2 ^ n.toNat) : Ci al P n 0 s 1152921504606846976 := by
  refine ⟨by decide, by decide, fun f hf => ?_, Or.inl rfl⟩
  obtain ⟨i, i1, i2⟩ := set_has h1 h2
  have := hf.1 (i : Int) (by omega) (by omega) (by rw [show ((i : Int)).toNat = i by omega]; exact i2)
  omega
theorem s_lwl (s : Nat) (M : Mm) (Q : Int → Mm → Prop) (hs : s < 1024) (hn : 0 ≤ M 1 0 ∧ M 1 0 ≤ 10) (hu : ∀ t : Nat, t ≤ s → 0 ≤ M 26 (t : Int) ∧ M 26 (t : Int) ≤ 1152921504606846976) (hp : ∀ a, 0 ≤ a → a < M 1 0 → 0 ≤ M 25 a ∧ M 25 a ≤ 1152921504606846976) (h : ∀ L, Lw (M 1 0) s (fun t => M 26 (t : Int)) (M 25) L (M 1 0) → Q L M) : wp_X0_leastWithLatestKey (s : Int) M Q := by
  refine LP2.of (b := bc_X0_leastWithLatestKey_L7 (s : Int) Q) (fun L i B => B = M ∧ 0 ≤ i ∧ i ≤ M 1 0 ∧ Lw (M 1 0) s (fun t => M 26 (t : Int)) (M 25) L i) (fun _ i _ => (M 1 0 - i).toNat) ?_ 1152921504606846976 0 M ⟨rfl, by omega, by omega, ⟨by decide, by decide, fun a a0 a1 => by omega, Or.inl rfl⟩⟩
  rintro R L i B ⟨rfl, i0, i1, l1, l2, l3, l4⟩ ih
  unfold bc_X0_leastWithLatestKey_L7
  refine ⟨fun q => h L ?_, fun q => ⟨fun q1 => ?_, fun q1 => ?_⟩⟩
  · rw [show i = B 1 0 by omega] at l3 l4
    exact ⟨l1, l2, l3, l4⟩
  · rw [and_bit (by omega) i0 (by omega)] at q1
    refine ⟨by omega, ih _ _ _ ⟨rfl, by omega, by omega, l1, l2, fun a a0 a1 a2 => ?_, ?_⟩ (by omega)⟩
    · by_cases e : a = i
      · rw [e, q1] at a2; exact absurd a2 (by decide)
      · exact l3 a a0 (by omega) a2
    · rcases l4 with l4 | ⟨a, a0, a1, a2, a3⟩
      · exact Or.inl l4
      · exact Or.inr ⟨a, a0, by omega, a2, a3⟩
  · rw [and_bit (by omega) i0 (by omega), Bool.not_eq_false] at q1
    have hsub := b_sub (show s < 4096 by omega) (show i.toNat < 12 by omega) q1
    rw [sub_bit (by omega) i0 (by omega) q1]
    have k1 := hu (s - 2 ^ i.toNat) (Nat.sub_le _ _)
    have k2 := hp i i0 (by omega)
    have k3 := Nat.sub_le s (2 ^ i.toNat)
    refine ⟨by omega, by omega, Or.inl ⟨⟨by omega, by omega⟩, ⟨by omega, by omega⟩⟩, by omega, ih _ _ _ ⟨rfl, by omega, by omega, by omega, by omega, fun a a0 a1 a2 => ?_, ?_⟩ (by omega)⟩
    · by_cases e : a = i
      · rw [e]
        show min L (B 26 ((s - 2 ^ i.toNat : Nat) : Int) + B 25 i) ≤ B 26 ((s - 2 ^ i.toNat : Nat) : Int) + B 25 i
        omega
      · have := l3 a a0 (by omega) a2
        omega
    · by_cases hle : L ≤ B 26 ((s - 2 ^ i.toNat : Nat) : Int) + B 25 i
      · rw [show min L (B 26 ((s - 2 ^ i.toNat : Nat) : Int) + B 25 i) = L by omega]
        rcases l4 with l4 | ⟨a, a0, a1, a2, a3⟩
        · exact Or.inl l4
        · exact Or.inr ⟨a, a0, by omega, a2, a3⟩
      · rw [show min L (B 26 ((s - 2 ^ i.toNat : Nat) : Int) + B 25 i) = B 26 ((s - 2 ^ i.toNat : Nat) : Int) + B 25 i by omega]
        exact Or.inr ⟨i, i0, by omega, q1, rfl⟩
theorem s_fill26 (M : Mm) (Q : Mm → Prop) (h : ∀ M' : Mm, (∀ c, c ≠ 26 → M' c = M c) → (∀ j, 0 ≤ j → j < 1024 → M' 26 j = 1152921504606846976) → Q M') : wp_J7_fill_d0a16_c26 1152921504606846976 M Q := by
  refine LP1.of (b := bc_J7_fill_d0a16_c26_L6 1152921504606846976 1024 Q) (fun i B => (∀ c, c ≠ 26 → B c = M c) ∧ 0 ≤ i ∧ i ≤ 1024 ∧ ∀ j, 0 ≤ j → j < i → B 26 j = 1152921504606846976) (fun i _ => (1024 - i).toNat) ?_ 0 M ⟨fun _ _ => rfl, by omega, by omega, fun j j0 j1 => by omega⟩
  rintro R i B ⟨f1, i0, i1, hi⟩ ih
  unfold bc_J7_fill_d0a16_c26_L6
  refine ⟨fun q => h B f1 (fun j j0 j1 => hi j j0 (by omega)), fun q => ⟨by decide, by omega, by omega, ih _ _ ⟨fun c hc => ?_, by omega, by omega, fun a a0 a1 => ?_⟩ (by omega)⟩⟩
  · simp only [mset_eq, fu_ap, hc, reduceIte]; exact f1 c hc
  · simp only [mset_eq, fu_ap, reduceIte]
    by_cases e : a = i
    · rw [if_pos e]
    · rw [if_neg e]; exact hi a a0 (by omega)
def alc (M : Mm) (a y : Int) : Prop := if M 9 a = -1 then M 10 y = -1 else M 9 a = y
theorem s_leastSum (M : Mm) (Q : Int → Mm → Prop) (hn : 1 ≤ M 1 0 ∧ M 1 0 ≤ 10) (hk : M 1 0 ≤ M 3 0 ∧ M 3 0 ≤ 12) (hP : ∀ a y, 0 ≤ a → a < M 1 0 → 0 ≤ y → y < M 3 0 → 0 ≤ prc (Oc1 M) (Gc1 M) (M 1 0) (M 3 0) a y ∧ prc (Oc1 M) (Gc1 M) (M 1 0) (M 3 0) a y ≤ 1000000000) (h : ∀ (M' : Mm) (w : Int), (∀ c, c ≠ 23 → c ≠ 24 → c ≠ 25 → c ≠ 26 → M' c = M c) → Ci (alc M) (prc (Oc1 M) (Gc1 M) (M 1 0) (M 3 0)) (M 1 0) (M 3 0) (2 ^ (M 1 0).toNat - 1) w → Q w M') : wp_X0_leastSum M Q := by
  unfold wp_X0_leastSum
  refine s_fill26 M _ (fun B f1 f2 => ?_)
  have g26 : (mset B 26 0 0) 26 = fu (B 26) 0 0 := rfl
  have gf : ∀ c, c ≠ 26 → (mset B 26 0 0) c = M c := fun c hc => by
    simp only [mset_eq, fu_ap, hc, reduceIte]; exact f1 c hc
  generalize hB1 : mset B 26 0 0 = B1 at *
  have b1 := gf 1 (by decide)
  have hpow : 2 ^ (M 1 0).toNat ≤ 1024 := p2_le (j := (M 1 0).toNat) (k := 10) (by omega)
  have hpos := Nat.two_pow_pos (M 1 0).toNat
  rw [b1, shl32 (by omega) (by omega)]
  have hev : ((2 ^ (M 1 0).toNat : Nat) : Int) - 1 = ((2 ^ (M 1 0).toNat - 1 : Nat) : Int) := by omega
  rw [hev]
  generalize hE : 2 ^ (M 1 0).toNat = E at *
  refine ⟨by omega, ?_⟩
  refine LP1.of (b := bc_X0_leastSum_L31 ((E - 1 : Nat) : Int) Q) (fun y C => 0 ≤ y ∧ y ≤ M 3 0 ∧ (∀ c, c ≠ 23 → c ≠ 24 → c ≠ 25 → c ≠ 26 → C c = M c) ∧ C 26 0 = 0 ∧ ∀ s : Nat, s < E → Ci (alc M) (prc (Oc1 M) (Gc1 M) (M 1 0) (M 3 0)) (M 1 0) y s (C 26 (s : Int))) (fun y _ => (M 3 0 - y).toNat) ?_ 0 B1 ⟨by omega, by omega, fun c c1 c2 c3 c4 => gf c c4, by rw [g26]; exact fu_s _ _ _, fun s hs => ?_⟩
  · rintro R y C ⟨y0, y1, fC, z0, hC⟩ ih
    unfold bc_X0_leastSum_L31
    rw [fC 3 (by decide) (by decide) (by decide) (by decide)]
    refine ⟨fun q => ⟨by omega, h C _ fC ?_⟩, fun q => ?_⟩
    · rw [show y = M 3 0 by omega] at hC
      exact hC (E - 1) (by omega)
    have hP1 : ∀ a, 0 ≤ a → a < M 1 0 → 0 ≤ prc (Oc1 M) (Gc1 M) (M 1 0) (M 3 0) a y ∧ prc (Oc1 M) (Gc1 M) (M 1 0) (M 3 0) a y ≤ 1000000000 := fun a a0 a1 => hP a y a0 a1 y0 (by omega)
    refine LP1.of (b := bc_X0_leastSum_L44 ((E - 1 : Nat) : Int) y Q _) (fun i D => 0 ≤ i ∧ i ≤ M 1 0 ∧ (∀ c, c ≠ 23 → c ≠ 24 → c ≠ 25 → D c = C c) ∧ ∀ a, 0 ≤ a → a < i → (alc M a y → D 25 a = prc (Oc1 M) (Gc1 M) (M 1 0) (M 3 0) a y) ∧ (¬ alc M a y → D 25 a = 1152921504606846976)) (fun i _ => (M 1 0 - i).toNat) ?_ 0 C ⟨by omega, by omega, fun _ _ _ _ => rfl, fun a a0 a1 => by omega⟩
    rintro R2 i D ⟨i0, i1, fD, hD⟩ ih2
    unfold bc_X0_leastSum_L44
    have fDM : ∀ c, c ≠ 23 → c ≠ 24 → c ≠ 25 → c ≠ 26 → D c = M c := fun c c1 c2 c3 c4 => (fD c c1 c2 c3).trans (fC c c1 c2 c3 c4)
    rw [fDM 1 (by decide) (by decide) (by decide) (by decide)]
    refine ⟨fun q2 => ?_, fun q2 => ?_⟩
    · -- the sets, from the greatest down
      have d26 := fD 26 (by decide) (by decide) (by decide)
      refine LP1.of (b := bc_X0_leastSum_L93 ((E - 1 : Nat) : Int) y Q _) (fun x F => 0 ≤ x ∧ x < E ∧ (∀ c, c ≠ 26 → F c = D c) ∧ F 26 0 = 0 ∧ (∀ s : Nat, (s : Int) ≤ x → F 26 (s : Int) = C 26 (s : Int)) ∧ (∀ s : Nat, x < (s : Int) → s < E → Ci (alc M) (prc (Oc1 M) (Gc1 M) (M 1 0) (M 3 0)) (M 1 0) (y + 1) s (F 26 (s : Int)))) (fun x _ => x.toNat) ?_ ((E - 1 : Nat) : Int) D ⟨by omega, by omega, fun _ _ => rfl, by rw [d26]; exact z0, fun s _ => by rw [d26], fun s s1 s2 => by omega⟩
      rintro R3 x F ⟨x0, x1, fF, zF, hlo, hhi⟩ ih3
      unfold bc_X0_leastSum_L93
      refine ⟨fun q3 => ⟨by omega, ih _ _ ⟨by omega, by omega, fun c c1 c2 c3 c4 => (fF c c4).trans (fDM c c1 c2 c3 c4), zF, fun s hs => ?_⟩ (by omega)⟩, fun q3 => ⟨by omega, ?_⟩⟩
      · by_cases e : s = 0
        · subst e
          show Ci _ _ _ _ 0 (F 26 0)
          rw [zF]; exact Ci_0
        · exact hhi s (by omega) hs
      · have hx : x = ((x.toNat : Nat) : Int) := by omega
        generalize hxs : x.toNat = s at hx
        subst hx
        have fFM : ∀ c, c ≠ 23 → c ≠ 24 → c ≠ 25 → c ≠ 26 → F c = M c := fun c c1 c2 c3 c4 => (fF c c4).trans (fDM c c1 c2 c3 c4)
        have f1M := fFM 1 (by decide) (by decide) (by decide) (by decide)
        have f25 := fF 25 (by decide)
        have hpr : ∀ a, 0 ≤ a → a < M 1 0 → (alc M a y → F 25 a = prc (Oc1 M) (Gc1 M) (M 1 0) (M 3 0) a y) ∧ (¬ alc M a y → F 25 a = 1152921504606846976) := fun a a0 a1 => by rw [f25]; exact hD a a0 (by omega)
        refine s_lwl s F _ (by omega) (by rw [f1M]; omega) (fun t ht => ?_) (fun a a0 a1 => ?_) (fun L hL => ?_)
        · rw [hlo t (by omega)]
          have := hC t (by omega)
          exact ⟨this.1, this.2.1⟩
        · rw [f1M] at a1
          have h1 := hpr a a0 a1
          have h2 := hP1 a a0 a1
          by_cases hal : alc M a y
          · rw [h1.1 hal]; omega
          · rw [h1.2 hal]; omega
        · rw [f1M] at hL
          have hnew := Ci_step (al := alc M) (P := prc (Oc1 M) (Gc1 M) (M 1 0) (M 3 0)) (n := M 1 0) (y := y) (s := s) (u := fun t => F 26 (t : Int)) (p := F 25) (by omega) hn.2 y0 (fun t ht => by show Ci _ _ _ _ t (F 26 (t : Int)); rw [hlo t (by omega)]; exact hC t (by omega)) hP1 (fun a a0 a1 hal => (hpr a a0 a1).1 hal) (fun a a0 a1 hal => (hpr a a0 a1).2 hal) hL
          have n1 := hnew.1
          have n2 := hnew.2.1
          have u1 := hC s (by omega)
          have u2 := hlo s (by omega)
          have u3 := u1.1
          have u4 := u1.2.1
          have l1 := hL.1
          have l2 := hL.2.1
          refine ⟨Or.inl ⟨⟨by omega, by omega⟩, ⟨by omega, by omega⟩⟩, ⟨by omega, by omega⟩, by omega, by omega, ih3 _ _ ⟨by omega, by omega, fun c hc => ?_, ?_, fun t ht => ?_, fun t t1 t2 => ?_⟩ (by omega)⟩
          · simp only [mset_eq, fu_ap, hc, reduceIte]; exact fF c hc
          · show fu (F 26) (s : Int) _ 0 = 0
            rw [fu_n _ _ (by omega)]; exact zF
          · show fu (F 26) (s : Int) _ (t : Int) = _
            rw [fu_n _ _ (by omega)]; exact hlo t (by omega)
          · show Ci _ _ _ _ t (fu (F 26) (s : Int) _ (t : Int))
            by_cases e : t = s
            · subst e
              rw [fu_s]; exact hnew
            · rw [fu_n _ _ (by omega)]; exact hhi t (by omega) t2
    · have hset : ∀ (v : Int) (D' : Mm), (∀ c, c ≠ 23 → c ≠ 24 → D' c = D c) → ((alc M i y → v = prc (Oc1 M) (Gc1 M) (M 1 0) (M 3 0) i y) ∧ (¬ alc M i y → v = 1152921504606846976)) → R2 (i + 1) (mset D' 25 i v) := by
        intro v D' fD' hv
        refine ih2 _ _ ⟨by omega, by omega, fun c c1 c2 c3 => ?_, fun a a0 a1 => ?_⟩ (by omega)
        · simp only [mset_eq, fu_ap, c3, reduceIte]; exact (fD' c c1 c2).trans (fD c c1 c2 c3)
        · show (alc M a y → fu (D' 25) i v a = _) ∧ (¬ alc M a y → fu (D' 25) i v a = _)
          by_cases e : a = i
          · rw [e, fu_s]; exact hv
          · rw [fu_n _ _ e, fD' 25 (by decide) (by decide)]; exact hD a a0 (by omega)
      have d9 := fDM 9 (by decide) (by decide) (by decide) (by decide)
      have d10 := fDM 10 (by decide) (by decide) (by decide) (by decide)
      have d1 := fDM 1 (by decide) (by decide) (by decide) (by decide)
      have d3 := fDM 3 (by decide) (by decide) (by decide) (by decide)
      have dO : Oc1 D = Oc1 M := by unfold Oc1; rw [fDM 13 (by decide) (by decide) (by decide) (by decide)]
      have dG : Gc1 D = Gc1 M := by unfold Gc1; rw [fDM 17 (by decide) (by decide) (by decide) (by decide)]
      refine s_allow i y D _ (by omega) (by omega) (fun q3 => ⟨fun z => absurd z (by decide), fun _ => ?_⟩) (fun q3 => ⟨fun _ => ⟨by omega, by omega, hset _ D (fun _ _ _ => rfl) ⟨fun z => absurd (by rw [d9, d10]; exact z) q3, fun _ => rfl⟩⟩, fun z => absurd rfl z⟩)
      rw [d9, d10] at q3
      refine s_priceOn i y D _ (by rw [d1]; omega) (by rw [d1, d3]; omega) (by rw [d1]; omega) (by rw [d3]; omega) (fun D' fD' => ?_)
      rw [dO, dG, d1, d3]
      have := hP1 i i0 (by omega)
      exact ⟨⟨by omega, by omega⟩, by omega, by omega, hset _ D' fD' ⟨fun _ => rfl, fun z => absurd q3 z⟩⟩
  · rw [g26]
    by_cases e : s = 0
    · subst e
      show Ci _ _ _ _ 0 (fu (B 26) 0 0 0)
      rw [fu_s]; exact Ci_0
    · rw [fu_n _ _ (by omega), f2 (s : Int) (by omega) (by omega)]
      refine Ci_first (by omega) (by omega) (by rw [hE]; exact hs)
