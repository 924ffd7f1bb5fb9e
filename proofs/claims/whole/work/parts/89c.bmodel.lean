/-! THE BOUND: the reference -/
/-- as many letters as the set has keys, on just these keys -/
def PlM (al : Int → Int → Prop) (k : Int) (s : Nat) (f : Int → Int) : Prop := (∀ a, 0 ≤ a → a < pc s → 0 ≤ f a ∧ f a < k ∧ al a (f a)) ∧ (∀ a b, 0 ≤ a → a < pc s → 0 ≤ b → b < pc s → f a = f b → a = b) ∧ (∀ y, 0 ≤ y → y < k → (s.testBit y.toNat = true ↔ ∃ a, 0 ≤ a ∧ a < pc s ∧ f a = y))
def vm (P : Int → Int → Int) (s : Nat) (f : Int → Int) : Int := sm (pc s).toNat (fun a => P a (f a))
theorem PlM_ins {al : Int → Int → Prop} {P : Int → Int → Int} {k : Int} {s : Nat} {f : Int → Int} {y : Int} (hs : s + 2 ^ y.toNat < 4096) (y0 : 0 ≤ y) (y1 : y < k) (hk : k ≤ 12) (hb : s.testBit y.toNat = false) (h : PlM al k s f) (hal : al (pc s) y) : PlM al k (s + 2 ^ y.toNat) (fu f (pc s) y) ∧ vm P (s + 2 ^ y.toNat) (fu f (pc s) y) = vm P s f + P (pc s) y := by
  obtain ⟨h1, h2, h3⟩ := h
  have hp := pc_ins hs (show y.toNat < 12 by omega) hb
  have hp0 := (pc_b s).1
  have hny : ∀ a, 0 ≤ a → a < pc s → f a ≠ y := by
    intro a a0 a1 e
    have := (h3 y y0 y1).mpr ⟨a, a0, a1, e⟩
    rw [hb] at this; exact absurd this (by decide)
  have hs2 : s < 4096 := Nat.lt_of_le_of_lt (Nat.le_add_right _ _) hs
  refine ⟨⟨fun a a0 a1 => ?_, fun a b a0 a1 b0 b1 e => ?_, fun z z0 z1 => ?_⟩, ?_⟩
  · rw [hp] at a1
    by_cases e : a = pc s
    · rw [e, fu_s]; exact ⟨y0, y1, hal⟩
    · rw [fu_n _ _ e]; exact h1 a a0 (by omega)
  · rw [hp] at a1 b1
    by_cases ea : a = pc s
    · by_cases eb : b = pc s
      · omega
      · rw [ea, fu_s, fu_n _ _ eb] at e
        exact absurd e.symm (hny b b0 (by omega))
    · by_cases eb : b = pc s
      · rw [eb, fu_s, fu_n _ _ ea] at e
        exact absurd e (hny a a0 (by omega))
      · rw [fu_n _ _ ea, fu_n _ _ eb] at e
        exact h2 a b a0 (by omega) b0 (by omega) e
  · rw [b_ins hs2 (by omega) hb, hp]
    by_cases e : z = y
    · rw [e]
      constructor
      · intro _; exact ⟨pc s, hp0, by omega, fu_s _ _ _⟩
      · intro _; simp
    · rw [decide_eq_false (show ¬ y.toNat = z.toNat by omega), Bool.or_false, h3 z z0 z1]
      constructor
      · rintro ⟨a, a0, a1, a2⟩
        exact ⟨a, a0, by omega, by rw [fu_n _ _ (by omega)]; exact a2⟩
      · rintro ⟨a, a0, a1, a2⟩
        by_cases ea : a = pc s
        · rw [ea, fu_s] at a2; exact absurd a2.symm e
        · rw [fu_n _ _ ea] at a2
          exact ⟨a, a0, by omega, a2⟩
  · unfold vm
    rw [hp, sm_step hp0, fu_s]
    congr 1
    apply sm_congr
    intro a a0 a1
    rw [fu_n _ _ (by omega)]
theorem PlM_del {al : Int → Int → Prop} {P : Int → Int → Int} {k : Int} {t : Nat} {f : Int → Int} (ht : t < 4096) (hk : k ≤ 12) (h : PlM al k t f) (h1 : 1 ≤ pc t) : t.testBit (f (pc t - 1)).toNat = true ∧ pc (t - 2 ^ (f (pc t - 1)).toNat) = pc t - 1 ∧ PlM al k (t - 2 ^ (f (pc t - 1)).toNat) f ∧ vm P t f = vm P (t - 2 ^ (f (pc t - 1)).toNat) f + P (pc t - 1) (f (pc t - 1)) ∧ 2 ^ (f (pc t - 1)).toNat ≤ t := by
  obtain ⟨g1, g2, g3⟩ := h
  have hf := g1 (pc t - 1) (by omega) (by omega)
  have hb : t.testBit (f (pc t - 1)).toNat = true := (g3 _ hf.1 hf.2.1).mpr ⟨pc t - 1, by omega, by omega, rfl⟩
  have hj : (f (pc t - 1)).toNat < 12 := by omega
  have hp := pc_del ht hj hb
  have hp2 : pc (t - 2 ^ (f (pc t - 1)).toNat) = pc t - 1 := by omega
  have hsub := b_sub ht hj hb
  refine ⟨hb, hp2, ⟨fun a a0 a1 => ?_, fun a b a0 a1 b0 b1 => ?_, fun z z0 z1 => ?_⟩, ?_, hsub.1⟩
  · rw [hp2] at a1; exact g1 a a0 (by omega)
  · rw [hp2] at a1 b1; exact g2 a b a0 (by omega) b0 (by omega)
  · rw [hp2]
    by_cases e : z = f (pc t - 1)
    · rw [e, hsub.2]
      constructor
      · intro q; exact absurd q (by decide)
      · rintro ⟨a, a0, a1, a2⟩
        have := g2 a (pc t - 1) a0 (by omega) (by omega) (by omega) a2
        omega
    · rw [b_del ht hj hb z.toNat (by omega), g3 z z0 z1]
      constructor
      · rintro ⟨a, a0, a1, a2⟩
        by_cases ea : a = pc t - 1
        · rw [ea] at a2; exact absurd a2.symm e
        · exact ⟨a, a0, by omega, a2⟩
      · rintro ⟨a, a0, a1, a2⟩
        exact ⟨a, a0, by omega, a2⟩
  · unfold vm
    rw [hp2, show (pc t).toNat = (pc t - 1 + 1).toNat by omega, sm_step (by omega)]
/-- what stands of the sets, with those below S done, and S with keys below Y -/
def Mv (al : Int → Int → Prop) (P : Int → Int → Int) (n k : Int) (S : Nat) (Y : Int) (V : Int → Int) : Prop := V 0 = 0 ∧ (∀ t : Nat, t < 2 ^ k.toNat → V (t : Int) = -1 ∨ (0 ≤ V (t : Int) ∧ V (t : Int) ≤ 70000000 * pc t ∧ ∃ f, PlM al k t f ∧ V (t : Int) = vm P t f)) ∧ (∀ (t : Nat) (f : Int → Int), t < 2 ^ k.toNat → PlM al k t f → 1 ≤ pc t → pc t ≤ n → (t - 2 ^ (f (pc t - 1)).toNat < S ∨ (t - 2 ^ (f (pc t - 1)).toNat = S ∧ f (pc t - 1) < Y)) → 0 ≤ V (t : Int) ∧ V (t : Int) ≤ vm P t f)
/-- a set that is done -/
theorem Mv_at {al : Int → Int → Prop} {P : Int → Int → Int} {n k : Int} {S : Nat} {Y : Int} {V : Int → Int} (hk : k ≤ 12) (h : Mv al P n k S Y V) {t : Nat} (ht : t ≤ S) (ht2 : t < 2 ^ k.toNat) {f : Int → Int} (hf : PlM al k t f) (hn : pc t ≤ n) : 0 ≤ V (t : Int) ∧ V (t : Int) ≤ vm P t f := by
  have h12 := p2_12 (j := k.toNat) (by omega)
  have hp := pc_b t
  by_cases e : 1 ≤ pc t
  · obtain ⟨g1, g2, g3, g4, g5⟩ := PlM_del (P := P) (by omega) hk hf e
    have := Nat.two_pow_pos (f (pc t - 1)).toNat
    exact h.2.2 t f ht2 hf e hn (Or.inl (by omega))
  · have e0 : pc t = 0 := by omega
    have ez : t = 0 := by
      apply Classical.byContradiction
      intro hh
      obtain ⟨i, i1, i2⟩ := set_has (n := k.toNat) (by omega) ht2
      have := (hf.2.2 (i : Int) (by omega) (by omega)).mp (by rw [show ((i : Int)).toNat = i by omega]; exact i2)
      obtain ⟨a, a0, a1, -⟩ := this
      omega
    subst ez
    have e1 : vm P 0 f = 0 := by unfold vm; rw [pc_0]; rfl
    rw [e1]
    show 0 ≤ V 0 ∧ V 0 ≤ 0
    rw [h.1]; omega
theorem Mv_skip {al : Int → Int → Prop} {P : Int → Int → Int} {n k : Int} {S : Nat} {Y : Int} {V : Int → Int} (hk : k ≤ 12) (hS : S < 2 ^ k.toNat) (h : Mv al P n k S Y V) (hno : S.testBit Y.toNat = true ∨ ¬ al (pc S) Y) : Mv al P n k S (Y + 1) V := by
  have h12 := p2_12 (j := k.toNat) (by omega)
  refine ⟨h.1, h.2.1, fun t f ht hf h1 hn hc => ?_⟩
  by_cases e : t - 2 ^ (f (pc t - 1)).toNat = S ∧ f (pc t - 1) = Y
  · obtain ⟨e1, e2⟩ := e
    obtain ⟨g1, g2, g3, g4, g5⟩ := PlM_del (P := P) (by omega) hk hf h1
    have hfb := hf.1 (pc t - 1) (by omega) (by omega)
    have hb := (b_sub (show t < 4096 by omega) (show (f (pc t - 1)).toNat < 12 by omega) g1).2
    rw [e1] at g2 hb
    rw [e2] at hb hfb
    rcases hno with q | q
    · rw [hb] at q; exact absurd q (by decide)
    · rw [g2] at q; exact absurd hfb.2.2 q
  · refine h.2.2 t f ht hf h1 hn ?_
    rcases hc with q | ⟨q1, q2⟩
    · exact Or.inl q
    · exact Or.inr ⟨q1, by by_cases e2 : f (pc t - 1) = Y; exact absurd ⟨q1, e2⟩ e; omega⟩
theorem Mv_done {al : Int → Int → Prop} {P : Int → Int → Int} {n k : Int} {S : Nat} {Y : Int} {V : Int → Int} (hk : k ≤ 12) (hS : S < 2 ^ k.toNat) (h : Mv al P n k S Y V) (hno : k ≤ Y ∨ n ≤ pc S ∨ V (S : Int) < 0) : Mv al P n k (S + 1) 0 V := by
  have h12 := p2_12 (j := k.toNat) (by omega)
  refine ⟨h.1, h.2.1, fun t f ht hf h1 hn hc => ?_⟩
  obtain ⟨g1, g2, g3, g4, g5⟩ := PlM_del (P := P) (by omega) hk hf h1
  have hfb := hf.1 (pc t - 1) (by omega) (by omega)
  by_cases e : t - 2 ^ (f (pc t - 1)).toNat = S
  · rcases hno with q | q | q
    · exact h.2.2 t f ht hf h1 hn (Or.inr ⟨e, by omega⟩)
    · rw [e] at g2; omega
    · rw [e] at g3 g2
      have := Mv_at hk h (Nat.le_refl S) hS g3 (by omega)
      omega
  · refine h.2.2 t f ht hf h1 hn (Or.inl ?_)
    rcases hc with q | ⟨q1, q2⟩
    · omega
    · omega
theorem Mv_put {al : Int → Int → Prop} {P : Int → Int → Int} {n k : Int} {S : Nat} {Y v : Int} {V : Int → Int} (hk : k ≤ 12) (hS : S < 2 ^ k.toNat) (h : Mv al P n k S Y V) (y0 : 0 ≤ Y) (y1 : Y < k) (hb : S.testBit Y.toNat = false) (hal : al (pc S) Y) (hn : pc S < n) (hV : 0 ≤ V (S : Int)) (hP : 0 ≤ P (pc S) Y ∧ P (pc S) Y ≤ 70000000) (hT : S + 2 ^ Y.toNat < 2 ^ k.toNat) (hv : v = if V ((S + 2 ^ Y.toNat : Nat) : Int) < 0 then V (S : Int) + P (pc S) Y else min (V ((S + 2 ^ Y.toNat : Nat) : Int)) (V (S : Int) + P (pc S) Y)) : Mv al P n k S (Y + 1) (fu V ((S + 2 ^ Y.toNat : Nat) : Int) v) := by
  have h12 := p2_12 (j := k.toNat) (by omega)
  have hpos := Nat.two_pow_pos Y.toNat
  have hpT := pc_ins (s := S) (j := Y.toNat) (by omega) (by omega) hb
  have hsv := (h.2.1 S hS).resolve_left (by omega)
  obtain ⟨v1, v2, f0, v3, v4⟩ := hsv
  have hold := h.2.1 (S + 2 ^ Y.toNat) hT
  generalize hTT : S + 2 ^ Y.toNat = T at *
  have hvb : 0 ≤ v ∧ v ≤ V (S : Int) + P (pc S) Y ∧ (0 ≤ V (T : Int) → v ≤ V (T : Int)) := by
    rw [hv]
    split <;> omega
  refine ⟨?_, fun t ht => ?_, fun t f ht hf h1 hn2 hc => ?_⟩
  · rw [fu_n _ _ (by omega)]; exact h.1
  · by_cases e : t = T
    · subst e
      rw [fu_s]
      right
      have hnew : v = V (S : Int) + P (pc S) Y → 0 ≤ v ∧ v ≤ 70000000 * pc t ∧ ∃ f, PlM al k t f ∧ v = vm P t f := by
        intro ev
        obtain ⟨w1, w2⟩ := PlM_ins (P := P) (s := S) (y := Y) (f := f0) (by omega) y0 y1 hk hb v3 hal
        rw [hTT] at w1 w2
        exact ⟨hvb.1, by omega, _, w1, by omega⟩
      by_cases q : V (t : Int) < 0
      · rw [if_pos q] at hv; exact hnew hv
      · rw [if_neg q] at hv
        by_cases q2 : V (t : Int) ≤ V (S : Int) + P (pc S) Y
        · have ev : v = V (t : Int) := by clear hold hnew; omega
          rw [ev]
          exact hold.resolve_left (by omega)
        · exact hnew (by clear hold hnew; omega)
    · rw [fu_n _ _ (by omega)]; exact h.2.1 t ht
  · obtain ⟨g1, g2, g3, g4, g5⟩ := PlM_del (P := P) (show t < 4096 by omega) hk hf h1
    have hfb := hf.1 (pc t - 1) (by omega) (by omega)
    by_cases e : t = T
    · subst e
      rw [fu_s]
      by_cases e2 : f (pc t - 1) = Y
      · rw [e2] at g2 g3 g4
        have e3 : t - 2 ^ Y.toNat = S := by omega
        rw [e3] at g2 g3 g4
        have := Mv_at hk h (Nat.le_refl S) hS g3 (by omega)
        rw [← g2] at g4
        omega
      · have := h.2.2 t f ht hf h1 hn2 (by
          rcases hc with q | ⟨q1, q2⟩
          · exact Or.inl q
          · exact Or.inr ⟨q1, by omega⟩)
        omega
    · rw [fu_n _ _ (by omega)]
      refine h.2.2 t f ht hf h1 hn2 ?_
      rcases hc with q | ⟨q1, q2⟩
      · exact Or.inl q
      · refine Or.inr ⟨q1, ?_⟩
        by_cases e2 : f (pc t - 1) = Y
        · rw [e2] at q1 g5
          omega
        · omega
/-- a setting that may be -/
def Fe (al : Int → Int → Prop) (n k : Int) (f : Int → Int) : Prop := (∀ a, 0 ≤ a → a < n → 0 ≤ f a ∧ f a < k ∧ al a (f a)) ∧ (∀ a b, 0 ≤ a → a < n → 0 ≤ b → b < n → f a = f b → a = b)
theorem Fe_set {al : Int → Int → Prop} {n k : Int} {f : Int → Int} (hn : 0 ≤ n) (hk : k ≤ 12) (h : Fe al n k f) : ∃ t : Nat, t < 2 ^ k.toNat ∧ pc t = n ∧ PlM al k t f := by
  have key : ∀ m : Nat, (m : Int) ≤ n → ∃ t : Nat, t < 2 ^ k.toNat ∧ pc t = m ∧ (∀ y, 0 ≤ y → y < k → (t.testBit y.toNat = true ↔ ∃ a, 0 ≤ a ∧ a < (m : Int) ∧ f a = y)) := by
    intro m
    induction m with
    | zero =>
      intro _
      refine ⟨0, Nat.two_pow_pos _, pc_0, fun y y0 y1 => ?_⟩
      rw [Nat.zero_testBit]
      constructor
      · intro q; exact absurd q (by decide)
      · rintro ⟨a, a0, a1, -⟩; exact absurd a1 (by omega)
    | succ m ih =>
      intro hm
      obtain ⟨t, t1, t2, t3⟩ := ih (by omega)
      have h12 := p2_12 (j := k.toNat) (by omega)
      have hf := h.1 (m : Int) (by omega) (by omega)
      have hb : t.testBit (f (m : Int)).toNat = false := by
        cases hq : t.testBit (f (m : Int)).toNat with
        | false => rfl
        | true =>
          obtain ⟨a, a0, a1, a2⟩ := (t3 _ hf.1 hf.2.1).mp hq
          have := h.2 a (m : Int) a0 (by omega) (by omega) (by omega) a2
          omega
      have hor := b_or (s := t) (j := (f (m : Int)).toNat) (by omega) (by omega)
      rw [if_neg (by rw [hb]; decide)] at hor
      have hlt : t + 2 ^ (f (m : Int)).toNat < 2 ^ k.toNat := by
        rw [← hor]
        exact Nat.or_lt_two_pow t1 (Nat.pow_lt_pow_right (by decide) (by omega))
      refine ⟨t + 2 ^ (f (m : Int)).toNat, hlt, ?_, fun y y0 y1 => ?_⟩
      · rw [pc_ins (by omega) (by omega) hb, t2]; push_cast; omega
      · rw [b_ins (by omega) (by omega) hb]
        by_cases e : y = f (m : Int)
        · rw [e]
          constructor
          · intro _; exact ⟨m, by omega, by push_cast; omega, rfl⟩
          · intro _; simp
        · rw [decide_eq_false (show ¬ (f (m : Int)).toNat = y.toNat by omega), Bool.or_false, t3 y y0 y1]
          constructor
          · rintro ⟨a, a0, a1, a2⟩; exact ⟨a, a0, by push_cast; omega, a2⟩
          · rintro ⟨a, a0, a1, a2⟩
            by_cases ea : a = (m : Int)
            · rw [ea] at a2; exact absurd a2.symm e
            · exact ⟨a, a0, by push_cast at a1; omega, a2⟩
  obtain ⟨t, t1, t2, t3⟩ := key n.toNat (by omega)
  have e : ((n.toNat : Nat) : Int) = n := by omega
  rw [e] at t2 t3
  exact ⟨t, t1, t2, by rw [PlM, t2]; exact ⟨h.1, h.2, t3⟩⟩
